/-! the reference: reading, at the machine -/
theorem Gd_raid {s : Ms} {E : Evs} (G : Gd s E) (p : Nat) (hp : p < 10) (h0 : s 0 = 1) (h1 : s 1 = 0) (h60 : s 2 < 60) (hclk : nowF s E 108 < s 5) (hon : nowF s E (10 * turnF (nowF s E) + p) = 0) : Gd (up1 (up1 s 1 1) 2 (s 2 + 1)) (up1 E (s 2) (evNew 0 (turnF (nowF s E)) p 0)) := by
  obtain ⟨w, hb, hr, hck⟩ := Gd_run G
  have ht := turnF_lt (nowF s E)
  have o : ∀ k, k < s 2 → up1 E (s 2) (evNew 0 (turnF (nowF s E)) p 0) k = E k := fun k hk => up1_off _ _ (by omega)
  have s2' : up1 (up1 s 1 1) 2 (s 2 + 1) 2 = s 2 + 1 := up1_at _ _ _
  have s1' : up1 (up1 s 1 1) 2 (s 2 + 1) 1 = 1 := by rw [up1_off _ _ (by omega), up1_at]
  have so : ∀ j, j ≠ 1 → j ≠ 2 → up1 (up1 s 1 1) 2 (s 2 + 1) j = s j := fun j h1 h2 => by rw [up1_off _ _ h2, up1_off _ _ h1]
  obtain ⟨g0, g1, g2, g3, g7, g8, ga, gb, gc, gd, ge⟩ := G
  unfold Gd
  rw [s2', s1', so 0 (by omega) (by omega), so 3 (by omega) (by omega), so 4 (by omega) (by omega), so 5 (by omega) (by omega), so 7 (by omega) (by omega), so 8 (by omega) (by omega), show s 2 + 1 - 1 = s 2 by omega]
  have cke : ∀ n, n ≤ s 2 → clkTo (up1 E (s 2) (evNew 0 (turnF (nowF s E)) p 0)) n = clkTo E n := fun n hn => clk_cg (fun k hk => by rw [o k (by omega)]; exact ⟨rfl, rfl⟩)
  have re : ∀ n, n ≤ s 2 → runE (up1 E (s 2) (evNew 0 (turnF (nowF s E)) p 0)) n = runE E n := fun n hn => runE_cg (fun k hk => o k (by omega))
  rw [show s 2 - s 1 = s 2 by omega] at gc hck
  have hnw : nowF s E = runE E (s 2) := by unfold nowF; rw [h1, Nat.sub_zero]
  refine ⟨g0, by omega, by omega, by omega, g7, g8, by omega, gb, fun k hk => ?_, fun k hk h => ?_, fun _ => ?_⟩
  · rw [o k hk, re k (by omega)]; exact gc k hk
  · rw [cke k (by omega)]
    by_cases hkm : k = s 2
    · subst hkm; rw [← hck]; exact hclk
    · rw [o k (by omega)] at h
      exact gd k (by omega) h
  · rw [up1_at, re _ (Nat.le_refl _), ← hnw]
    have n4 : evNew 0 (turnF (nowF s E)) p 0 4 = 0 := rfl
    refine ⟨rfl, ht, hp, by show 0 < 10; omega, ⟨by rw [n4]; omega, fun k hk => ?_⟩, fun k hk => ?_, hon, fun k hk => ?_⟩ <;> (rw [n4] at hk; exact absurd hk (Nat.not_lt_zero k))
theorem GdX_raid {s : Ms} {E : Evs} (G : Gd s E) (w : Int32) : GdX (raidN s E w) := by
  unfold raidN GdX
  split
  · next h =>
    have hB := raid0.mp h
    have h2 := hB
    unfold raidB at h2
    rw [Bool.and_eq_true, Bool.and_eq_true] at h2
    obtain ⟨p, hp, rfl⟩ := isIx_ex (by omega) h2.2.1
    obtain ⟨b0, b1, b2, b3, b4⟩ := raidB_of hp hB
    rw [ccl (by omega)]
    exact Gd_raid G p hp b0 b1 b2 b3 b4
  · exact G
theorem GdX_step {s : Ms} {E : Evs} (G : Gd s E) (k w t : Int32) : GdX (stepN s E k w t) := by
  unfold stepN GdX
  split
  · next h =>
    unfold stepK at h
    split at h
    · cases h
    · next h1 =>
      split at h
      · cases h
      · next h2 =>
        have h1 : (stepB k w 6 && inB t 1 300) = true := by cases z : (stepB k w 6 && inB t 1 300) <;> simp_all
        have h2 : tellB s E k.toNatClampNeg (wN w) t.toNatClampNeg = true := by cases z : tellB s E k.toNatClampNeg (wN w) t.toNatClampNeg <;> simp_all
        rw [Bool.and_eq_true] at h1
        obtain ⟨x, v, hx, hv, hxv, rfl, rfl, hwN⟩ := stepB_of (b := 6) (by omega) h1.1
        obtain ⟨n, hn1, hn2, rfl⟩ := inB_nI (a := 1) (b := 300) (by omega) h1.2 (by omega)
        rw [ccl (by omega), ccl (by omega), hwN] at h2
        show Gd (tellS s (nI x).toNatClampNeg) (tellE s E (nI x).toNatClampNeg (wN (wI v)) (nI n).toNatClampNeg)
        rw [ccl (by omega), ccl (by omega), hwN]
        exact (Gd_tell G x v n hx hv hxv hn2 h2).1
  · exact G
def rdS (V : Mem) (n : Nat) (z : Nat × Bool) (sg : Nat → Int32) : Prop := V 405 20 = nI n ∧ V 405 21 = nI z.1 ∧ V 405 22 = bI z.2 ∧ n ≤ 60 ∧ z.1 ≤ n ∧ (∀ a, a < n → V 419 a = sg a) ∧ ∀ a, n ≤ a → sg a = -1
def frO (V V' : Mem) : Prop := (∀ x, x ≠ 405 → V' x = V x) ∧ ∀ j, (j < 21 ∨ 26 ≤ j) → V' 405 j = V 405 j
theorem frO_rf (V : Mem) : frO V V := ⟨fun _ _ => rfl, fun _ _ => rfl⟩
theorem frO_tr {V V' V'' : Mem} (h1 : frO V V') (h2 : frO V' V'') : frO V V'' := ⟨fun x hx => (h2.1 x hx).trans (h1.1 x hx), fun j hj => (h2.2 j hj).trans (h1.2 j hj)⟩
theorem frO_up {V V' : Mem} {j : Nat} {x : Int32} (h : frO V V') (hj : 21 ≤ j ∧ j < 26) : frO V (up2 V' 405 j x) := ⟨fun y hy => (up2_off V' j x hy).trans (h.1 y hy), fun i hi => (up2_ne V' x (Or.inr (by omega))).trans (h.2 i hi)⟩
/-- reading changes the place and the fault alone -/
def frT (V V' : Mem) : Prop := (∀ x, x ≠ 405 → V' x = V x) ∧ ∀ j, j ≠ 21 → j ≠ 22 → V' 405 j = V 405 j
theorem frT_rf (V : Mem) : frT V V := ⟨fun _ _ => rfl, fun _ _ _ => rfl⟩
theorem frT_tr {V V' V'' : Mem} (h1 : frT V V') (h2 : frT V' V'') : frT V V'' := ⟨fun x hx => (h2.1 x hx).trans (h1.1 x hx), fun j hj hk => (h2.2 j hj hk).trans (h1.2 j hj hk)⟩
theorem frT_up {V V' : Mem} {j : Nat} {x : Int32} (h : frT V V') (hj : j = 21 ∨ j = 22) : frT V (up2 V' 405 j x) := ⟨fun y hy => (up2_off V' j x hy).trans (h.1 y hy), fun i h1 h2 => (up2_ne V' x (Or.inr (by omega))).trans (h.2 i h1 h2)⟩
theorem frT_O {V V' : Mem} (h : frT V V') : frO V V' := ⟨h.1, fun j hj => h.2 j (by omega) (by omega)⟩
theorem rdS_fld {V : Mem} {n j : Nat} {z : Nat × Bool} {sg : Nat → Int32} {x : Int32} (h : rdS V n z sg) (hj : j = 23 ∨ j = 24 ∨ j = 25 ∨ j = 0) : rdS (up2 V 405 j x) n z sg := by
  obtain ⟨h1, h2, h3, h4, h5, h6, h7⟩ := h
  exact ⟨(up2_ne _ _ (Or.inr (by omega))).trans h1, (up2_ne _ _ (Or.inr (by omega))).trans h2, (up2_ne _ _ (Or.inr (by omega))).trans h3, h4, h5, fun a ha => by rw [up2_off _ _ _ (by omega)]; exact h6 a ha, h7⟩
def tkR (sg : Nat → Int32) (l h : Int32) (z : Nat × Bool) : Nat × Bool := if z.2 = false ∧ inB (sg z.1) l h = true then (z.1 + 1, false) else (z.1, true)
theorem inB_self (x c : Int32) : (inB x c c = true) ↔ x = c := by
  rw [inB_t, i_le, i_le, i_eq]; omega
theorem tkR_c (sg : Nat → Int32) (c : Int32) (z : Nat × Bool) : tkR sg c c z = tkF sg c z := by
  unfold tkR tkF
  by_cases h : z.2 = false ∧ sg z.1 = c
  · rw [if_pos h, if_pos ⟨h.1, (inB_self _ _).mpr h.2⟩]
  · rw [if_neg h, if_neg (fun y => h ⟨y.1, (inB_self _ _).mp y.2⟩)]
theorem inB_m1 {l h : Int32} (hl : -1 < l) : inB (-1) l h = false := by
  cases z : inB (-1) l h with
  | false => rfl
  | true =>
    rw [inB_t, i_le] at z
    rw [i_lt] at hl
    omega
section Pr8
variable {J : Nat → Nat → Int64} {V : Mem} {n : Nat} {z : Nat × Bool} {sg : Nat → Int32} {Qx : String → Mem → Prop}
theorem m_isNext (h : rdS V n z sg) (l hh : Int32) (hl : -1 < l) : RD J mX8_isNext [.ref 405, .int l, .int hh] V (bI (!z.2 && inB (sg z.1) l hh)) := by
  obtain ⟨h1, h2, h3, h4, h5, h6, h7⟩ := h
  refine v_X8_isNext l hh ?_
  unfold F_X8_isNext
  rw [h3, bI_0, h1, h2, cle (by omega) (by omega), ccl (n := z.1) (by omega)]
  refine ⟨fun c => ⟨?_, rfl⟩, fun c => ⟨fun d => ⟨?_, rfl⟩, fun d => ⟨vp_in_nI (by omega) (by decide), ?_⟩⟩⟩
  · have : z.2 = true := by cases y : z.2 <;> simp_all
    rw [this]; rfl
  · rw [h7 _ d, inB_m1 hl, Bool.and_false]; rfl
  · rw [h6 _ (by omega)]
    refine rd_b (k8_in J _ l hh V) ⟨fun e => ⟨?_, rfl⟩, fun e => ⟨?_, rfl⟩⟩
    · rw [e, Bool.and_false]; rfl
    · rw [e, c]; rfl
theorem m_takes (h : rdS V n z sg) (l hh : Int32) (hl : -1 < l) {Q : Int32 → Mem → Prop} (k : ∀ V', frT V V' → rdS V' n (tkR sg l hh z) sg → Q (if z.2 = false ∧ inB (sg z.1) l hh = true then sg z.1 - l else 0) V') : CTc J mX8_takes [.ref 405, .int l, .int hh] V (fun r V' => ∃ r1 : Int32, r = some (.int r1) ∧ Q r1 V') Qx := by
  obtain ⟨h1, h2, h3, h4, h5, h6, h7⟩ := id h
  unfold tkR at k
  refine v_X8_takes l hh (rd_b (m_isNext h l hh hl) ⟨fun c => ?_, fun c => ?_⟩)
  · have hc : ¬ (z.2 = false ∧ inB (sg z.1) l hh = true) := by
      rintro ⟨y1, y2⟩
      rw [y1, y2] at c; cases c
    rw [if_neg hc, if_neg hc] at k
    rw [c]
    unfold F_X8_takes_26 F_X8_takes_42
    refine ⟨fun _ => ?_, fun y => absurd rfl y⟩
    have e21 : V 405 21 + 0 = nI z.1 := by rw [h2]; exact Int32.add_zero _
    have e22 : up2 V 405 21 (V 405 21 + 0) 405 22 = bI z.2 := (up2_ne _ _ (Or.inr (by omega))).trans h3
    rw [e22, bI_0, e21]
    have fin : ∃ r1 : Int32, some (Value.int 0) = some (Value.int r1) ∧ Q r1 (up2 (up2 V 405 21 (nI z.1)) 405 22 1) := by
      refine ⟨0, rfl, k _ (frT_up (frT_up (frT_rf V) (by omega)) (by omega)) ⟨?_, ?_, ?_, h4, h5, fun a ha => ?_, h7⟩⟩
      · exact (up2_ne _ _ (Or.inr (by omega))).trans ((up2_ne _ _ (Or.inr (by omega))).trans h1)
      · exact (up2_ne _ _ (Or.inr (by omega))).trans (up2_same _ _ _ _)
      · exact up2_same _ _ _ _
      · rw [up2_off _ _ _ (by omega), up2_off _ _ _ (by omega)]; exact h6 a ha
    exact ⟨fun _ => fin, fun _ => ⟨fun y => absurd rfl y, fun _ => fin⟩⟩
  · have hc : z.2 = false ∧ inB (sg z.1) l hh = true := by
      cases y : z.2 <;> cases w : inB (sg z.1) l hh <;> simp_all
    have hzn : z.1 < n := by
      rcases Nat.lt_or_ge z.1 n with y | y
      · exact y
      · rw [h7 _ y, inB_m1 hl] at hc; cases hc.2
    rw [if_pos hc, if_pos hc] at k
    rw [c]
    unfold F_X8_takes_26 F_X8_takes_42
    rw [h2, ccl (n := z.1) (by omega), h6 _ hzn]
    refine ⟨vp_in_nI (by omega) (by decide), fun y => absurd y (by decide), fun _ => ?_⟩
    have e21 : nI z.1 + 1 = nI (z.1 + 1) := nI_1 _
    have e22 : up2 V 405 21 (nI z.1 + 1) 405 22 = bI z.2 := (up2_ne _ _ (Or.inr (by omega))).trans h3
    rw [e22, bI_0, e21]
    refine ⟨fun y => (y hc.1).elim, fun _ => ⟨fun _ => ?_, fun y => absurd y (by decide)⟩⟩
    refine ⟨_, rfl, k _ (frT_up (frT_up (frT_rf V) (by omega)) (by omega)) ⟨?_, ?_, ?_, h4, hzn, fun a ha => ?_, h7⟩⟩
    · exact (up2_ne _ _ (Or.inr (by omega))).trans ((up2_ne _ _ (Or.inr (by omega))).trans h1)
    · exact (up2_ne _ _ (Or.inr (by omega))).trans (up2_same _ _ _ _)
    · exact up2_same _ _ _ _
    · rw [up2_off _ _ _ (by omega), up2_off _ _ _ (by omega)]; exact h6 a ha
def cons0 (c : Int32) (l : List Int32) : List Int32 := if c = 0 then l else c :: l
theorem m_takesAll (h : rdS V n z sg) (p1 p2 p3 p4 : Int32) (q1 : -1 < p1) (q2 : -1 < p2) (q3 : -1 < p3) (q4 : -1 < p4) {Q : Mem → Prop} (k : ∀ V', frT V V' → rdS V' n (tkL sg (p1 :: cons0 p2 (cons0 p3 (cons0 p4 []))) z) sg → Q V') : CTc J mX8_takesAll [.ref 405, .int p1, .int p2, .int p3, .int p4] V (fun r V' => r = none ∧ Q V') Qx := by
  have L38 : ∀ V1 z1 s0, frT V V1 → rdS V1 n z1 sg → (∀ V', frT V V' → rdS V' n (tkL sg (cons0 p4 []) z1) sg → Q V') → F_X8_takesAll_38 J p1 p2 p3 p4 s0 V1 (fun r V' => r = none ∧ Q V') Qx := by
    intro V1 z1 s0 f1 h1 k1
    unfold F_X8_takesAll_38
    unfold cons0 at k1
    refine ⟨fun c => ?_, fun c => ?_⟩
    · rw [if_neg c] at k1
      refine m_takes h1 p4 p4 q4 (fun V' f' h' => ⟨rfl, k1 V' (frT_tr f1 f') ?_⟩)
      rw [tkR_c] at h'
      exact h'
    · rw [if_pos c] at k1
      exact ⟨rfl, k1 V1 f1 h1⟩
  have L22 : ∀ V1 z1 s0, frT V V1 → rdS V1 n z1 sg → (∀ V', frT V V' → rdS V' n (tkL sg (cons0 p3 (cons0 p4 [])) z1) sg → Q V') → F_X8_takesAll_22 J p1 p2 p3 p4 s0 V1 (fun r V' => r = none ∧ Q V') Qx := by
    intro V1 z1 s0 f1 h1 k1
    unfold F_X8_takesAll_22
    rw [cons0] at k1
    refine ⟨fun c => ?_, fun c => ?_⟩
    · rw [if_neg c] at k1
      refine m_takes h1 p3 p3 q3 (fun V' f' h' => L38 V' _ _ (frT_tr f1 f') h' ?_)
      rw [tkR_c]
      exact k1
    · rw [if_pos c] at k1
      exact L38 V1 z1 0 f1 h1 k1
  refine v_X8_takesAll p1 p2 p3 p4 (m_takes h p1 p1 q1 (fun V1 f1 h1 => ?_))
  rw [tkR_c] at h1
  have k1 : ∀ V', frT V V' → rdS V' n (tkL sg (cons0 p2 (cons0 p3 (cons0 p4 []))) (tkF sg p1 z)) sg → Q V' := k
  rw [cons0] at k1
  refine ⟨fun c => ?_, fun c => ?_⟩
  · rw [if_neg c] at k1
    refine m_takes h1 p2 p2 q2 (fun V' f' h' => L22 V' _ _ (frT_tr f1 f') h' ?_)
    rw [tkR_c]
    exact k1
  · rw [if_pos c] at k1
    exact L22 V1 _ 0 f1 h1 k1
def kI (i : Nat) : Int32 := if i = 7 then -1 else nI i
theorem m_readWord {a : Nat} (h : rdS V n (a, false) sg) (ha : a < n) {Q : Mem → Prop} (k : ∀ V', frO V V' → rdS V' n (wzk sg a).1 sg → V' 405 23 = kI (wzk sg a).2 → Q V') : CTc J mX8_readWord [.ref 405] V (fun r V' => r = none ∧ Q V') Qx := by
  obtain ⟨h1, h2, h3, h4, h5, h6, h7⟩ := id h
  refine v_X8_readWord ?_
  unfold F_X8_readWord F_X8_readWord_24
  have e2 : V 405 21 = nI a := h2
  rw [h1, e2, cle (by omega) (by omega), ccl (n := a) (by omega), h6 a ha, nI_1]
  have hW : rdS (up2 V 405 21 (nI (a + 1))) n (a + 1, false) sg := ⟨(up2_ne _ _ (Or.inr (by omega))).trans h1, up2_same _ _ _ _, (up2_ne _ _ (Or.inr (by omega))).trans h3, h4, ha, fun b hb => by rw [up2_off _ _ _ (by omega)]; exact h6 b hb, h7⟩
  have fW : frO V (up2 V 405 21 (nI (a + 1))) := frO_up (frO_rf V) (by omega)
  have w20 : up2 V 405 21 (nI (a + 1)) 405 20 = nI n := hW.1
  have w21 : up2 V 405 21 (nI (a + 1)) 405 21 = nI (a + 1) := hW.2.1
  rw [w20, w21, cle (by omega) (by omega), ccl (n := a + 1) (by omega)]
  have hW6 := hW.2.2.2.2.2.1
  generalize up2 V 405 21 (nI (a + 1)) = W at hW fW hW6 ⊢
  -- a kind and the letters behind
  have fin : ∀ W', frO V W' → rdS W' n (a + 1, false) sg → ∀ i p1 p2 p3 p4, W' 405 23 = kI i → -1 < p1 → -1 < p2 → -1 < p3 → -1 < p4 → wzk sg a = (tkL sg (p1 :: cons0 p2 (cons0 p3 (cons0 p4 []))) (a + 1, false), i) → CTc J mX8_takesAll [.ref 405, .int p1, .int p2, .int p3, .int p4] W' (fun (r : Option Value) V1 => r = none ∧ ((none : Option Value) = none ∧ Q V1)) Qx := by
    intro W' f' h' i p1 p2 p3 p4 hk q1 q2 q3 q4 hz
    refine m_takesAll h' p1 p2 p3 p4 q1 q2 q3 q4 (fun V1 f1 h1 => ⟨rfl, k V1 (frO_tr f' (frT_O f1)) ?_ ?_⟩)
    · rw [hz]; exact h1
    · rw [hz, f1.2 23 (by omega) (by omega)]; exact hk
  have L59 : ∀ x2, (x2 = 105 ↔ sg (a + 1) = 105) → (x2 = 111 ↔ sg (a + 1) = 111) → F_X8_readWord_59 J (sg a) x2 W (fun r V' => r = none ∧ Q V') Qx := by
    intro x2 e105 e111
    have s23 : ∀ (U : Mem) (x : Int32), frO V U → rdS U n (a + 1, false) sg → frO V (up2 U 405 23 x) ∧ rdS (up2 U 405 23 x) n (a + 1, false) sg ∧ up2 U 405 23 x 405 23 = x := fun U x f g => ⟨frO_up f (by omega), rdS_fld g (by omega), up2_same _ _ _ _⟩
    obtain ⟨f1, g1, v1⟩ := s23 W (-1) fW hW
    unfold F_X8_readWord_59
    refine ⟨fun h114 => ⟨fun h102 => ⟨fun h108 => ⟨fun h116 => ?_, fun h116 => ⟨fun h105 => ?_, fun h105 => ?_⟩⟩, fun h108 => ?_⟩, fun h102 => ?_⟩, fun h114 => ?_⟩
    · unfold F_X8_readWord_167
      refine ⟨fun _ => ⟨fun h98 => ?_, fun h98 => ⟨fun h111 => ?_, fun h111 => ?_⟩⟩, fun y => (h116 y).elim⟩
      · unfold F_X8_readWord_225
        refine ⟨fun _ => ⟨rfl, ?_⟩, fun y => (h98 y).elim⟩
        have R : wzk sg a = ((a, true), 7) := by unfold wzk; rw [if_neg h114, if_neg h102, if_neg h108, if_neg (fun z => h116 z.1), if_neg h116, if_neg (fun z => h98 z.1), if_neg h98]
        generalize up2 W 405 23 (-1) = U at f1 g1 v1 ⊢
        obtain ⟨u1, u2, u3, u4, u5, u6, u7⟩ := g1
        have eU : up2 U 405 22 1 405 21 - 1 = nI a := by
          rw [up2_ne _ _ (Or.inr (by omega)), show U 405 21 = nI (a + 1) from u2]
          exact nI_pred a
        rw [eU]
        refine k _ (frO_up (frO_up f1 (by omega)) (by omega)) ?_ ?_
        · rw [R]
          refine ⟨?_, up2_same _ _ _ _, ?_, u4, by show a ≤ n; omega, fun b hb => ?_, u7⟩
          · exact (up2_ne _ _ (Or.inr (by omega))).trans ((up2_ne _ _ (Or.inr (by omega))).trans u1)
          · exact (up2_ne _ _ (Or.inr (by omega))).trans (up2_same _ _ _ _)
          · rw [up2_off _ _ _ (by omega), up2_off _ _ _ (by omega)]; exact u6 b hb
        · rw [R, up2_ne _ _ (Or.inr (by omega)), up2_ne _ _ (Or.inr (by omega))]; exact v1
      · -- b, then a
        have R : wzk sg a = if (tkF sg 97 (a + 1, false)).2 = false ∧ sg (tkF sg 97 (a + 1, false)).1 = 117 then (tkL sg [117, 108, 107] (tkF sg 97 (a + 1, false)), 2) else (tkL sg [99, 107] (tkF sg 97 (a + 1, false)), 3) := by unfold wzk; rw [if_neg h114, if_neg h102, if_neg h108, if_neg (fun z => h116 z.1), if_neg h116, if_neg (fun z => h111 (e111.mpr z.2)), if_pos h98]
        unfold F_X8_readWord_225
        refine ⟨fun y => (y h98).elim, fun _ => m_takes g1 97 97 (by decide) (fun V1 f2 g2 => ?_)⟩
        rw [tkR_c] at g2
        have f3 := frO_tr f1 (frT_O f2)
        generalize hz1 : tkF sg 97 (a + 1, false) = z1 at g2 R
        refine rd_b (m_isNext g2 117 117 (by decide)) ⟨fun c => ?_, fun c => ?_⟩
        · have hc : ¬ (z1.2 = false ∧ sg z1.1 = 117) := by
            rintro ⟨y1, y2⟩
            rw [y1, (inB_self _ _).mpr y2] at c; cases c
          rw [if_neg hc] at R
          unfold F_X8_readWord_257 F_X8_readWord_276 F_X8_readWord_291
          have v3 : up2 V1 405 23 3 405 23 = 3 := up2_same _ _ _ _
          rw [v3]
          refine ⟨fun _ => ⟨fun _ => ⟨fun _ => ?_, fun y => absurd y (by decide)⟩, fun y => absurd y (by decide)⟩, fun y => absurd y (by decide)⟩
          refine m_takesAll (rdS_fld (x := 3) g2 (by omega)) 99 107 0 0 (by decide) (by decide) (by decide) (by decide) (fun V2 f4 g4 => ⟨rfl, k V2 (frO_tr (frO_up f3 (by omega)) (frT_O f4)) ?_ ?_⟩)
          · rw [R]; exact g4
          · rw [R, f4.2 23 (by omega) (by omega)]; exact v3
        · have hc : z1.2 = false ∧ sg z1.1 = 117 := by
            cases y : z1.2 with
            | true => rw [y] at c; cases c
            | false => rw [y] at c; exact ⟨rfl, (inB_self _ _).mp c⟩
          rw [if_pos hc] at R
          unfold F_X8_readWord_257 F_X8_readWord_276 F_X8_readWord_291
          have v3 : up2 V1 405 23 2 405 23 = 2 := up2_same _ _ _ _
          rw [v3]
          refine ⟨fun y => absurd rfl y, fun _ => ⟨fun y => absurd rfl y, fun _ => ⟨fun y => absurd rfl y, fun _ => ?_⟩⟩⟩
          refine m_takesAll (rdS_fld (x := 2) g2 (by omega)) 117 108 107 0 (by decide) (by decide) (by decide) (by decide) (fun V2 f4 g4 => ⟨rfl, k V2 (frO_tr (frO_up f3 (by omega)) (frT_O f4)) ?_ ?_⟩)
          · rw [R]; exact g4
          · rw [R, f4.2 23 (by omega) (by omega)]; exact v3
      · obtain ⟨f2, g2, v2⟩ := s23 _ 1 f1 g1
        refine fin _ f2 g2 1 111 110 117 115 v2 (by decide) (by decide) (by decide) (by decide) ?_
        unfold wzk; rw [if_neg h114, if_neg h102, if_neg h108, if_neg (fun z => h116 z.1), if_neg h116, if_pos ⟨h98, e111.mp h111⟩]; rfl
    · unfold F_X8_readWord_167
      refine ⟨fun y => (y h116).elim, fun _ => ?_⟩
      obtain ⟨f2, g2, v2⟩ := s23 _ 0 f1 g1
      refine fin _ f2 g2 0 111 117 99 104 v2 (by decide) (by decide) (by decide) (by decide) ?_
      unfold wzk; rw [if_neg h114, if_neg h102, if_neg h108, if_neg (fun z => h105 (e105.mpr z.2)), if_pos h116]; rfl
    · obtain ⟨f2, g2, v2⟩ := s23 _ 6 f1 g1
      refine fin _ f2 g2 6 105 109 101 0 v2 (by decide) (by decide) (by decide) (by decide) ?_
      unfold wzk; rw [if_neg h114, if_neg h102, if_neg h108, if_pos ⟨h116, e105.mp h105⟩]; rfl
    · obtain ⟨f2, g2, v2⟩ := s23 _ 5 f1 g1
      refine fin _ f2 g2 5 105 110 101 0 v2 (by decide) (by decide) (by decide) (by decide) ?_
      unfold wzk; rw [if_neg h114, if_neg h102, if_pos h108]; rfl
    · obtain ⟨f2, g2, v2⟩ := s23 _ 4 f1 g1
      refine fin _ f2 g2 4 97 108 108 0 v2 (by decide) (by decide) (by decide) (by decide) ?_
      unfold wzk; rw [if_neg h114, if_pos h102]; rfl
    · refine fin _ f1 g1 7 97 105 100 0 v1 (by decide) (by decide) (by decide) (by decide) ?_
      exact if_pos h114
  refine ⟨fun c => by omega, fun _ => ⟨vp_in_nI (by omega) (by decide), fun c => L59 0 ?_ ?_, fun c => ⟨vp_in_nI (by omega) (by decide), L59 _ ?_ ?_⟩⟩⟩
  · rw [h7 _ c]; decide
  · rw [h7 _ c]; decide
  · rw [hW6 _ (by omega)]
  · rw [hW6 _ (by omega)]
end Pr8
