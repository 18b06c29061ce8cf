/-! the reference: the calls about a match -/
def frM (V V' : Mem) : Prop := (∀ x, x < 405 ∨ 419 ≤ x → V' x = V x) ∧ ∀ j, 8 ≤ j → V' 405 j = V 405 j
theorem frM_rf (V : Mem) : frM V V := ⟨fun _ _ => rfl, fun _ _ => rfl⟩
theorem frM_tr {V V' V'' : Mem} (h1 : frM V V') (h2 : frM V' V'') : frM V V'' := ⟨fun x hx => (h2.1 x hx).trans (h1.1 x hx), fun j hj => (h2.2 j hj).trans (h1.2 j hj)⟩
theorem frM_up {V V' : Mem} {a j : Nat} {x : Int32} (h : frM V V') (ha : (406 ≤ a ∧ a < 419) ∨ (a = 405 ∧ j < 8)) : frM V (up2 V' a j x) := ⟨fun y hy => (up2_off V' j x (by omega)).trans (h.1 y hy), fun i hi => (up2_ne V' x (by omega)).trans (h.2 i hi)⟩
theorem frM_of {V V' : Mem} {lo n : Nat} (h : offF V V' lo n) (hl : 406 ≤ lo ∧ lo + n ≤ 419) : frM V V' := ⟨fun x hx => h x (by omega), fun j _ => by rw [h 405 (by omega)]⟩
def rfW (V : Mem) (s : Ms) (E : Evs) : Prop := (V 405 3 = nI (s 1) ∧ V 405 5 = nI (s 5) ∧ V 405 7 = nI (s 2)) ∧ (V 406 0 = nI (s 3) ∧ V 406 1 = nI (s 4) ∧ V 407 0 = nI (s 7) ∧ V 407 1 = nI (s 8)) ∧ (∀ k, k < s 2 → mdE V k (E k)) ∧ mdN V E (s 2 - s 1) ∧ sOK V (nowF s E)
def rfM (V : Mem) (s : Ms) (E : Evs) : Prop := V 405 1 = nI (s 6) ∧ V 405 2 = nI (s 0) ∧ (s 0 = 1 → rfW V s E)
def rfX (V : Mem) (X : St) : Prop := rfM V X.1 X.2
theorem mdN_off {V V' : Mem} {E : Evs} {n : Nat} (h : mdN V E n) (f : ∀ x, x = 417 ∨ x = 418 → V' x = V x) : mdN V' E n := by
  unfold mdN
  rw [f 417 (by omega), f 418 (by omega)]
  exact h
theorem mdN_cg {V : Mem} {E F : Evs} {n : Nat} (h : mdN V E n) (f : ∀ k, k < n → E k = F k) : mdN V F n := by
  intro k hk a ha
  rw [← runE_cg (E := E) (F := F) (n := k + 1) (fun j hj => f j (by omega))]
  exact h k hk a ha
theorem rfM_cg {V V' : Mem} {s : Ms} {E : Evs} (h : rfM V s E) (f : ∀ x, 406 ≤ x → x < 419 → V' x = V x) (g : ∀ j, j < 8 → j ≠ 0 → V' 405 j = V 405 j) : rfM V' s E := by
  obtain ⟨h1, h2, h3⟩ := h
  refine ⟨by rw [g 1 (by omega) (by omega)]; exact h1, by rw [g 2 (by omega) (by omega)]; exact h2, fun h0 => ?_⟩
  obtain ⟨⟨a1, a2, a3⟩, b, c, d, e⟩ := h3 h0
  refine ⟨⟨by rw [g 3 (by omega) (by omega)]; exact a1, by rw [g 5 (by omega) (by omega)]; exact a2, by rw [g 7 (by omega) (by omega)]; exact a3⟩, by rw [f 406 (by omega) (by omega), f 407 (by omega) (by omega)]; exact b, fun k hk => mdE_off (c k hk) (fun x h1 h2 => f x (by omega) (by omega)), mdN_off d (fun x hx => f x (by omega) (by omega)), sOK_off e (f 416 (by omega) (by omega))⟩
theorem rfM_th {V : Mem} {s : Ms} {E : Evs} {x : Int32} (h : rfM V s E) : rfM (up2 V 405 0 x) s E := rfM_cg h (fun y h1 _ => up2_off _ _ _ (by omega)) (fun j _ hj => up2_ne _ _ (Or.inr hj))
/-- the post of a call of the reference -/
def ROp (V : Mem) (k : Nat) (x : Int32) (P : Mem → Prop) (r : Option Value) (V' : Mem) : Prop := (∃ z, r = some (Value.int z) ∧ (k = 0 → z = x)) ∧ frM V V' ∧ V' 405 0 = nI k ∧ P V'
def RO (J : Nat → Nat → Int64) (d : pD) (as : List Value) (V : Mem) (k : Nat) (x : Int32) (P : Mem → Prop) : Prop := CTc J d as V (ROp V k x P) NX
theorem ro_bad {V V1 : Mem} {k : Nat} {x : Int32} {P : Mem → Prop} (f : frM V V1) (hk : k ≠ 0) (p : P (up2 V1 405 0 (nI k))) : ROp V k x P (some (.int 0)) (up2 V1 405 0 (nI k)) := ⟨⟨0, rfl, fun z => (hk z).elim⟩, frM_up f (by omega), up2_same _ _ _ _, p⟩
theorem m_holds {J : Nat → Nat → Int64} {V : Mem} (k : Nat) (hk : k < 100) {A B : Mem → Prop} {Qx : String → Mem → Prop} (y : k = 0 → A (up2 V 405 0 (nI k))) (z : k ≠ 0 → B (up2 V 405 0 (nI k))) : CTc J mX8_holds [.ref 405, .int (nI k)] V (fun r V1 => ∃ b1 : Bool, r = some (.int (bI b1)) ∧ (b1 = true → A V1) ∧ (b1 = false → B V1)) Qx := by
  refine v_X8_holds _ ?_
  unfold F_X8_holds
  rw [nI_0', ceq (by omega) (by omega)]
  exact ⟨fun c => ⟨false, rfl, fun w => Bool.noConfusion w, fun _ => z c⟩, fun c => ⟨true, rfl, fun _ => y c, fun w => Bool.noConfusion w⟩⟩
section Md7
variable {J : Nat → Nat → Int64} {V : Mem} {s : Ms} {E : Evs}
theorem m_isBetween (m : rfM V s E) (G : Gd s E) : RD J mX8_isBetween [.ref 405] V (bI (decide (s 0 = 1 ∧ s 1 = 0 ∧ s 2 < 60))) := by
  have h0 := G.1
  have h1 := G.2.1
  have h2 := G.2.2.1
  refine v_X8_isBetween ?_
  unfold F_X8_isBetween
  rw [m.2.1, nI_0', ceq (by omega) (by omega)]
  refine ⟨fun z => ⟨?_, rfl⟩, fun z => ?_⟩
  · rw [decide_eq_false (by omega)]; rfl
  · obtain ⟨⟨a1, a2, a3⟩, -⟩ := m.2.2 (by omega)
    rw [a1, a3, ceq (by omega) (by omega), show (60 : Int32) = nI 60 from rfl, cle (by omega) (by omega)]
    refine ⟨fun y => ⟨?_, rfl⟩, fun y => ⟨fun x => ⟨?_, rfl⟩, fun x => ⟨?_, rfl⟩⟩⟩
    · rw [decide_eq_false (by omega)]; rfl
    · rw [decide_eq_false (by omega)]; rfl
    · rw [decide_eq_true (by omega)]; rfl
theorem m_begin (m : rfM V s E) (G : Gd s E) (x y t : Int32) : RO J mX8_begin [.ref 405, .int x, .int y, .int t] V (beginK s x y t) (nI (s 6 + 1)) (fun V' => rfX V' (beginN s E x y t)) := by
  have h0 := G.1
  have B65 : ∀ k, k ≠ 0 → k < 100 → beginK s x y t = k → F_X8_begin_65 J x y t (nI k) V (ROp V (beginK s x y t) (nI (s 6 + 1)) (fun V' => rfX V' (beginN s E x y t))) NX := by
    intro k hk hk1 hkk
    unfold F_X8_begin_65
    refine m_holds k hk1 (fun z => (hk z).elim) (fun _ => ?_)
    rw [hkk]
    refine ro_bad (frM_rf _) hk ?_
    unfold beginN
    rw [if_neg (by omega)]
    exact rfM_th m
  refine v_X8_begin x y t (rd_b (k8_isClub J x V) ⟨fun z => ?_, fun z => rd_b (k8_isClub J y V) ⟨fun z2 => ?_, fun z2 => ?_⟩⟩)
  · exact ⟨fun w => (w rfl).elim, fun _ => B65 1 (by omega) (by omega) (by unfold beginK; rw [if_pos (Or.inl z)])⟩
  · exact ⟨fun w => (w rfl).elim, fun _ => B65 1 (by omega) (by omega) (by unfold beginK; rw [if_pos (Or.inr z2)])⟩
  · unfold F_X8_begin_19 F_X8_begin_49
    refine ⟨fun _ => ⟨fun c => ?_, fun c => rd_b (k8_in J t 300 24000 V) ⟨fun d => ?_, fun d => ?_⟩⟩, fun w => absurd w (by decide)⟩
    · exact B65 2 (by omega) (by omega) (by unfold beginK; rw [if_neg (by rw [z, z2]; decide), if_pos (Or.inl c)])
    · have hkk : beginK s x y t = if s 0 = 1 then 3 else 0 := by
        unfold beginK
        rw [if_neg (by rw [z, z2]; decide), if_neg (by rw [d]; intro w; rcases w with w | w; exact c w; exact Bool.noConfusion w)]
      rw [m.2.1, nI_0', ceq (by omega) (by omega)]
      refine ⟨fun e => ?_, fun e => B65 3 (by omega) (by omega) (by rw [hkk, if_pos (by omega)])⟩
      have hk0 : beginK s x y t = 0 := by rw [hkk, if_neg (by omega)]
      obtain ⟨a, ha, rfl⟩ := isIx_ex (by omega) z
      obtain ⟨b, hb, rfl⟩ := isIx_ex (by omega) z2
      obtain ⟨k, hk1, hk2, rfl⟩ := inB_nI (a := 300) (b := 24000) (by omega) d (by omega)
      unfold F_X8_begin_65
      refine m_holds 0 (by omega) (fun _ => ?_) (fun z => (z rfl).elim)
      have fr : frM V (up2 (up2 (up2 (up2 (up2 (up2 (up2 (up2 (up2 V 405 0 (nI 0)) 405 2 1) 405 3 0) 406 0 (nI a)) 406 1 (nI b)) 405 5 (nI k)) 405 7 0) 407 0 0) 407 1 0) := frM_up (frM_up (frM_up (frM_up (frM_up (frM_up (frM_up (frM_up (frM_up (frM_rf _) (by omega)) (by omega)) (by omega)) (by omega)) (by omega)) (by omega)) (by omega)) (by omega)) (by omega)
      refine wr_use m_starts (fun V3 f3 q3 => ?_)
      have g5 := f3 405 (by omega)
      have g6 := f3 406 (by omega)
      have g7 := f3 407 (by omega)
      have r1 : V3 405 1 = nI (s 6) := by rw [g5]; exact m.1
      have r0 : V3 405 0 = nI 0 := by rw [g5]; rfl
      have r2 : V3 405 2 = nI 1 := by rw [g5]; rfl
      have r3 : V3 405 3 = nI 0 := by rw [g5]; rfl
      have r5 : V3 405 5 = nI k := by rw [g5]; rfl
      have r7 : V3 405 7 = nI 0 := by rw [g5]; rfl
      have c0 : V3 406 0 = nI a := by rw [g6]; rfl
      have c1 : V3 406 1 = nI b := by rw [g6]; rfl
      have d0 : V3 407 0 = nI 0 := by rw [g7]; rfl
      have d1 : V3 407 1 = nI 0 := by rw [g7]; rfl
      have fr3 := frM_tr fr (frM_of f3 (by omega))
      rw [r1, nI_1, hk0]
      refine ⟨⟨_, rfl, fun _ => up2_same _ _ _ _⟩, frM_up fr3 (by omega), r0, ?_⟩
      unfold beginN
      rw [if_pos hk0, ccl (by omega), ccl (by omega), ccl (by omega)]
      exact ⟨up2_same _ _ _ _, r2, fun _ => ⟨⟨r3, r5, r7⟩, ⟨c0, c1, d0, d1⟩, fun k hk => absurd hk (Nat.not_lt_zero k), fun k hk => absurd hk (Nat.not_lt_zero k), q3⟩⟩
    · exact B65 2 (by omega) (by omega) (by unfold beginK; rw [if_neg (by rw [z, z2]; decide), if_pos (Or.inr d)])
/-- an event is added -/
def adP (V V' : Mem) (m : Nat) (t a b c : Int32) : Prop := (∀ x, x < 405 ∨ x = 406 ∨ x = 407 ∨ 413 ≤ x → V' x = V x) ∧ V' 405 = up1 (V 405) 7 (nI (m + 1)) ∧ V' 408 = up1 (V 408) m t ∧ V' 409 = up1 (V 409) m a ∧ V' 410 = up1 (V 410) m b ∧ V' 411 = up1 (V 411) m c ∧ V' 412 = up1 (V 412) m 0
theorem m_adds {m : Nat} (h7 : V 405 7 = nI m) (hm : m < 60) (t a b c : Int32) {Q : Int32 → Mem → Prop} {Qx : String → Mem → Prop} (k : ∀ V', adP V V' m t a b c → Q (nI m) V') : CTc J mX8_adds [.ref 405, .int t, .int a, .int b, .int c] V (fun r V' => ∃ r1 : Int32, r = some (.int r1) ∧ Q r1 V') Qx := by
  refine v_X8_adds _ _ _ _ ?_
  unfold F_X8_adds
  have o : ∀ (W : Mem) y j x, y ≠ 405 → up2 W y j x 405 = W 405 := fun W y j x hy => up2_off _ _ _ (fun z => hy z.symm)
  simp only [o _ 408 _ _ (by omega), o _ 409 _ _ (by omega), o _ 410 _ _ (by omega), o _ 411 _ _ (by omega), o _ 412 _ _ (by omega), h7, ccl (n := m) (by omega), up2_same, nI_1]
  refine ⟨s60 hm, s60 hm, s60 hm, s60 hm, s60 hm, _, rfl, ?_⟩
  rw [nI_pred]
  refine k _ ⟨fun x hx => ?_, ?_, ?_, ?_, ?_, ?_, ?_⟩
  · rw [up2_off _ _ _ (by omega), up2_off _ _ _ (by omega), up2_off _ _ _ (by omega), up2_off _ _ _ (by omega), up2_off _ _ _ (by omega), up2_off _ _ _ (by omega)]
  · rw [up2_at, o _ 412 _ _ (by omega), o _ 411 _ _ (by omega), o _ 410 _ _ (by omega), o _ 409 _ _ (by omega), o _ 408 _ _ (by omega)]
  · rw [up2_off _ _ _ (by omega), up2_off _ _ _ (by omega), up2_off _ _ _ (by omega), up2_off _ _ _ (by omega), up2_off _ _ _ (by omega), up2_at]
  · rw [up2_off _ _ _ (by omega), up2_off _ _ _ (by omega), up2_off _ _ _ (by omega), up2_off _ _ _ (by omega), up2_at, up2_off _ _ _ (by omega)]
  · rw [up2_off _ _ _ (by omega), up2_off _ _ _ (by omega), up2_off _ _ _ (by omega), up2_at, up2_off _ _ _ (by omega), up2_off _ _ _ (by omega)]
  · rw [up2_off _ _ _ (by omega), up2_off _ _ _ (by omega), up2_at, up2_off _ _ _ (by omega), up2_off _ _ _ (by omega), up2_off _ _ _ (by omega)]
  · rw [up2_off _ _ _ (by omega), up2_at, up2_off _ _ _ (by omega), up2_off _ _ _ (by omega), up2_off _ _ _ (by omega), up2_off _ _ _ (by omega)]
theorem mdE_keep {V V' : Mem} {n : Nat} {e : Ev} (q : mdE V n e) (f : ∀ x, 408 ≤ x → x < 413 → V' x n = V x n) (g : ∀ x, 413 ≤ x → x < 416 → ∀ k, k < e 4 → V' x (14 * n + k) = V x (14 * n + k)) : mdE V' n e := by
  obtain ⟨q1, q2, q3, q4, q5⟩ := q
  refine ⟨?_, ?_, fun h => ?_, ?_, fun k hk => ?_⟩
  · rw [f 408 (by omega) (by omega)]; exact q1
  · rw [f 409 (by omega) (by omega)]; exact q2
  · rw [f 410 (by omega) (by omega), f 411 (by omega) (by omega)]; exact q3 h
  · rw [f 412 (by omega) (by omega)]; exact q4
  · rw [g 413 (by omega) (by omega) k hk, g 414 (by omega) (by omega) k hk, g 415 (by omega) (by omega) k hk]; exact q5 k hk
theorem ad_fr {V V' : Mem} {m : Nat} {t a b c : Int32} (h : adP V V' m t a b c) : frM V V' := ⟨fun x hx => h.1 x (by omega), fun j hj => by rw [h.2.1, up1_off _ _ (by omega)]⟩
theorem ad_old {V V' : Mem} {m n : Nat} {t a b c : Int32} {e : Ev} (h : adP V V' m t a b c) (hn : n ≠ m) (q : mdE V n e) : mdE V' n e := by
  obtain ⟨h0, h5, h8, h9, h10, h11, h12⟩ := h
  refine mdE_keep q (fun x h1 h2 => ?_) (fun x h1 h2 k hk => by rw [h0 x (by omega)])
  rcases (show x = 408 ∨ x = 409 ∨ x = 410 ∨ x = 411 ∨ x = 412 by omega) with z | z | z | z | z <;> subst z
  · rw [h8, up1_off _ _ hn]
  · rw [h9, up1_off _ _ hn]
  · rw [h10, up1_off _ _ hn]
  · rw [h11, up1_off _ _ hn]
  · rw [h12, up1_off _ _ hn]
theorem ad_new {V V' : Mem} {m t a b c : Nat} (h : adP V V' m (nI t) (nI a) (nI b) (nI c)) (e : Ev) (e0 : e 0 = t) (e1 : (if t = 0 then e 2 else e 1) = a) (e2 : t ≠ 0 → e 2 = b ∧ e 3 = c) (e4 : e 4 = 0) : mdE V' m e := by
  obtain ⟨h0, h5, h8, h9, h10, h11, h12⟩ := h
  refine ⟨?_, ?_, fun hz => ?_, ?_, fun k hk => by omega⟩
  · rw [h8, up1_at, e0]
  · rw [h9, up1_at, e0, e1]
  · rw [h10, up1_at, h11, up1_at, (e2 (by omega)).1, (e2 (by omega)).2]; exact ⟨rfl, rfl⟩
  · rw [h12, up1_at, e4]; rfl
theorem m_raid (m : rfM V s E) (G : Gd s E) (p : Int32) : RO J mX8_raid [.ref 405, .int p] V (raidK s E p) (nI (s 2)) (fun V' => rfX V' (raidN s E p)) := by
  have h0 := G.1
  have h1 := G.2.1
  have hg := G.2.2.2.2.2.2.2.1
  obtain ⟨w, hb, hr, -⟩ := Gd_run G
  have bad : ∀ k, k ≠ 0 → k < 100 → raidK s E p = k → F_X8_raid_34 J p (nI k) V (ROp V (raidK s E p) (nI (s 2)) (fun V' => rfX V' (raidN s E p))) NX := by
    intro k hk hk1 hkk
    unfold F_X8_raid_34
    refine m_holds k hk1 (fun z => (hk z).elim) (fun _ => ?_)
    rw [hkk]
    refine ro_bad (frM_rf _) hk ?_
    unfold raidN
    rw [if_neg (by omega)]
    exact rfM_th m
  refine v_X8_raid p (rd_b (k8_isPlayer J p V) ⟨fun z => rd_b (m_isBetween m G) ⟨fun z2 => ?_, fun z2 => ?_⟩, fun z => bad 1 (by omega) (by omega) (by unfold raidK; rw [if_pos z])⟩)
  · refine bad 2 (by omega) (by omega) ?_
    unfold raidK raidB
    rw [if_neg (by rw [z]; decide), if_pos]
    have z2 := of_decide_eq_false z2
    rw [decide_eq_false (by omega)]; rfl
  · have z2 := of_decide_eq_true z2
    obtain ⟨⟨a1, a2, a3⟩, b, c, d, e⟩ := m.2.2 z2.1
    obtain ⟨q, hq, rfl⟩ := isIx_ex (by omega) z
    have g5 := hg z2.1
    have hB : raidB s E (nI q) = (decide (nowF s E 108 < s 5) && decide (nowF s E (10 * turnF (nowF s E) + q) = 0)) := by
      unfold raidB
      rw [z, ccl (by omega), Bool.true_and]
      by_cases y : nowF s E 108 < s 5
      · rw [decide_eq_true y, decide_eq_true (by omega)]
      · rw [decide_eq_false y, decide_eq_false (by omega)]
    refine rd_b (m_canRaid e w hr (bdd_mono hb (by omega)) (s 5) q a2 (by omega) hq) ?_
    rw [← hB]
    refine ⟨fun y => ?_, fun y => bad 2 (by omega) (by omega) (by unfold raidK; rw [if_neg (by rw [z]; decide), if_pos y])⟩
    have hk0 : raidK s E (nI q) = 0 := by unfold raidK; rw [if_neg (by rw [z]; decide), if_neg (by rw [y]; decide)]
    unfold F_X8_raid_34
    refine m_holds 0 (by omega) (fun _ => ?_) (fun z => (z rfl).elim)
    have a3' : up2 (up2 V 405 0 (nI 0)) 405 3 1 405 7 = nI (s 2) := by rw [up2_ne _ _ (Or.inr (by omega)), up2_ne _ _ (Or.inr (by omega))]; exact a3
    refine m_adds a3' (by omega) _ _ _ _ (fun V' hV => ?_)
    have fr := frM_tr (frM_up (frM_up (frM_rf V) (a := 405) (j := 0) (x := nI 0) (by omega)) (a := 405) (j := 3) (x := 1) (by omega)) (ad_fr hV)
    have evn := ad_new (t := 0) (a := q) (b := 0) (c := 0) hV (evNew 0 (turnF (nowF s E)) q 0) rfl rfl (fun z => (z rfl).elim) rfl
    have v5 := hV.2.1
    have on : ∀ k, k < s 2 → up1 E (s 2) (evNew 0 (turnF (nowF s E)) q 0) k = E k := fun k hk => up1_off _ _ (by omega)
    rw [hk0]
    refine ⟨⟨_, rfl, fun _ => rfl⟩, fr, by rw [v5, up1_off _ _ (by omega)]; rfl, ?_⟩
    unfold raidN
    rw [if_pos hk0, ccl (by omega)]
    have s2' : up1 (up1 s 1 1) 2 (s 2 + 1) 2 = s 2 + 1 := up1_at _ _ _
    have s1' : up1 (up1 s 1 1) 2 (s 2 + 1) 1 = 1 := by rw [up1_off _ _ (by omega), up1_at]
    have so : ∀ j, j ≠ 1 → j ≠ 2 → up1 (up1 s 1 1) 2 (s 2 + 1) j = s j := fun j hj1 hj2 => by rw [up1_off _ _ hj2, up1_off _ _ hj1]
    have gx : ∀ x, 406 ≤ x → x < 408 ∨ 413 ≤ x → V' x = V x := fun x h1 h2 => by rw [hV.1 x (by omega), up2_off _ _ _ (by omega), up2_off _ _ _ (by omega)]
    show rfM V' (up1 (up1 s 1 1) 2 (s 2 + 1)) (up1 E (s 2) (evNew 0 (turnF (nowF s E)) q 0))
    refine ⟨by rw [v5, so 6 (by omega) (by omega), up1_off _ _ (by omega)]; exact m.1, by rw [v5, so 0 (by omega) (by omega), up1_off _ _ (by omega)]; exact m.2.1, fun _ => ⟨⟨?_, ?_, ?_⟩, ?_, ?_, ?_, ?_⟩⟩
    · rw [v5, s1', up1_off _ _ (by omega)]; rfl
    · rw [v5, so 5 (by omega) (by omega), up1_off _ _ (by omega)]; exact a2
    · rw [v5, s2', up1_at]
    · rw [gx 406 (by omega) (by omega), gx 407 (by omega) (by omega), so 3 (by omega) (by omega), so 4 (by omega) (by omega), so 7 (by omega) (by omega), so 8 (by omega) (by omega)]; exact b
    · intro k hk
      rw [s2'] at hk
      by_cases hk2 : k = s 2
      · subst hk2; rw [up1_at]; exact evn
      · rw [on k (by omega)]
        refine ad_old hV hk2 (mdE_off (c k (by omega)) (fun x h1 h2 => by rw [up2_off _ _ _ (by omega), up2_off _ _ _ (by omega)]))
    · rw [s2', s1', Nat.add_sub_cancel]
      have d1 : mdN V E (s 2) := by have := d; rwa [z2.2.1, Nat.sub_zero] at this
      exact mdN_cg (mdN_off d1 (fun x hx => gx x (by omega) (by omega))) (fun k hk => (on k hk).symm)
    · have hnow : nowF (up1 (up1 s 1 1) 2 (s 2 + 1)) (up1 E (s 2) (evNew 0 (turnF (nowF s E)) q 0)) = nowF s E := by
        show runE _ (up1 (up1 s 1 1) 2 (s 2 + 1) 2 - up1 (up1 s 1 1) 2 (s 2 + 1) 1) = runE E (s 2 - s 1)
        rw [s2', s1', Nat.add_sub_cancel, z2.2.1, Nat.sub_zero]
        exact runE_cg on
      rw [hnow]
      exact sOK_off e (gx 416 (by omega) (by omega))
end Md7
