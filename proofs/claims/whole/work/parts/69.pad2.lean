/-! the pad of the class: orders -/
def digB (x : Int32) : Bool := inB x 48 57
def nmTo (sg : Nat → Int32) (c : Nat) : Nat → Int32
  | 0 => 0
  | k + 1 => 10 * nmTo sg c k + sg (c + k) - 48
def nmK (sg : Nat → Int32) (c : Nat) : Nat := if digB (sg c) = false then 0 else if digB (sg (c + 1)) = false then 1 else if digB (sg (c + 2)) = false then 2 else 3
def tailF (sg : Nat → Int32) (i : Nat) (w : Int32) (c : Nat) : Nat × Option (Nat × Int32 × Int32) :=
  if i = 7 then (if sg c = 59 then (c + 1, some (i, w, 0)) else (c, none))
  else if sg c = 64 then (if nmK sg (c + 1) = 0 then (c + 1, none) else if sg (c + 1 + nmK sg (c + 1)) = 59 then (c + 1 + nmK sg (c + 1) + 1, some (i, w, nmTo sg (c + 1) (nmK sg (c + 1)))) else (c + 1 + nmK sg (c + 1), none))
  else (c, none)
def ordF (sg : Nat → Int32) (a : Nat) : Nat × Option (Nat × Int32 × Int32) :=
  match rwF sg 60 a 0 255 with
  | (b, none) => (b, none)
  | (b, some i) => if i = 7 ∨ i = 0 then (if digB (sg b) = true then tailF sg i (sg b - 48) (b + 1) else (b, none)) else tailF sg i (-1) b
theorem oneTo_lt {f : Int32} {p j : Nat} : ∀ {n}, oneTo f p n = some j → j < n
  | 0, h => by cases h
  | n + 1, h => by
    cases h1 : oneTo f p n with
    | some k =>
      have h2 := oneTo_s h1 1
      rw [h] at h2
      have h3 : j = k := Option.some.inj h2
      have := oneTo_lt h1
      omega
    | none =>
      by_cases c : f = 1 <<< (nI n &&& 31) ∧ lenS.getD n 0 = p + 1
      · rw [oneTo_y h1 c] at h
        have h3 : n = j := Option.some.inj h
        omega
      · rw [oneTo_n h1 c] at h
        cases h
theorem rwF_n {sg : Nat → Int32} {n : Nat} (hs : ∀ b, n ≤ b → sg b = -1) : ∀ {m a p f}, a ≤ n → (rwF sg m a p f).1 ≤ n
  | 0, a, _, _, h => h
  | m + 1, a, p, f, h => by
    unfold rwF
    split
    · exact h
    · next c =>
      have ha : a < n := by
        rcases Nat.lt_or_ge a n with y | y
        · exact y
        · rw [hs a y, keep_m1] at c; exact (c rfl).elim
      split
      · exact ha
      · exact rwF_n hs (by omega)
theorem rwF_8 {sg : Nat → Int32} {i : Nat} : ∀ {m a p f}, (rwF sg m a p f).2 = some i → i < 8
  | 0, a, _, _, h => by cases h
  | m + 1, a, p, f, h => by
    unfold rwF at h
    split at h
    · cases h
    · split at h
      · next j hj =>
        have h3 : j = i := Option.some.inj h
        have := oneTo_lt hj
        omega
      · exact rwF_8 h
theorem dig_m1 : digB (-1) = false := by decide
theorem sg_end {P : Mem} {n b : Nat} (h : n ≤ b) : sgF P n b = -1 := by unfold sgF; rw [if_neg (by omega)]
theorem sg_in {P : Mem} {n b : Nat} {x : Int32} (h : sgF P n b = x) (hx : x ≠ -1) : b < n := by
  rcases Nat.lt_or_ge b n with y | y
  · exact y
  · rw [sg_end y] at h; exact (hx h.symm).elim
theorem dig_in {P : Mem} {n b : Nat} (h : digB (sgF P n b) = true) : b < n := by
  rcases Nat.lt_or_ge b n with y | y
  · exact y
  · rw [sg_end y, dig_m1] at h; cases h
section Pd2
variable {J : Nat → Nat → Int64} {V : Mem} {Qr : Option Value → Mem → Prop} {Qx : String → Mem → Prop}
theorem k5_isAtDigit {n a : Nat} (h : pdA V n a) : RD J mX5_isAtDigit [.ref 389] V (bI (digB (sgF V n a))) := by
  obtain ⟨h1, h2, h3, h4⟩ := h
  exact v_X5_isAtDigit (rd_i (k5_nextSign n a h1 h2 h3 (by omega)) (rd_b (k7_isWithin J _ 48 57 V) ⟨rfl, rfl⟩))
theorem pdA_up {n a : Nat} (h : pdA V n a) (ha : a < n) : pdA (up2 V 389 2 (V 389 2 + 1)) n (a + 1) := by
  obtain ⟨h1, h2, h3, h4⟩ := h
  exact ⟨(up2_ne _ _ (Or.inr (by omega))).trans h1, by rw [up2_same, h2, nI_1], h3, ha⟩
theorem k5_readSign {n a : Nat} (h : pdA V n a) (x : Int32) (hx : x ≠ -1) {P : Bool → Mem → Prop} (y : sgF V n a = x → a < n → pdA (up2 V 389 2 (V 389 2 + 1)) n (a + 1) → P true (up2 V 389 2 (V 389 2 + 1))) (z : sgF V n a ≠ x → P false V) : CTc J mX5_readSign [.ref 389, .int x] V (fun r V1 => ∃ b1 : Bool, r = some (.int (bI b1)) ∧ P b1 V1) Qx := by
  obtain ⟨h1, h2, h3, h4⟩ := id h
  refine v_X5_readSign x (rd_i (k5_nextSign n a h1 h2 h3 (by omega)) ⟨fun c => ⟨true, rfl, y c (sg_in c hx) (pdA_up h (sg_in c hx))⟩, fun c => ⟨false, rfl, z c⟩⟩)
theorem k5_readPlayer {n a : Nat} (h : pdA V n a) {P : Bool → Mem → Prop} (y : digB (sgF V n a) = true → ∀ V', frP V V' → pdA V' n (a + 1) → V' 389 4 = sgF V n a - 48 → V' 389 3 = V 389 3 → P true V') (z : digB (sgF V n a) = false → P false V) : CTc J mX5_readPlayer [.ref 389] V (fun r V1 => ∃ b1 : Bool, r = some (.int (bI b1)) ∧ P b1 V1) Qx := by
  obtain ⟨h1, h2, h3, h4⟩ := id h
  refine v_X5_readPlayer (rd_b (k5_isAtDigit h) ⟨fun c => rd_i (k5_nextSign n a h1 h2 h3 (by omega)) ⟨true, rfl, ?_⟩, fun c => ⟨false, rfl, z c⟩⟩)
  have ha := dig_in c
  refine y c _ (frP_up (frP_up (frP_rf V) (by omega)) (by omega)) ⟨?_, ?_, h3, ha⟩ ?_ ?_
  · exact (up2_ne _ _ (Or.inr (by omega))).trans ((up2_ne _ _ (Or.inr (by omega))).trans h1)
  · rw [up2_same, up2_ne _ _ (Or.inr (by omega)), h2, nI_1]
  · rw [up2_ne _ _ (Or.inr (by omega)), up2_same]
  · rw [up2_ne _ _ (Or.inr (by omega)), up2_ne _ _ (Or.inr (by omega))]
theorem nmK_at (sg : Nat → Int32) (c : Nat) : nmK sg c ≤ 3 ∧ (∀ k, k < nmK sg c → digB (sg (c + k)) = true) ∧ (nmK sg c < 3 → digB (sg (c + nmK sg c)) = false) := by
  unfold nmK
  split
  · next h => exact ⟨by omega, fun k hk => by omega, fun _ => h⟩
  · next h =>
    have h : digB (sg c) = true := by cases z : digB (sg c) <;> simp_all
    split
    · next h1 => exact ⟨by omega, fun k hk => by rw [show k = 0 by omega]; exact h, fun _ => h1⟩
    · next h1 =>
      have h1 : digB (sg (c + 1)) = true := by cases z : digB (sg (c + 1)) <;> simp_all
      split
      · next h2 =>
        refine ⟨by omega, fun k hk => ?_, fun _ => h2⟩
        rcases (show k = 0 ∨ k = 1 by omega) with rfl | rfl
        · exact h
        · exact h1
      · next h2 =>
        have h2 : digB (sg (c + 2)) = true := by cases z : digB (sg (c + 2)) <;> simp_all
        refine ⟨by omega, fun k hk => ?_, fun z => by omega⟩
        rcases (show k = 0 ∨ k = 1 ∨ k = 2 by omega) with rfl | rfl | rfl
        · exact h
        · exact h1
        · exact h2
theorem k5_readNumber {n a : Nat} (h : pdA V n a) {P : Bool → Mem → Prop} (y : nmK (sgF V n) a ≠ 0 → ∀ V', frP V V' → pdA V' n (a + nmK (sgF V n) a) → V' 389 5 = nmTo (sgF V n) a (nmK (sgF V n) a) → V' 389 3 = V 389 3 → V' 389 4 = V 389 4 → P true V') (z : nmK (sgF V n) a = 0 → P false V) : CTc J mX5_readNumber [.ref 389] V (fun r V1 => ∃ b1 : Bool, r = some (.int (bI b1)) ∧ P b1 V1) Qx := by
  obtain ⟨h1, h2, h3, h4⟩ := id h
  obtain ⟨m1, m2, m3⟩ := nmK_at (sgF V n) a
  refine v_X5_readNumber (rd_b (k5_isAtDigit h) ⟨fun c => ?_, fun c => ⟨false, rfl, z (by unfold nmK; rw [if_pos c])⟩⟩)
  have hk0 : nmK (sgF V n) a ≠ 0 := by
    intro k0
    have := m3 (by omega)
    rw [k0, Nat.add_zero, c] at this
    cases this
  unfold F_X5_readNumber_16
  refine ⟨fun m x1 V' => ∃ k, k ≤ nmK (sgF V n) a ∧ m = 3 - k ∧ x1 = nI k ∧ frP V V' ∧ pdA V' n (a + k) ∧ V' 389 5 = nmTo (sgF V n) a k ∧ V' 389 3 = V 389 3 ∧ V' 389 4 = V 389 4, ⟨3, 0, by omega, rfl, rfl, frP_up (frP_rf V) (by omega), ⟨(up2_ne _ _ (Or.inr (by omega))).trans h1, (up2_ne _ _ (Or.inr (by omega))).trans h2, h3, h4⟩, up2_same _ _ _ _, up2_ne _ _ (Or.inr (by omega)), up2_ne _ _ (Or.inr (by omega))⟩, ?_⟩
  rintro m x1 V' ⟨k, hk, hm, rfl, hf, hp, h5, hh3, hh4⟩
  have hsg := sg_fr (n := n) hf
  unfold B_X5_readNumber_16
  refine ⟨fun c3 => ?_, fun c3 => ?_⟩
  · have hk3 := lpE (n := 3) (by omega) (by omega) c3
    have e : k = nmK (sgF V n) a := by omega
    subst e
    exact ⟨true, rfl, y hk0 V' hf hp h5 hh3 hh4⟩
  · have hk3 := lpL (n := 3) (by omega) (by omega) c3
    have hd := k5_isAtDigit (J := J) hp
    rw [hsg] at hd
    refine rd_b hd ⟨fun d => ?_, fun d => ?_⟩
    · have e : k = nmK (sgF V n) a := by
        rcases Nat.lt_or_ge k (nmK (sgF V n) a) with w | w
        · rw [m2 k w] at d; cases d
        · omega
      subst e
      exact ⟨true, rfl, y hk0 V' hf hp h5 hh3 hh4⟩
    · have hlt : k < nmK (sgF V n) a := by
        rcases Nat.lt_or_ge k (nmK (sgF V n) a) with w | w
        · exact w
        · have e : k = nmK (sgF V n) a := by omega
          have := m3 (by omega)
          rw [← e, d] at this
          cases this
      obtain ⟨p1, p2, p3, p4⟩ := id hp
      have hns := k5_nextSign (J := J) n (a + k) p1 p2 p3 (by omega)
      rw [hsg] at hns
      have hin := dig_in d
      refine rd_i hns ⟨3 - (k + 1), by omega, k + 1, hlt, rfl, nI_1 k, frP_up (frP_up hf (by omega)) (by omega), ⟨?_, ?_, h3, by omega⟩, ?_, ?_, ?_⟩
      · exact (up2_ne _ _ (Or.inr (by omega))).trans ((up2_ne _ _ (Or.inr (by omega))).trans p1)
      · rw [up2_same, up2_ne _ _ (Or.inr (by omega)), p2, nI_1]; rfl
      · rw [up2_ne _ _ (Or.inr (by omega)), up2_same, h5]; rfl
      · rw [up2_ne _ _ (Or.inr (by omega)), up2_ne _ _ (Or.inr (by omega))]; exact hh3
      · rw [up2_ne _ _ (Or.inr (by omega)), up2_ne _ _ (Or.inr (by omega))]; exact hh4
/-- the post of an order -/
def orP (V : Mem) (n : Nat) (z : Nat × Option (Nat × Int32 × Int32)) (b : Bool) (V' : Mem) : Prop := b = z.2.isSome ∧ frP V V' ∧ pdA V' n z.1 ∧ ∀ i w t, z.2 = some (i, w, t) → V' 389 3 = nI i ∧ V' 389 4 = w ∧ (i ≠ 7 → V' 389 5 = t)
theorem k5_readOrder {n a : Nat} (h : pdA V n a) {P : Bool → Mem → Prop} (H : ∀ b V', orP V n (ordF (sgF V n) a) b V' → P b V') : CTc J mX5_readOrder [.ref 389] V (fun r V1 => ∃ b1 : Bool, r = some (.int (bI b1)) ∧ P b1 V1) Qx := by
  obtain ⟨h1, h2, h3, h4⟩ := id h
  have h' : pdA (up2 V 389 4 (-1)) n a := ⟨(up2_ne _ _ (Or.inr (by omega))).trans h1, (up2_ne _ _ (Or.inr (by omega))).trans h2, h3, h4⟩
  have f0 : frP V (up2 V 389 4 (-1)) := frP_up (frP_rf V) (by omega)
  have hs0 := sg_fr (n := n) f0
  have hle : (rwF (sgF V n) 60 a 0 255).1 ≤ n := rwF_n (fun b hb => sg_end hb) h4
  unfold ordF at H
  refine v_X5_readOrder (k5_readWord n a h' (fun r V1 hw => ?_))
  rw [hs0] at hw
  cases hz : rwF (sgF V n) 60 a 0 255 with
  | mk b o =>
    rw [hz] at hw H hle
    obtain ⟨w1, w2, w3, w4, w5, w6⟩ := hw
    have f1 := frP_tr f0 w2
    have p1 : pdA V1 n b := ⟨by rw [w2.2]; exact h'.1, w3, h3, hle⟩
    have e4 : V1 389 4 = -1 := by rw [w4]; exact up2_same _ _ _ _
    have hsg := sg_fr (n := n) f1
    cases o with
    | none =>
      refine ⟨false, w1, fun t => Bool.noConfusion t, fun _ => ⟨false, rfl, H false V1 ⟨rfl, f1, p1, fun i w t hh => by cases hh⟩⟩⟩
    | some i =>
      have hi8 : i < 8 := rwF_8 (show (rwF (sgF V n) 60 a 0 255).2 = some i by rw [hz])
      have e3 : V1 389 3 = nI i := w6 i rfl
      have e7 : (nI i = 7) ↔ i = 7 := by rw [show (7 : Int32) = nI 7 from rfl, ceq (by omega) (by omega)]
      have e0 : (nI i = 0) ↔ i = 0 := by rw [nI_0', ceq (by omega) (by omega)]
      -- behind the player
      have T : ∀ V2 c w, frP V V2 → pdA V2 n c → V2 389 3 = nI i → V2 389 4 = w → (∀ b V', orP V n (tailF (sgF V n) i w c) b V' → P b V') → F_X5_readOrder_39 J V2 (fun r V1 => ∃ b1 : Bool, r = some (.int (bI b1)) ∧ P b1 V1) Qx := by
        intro V2 c w f2 p2 q3 q4 HT
        have hs2 := sg_fr (n := n) f2
        unfold tailF at HT
        unfold F_X5_readOrder_39
        rw [q3, e7]
        refine ⟨fun c7 => ?_, fun c7 => ?_⟩
        · rw [if_pos c7] at HT
          refine k5_readSign p2 59 (by decide) (fun y hin pp => ?_) (fun y => ?_)
          · rw [hs2] at y
            rw [if_pos y] at HT
            refine ⟨true, rfl, HT true _ ⟨rfl, frP_up f2 (by omega), pp, fun i' w' t' hh => ?_⟩⟩
            have hh := Option.some.inj hh
            cases hh
            exact ⟨(up2_ne _ _ (Or.inr (by omega))).trans q3, (up2_ne _ _ (Or.inr (by omega))).trans q4, fun hn => (hn c7).elim⟩
          · rw [hs2] at y
            rw [if_neg y] at HT
            exact ⟨false, rfl, HT false V2 ⟨rfl, f2, p2, fun i w t hh => by cases hh⟩⟩
        · rw [if_neg c7] at HT
          refine k5_readSign p2 64 (by decide) (fun y hin pp => ?_) (fun y => ?_)
          · rw [hs2] at y
            rw [if_pos y] at HT
            refine ⟨fun t => Bool.noConfusion t, fun _ => ?_⟩
            have f3 := frP_up (j := 2) (x := V2 389 2 + 1) f2 (by omega)
            have r3 : up2 V2 389 2 (V2 389 2 + 1) 389 3 = nI i := (up2_ne _ _ (Or.inr (by omega))).trans q3
            have r4 : up2 V2 389 2 (V2 389 2 + 1) 389 4 = w := (up2_ne _ _ (Or.inr (by omega))).trans q4
            generalize up2 V2 389 2 (V2 389 2 + 1) = V3 at f3 pp r3 r4 ⊢
            have hs3 := sg_fr (n := n) f3
            refine k5_readNumber pp (fun nk V4 f4 p4 n5 n3 n4 => ?_) (fun nk => ?_)
            · rw [hs3] at nk p4 n5
              rw [if_neg nk] at HT
              have f5 := frP_tr f3 f4
              have hs4 := sg_fr (n := n) f5
              refine ⟨fun _ => k5_readSign p4 59 (by decide) (fun y2 hin2 pp2 => ?_) (fun y2 => ?_), fun t => Bool.noConfusion t⟩
              · rw [hs4] at y2
                rw [if_pos y2] at HT
                refine ⟨true, rfl, HT true _ ⟨rfl, frP_up f5 (by omega), pp2, fun i' w' t' hh => ?_⟩⟩
                have hh := Option.some.inj hh
                cases hh
                exact ⟨(up2_ne _ _ (Or.inr (by omega))).trans (n3.trans r3), (up2_ne _ _ (Or.inr (by omega))).trans (n4.trans r4), fun _ => (up2_ne _ _ (Or.inr (by omega))).trans n5⟩
              · rw [hs4] at y2
                rw [if_neg y2] at HT
                exact ⟨false, rfl, HT false V4 ⟨rfl, f5, p4, fun i w t hh => by cases hh⟩⟩
            · rw [hs3] at nk
              rw [if_pos nk] at HT
              exact ⟨fun t => Bool.noConfusion t, fun _ => ⟨false, rfl, HT false V3 ⟨rfl, f3, pp, fun i w t hh => by cases hh⟩⟩⟩
          · rw [hs2] at y
            rw [if_neg y] at HT
            exact ⟨fun _ => ⟨false, rfl, HT false V2 ⟨rfl, f2, p2, fun i w t hh => by cases hh⟩⟩, fun t => Bool.noConfusion t⟩
      have L30 : (i = 7 ∨ i = 0) → F_X5_readOrder_30 J V1 (fun r V1 => ∃ b1 : Bool, r = some (.int (bI b1)) ∧ P b1 V1) Qx := by
        intro hi
        dsimp only at H
        rw [if_pos hi] at H
        unfold F_X5_readOrder_30
        refine k5_readPlayer p1 (fun d V2 f2 p2 q4 q3 => ?_) (fun d => ?_)
        · rw [hsg] at d q4
          rw [if_pos d] at H
          exact ⟨fun _ => T V2 (b + 1) _ (frP_tr f1 f2) p2 (q3.trans e3) q4 H, fun t => Bool.noConfusion t⟩
        · rw [hsg] at d
          rw [if_neg (by rw [d]; decide)] at H
          exact ⟨fun t => Bool.noConfusion t, fun _ => ⟨false, rfl, H false V1 ⟨rfl, f1, p1, fun i w t hh => by cases hh⟩⟩⟩
      refine ⟨true, w1, fun _ => ?_, fun t => Bool.noConfusion t⟩
      rw [e3, e7, e0]
      refine ⟨fun c7 => L30 (Or.inl c7), fun c7 => ⟨fun c0 => ?_, fun c0 => L30 (Or.inr c0)⟩⟩
      dsimp only at H
      rw [if_neg (by omega)] at H
      exact T V1 b (-1) f1 p1 e3 e4 H
end Pd2
