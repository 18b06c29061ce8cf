/-! the state of a match as numbers (the reference's own row of 110), and one side of the class against it -/
abbrev Sg : Type := Nat → Nat
/-- how many of the first n players of a side are x or y -/
def cntTo (σ : Sg) (a x y : Nat) : Nat → Nat
  | 0 => 0
  | n + 1 => cntTo σ a x y n + (if σ (10 * a + n) = x ∨ σ (10 * a + n) = y then 1 else 0)
def cnt (σ : Sg) (a x y : Nat) : Nat := cntTo σ a x y 10
theorem cntTo_le (σ : Sg) (a x y : Nat) : ∀ n, cntTo σ a x y n ≤ n
  | 0 => Nat.le_refl 0
  | n + 1 => by
    have := cntTo_le σ a x y n
    unfold cntTo
    split <;> omega
theorem cnt_le (σ : Sg) (a x y : Nat) : cnt σ a x y ≤ 10 := cntTo_le σ a x y 10
theorem cntTo_congr {σ τ : Sg} {a x y : Nat} : ∀ {n}, (∀ i, i < n → σ (10 * a + i) = τ (10 * a + i)) → cntTo σ a x y n = cntTo τ a x y n
  | 0, _ => rfl
  | n + 1, h => by
    unfold cntTo
    rw [cntTo_congr (fun i hi => h i (by omega)), h n (by omega)]
/-- one change of a status -/
theorem cntTo_up {σ : Sg} {a x y i v : Nat} : ∀ {n}, i < n → cntTo (up1 σ (10 * a + i) v) a x y n + (if σ (10 * a + i) = x ∨ σ (10 * a + i) = y then 1 else 0) = cntTo σ a x y n + (if v = x ∨ v = y then 1 else 0)
  | 0, h => absurd h (Nat.not_lt_zero i)
  | n + 1, h => by
    unfold cntTo
    by_cases hi : i = n
    · subst hi
      have h1 : cntTo (up1 σ (10 * a + i) v) a x y i = cntTo σ a x y i := cntTo_congr (fun j hj => up1_off _ _ (by omega))
      rw [h1, up1_at]
      omega
    · have h1 := cntTo_up (σ := σ) (a := a) (x := x) (y := y) (v := v) (n := n) (i := i) (by omega)
      rw [up1_off (a := 10 * a + n) _ _ (by omega)]
      omega
theorem cnt_split (σ : Sg) (a x y : Nat) (h : x ≠ y) : cnt σ a x y = cnt σ a x x + cnt σ a y y := by
  have : ∀ n, cntTo σ a x y n = cntTo σ a x x n + cntTo σ a y y n := by
    intro n
    induction n with
    | zero => rfl
    | succ n ih =>
      unfold cntTo
      rw [ih]
      by_cases h1 : σ (10 * a + n) = x
      · have h2 : ¬ σ (10 * a + n) = y := by omega
        simp [h1, h]
        omega
      · by_cases h2 : σ (10 * a + n) = y
        · have h3 : ¬ y = x := by omega
          simp [h2, h3]
          omega
        · simp [h1, h2]
  exact this 10
/-- a side of the class at h is side a of the numbers -/
def sdOK (V : Mem) (h a : Nat) (σ : Sg) : Prop :=
  (∀ i, i < 10 → V (h + 1) i = nI (σ (10 * a + i))) ∧ (∀ i, i < 10 → σ (10 * a + i) = 3 → V (h + 2) i = nI (σ (20 + 10 * a + i))) ∧ (∀ i, i < 10 → V (h + 3) i = nI (σ (40 + 10 * a + i))) ∧ (∀ i, i < 10 → V (h + 4) i = nI (σ (60 + 10 * a + i))) ∧ (∀ k, k < σ (100 + a) → V (h + 5) k = nI (σ (80 + 10 * a + k))) ∧
  V h 5 = nI (σ (100 + a)) ∧ V h 6 = nI (σ (102 + a)) ∧ V h 7 = nI (σ (104 + a)) ∧ V h 8 = nI (σ (106 + a))
/-- no number is large -/
def bdd (σ : Sg) (B : Nat) : Prop := ∀ k, k < 110 → σ k ≤ B
def offF (V V' : Mem) (lo n : Nat) : Prop := ∀ x, (x < lo ∨ lo + n ≤ x) → V' x = V x
theorem offF_rf (V : Mem) (lo n : Nat) : offF V V lo n := fun _ _ => rfl
theorem offF_tr {V V' V'' : Mem} {lo n : Nat} (h1 : offF V V' lo n) (h2 : offF V' V'' lo n) : offF V V'' lo n := fun x hx => (h2 x hx).trans (h1 x hx)
theorem offF_up {V V' : Mem} {lo n a j : Nat} {x : Int32} (h : offF V V' lo n) (ha : lo ≤ a ∧ a < lo + n) : offF V (up2 V' a j x) lo n := fun y hy => (up2_off V' j x (by omega)).trans (h y hy)
theorem sdOK_off {V V' : Mem} {h a lo n : Nat} {σ : Sg} (q : sdOK V h a σ) (hf : offF V V' lo n) (hd : h + 6 ≤ lo ∨ lo + n ≤ h) : sdOK V' h a σ := by
  obtain ⟨q1, q2, q3, q4, q5, q6, q7, q8, q9⟩ := q
  have e : ∀ j, j < 6 → V' (h + j) = V (h + j) := fun j hj => hf (h + j) (by omega)
  have e0 : V' h = V h := e 0 (by omega)
  refine ⟨fun i hi => ?_, fun i hi hs => ?_, fun i hi => ?_, fun i hi => ?_, fun k hk => ?_, ?_, ?_, ?_, ?_⟩
  · rw [e 1 (by omega)]; exact q1 i hi
  · rw [e 2 (by omega)]; exact q2 i hi hs
  · rw [e 3 (by omega)]; exact q3 i hi
  · rw [e 4 (by omega)]; exact q4 i hi
  · rw [e 5 (by omega)]; exact q5 k hk
  · rw [e0]; exact q6
  · rw [e0]; exact q7
  · rw [e0]; exact q8
  · rw [e0]; exact q9
section SideM
variable {J : Nat → Nat → Int64} {V : Mem} {h a : Nat} {σ : Sg}
theorem k6_count (hh : isSide h) (q : ∀ i, i < 10 → V (h + 1) i = nI (σ (10 * a + i))) (hb : ∀ i, i < 10 → σ (10 * a + i) ≤ 4) (x : Nat) (hx : x ≤ 4) : RD J mX6_count [.ref h, .int (nI x)] V (nI (cnt σ a x x)) := by
  refine v_X6_count h (nI x) hh ?_
  unfold F_X6_count F_X6_count_4
  refine ⟨fun n x2 x3 V' => ∃ k, k ≤ 10 ∧ n = 10 - k ∧ x3 = nI k ∧ x2 = nI (cntTo σ a x x k) ∧ V = V', ⟨10, 0, by omega, rfl, rfl, rfl, rfl⟩, ?_⟩
  rintro n x2 x3 V' ⟨k, hk, hn, rfl, rfl, rfl⟩
  unfold B_X6_count_4 F_X6_count_23
  refine ⟨fun c => ?_, fun c => ?_⟩
  · have h1 : 10 ≤ k := (cle (n := 10) (by omega) (by omega)).mp c
    have h2 : k = 10 := by omega
    subst h2
    exact ⟨rfl, rfl⟩
  · have h1 : k < 10 := by
      rcases Nat.lt_or_ge k 10 with z | z
      · exact z
      · exact (c ((cle (n := 10) (by omega) (by omega)).mpr z)).elim
    have e1 : V (h + 1 + 0) (nI k).toNatClampNeg = nI (σ (10 * a + k)) := by rw [ccl (by omega)]; exact q k h1
    have hb1 := hb k h1
    refine ⟨vp_in_nI h1 (by decide), fun c2 => ?_, fun c2 => ?_⟩
    · rw [e1, ceq (by omega) (by omega)] at c2
      refine ⟨10 - (k + 1), by omega, k + 1, by omega, rfl, nI_1 k, ?_, rfl⟩
      simp [cntTo, c2]
    · rw [e1, ceq (by omega) (by omega)] at c2
      refine ⟨10 - (k + 1), by omega, k + 1, by omega, rfl, nI_1 k, ?_, rfl⟩
      simp [cntTo, c2, nI_1]
theorem k6_countStanding (hh : isSide h) (q : ∀ i, i < 10 → V (h + 1) i = nI (σ (10 * a + i))) (hb : ∀ i, i < 10 → σ (10 * a + i) ≤ 4) : RD J mX6_countStanding [.ref h] V (nI (cnt σ a 0 3)) := by
  refine v_X6_countStanding h hh ?_
  unfold F_X6_countStanding
  refine rd_i (k6_count hh q hb 0 (by omega)) (rd_i (k6_count hh q hb 3 (by omega)) ⟨?_, rfl⟩)
  rw [nI_add, ← cnt_split σ a 0 3 (by decide)]
theorem k6_isOn (hh : isSide h) (q : ∀ i, i < 10 → V (h + 1) i = nI (σ (10 * a + i))) (hb : ∀ i, i < 10 → σ (10 * a + i) ≤ 4) (p : Int32) : RD J mX6_isOn [.ref h, .int p] V (bI (isIx p 10 && decide (σ (10 * a + p.toNatClampNeg) = 0))) := by
  refine v_X6_isOn h p hh (rd_b (k7_isPlayer J p V) ⟨fun c => ⟨by rw [c]; rfl, rfl⟩, fun c => ?_⟩)
  obtain ⟨i, hi, rfl⟩ := isIx_ex (by decide) c
  have e1 : V (h + 1 + 0) (nI i).toNatClampNeg = nI (σ (10 * a + i)) := by rw [ccl (by omega)]; exact q i hi
  have hb1 := hb i hi
  refine ⟨vp_in_nI hi (by decide), fun c2 => ⟨?_, rfl⟩, fun c2 => ⟨?_, rfl⟩⟩
  · rw [e1, show (0 : Int32) = nI 0 from rfl, ceq (by omega) (by omega)] at c2
    rw [ccl (by omega), c]
    simp [bI, c2]
  · rw [e1, show (0 : Int32) = nI 0 from rfl, ceq (by omega) (by omega)] at c2
    rw [ccl (by omega), c]
    simp [bI, c2]
theorem k6_stateOf (hh : isSide h) (q : ∀ i, i < 10 → V (h + 1) i = nI (σ (10 * a + i))) (p : Int32) : RD J mX6_stateOf [.ref h, .int p] V (if isIx p 10 = true then nI (σ (10 * a + p.toNatClampNeg)) else -1) := by
  refine v_X6_stateOf h p hh (rd_b (k7_isPlayer J p V) ⟨fun c => ⟨by rw [c]; rfl, rfl⟩, fun c => ?_⟩)
  obtain ⟨i, hi, rfl⟩ := isIx_ex (by decide) c
  refine ⟨vp_in_nI hi (by decide), ?_, rfl⟩
  rw [c, if_pos rfl, ccl (by omega)]
  exact congrArg (fun z => some (Value.int z)) (q i hi)
theorem k6_madeBy (hh : isSide h) (q : sdOK V h a σ) (p : Int32) : RD J mX6_madeBy [.ref h, .int p] V (if isIx p 10 = true then nI (σ (60 + 10 * a + p.toNatClampNeg)) else 0) := by
  refine v_X6_madeBy h p hh (rd_b (k7_isPlayer J p V) ⟨fun c => ⟨by rw [c]; rfl, rfl⟩, fun c => ?_⟩)
  obtain ⟨i, hi, rfl⟩ := isIx_ex (by decide) c
  refine ⟨vp_in_nI hi (by decide), ?_, rfl⟩
  rw [c, if_pos rfl, ccl (by omega)]
  exact congrArg (fun z => some (Value.int z)) (q.2.2.2.1 i hi)
theorem k6_outAt (hh : isSide h) (q : sdOK V h a σ) (hm : σ (100 + a) ≤ 10) (p : Int32) : RD J mX6_outAt [.ref h, .int p] V (if isIx p (σ (100 + a)) = true then nI (σ (80 + 10 * a + p.toNatClampNeg)) else -1) := by
  refine v_X6_outAt h p hh ?_
  unfold F_X6_outAt
  have hz : (nI (σ (100 + a))).toInt = (σ (100 + a) : Int) := nI_toInt (by omega)
  have h0 : (0 : Int32).toInt = 0 := rfl
  have h10 : (10 : Int32).toInt = 10 := rfl
  have hno : ∀ (c : ¬ (0 ≤ p.toInt ∧ p.toInt < (σ (100 + a) : Int))), (if isIx p (σ (100 + a)) = true then nI (σ (80 + 10 * a + p.toNatClampNeg)) else -1) = -1 := by
    intro c
    rw [if_neg]
    rw [isIx_t, vp_in_iff]
    exact c
  rw [q.2.2.2.2.2.1]
  refine ⟨fun c => ⟨?_, rfl⟩, fun c => ⟨fun c2 => ⟨?_, rfl⟩, fun c2 => ⟨fun c3 => ⟨?_, rfl⟩, fun c3 => ⟨?_, ?_, rfl⟩⟩⟩⟩
  · rw [hno (by rw [i_lt, h0] at c; omega)]
  · rw [hno (by rw [i_le, hz] at c2; omega)]
  · rw [hno (by rw [i_le, h10] at c3; omega)]
  · rw [vp_in_iff]
    rw [i_lt, h0] at c
    rw [i_le, h10] at c3
    omega
  · have hi : isIx p (σ (100 + a)) = true := by
      rw [isIx_t, vp_in_iff]
      rw [i_lt, h0] at c
      rw [i_le, hz] at c2
      omega
    obtain ⟨k, hk, rfl⟩ := isIx_ex (by omega) hi
    rw [hi, if_pos rfl, ccl (by omega)]
    exact congrArg (fun z => some (Value.int z)) (q.2.2.2.2.1 k hk)
end SideM
