/-! the rest of a side -/
theorem lpE {n k : Nat} (hn : n < 2147483648) (hk : k ≤ n) (c : nI n ≤ nI k) : k = n := by
  have := (cle hn (by omega)).mp c
  omega
theorem lpL {n k : Nat} (hn : n < 2147483648) (hk : k ≤ n) (c : ¬ nI n ≤ nI k) : k < n := by
  rcases Nat.lt_or_ge k n with z | z
  · exact z
  · exact (c ((cle hn (by omega)).mpr z)).elim
def bitsTo (σ : Sg) (a : Nat) : Nat → Nat
  | 0 => 0
  | n + 1 => bitsTo σ a n + (if σ (10 * a + n) = 0 then 2 ^ n else 0)
def bits (σ : Sg) (a : Nat) : Nat := bitsTo σ a 10
theorem bitsTo_lt (σ : Sg) (a : Nat) : ∀ n, bitsTo σ a n < 2 ^ n
  | 0 => Nat.one_pos
  | n + 1 => by
    have := bitsTo_lt σ a n
    unfold bitsTo
    rw [Nat.pow_succ]
    split <;> omega
theorem or_bit : ∀ n, n < 10 → ∀ b, b < 2 ^ n → (nI b ||| (1 <<< (nI n &&& 31))) = nI (b + 2 ^ n) := by decide +kernel
theorem bitsTo_y {σ : Sg} {a n : Nat} (hn : n < 10) (h : σ (10 * a + n) = 0) : (nI (bitsTo σ a n) ||| (1 <<< (nI n &&& 31))) = nI (bitsTo σ a (n + 1)) := by
  rw [or_bit n hn _ (bitsTo_lt σ a n)]
  show _ = nI (bitsTo σ a n + _)
  rw [if_pos h]
theorem bitsTo_n {σ : Sg} {a n : Nat} (h : ¬ σ (10 * a + n) = 0) : bitsTo σ a (n + 1) = bitsTo σ a n := by
  show bitsTo σ a n + _ = _
  rw [if_neg h]; rfl
def bitN (c k : Nat) : Nat := c / 2 ^ k % 2
theorem sh_bit : ∀ c, c < 8 → ∀ k, k < 2 → ((((nI c >>> (nI k &&& 31)) &&& 1) = 1) ↔ bitN c k = 1) := by decide +kernel
def orN (c k : Nat) : Nat := c ||| (1 <<< k)
theorem sh_or : ∀ c, c < 8 → ∀ k, k < 3 → (nI c ||| (1 <<< (nI k &&& 31))) = nI (orN c k) := by decide +kernel
theorem orN_lt : ∀ c, c < 8 → ∀ k, k < 3 → orN c k < 8 := by decide +kernel
/-- the colour that a card becomes -/
def colF (c k : Nat) : Nat := if k = 0 then (if bitN c 0 = 1 then (if bitN c 1 = 1 then 2 else 1) else 0) else if k = 1 then (if bitN c 1 = 1 then 2 else 1) else k
theorem colF_st : ∀ c, c < 8 → ∀ k, k < 2 → bitN c k = 1 → colF c (k + 1) = colF c k := by decide +kernel
theorem colF_sp : ∀ c, c < 8 → ∀ k, k < 2 → ¬ bitN c k = 1 → colF c k = k := by decide +kernel
theorem colF_2 (c : Nat) : colF c 2 = 2 := rfl
theorem colF_lt : ∀ c, c < 8 → ∀ k, k < 3 → colF c k < 3 := by decide +kernel
section SdUp
variable {V : Mem} {h a p v : Nat} {σ : Sg}
theorem sd_st (q : sdOK V h a σ) (ha : a < 2) (hp : p < 10) (hm : σ (100 + a) ≤ 10) (hv : v ≠ 3) : sdOK (up2 V (h + 1) p (nI v)) h a (up1 σ (10 * a + p) v) := by
  obtain ⟨q1, q2, q3, q4, q5, q6, q7, q8, q9⟩ := q
  refine ⟨fun i hi => ?_, fun i hi hs => ?_, fun i hi => ?_, fun i hi => ?_, fun k hk => ?_, ?_, ?_, ?_, ?_⟩
  · by_cases hip : i = p
    · subst hip; rw [up2_at, up1_at, up1_at]
    · rw [up2_at, up1_off _ _ hip, up1_off _ _ (by omega)]; exact q1 i hi
  · by_cases hip : i = p
    · subst hip; rw [up1_at] at hs; exact (hv hs).elim
    · rw [up1_off _ _ (by omega)] at hs; rw [up2_off _ _ _ (by omega), up1_off _ _ (by omega)]; exact q2 i hi hs
  · rw [up2_off _ _ _ (by omega), up1_off _ _ (by omega)]; exact q3 i hi
  · rw [up2_off _ _ _ (by omega), up1_off _ _ (by omega)]; exact q4 i hi
  · rw [up1_off _ _ (by omega)] at hk
    rw [up2_off _ _ _ (by omega), up1_off _ _ (by omega)]; exact q5 k hk
  · rw [up2_off _ _ _ (by omega), up1_off _ _ (by omega)]; exact q6
  · rw [up2_off _ _ _ (by omega), up1_off _ _ (by omega)]; exact q7
  · rw [up2_off _ _ _ (by omega), up1_off _ _ (by omega)]; exact q8
  · rw [up2_off _ _ _ (by omega), up1_off _ _ (by omega)]; exact q9
theorem sd_susp {t : Nat} (q : sdOK V h a σ) (ha : a < 2) (hp : p < 10) (hm : σ (100 + a) ≤ 10) : sdOK (up2 (up2 V (h + 1) p 3) (h + 2) p (nI t)) h a (up1 (up1 σ (10 * a + p) 3) (20 + 10 * a + p) t) := by
  obtain ⟨q1, q2, q3, q4, q5, q6, q7, q8, q9⟩ := q
  refine ⟨fun i hi => ?_, fun i hi hs => ?_, fun i hi => ?_, fun i hi => ?_, fun k hk => ?_, ?_, ?_, ?_, ?_⟩
  · rw [up2_off _ _ _ (by omega), up1_off _ _ (by omega)]
    by_cases hip : i = p
    · subst hip; rw [up2_at, up1_at, up1_at]; rfl
    · rw [up2_at, up1_off _ _ hip, up1_off _ _ (by omega)]; exact q1 i hi
  · rw [up2_at]
    by_cases hip : i = p
    · subst hip; rw [up1_at, up1_at]
    · rw [up1_off _ _ (by omega), up1_off _ _ (by omega)] at hs
      rw [up1_off _ _ hip, up2_off _ _ _ (by omega), up1_off _ _ (by omega), up1_off _ _ (by omega)]; exact q2 i hi hs
  · rw [up2_off _ _ _ (by omega), up2_off _ _ _ (by omega), up1_off _ _ (by omega), up1_off _ _ (by omega)]; exact q3 i hi
  · rw [up2_off _ _ _ (by omega), up2_off _ _ _ (by omega), up1_off _ _ (by omega), up1_off _ _ (by omega)]; exact q4 i hi
  · rw [up1_off _ _ (by omega), up1_off _ _ (by omega)] at hk
    rw [up2_off _ _ _ (by omega), up2_off _ _ _ (by omega), up1_off _ _ (by omega), up1_off _ _ (by omega)]; exact q5 k hk
  · rw [up2_off _ _ _ (by omega), up2_off _ _ _ (by omega), up1_off _ _ (by omega), up1_off _ _ (by omega)]; exact q6
  · rw [up2_off _ _ _ (by omega), up2_off _ _ _ (by omega), up1_off _ _ (by omega), up1_off _ _ (by omega)]; exact q7
  · rw [up2_off _ _ _ (by omega), up2_off _ _ _ (by omega), up1_off _ _ (by omega), up1_off _ _ (by omega)]; exact q8
  · rw [up2_off _ _ _ (by omega), up2_off _ _ _ (by omega), up1_off _ _ (by omega), up1_off _ _ (by omega)]; exact q9
theorem sd_card (q : sdOK V h a σ) (ha : a < 2) (hp : p < 10) (hm : σ (100 + a) ≤ 10) : sdOK (up2 V (h + 3) p (nI v)) h a (up1 σ (40 + 10 * a + p) v) := by
  obtain ⟨q1, q2, q3, q4, q5, q6, q7, q8, q9⟩ := q
  refine ⟨fun i hi => ?_, fun i hi hs => ?_, fun i hi => ?_, fun i hi => ?_, fun k hk => ?_, ?_, ?_, ?_, ?_⟩
  · rw [up2_off _ _ _ (by omega), up1_off _ _ (by omega)]; exact q1 i hi
  · rw [up1_off _ _ (by omega)] at hs; rw [up2_off _ _ _ (by omega), up1_off _ _ (by omega)]; exact q2 i hi hs
  · by_cases hip : i = p
    · subst hip; rw [up2_at, up1_at, up1_at]
    · rw [up2_at, up1_off _ _ hip, up1_off _ _ (by omega)]; exact q3 i hi
  · rw [up2_off _ _ _ (by omega), up1_off _ _ (by omega)]; exact q4 i hi
  · rw [up1_off _ _ (by omega)] at hk
    rw [up2_off _ _ _ (by omega), up1_off _ _ (by omega)]; exact q5 k hk
  · rw [up2_off _ _ _ (by omega), up1_off _ _ (by omega)]; exact q6
  · rw [up2_off _ _ _ (by omega), up1_off _ _ (by omega)]; exact q7
  · rw [up2_off _ _ _ (by omega), up1_off _ _ (by omega)]; exact q8
  · rw [up2_off _ _ _ (by omega), up1_off _ _ (by omega)]; exact q9
/-- the fields 6, 7, 8 -/
theorem sd_fld {f : Nat} (q : sdOK V h a σ) (ha : a < 2) (hm : σ (100 + a) ≤ 10) (hf : f = 6 ∨ f = 7 ∨ f = 8) : sdOK (up2 V h f (nI v)) h a (up1 σ (90 + 2 * f + a) v) := by
  obtain ⟨q1, q2, q3, q4, q5, q6, q7, q8, q9⟩ := q
  refine ⟨fun i hi => ?_, fun i hi hs => ?_, fun i hi => ?_, fun i hi => ?_, fun k hk => ?_, ?_, ?_, ?_, ?_⟩
  · rw [up2_off _ _ _ (by omega), up1_off _ _ (by omega)]; exact q1 i hi
  · rw [up1_off _ _ (by omega)] at hs; rw [up2_off _ _ _ (by omega), up1_off _ _ (by omega)]; exact q2 i hi hs
  · rw [up2_off _ _ _ (by omega), up1_off _ _ (by omega)]; exact q3 i hi
  · rw [up2_off _ _ _ (by omega), up1_off _ _ (by omega)]; exact q4 i hi
  · rw [up1_off _ _ (by omega)] at hk
    rw [up2_off _ _ _ (by omega), up1_off _ _ (by omega)]; exact q5 k hk
  · rw [up2_at, up1_off _ _ (by omega), up1_off _ _ (by omega)]; exact q6
  · rw [up2_at]
    by_cases h6 : f = 6
    · subst h6; rw [up1_at, show 102 + a = 90 + 2 * 6 + a from rfl, up1_at]
    · rw [up1_off _ _ (by omega), up1_off _ _ (by omega)]; exact q7
  · rw [up2_at]
    by_cases h6 : f = 7
    · subst h6; rw [up1_at, show 104 + a = 90 + 2 * 7 + a from rfl, up1_at]
    · rw [up1_off _ _ (by omega), up1_off _ _ (by omega)]; exact q8
  · rw [up2_at]
    by_cases h6 : f = 8
    · subst h6; rw [up1_at, show 106 + a = 90 + 2 * 8 + a from rfl, up1_at]
    · rw [up1_off _ _ (by omega), up1_off _ _ (by omega)]; exact q9
/-- an end of a suspension that no one serves -/
theorem sd_unt {t : Nat} (q : sdOK V h a σ) (ha : a < 2) (hp : p < 10) (hm : σ (100 + a) ≤ 10) (h3 : σ (10 * a + p) ≠ 3) : sdOK V h a (up1 σ (20 + 10 * a + p) t) := by
  obtain ⟨q1, q2, q3, q4, q5, q6, q7, q8, q9⟩ := q
  refine ⟨fun i hi => ?_, fun i hi hs => ?_, fun i hi => ?_, fun i hi => ?_, fun k hk => ?_, ?_, ?_, ?_, ?_⟩
  · rw [up1_off _ _ (by omega)]; exact q1 i hi
  · rw [up1_off _ _ (by omega)] at hs
    by_cases hip : i = p
    · subst hip; exact (h3 hs).elim
    · rw [up1_off _ _ (by omega)]; exact q2 i hi hs
  · rw [up1_off _ _ (by omega)]; exact q3 i hi
  · rw [up1_off _ _ (by omega)]; exact q4 i hi
  · rw [up1_off _ _ (by omega)] at hk
    rw [up1_off _ _ (by omega)]; exact q5 k hk
  · rw [up1_off _ _ (by omega)]; exact q6
  · rw [up1_off _ _ (by omega)]; exact q7
  · rw [up1_off _ _ (by omega)]; exact q8
  · rw [up1_off _ _ (by omega)]; exact q9
end SdUp
def sg0 : Sg := fun k => if k < 20 ∧ 6 < k % 10 then 1 else 0
def sgSwap (σ : Sg) (a x y : Nat) : Sg := up1 (up1 (up1 σ (10 * a + x) 1) (10 * a + y) 0) (102 + a) (σ (102 + a) + 1)
/-- what the side of the player alone keeps of a card -/
def sgTake (σ : Sg) (a p c t : Nat) : Sg :=
  if c = 1 then up1 (up1 (up1 σ (40 + 10 * a + p) (orN (σ (40 + 10 * a + p)) c)) (10 * a + p) 3) (20 + 10 * a + p) (t + 1200)
  else if c = 2 then up1 (up1 σ (40 + 10 * a + p) (orN (σ (40 + 10 * a + p)) c)) (10 * a + p) 4
  else up1 σ (40 + 10 * a + p) (orN (σ (40 + 10 * a + p)) c)
section SideX
variable {J : Nat → Nat → Int64} {V : Mem} {h a : Nat} {σ : Sg}
theorem k6_onBits (hh : isSide h) (q : ∀ i, i < 10 → V (h + 1) i = nI (σ (10 * a + i))) (hb : ∀ i, i < 10 → σ (10 * a + i) ≤ 4) : RD J mX6_onBits [.ref h] V (nI (bits σ a)) := by
  refine v_X6_onBits h hh ?_
  unfold F_X6_onBits F_X6_onBits_4
  refine ⟨fun n x1 x2 V' => ∃ k, k ≤ 10 ∧ n = 10 - k ∧ x2 = nI k ∧ x1 = nI (bitsTo σ a k) ∧ V = V', ⟨10, 0, by omega, rfl, rfl, rfl, rfl⟩, ?_⟩
  rintro n x1 x2 V' ⟨k, hk, hn, rfl, rfl, rfl⟩
  unfold B_X6_onBits_4 F_X6_onBits_25
  refine ⟨fun c => ?_, fun c => ?_⟩
  · have h2 := lpE (n := 10) (by omega) hk c
    subst h2
    exact ⟨rfl, rfl⟩
  · have h1 := lpL (n := 10) (by omega) hk c
    have e1 : V (h + 1 + 0) (nI k).toNatClampNeg = nI (σ (10 * a + k)) := by rw [ccl (by omega)]; exact q k h1
    have hb1 := hb k h1
    refine ⟨vp_in_nI h1 (by decide), fun c2 => ?_, fun c2 => ?_⟩
    · rw [e1, show (0 : Int32) = nI 0 from rfl, ceq (by omega) (by omega)] at c2
      exact ⟨10 - (k + 1), by omega, k + 1, by omega, rfl, nI_1 k, by rw [bitsTo_n c2], rfl⟩
    · rw [e1, show (0 : Int32) = nI 0 from rfl, ceq (by omega) (by omega)] at c2
      exact ⟨10 - (k + 1), by omega, k + 1, by omega, rfl, nI_1 k, bitsTo_y h1 c2, rfl⟩
theorem k6_colourFor (hh : isSide h) (q : sdOK V h a σ) (p k : Nat) (hp : p < 10) (hk : k < 3) (hc : σ (40 + 10 * a + p) < 8) : RD J mX6_colourFor [.ref h, .int (nI p), .int (nI k)] V (nI (colF (σ (40 + 10 * a + p)) k)) := by
  refine v_X6_colourFor h (nI p) (nI k) hh (rd_b (k7_isPlayer J (nI p) V) ?_)
  rw [isIx_nI (by decide) hp]
  refine ⟨fun c => Bool.noConfusion c, fun _ => ⟨vp_in_nI hp (by decide), ?_⟩⟩
  have e3 : V (h + 1 + 2) (nI p).toNatClampNeg = nI (σ (40 + 10 * a + p)) := by rw [ccl (by omega)]; exact q.2.2.1 p hp
  unfold F_X6_colourFor_17 F_X6_colourFor_21
  rw [e3]
  refine ⟨fun n x3 x4 V' => ∃ j, k ≤ j ∧ j ≤ 2 ∧ n = 2 - j ∧ x3 = nI (σ (40 + 10 * a + p)) ∧ x4 = nI j ∧ colF (σ (40 + 10 * a + p)) j = colF (σ (40 + 10 * a + p)) k ∧ V = V', ⟨2 - k, k, by omega, by omega, rfl, rfl, rfl, rfl, rfl⟩, ?_⟩
  rintro n x3 x4 V' ⟨j, hj, hj2, hn, rfl, rfl, hcf, rfl⟩
  unfold B_X6_colourFor_21
  refine ⟨fun c => ?_, fun c => ?_⟩
  · have h2 := lpE (n := 2) (by omega) hj2 c
    subst h2
    rw [← hcf]
    exact ⟨rfl, rfl⟩
  · have h1 := lpL (n := 2) (by omega) hj2 c
    refine ⟨fun c2 => ?_, fun c2 => ?_⟩
    · rw [sh_bit _ hc j h1] at c2
      rw [← hcf, colF_sp _ hc j h1 c2]
      exact ⟨rfl, rfl⟩
    · rw [sh_bit _ hc j h1] at c2
      exact ⟨2 - (j + 1), by omega, j + 1, by omega, by omega, rfl, rfl, nI_1 j, by rw [colF_st _ hc j h1 c2, hcf], rfl⟩
theorem k6_mayGet (hh : isSide h) (q : sdOK V h a σ) (hb : ∀ i, i < 10 → σ (10 * a + i) ≤ 4) (p k : Nat) (hp : p < 10) (hk : k < 3) (hc : σ (40 + 10 * a + p) < 8) : RD J mX6_mayGet [.ref h, .int (nI p), .int (nI k)] V (bI (decide (σ (10 * a + p) = 0 ∧ (colF (σ (40 + 10 * a + p)) k = 0 ∨ cnt σ a 3 4 < 3)))) := by
  refine v_X6_mayGet h (nI p) (nI k) hh (rd_b (k6_isOn hh q.1 hb (nI p)) ?_)
  rw [isIx_nI (by decide) hp, ccl (by omega)]
  refine ⟨fun c => ?_, fun c => rd_i (k6_colourFor hh q p k hp hk hc) ?_⟩
  · simp only [Bool.true_and, decide_eq_false_iff_not] at c
    simp [bI, c]
  · simp only [Bool.true_and, decide_eq_true_eq] at c
    have hl := colF_lt _ hc k hk
    refine ⟨fun c2 => ?_, fun c2 => rd_i (k6_count hh q.1 hb 3 (by omega)) (rd_i (k6_count hh q.1 hb 4 (by omega)) ?_)⟩
    · rw [show (0 : Int32) = nI 0 from rfl, ceq (by omega) (by omega)] at c2
      simp [bI, c, c2]
    · rw [show (0 : Int32) = nI 0 from rfl, ceq (by omega) (by omega)] at c2
      have hs := cnt_split σ a 3 4 (by decide)
      have h3 := cnt_le σ a 3 4
      rw [nI_add, ← hs]
      refine ⟨fun c3 => ?_, fun c3 => ?_⟩
      · rw [show (3 : Int32) = nI 3 from rfl, cle (by omega) (by omega)] at c3
        rw [decide_eq_false (by omega)]
        exact ⟨rfl, rfl⟩
      · rw [show (3 : Int32) = nI 3 from rfl, cle (by omega) (by omega)] at c3
        rw [decide_eq_true (by omega)]
        exact ⟨rfl, rfl⟩
theorem k6_mayChange (hh : isSide h) (q : sdOK V h a σ) (hb : ∀ i, i < 10 → σ (10 * a + i) ≤ 4) (x y : Nat) (hx : x < 10) (hy : y < 10) (hc : σ (102 + a) ≤ 5) : RD J mX6_mayChange [.ref h, .int (nI x), .int (nI y)] V (bI (decide (σ (10 * a + x) = 0 ∧ σ (10 * a + y) = 1 ∧ σ (102 + a) < 5))) := by
  refine v_X6_mayChange h (nI x) (nI y) hh (rd_b (k6_isOn hh q.1 hb (nI x)) ?_)
  rw [isIx_nI (by decide) hx, ccl (by omega)]
  refine ⟨fun c => ?_, fun c => rd_i (k6_stateOf hh q.1 (nI y)) ?_⟩
  · simp only [Bool.true_and, decide_eq_false_iff_not] at c
    simp [bI, c]
  · simp only [Bool.true_and, decide_eq_true_eq] at c
    rw [isIx_nI (by decide) hy, if_pos rfl, ccl (by omega), q.2.2.2.2.2.2.1]
    have hby := hb y hy
    refine ⟨fun c2 => ?_, fun c2 => ⟨fun c3 => ?_, fun c3 => ?_⟩⟩
    · rw [show (1 : Int32) = nI 1 from rfl, ceq (by omega) (by omega)] at c2
      rw [decide_eq_false (by omega)]
      exact ⟨rfl, rfl⟩
    · rw [show (5 : Int32) = nI 5 from rfl, cle (by omega) (by omega)] at c3
      rw [decide_eq_false (by omega)]
      exact ⟨rfl, rfl⟩
    · rw [show (1 : Int32) = nI 1 from rfl, ceq (by omega) (by omega)] at c2
      rw [show (5 : Int32) = nI 5 from rfl, cle (by omega) (by omega)] at c3
      rw [decide_eq_true (by omega)]
      exact ⟨rfl, rfl⟩
theorem k6_swapPlayers (hh : isSide h) (q : sdOK V h a σ) (ha : a < 2) (x y : Nat) (hx : x < 10) (hy : y < 10) (hm : σ (100 + a) ≤ 10) : WR J mX6_swapPlayers [.ref h, .int (nI x), .int (nI y)] V h 6 (fun V' => sdOK V' h a (sgSwap σ a x y)) := by
  refine v_X6_swapPlayers h (nI x) (nI y) hh (rd_b (k7_isPlayer J (nI x) V) ?_)
  rw [isIx_nI (by decide) hx]
  refine ⟨fun c => Bool.noConfusion c, fun _ => rd_b (k7_isPlayer J (nI y) V) ?_⟩
  rw [isIx_nI (by decide) hy]
  refine ⟨fun c => Bool.noConfusion c, fun _ => ⟨vp_in_nI hx (by decide), vp_in_nI hy (by decide), rfl, ?_, ?_⟩⟩
  · exact offF_up (offF_up (offF_up (offF_rf _ _ _) (by omega)) (by omega)) (by omega)
  · have e6 : up2 (up2 V (h + 1 + 0) (nI x).toNatClampNeg 1) (h + 1 + 0) (nI y).toNatClampNeg 0 h 6 = nI (σ (102 + a)) := by
      rw [up2_off _ _ _ (by omega), up2_off _ _ _ (by omega)]
      exact q.2.2.2.2.2.2.1
    rw [e6, nI_1, ccl (by omega), ccl (by omega)]
    have q1 := sd_st q ha hx hm (v := 1) (by omega)
    have q2 := sd_st q1 ha hy (by rw [up1_off _ _ (by omega)]; exact hm) (v := 0) (by omega)
    exact sd_fld q2 ha (by rw [up1_off _ _ (by omega), up1_off _ _ (by omega)]; exact hm) (f := 6) (v := σ (102 + a) + 1) (Or.inl rfl)
theorem k6_takeCard (hh : isSide h) (q : sdOK V h a σ) (ha : a < 2) (p c t : Nat) (hp : p < 10) (hc : c < 3) (hm : σ (100 + a) ≤ 10) (h8 : σ (40 + 10 * a + p) < 8) : WR J mX6_takeCard [.ref h, .int (nI p), .int (nI c), .int (nI t)] V h 6 (fun V' => sdOK V' h a (sgTake σ a p c t)) := by
  refine v_X6_takeCard h (nI p) (nI c) (nI t) hh (rd_b (k7_isPlayer J (nI p) V) ?_)
  rw [isIx_nI (by decide) hp]
  refine ⟨fun _ => ⟨vp_in_nI hp (by decide), vp_in_nI hp (by decide), fun c1 => ⟨fun c2 => ?_, fun c2 => ⟨vp_in_nI hp (by decide), ?_⟩⟩, fun c1 => ⟨vp_in_nI hp (by decide), vp_in_nI hp (by decide), ?_⟩⟩, fun c => Bool.noConfusion c⟩
  all_goals
    have e3 : V (h + 1 + 2) (nI p).toNatClampNeg = nI (σ (40 + 10 * a + p)) := by rw [ccl (by omega)]; exact q.2.2.1 p hp
    rw [e3, sh_or _ h8 c hc, ccl (by omega)]
    have q1 := sd_card q ha hp hm (v := orN (σ (40 + 10 * a + p)) c)
    have m1 : up1 σ (40 + 10 * a + p) (orN (σ (40 + 10 * a + p)) c) (100 + a) ≤ 10 := by rw [up1_off _ _ (by omega)]; exact hm
    rw [show (1 : Int32) = nI 1 from rfl, ceq (by omega) (by omega)] at c1
  · rw [show (2 : Int32) = nI 2 from rfl, ceq (by omega) (by omega)] at c2
    refine ⟨rfl, offF_up (offF_rf _ _ _) (by omega), ?_⟩
    unfold sgTake
    rw [if_neg c1, if_neg c2]
    exact q1
  · rw [show (2 : Int32) = nI 2 from rfl, ceq (by omega) (by omega)] at c2
    refine ⟨rfl, offF_up (offF_up (offF_rf _ _ _) (by omega)) (by omega), ?_⟩
    unfold sgTake
    rw [if_neg c1, if_pos c2]
    exact sd_st q1 ha hp m1 (v := 4) (by omega)
  · refine ⟨rfl, offF_up (offF_up (offF_up (offF_rf _ _ _) (by omega)) (by omega)) (by omega), ?_⟩
    unfold sgTake
    rw [if_pos c1]
    rw [show (1200 : Int32) = nI 1200 from rfl, nI_add]
    exact sd_susp q1 ha hp m1
theorem k6_reset (hh : isSide h) (a : Nat) (ha : a < 2) : WR J mX6_reset [.ref h] V h 6 (fun V' => sdOK V' h a sg0) := by
  refine v_X6_reset h hh ?_
  unfold F_X6_reset F_X6_reset_2
  refine ⟨fun n x1 V' => ∃ k, k ≤ 10 ∧ n = 10 - k ∧ x1 = nI k ∧ offF V V' h 6 ∧ ∀ i, i < k → V' (h + 1) i = nI (sg0 (10 * a + i)) ∧ V' (h + 2) i = 0 ∧ V' (h + 3) i = 0 ∧ V' (h + 4) i = 0, ⟨10, 0, by omega, rfl, rfl, offF_rf _ _ _, fun i hi => by omega⟩, ?_⟩
  rintro n x1 V' ⟨k, hk, hn, rfl, hf, hq⟩
  unfold B_X6_reset_2
  have z : ∀ j, 20 ≤ j → sg0 j = 0 := fun j hj => if_neg (by omega)
  have step : k < 10 → ∀ w, w = sg0 (10 * a + k) → F_X6_reset_24 J h (fun x1 V' => ∃ n', n' < n ∧ ∃ k, k ≤ 10 ∧ n' = 10 - k ∧ x1 = nI k ∧ offF V V' h 6 ∧ ∀ i, i < k → V' (h + 1) i = nI (sg0 (10 * a + i)) ∧ V' (h + 2) i = 0 ∧ V' (h + 3) i = 0 ∧ V' (h + 4) i = 0) (nI k) (nI w) (nI k) V' (fun r V'' => r = none ∧ offF V V'' h 6 ∧ sdOK V'' h a sg0) NX := by
    intro h1 w hw
    unfold F_X6_reset_24
    refine ⟨vp_in_nI h1 (by decide), vp_in_nI h1 (by decide), vp_in_nI h1 (by decide), vp_in_nI h1 (by decide), 10 - (k + 1), by omega, k + 1, by omega, rfl, nI_1 k, ?_, fun i hi => ?_⟩
    · exact offF_up (offF_up (offF_up (offF_up hf (by omega)) (by omega)) (by omega)) (by omega)
    · rw [ccl (by omega), hw]
      by_cases hik : i = k
      · subst hik
        simp [up2_rw, up1]
      · have := hq i (by omega)
        simp [up2_rw, up1, hik, this]
  refine ⟨fun c => ?_, fun c => ?_⟩
  · have h2 := lpE (n := 10) (by omega) hk c
    subst h2
    refine ⟨rfl, offF_up (offF_up (offF_up (offF_up hf (by omega)) (by omega)) (by omega)) (by omega), ?_⟩
    refine ⟨fun i hi => ?_, fun i hi hs => ?_, fun i hi => ?_, fun i hi => ?_, fun j hj => ?_, ?_, ?_, ?_, ?_⟩
    · have := (hq i hi).1; simp [up2_rw, this]
    · rw [z _ (by omega)]; have := (hq i hi).2.1; simp [up2_rw, this]; rfl
    · rw [z _ (by omega)]; have := (hq i hi).2.2.1; simp [up2_rw, this]; rfl
    · rw [z _ (by omega)]; have := (hq i hi).2.2.2; simp [up2_rw, this]; rfl
    · rw [z _ (by omega)] at hj; omega
    · rw [z _ (by omega)]; simp [up2_rw, up1]; rfl
    · rw [z _ (by omega)]; simp [up2_rw, up1]; rfl
    · rw [z _ (by omega)]; simp [up2_rw, up1]; rfl
    · rw [z _ (by omega)]; simp [up2_rw, up1]; rfl
  · have h1 := lpL (n := 10) (by omega) hk c
    refine ⟨fun c2 => ?_, fun c2 => ?_⟩
    · have h7 : 7 ≤ k := (cle (n := 7) (by omega) (by omega)).mp c2
      exact step h1 1 (by unfold sg0; rw [if_pos (by omega)])
    · have h7 : ¬ 7 ≤ k := fun z => c2 ((cle (n := 7) (by omega) (by omega)).mpr z)
      exact step h1 0 (by unfold sg0; rw [if_neg (by omega)])
end SideX
