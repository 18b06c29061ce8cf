/-! what always holds of a side -/
theorem cnt_cg {σ τ : Sg} {a x y : Nat} (h : ∀ i, i < 10 → σ (10 * a + i) = τ (10 * a + i)) : cnt σ a x y = cnt τ a x y := cntTo_congr h
theorem cnt_up {σ : Sg} {a x p v : Nat} (hp : p < 10) : cnt (up1 σ (10 * a + p) v) a x x + (if σ (10 * a + p) = x then 1 else 0) = cnt σ a x x + (if v = x then 1 else 0) := by
  have h := cntTo_up (σ := σ) (a := a) (x := x) (y := x) (i := p) (v := v) hp
  simpa [cnt] using h
theorem cnt_lt {σ : Sg} {a x p : Nat} (hp : p < 10) (h : σ (10 * a + p) ≠ x) : cnt σ a x x < 10 := by
  have h1 := cnt_up (σ := σ) (a := a) (x := x) (v := x) hp
  have h2 := cnt_le (up1 σ (10 * a + p) x) a x x
  rw [if_neg h, if_pos rfl] at h1
  omega
def wfS (σ : Sg) (a : Nat) : Prop :=
  (∀ i, i < 10 → σ (10 * a + i) ≤ 4) ∧ σ (100 + a) = cnt σ a 2 2 ∧ (∀ k, k < σ (100 + a) → σ (80 + 10 * a + k) < 10 ∧ σ (10 * a + σ (80 + 10 * a + k)) = 2) ∧ (∀ k l, k < l → l < σ (100 + a) → σ (80 + 10 * a + k) ≠ σ (80 + 10 * a + l)) ∧
  cnt σ a 1 1 = 3 ∧ σ (102 + a) ≤ 5 ∧ σ (106 + a) ≤ 2 ∧ ∀ i, i < 10 → σ (40 + 10 * a + i) < 8
/-- the numbers that it speaks of -/
def inWf (a j : Nat) : Prop := (10 * a ≤ j ∧ j < 10 * a + 10) ∨ (40 + 10 * a ≤ j ∧ j < 50 + 10 * a) ∨ (80 + 10 * a ≤ j ∧ j < 90 + 10 * a) ∨ j = 100 + a ∨ j = 102 + a ∨ j = 106 + a
theorem wfS_cg {σ τ : Sg} {a : Nat} (q : wfS σ a) (h : ∀ j, inWf a j → τ j = σ j) : wfS τ a := by
  obtain ⟨q1, q2, q3, q4, q5, q6, q7, q8⟩ := q
  have h0 := h (100 + a) (by unfold inWf; omega)
  have hs : ∀ i, i < 10 → τ (10 * a + i) = σ (10 * a + i) := fun i hi => h _ (by unfold inWf; omega)
  have hm : σ (100 + a) ≤ 10 := by rw [q2]; exact cnt_le _ _ _ _
  have hr : ∀ k, k < σ (100 + a) → τ (80 + 10 * a + k) = σ (80 + 10 * a + k) := fun k hk => h _ (by unfold inWf; omega)
  refine ⟨fun i hi => ?_, ?_, fun k hk => ?_, fun k l hkl hl => ?_, ?_, ?_, ?_, fun i hi => ?_⟩
  · rw [hs i hi]; exact q1 i hi
  · rw [h0, cnt_cg hs]; exact q2
  · rw [h0] at hk
    obtain ⟨r1, r2⟩ := q3 k hk
    rw [hr k hk, hs _ r1]
    exact ⟨r1, r2⟩
  · rw [h0] at hl
    rw [hr k (by omega), hr l hl]
    exact q4 k l hkl hl
  · rw [cnt_cg hs]; exact q5
  · rw [h _ (by unfold inWf; omega)]; exact q6
  · rw [h _ (by unfold inWf; omega)]; exact q7
  · rw [h _ (by unfold inWf; omega)]; exact q8 i hi
theorem wfS_m {σ : Sg} {a : Nat} (q : wfS σ a) : σ (100 + a) ≤ 10 := by rw [q.2.1]; exact cnt_le _ _ _ _
theorem wfS_on {σ : Sg} {a p : Nat} (q : wfS σ a) (hp : p < 10) (h : σ (10 * a + p) ≠ 2) : σ (100 + a) < 10 := by rw [q.2.1]; exact cnt_lt hp h
theorem wfS_rows {σ : Sg} {a : Nat} (q : wfS σ a) : rowsOK σ a := ⟨wfS_m q, fun k hk => (q.2.2.1 k hk).1⟩
theorem wfS_up {σ : Sg} {a k v : Nat} (q : wfS σ a) (h : ¬ inWf a k) : wfS (up1 σ k v) a := wfS_cg q (fun j hj => up1_off _ _ (fun z => h (z ▸ hj)))
theorem sgOut_o {σ : Sg} {a p j : Nat} (h1 : j ≠ 10 * a + p) (h2 : j ≠ 80 + 10 * a + σ (100 + a)) (h3 : j ≠ 100 + a) : sgOut σ a p j = σ j := by
  unfold sgOut
  rw [up1_off _ _ h3, up1_off _ _ h2, up1_off _ _ h1]
theorem sgOut_m (σ : Sg) (a p : Nat) : sgOut σ a p (100 + a) = σ (100 + a) + 1 := up1_at _ _ _
theorem sgOut_st {σ : Sg} {a p i : Nat} (ha : a < 2) (hi : i < 10) : sgOut σ a p (10 * a + i) = up1 σ (10 * a + p) 2 (10 * a + i) := by
  unfold sgOut
  rw [up1_off _ _ (by omega), up1_off _ _ (by omega)]
theorem sgOut_new {σ : Sg} {a p : Nat} (ha : a < 2) (hm : σ (100 + a) < 10) : sgOut σ a p (80 + 10 * a + σ (100 + a)) = p := by
  unfold sgOut
  rw [up1_off _ _ (by omega), up1_at]
theorem wfS_out {σ : Sg} {a p : Nat} (q : wfS σ a) (ha : a < 2) (hp : p < 10) (h0 : σ (10 * a + p) = 0) : wfS (sgOut σ a p) a := by
  have hm := wfS_on q hp (by omega)
  obtain ⟨q1, q2, q3, q4, q5, q6, q7, q8⟩ := q
  have hst : ∀ i, i < 10 → i ≠ p → sgOut σ a p (10 * a + i) = σ (10 * a + i) := fun i hi hne => by rw [sgOut_st ha hi, up1_off _ _ (by omega)]
  have hsp : sgOut σ a p (10 * a + p) = 2 := by rw [sgOut_st ha hp, up1_at]
  have hro : ∀ k, k < σ (100 + a) → sgOut σ a p (80 + 10 * a + k) = σ (80 + 10 * a + k) := fun k hk => sgOut_o (by omega) (by omega) (by omega)
  refine ⟨fun i hi => ?_, ?_, fun k hk => ?_, fun k l hkl hl => ?_, ?_, ?_, ?_, fun i hi => ?_⟩
  · by_cases hip : i = p
    · subst hip; rw [hsp]; omega
    · rw [hst i hi hip]; exact q1 i hi
  · have h1 := cnt_up (σ := σ) (a := a) (x := 2) (v := 2) hp
    rw [if_neg (by omega), if_pos rfl] at h1
    rw [sgOut_m, cnt_cg (fun i hi => sgOut_st ha hi)]
    omega
  · rw [sgOut_m] at hk
    by_cases hke : k = σ (100 + a)
    · subst hke
      rw [sgOut_new ha hm]
      exact ⟨hp, hsp⟩
    · obtain ⟨r1, r2⟩ := q3 k (by omega)
      rw [hro k (by omega)]
      refine ⟨r1, ?_⟩
      rw [hst _ r1 (fun z => by rw [z] at r2; omega)]
      exact r2
  · rw [sgOut_m] at hl
    rw [hro k (by omega)]
    by_cases hle : l = σ (100 + a)
    · subst hle
      rw [sgOut_new ha hm]
      intro z
      have r2 := (q3 k hkl).2
      rw [z] at r2
      omega
    · rw [hro l (by omega)]
      exact q4 k l hkl (by omega)
  · have h1 := cnt_up (σ := σ) (a := a) (x := 1) (v := 2) hp
    rw [if_neg (by omega), if_neg (by omega)] at h1
    rw [cnt_cg (fun i hi => sgOut_st ha hi)]
    omega
  · rw [sgOut_o (by omega) (by omega) (by omega)]; exact q6
  · rw [sgOut_o (by omega) (by omega) (by omega)]; exact q7
  · rw [sgOut_o (by omega) (by omega) (by omega)]; exact q8 i hi
theorem sgBack_o {σ : Sg} {a j : Nat} (h1 : j < 80 + 10 * a ∨ 90 + 10 * a ≤ j) (hm : σ (100 + a) ≤ 10) (h2 : j ≠ 100 + a) (h3 : j ≠ 10 * a + σ (80 + 10 * a)) : sgBack σ a j = σ j := by
  by_cases h0 : σ (100 + a) = 0
  · rw [sgBack_0 h0]
  · rw [sgBack_at h0, if_neg (by omega), if_neg h2, if_neg h3]
theorem wfS_back {σ : Sg} {a : Nat} (q : wfS σ a) (ha : a < 2) : wfS (sgBack σ a) a := by
  by_cases h0 : σ (100 + a) = 0
  · rw [sgBack_0 h0]; exact q
  have hm := wfS_m q
  have hbm := sgBack_m ha hm
  obtain ⟨q1, q2, q3, q4, q5, q6, q7, q8⟩ := q
  obtain ⟨p1, p2⟩ := q3 0 (by omega)
  rw [Nat.add_zero] at p1 p2
  have hst : ∀ i, i < 10 → sgBack σ a (10 * a + i) = up1 σ (10 * a + σ (80 + 10 * a)) 0 (10 * a + i) := by
    intro i hi
    rw [sgBack_at h0, if_neg (by omega), if_neg (by omega)]
    rfl
  have hro : ∀ k, k < σ (100 + a) - 1 → sgBack σ a (80 + 10 * a + k) = σ (80 + 10 * a + (k + 1)) := fun k hk => by rw [sgBack_at h0, if_pos (by omega)]; rfl
  have c2 := cnt_up (σ := σ) (a := a) (x := 2) (v := 0) p1
  rw [if_pos p2, if_neg (by omega)] at c2
  have c1 := cnt_up (σ := σ) (a := a) (x := 1) (v := 0) p1
  rw [if_neg (by omega), if_neg (by omega)] at c1
  refine ⟨fun i hi => ?_, ?_, fun k hk => ?_, fun k l hkl hl => ?_, ?_, ?_, ?_, fun i hi => ?_⟩
  · rw [hst i hi]
    by_cases hip : i = σ (80 + 10 * a)
    · rw [hip, up1_at]; omega
    · rw [up1_off _ _ (by omega)]; exact q1 i hi
  · rw [hbm, cnt_cg hst]
    omega
  · rw [hbm] at hk
    obtain ⟨r1, r2⟩ := q3 (k + 1) (by omega)
    rw [hro k hk, hst _ r1]
    refine ⟨r1, ?_⟩
    have hne := q4 0 (k + 1) (by omega) (by omega)
    rw [Nat.add_zero] at hne
    rw [up1_off _ _ (by omega)]
    exact r2
  · rw [hbm] at hl
    rw [hro k (by omega), hro l hl]
    exact q4 (k + 1) (l + 1) (by omega) (by omega)
  · rw [cnt_cg hst]; omega
  · rw [sgBack_o (by omega) hm (by omega) (by omega)]; exact q6
  · rw [sgBack_o (by omega) hm (by omega) (by omega)]; exact q7
  · rw [sgBack_o (by omega) hm (by omega) (by omega)]; exact q8 i hi
theorem wfS_come {σ : Sg} {a : Nat} (q : wfS σ a) (ha : a < 2) : ∀ n, wfS (sgCome σ a n) a
  | 0 => q
  | n + 1 => wfS_back (wfS_come q ha n) ha
theorem sgBack_oo {σ : Sg} {a j : Nat} (q : wfS σ a) (ha : a < 2) (h : ¬ inSd a j) : sgBack σ a j = σ j := by
  by_cases h0 : σ (100 + a) = 0
  · rw [sgBack_0 h0]
  · have p1 := (q.2.2.1 0 (by omega)).1
    rw [Nat.add_zero] at p1
    unfold inSd at h
    exact sgBack_o (by omega) (wfS_m q) (by omega) (by omega)
theorem sgCome_oo {σ : Sg} {a j : Nat} (q : wfS σ a) (ha : a < 2) (h : ¬ inSd a j) : ∀ n, sgCome σ a n j = σ j
  | 0 => rfl
  | n + 1 => by
    show sgBack (sgCome σ a n) a j = _
    rw [sgBack_oo (wfS_come q ha n) ha h]
    exact sgCome_oo q ha h n
theorem sgOut_oo {σ : Sg} {a p j : Nat} (ha : a < 2) (hp : p < 10) (hm : σ (100 + a) < 10) (h : ¬ inSd a j) : sgOut σ a p j = σ j := by
  unfold inSd at h
  exact sgOut_o (by omega) (by omega) (by omega)
/-- none grows but by the numbers added -/
theorem bdd_up {σ : Sg} {B k v : Nat} (q : bdd σ B) (hv : v ≤ B) : bdd (up1 σ k v) B := by
  intro j hj
  unfold up1
  split
  · exact hv
  · exact q j hj
theorem bdd_mono {σ : Sg} {B C : Nat} (q : bdd σ B) (h : B ≤ C) : bdd σ C := fun k hk => Nat.le_trans (q k hk) h
theorem bdd_out {σ : Sg} {B a p : Nat} (q : bdd σ B) (hB : 100 ≤ B) (hp : p < 10) (hm : σ (100 + a) < 10) : bdd (sgOut σ a p) B := bdd_up (bdd_up (bdd_up q (by omega)) (by omega)) (by omega)
theorem bdd_back {σ : Sg} {B a : Nat} (q : bdd σ B) (ha : a < 2) (hm : σ (100 + a) ≤ 10) : bdd (sgBack σ a) B := by
  intro j hj
  by_cases h0 : σ (100 + a) = 0
  · rw [sgBack_0 h0]; exact q j hj
  · rw [sgBack_at h0]
    have h1 := q (100 + a) (by omega)
    split
    · exact q _ (by omega)
    · split
      · omega
      · split
        · omega
        · exact q j hj
theorem bdd_come {σ : Sg} {B a : Nat} (q : bdd σ B) (ha : a < 2) (w : wfS σ a) : ∀ n, bdd (sgCome σ a n) B
  | 0 => q
  | n + 1 => bdd_back (bdd_come q ha w n) ha (wfS_m (wfS_come w ha n))
theorem bdd_susp {σ : Sg} {B a t n : Nat} (q : bdd σ B) : bdd (suspTo σ a t n) B := by
  intro j hj
  unfold suspTo
  split
  · omega
  · exact q j hj
theorem susp_o {σ : Sg} {a t j : Nat} (h : j < 10 * a ∨ 10 * a + 10 ≤ j) : suspTo σ a t 10 j = σ j := by
  unfold suspTo
  rw [if_neg (by omega)]
theorem cntTo_eq {σ τ : Sg} {a x : Nat} : ∀ {n}, (∀ i, i < n → (τ (10 * a + i) = x ↔ σ (10 * a + i) = x)) → cntTo τ a x x n = cntTo σ a x x n
  | 0, _ => rfl
  | n + 1, h => by
    unfold cntTo
    rw [cntTo_eq (fun i hi => h i (by omega))]
    have := h n (by omega)
    simp only [this]
theorem wfS_susp {σ : Sg} {a t : Nat} (q : wfS σ a) (ha : a < 2) : wfS (suspTo σ a t 10) a := by
  have hm := wfS_m q
  obtain ⟨q1, q2, q3, q4, q5, q6, q7, q8⟩ := q
  have e : ∀ i, i < 10 → ∀ x, x ≠ 3 → x ≠ 0 → (suspTo σ a t 10 (10 * a + i) = x ↔ σ (10 * a + i) = x) := by
    intro i hi x h3 h0
    unfold suspTo
    split
    · next z => constructor <;> intro y <;> omega
    · exact Iff.rfl
  have o : ∀ j, j < 10 * a ∨ 10 * a + 10 ≤ j → suspTo σ a t 10 j = σ j := fun j hj => susp_o hj
  have om := o (100 + a) (by omega)
  have c2 : cnt (suspTo σ a t 10) a 2 2 = cnt σ a 2 2 := cntTo_eq (fun i hi => e i hi 2 (by omega) (by omega))
  have c1 : cnt (suspTo σ a t 10) a 1 1 = cnt σ a 1 1 := cntTo_eq (fun i hi => e i hi 1 (by omega) (by omega))
  refine ⟨fun i hi => ?_, ?_, fun k hk => ?_, fun k l hkl hl => ?_, ?_, ?_, ?_, fun i hi => ?_⟩
  · unfold suspTo
    split
    · omega
    · exact q1 i hi
  · rw [om, c2]; exact q2
  · rw [om] at hk
    obtain ⟨r1, r2⟩ := q3 k hk
    rw [o (80 + 10 * a + k) (by omega)]
    exact ⟨r1, (e _ r1 2 (by omega) (by omega)).mpr r2⟩
  · rw [om] at hl
    rw [o (80 + 10 * a + k) (by omega), o (80 + 10 * a + l) (by omega)]
    exact q4 k l hkl hl
  · rw [c1]; exact q5
  · rw [o _ (by omega)]; exact q6
  · rw [o _ (by omega)]; exact q7
  · rw [o _ (by omega)]; exact q8 i hi
theorem wfS_sg0 {a : Nat} (ha : a < 2) : wfS sg0 a := by
  have z : ∀ j, 20 ≤ j → sg0 j = 0 := fun j hj => if_neg (by omega)
  have c : ∀ a, a < 2 → cnt sg0 a 2 2 = 0 ∧ cnt sg0 a 1 1 = 3 := by decide +kernel
  obtain ⟨c1, c2⟩ := c a ha
  refine ⟨fun i hi => ?_, ?_, fun k hk => ?_, fun k l hkl hl => ?_, c2, ?_, ?_, fun i hi => ?_⟩
  · unfold sg0; split <;> omega
  · rw [c1, z _ (by omega)]
  · rw [z _ (by omega)] at hk; omega
  · rw [z _ (by omega)] at hl; omega
  · rw [z _ (by omega)]; omega
  · rw [z _ (by omega)]; omega
  · rw [z _ (by omega)]; omega
theorem bdd_sg0 : bdd sg0 100 := by
  intro k hk
  unfold sg0
  split <;> omega
/-- a swap keeps it -/
theorem wfS_swap {σ : Sg} {a x y : Nat} (q : wfS σ a) (ha : a < 2) (hx : x < 10) (hy : y < 10) (h0 : σ (10 * a + x) = 0) (h1 : σ (10 * a + y) = 1) (h5 : σ (102 + a) < 5) : wfS (sgSwap σ a x y) a := by
  have hm := wfS_m q
  obtain ⟨q1, q2, q3, q4, q5, q6, q7, q8⟩ := q
  have hxy : x ≠ y := fun z => by rw [z] at h0; omega
  have o : ∀ j, j ≠ 10 * a + x → j ≠ 10 * a + y → j ≠ 102 + a → sgSwap σ a x y j = σ j := by
    intro j h1 h2 h3
    unfold sgSwap
    rw [up1_off _ _ h3, up1_off _ _ h2, up1_off _ _ h1]
  have st : ∀ i, i < 10 → sgSwap σ a x y (10 * a + i) = up1 (up1 σ (10 * a + x) 1) (10 * a + y) 0 (10 * a + i) := by
    intro i hi
    unfold sgSwap
    rw [up1_off _ _ (by omega)]
  have sx : up1 σ (10 * a + x) 1 (10 * a + y) = 1 := by rw [up1_off _ _ (by omega)]; exact h1
  have k1 := cnt_up (σ := σ) (a := a) (x := 2) (v := 1) hx
  have k2 := cnt_up (σ := up1 σ (10 * a + x) 1) (a := a) (x := 2) (v := 0) hy
  have k3 := cnt_up (σ := σ) (a := a) (x := 1) (v := 1) hx
  have k4 := cnt_up (σ := up1 σ (10 * a + x) 1) (a := a) (x := 1) (v := 0) hy
  rw [if_neg (by omega), if_neg (by omega)] at k1
  rw [if_neg (by omega), if_neg (by omega)] at k2
  rw [if_neg (by omega), if_pos rfl] at k3
  rw [if_pos sx, if_neg (by omega)] at k4
  have om := o (100 + a) (by omega) (by omega) (by omega)
  refine ⟨fun i hi => ?_, ?_, fun k hk => ?_, fun k l hkl hl => ?_, ?_, ?_, ?_, fun i hi => ?_⟩
  · rw [st i hi]
    unfold up1
    split
    · omega
    · split
      · omega
      · exact q1 i hi
  · rw [om, cnt_cg st]; omega
  · rw [om] at hk
    obtain ⟨r1, r2⟩ := q3 k hk
    rw [o (80 + 10 * a + k) (by omega) (by omega) (by omega)]
    refine ⟨r1, ?_⟩
    have n1 : σ (80 + 10 * a + k) ≠ x := fun z => by rw [z] at r2; omega
    have n2 : σ (80 + 10 * a + k) ≠ y := fun z => by rw [z] at r2; omega
    rw [o _ (by omega) (by omega) (by omega)]
    exact r2
  · rw [om] at hl
    rw [o (80 + 10 * a + k) (by omega) (by omega) (by omega), o (80 + 10 * a + l) (by omega) (by omega) (by omega)]
    exact q4 k l hkl hl
  · rw [cnt_cg st]; omega
  · unfold sgSwap; rw [up1_at]; omega
  · rw [o _ (by omega) (by omega) (by omega)]; exact q7
  · rw [o _ (by omega) (by omega) (by omega)]; exact q8 i hi
/-- a player who was on has another status, 3 or 4 -/
theorem wfS_st {σ : Sg} {a p v : Nat} (q : wfS σ a) (ha : a < 2) (hp : p < 10) (h0 : σ (10 * a + p) = 0) (hv : v = 3 ∨ v = 4) : wfS (up1 σ (10 * a + p) v) a := by
  have hm := wfS_m q
  obtain ⟨q1, q2, q3, q4, q5, q6, q7, q8⟩ := q
  have o : ∀ j, j ≠ 10 * a + p → up1 σ (10 * a + p) v j = σ j := fun j hj => up1_off _ _ hj
  have k1 := cnt_up (σ := σ) (a := a) (x := 2) (v := v) hp
  have k2 := cnt_up (σ := σ) (a := a) (x := 1) (v := v) hp
  rw [if_neg (by omega), if_neg (by omega)] at k1
  rw [if_neg (by omega), if_neg (by omega)] at k2
  have om := o (100 + a) (by omega)
  refine ⟨fun i hi => ?_, ?_, fun k hk => ?_, fun k l hkl hl => ?_, ?_, ?_, ?_, fun i hi => ?_⟩
  · unfold up1
    split
    · omega
    · exact q1 i hi
  · rw [om]; omega
  · rw [om] at hk
    obtain ⟨r1, r2⟩ := q3 k hk
    rw [o (80 + 10 * a + k) (by omega)]
    refine ⟨r1, ?_⟩
    have n1 : σ (80 + 10 * a + k) ≠ p := fun z => by rw [z] at r2; omega
    rw [o _ (by omega)]
    exact r2
  · rw [om] at hl
    rw [o (80 + 10 * a + k) (by omega), o (80 + 10 * a + l) (by omega)]
    exact q4 k l hkl hl
  · omega
  · rw [o _ (by omega)]; exact q6
  · rw [o _ (by omega)]; exact q7
  · rw [o _ (by omega)]; exact q8 i hi
theorem wfS_card {σ : Sg} {a p c : Nat} (q : wfS σ a) (ha : a < 2) (hp : p < 10) (hc : c < 3) : wfS (up1 σ (40 + 10 * a + p) (orN (σ (40 + 10 * a + p)) c)) a := by
  have hm := wfS_m q
  obtain ⟨q1, q2, q3, q4, q5, q6, q7, q8⟩ := q
  have o : ∀ j, j ≠ 40 + 10 * a + p → up1 σ (40 + 10 * a + p) (orN (σ (40 + 10 * a + p)) c) j = σ j := fun j hj => up1_off _ _ hj
  have st : ∀ i, i < 10 → up1 σ (40 + 10 * a + p) (orN (σ (40 + 10 * a + p)) c) (10 * a + i) = σ (10 * a + i) := fun i hi => o _ (by omega)
  have om := o (100 + a) (by omega)
  refine ⟨fun i hi => ?_, ?_, fun k hk => ?_, fun k l hkl hl => ?_, ?_, ?_, ?_, fun i hi => ?_⟩
  · rw [st i hi]; exact q1 i hi
  · rw [om, cnt_cg st]; exact q2
  · rw [om] at hk
    obtain ⟨r1, r2⟩ := q3 k hk
    rw [o (80 + 10 * a + k) (by omega), st _ r1]
    exact ⟨r1, r2⟩
  · rw [om] at hl
    rw [o (80 + 10 * a + k) (by omega), o (80 + 10 * a + l) (by omega)]
    exact q4 k l hkl hl
  · rw [cnt_cg st]; exact q5
  · rw [o _ (by omega)]; exact q6
  · rw [o _ (by omega)]; exact q7
  · by_cases hip : i = p
    · subst hip; rw [up1_at]; exact orN_lt _ (q8 i hi) c hc
    · rw [o _ (by omega)]; exact q8 i hi
