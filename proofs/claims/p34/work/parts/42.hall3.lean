/-! views of the match, the class -/
section Hl3
variable {J : Nat → Nat → Int64} {V : Mem} {s : Ms} {E : Evs}
/-- the kode of a view that wants a match: b where its arguments are such as there are -/
def viewK (s : Ms) (b : Bool) : Nat := if b = false then 1 else if s 0 = 1 then 0 else 2
theorem rd_o {d : pD} {as : List Value} {x : Int32} {k : Nat} {xs : List (Nat × String)} {P : Mem → Prop} (q : RD J d as V x) (h0 : k = 0) (p : P V) : CTc J d as V (fun r V' => ∃ r1 : Int32, r = some (Value.int r1) ∧ (k = 0 ∧ some (Value.int r1) = some (Value.int x) ∧ offF V V' 1 388 ∧ P V')) (fun X V' => k ≠ 0 ∧ (k, X) ∈ xs ∧ offF V V' 1 388 ∧ P V') := rd_i q ⟨h0, rfl, offF_rf _ _ _, p⟩
theorem badV {xs : List (Nat × String)} {k m : Nat} {X : String} (h : k = m) (hm : m ≠ 0) (hX : (m, X) ∈ xs) (p : clM V s E) : k ≠ 0 ∧ (k, X) ∈ xs ∧ offF V V 1 388 ∧ clM V s E := ⟨by rw [h]; exact hm, by rw [h]; exact hX, offF_rf _ _ _, p⟩
theorem vk_0 {b : Bool} (hb : b = true) (h : decide (s 0 = 1) = true) : viewK s b = 0 := by unfold viewK; rw [hb, if_neg (by decide), if_pos (of_decide_eq_true h)]
theorem vk_2 {b : Bool} (hb : b = true) (h : decide (s 0 = 1) = false) : viewK s b = 2 := by unfold viewK; rw [hb, if_neg (by decide), if_neg (of_decide_eq_false h)]
theorem vk_1 {b : Bool} (hb : b = false) : viewK s b = 1 := by unfold viewK; rw [if_pos hb]
theorem h_player (c : clM V s E) (G : Gd s E) (a p : Int32) : CO J mX7_player [.ref 0, .int a, .int p] V xsB (viewK s (isIx a 2 && isIx p 10)) (nI (nowF s E (10 * a.toNatClampNeg + p.toNatClampNeg))) (fun V' => clM V' s E) := by
  obtain ⟨wf, hb, hr, hck⟩ := Gd_run G
  unfold CO
  refine v_X7_player a p (nd_ix a 2 (by omega) (fun h1 => nd_ix p 10 (by omega) (fun h2 => rd_b (k1_isThere c G) (nd_st _ (fun h3 => ?_) (fun h3 => ?_))) (fun h2 => ?_)) (fun h1 => ?_))
  · obtain ⟨a, ha, rfl⟩ := isIx_ex (by omega) h1
    have m := c.2.2.2 (of_decide_eq_true h3)
    refine k1_sideNow a ha ?_
    have q := k6_stateOf (J := J) (sOf_s mt_3 ha) (mt_sd m ha).1 p
    rw [if_pos h2] at q
    rw [ccl (n := a) (by omega)]
    exact rd_o q (vk_0 (by rw [h1, h2]; rfl) h3) c
  · exact badV (vk_2 (by rw [h1, h2]; rfl) h3) (by omega) (by simp [xsB]) c
  · exact badV (vk_1 (by rw [h1, h2]; rfl)) (by omega) (by simp [xsB]) c
  · exact badV (vk_1 (by rw [h1]; rfl)) (by omega) (by simp [xsB]) c
theorem h_raidPoints (c : clM V s E) (G : Gd s E) (a p : Int32) : CO J mX7_raidPoints [.ref 0, .int a, .int p] V xsB (viewK s (isIx a 2 && isIx p 10)) (nI (nowF s E (60 + 10 * a.toNatClampNeg + p.toNatClampNeg))) (fun V' => clM V' s E) := by
  obtain ⟨wf, hb, hr, hck⟩ := Gd_run G
  unfold CO
  refine v_X7_raidPoints a p (nd_ix a 2 (by omega) (fun h1 => nd_ix p 10 (by omega) (fun h2 => rd_b (k1_isThere c G) (nd_st _ (fun h3 => ?_) (fun h3 => ?_))) (fun h2 => ?_)) (fun h1 => ?_))
  · obtain ⟨a, ha, rfl⟩ := isIx_ex (by omega) h1
    have m := c.2.2.2 (of_decide_eq_true h3)
    refine k1_sideNow a ha ?_
    have q := k6_madeBy (J := J) (sOf_s mt_3 ha) (mt_sd m ha) p
    rw [if_pos h2] at q
    rw [ccl (n := a) (by omega)]
    exact rd_o q (vk_0 (by rw [h1, h2]; rfl) h3) c
  · exact badV (vk_2 (by rw [h1, h2]; rfl) h3) (by omega) (by simp [xsB]) c
  · exact badV (vk_1 (by rw [h1, h2]; rfl)) (by omega) (by simp [xsB]) c
  · exact badV (vk_1 (by rw [h1]; rfl)) (by omega) (by simp [xsB]) c
/-- the row of those out -/
def outV (s : Ms) (E : Evs) (a : Nat) (p : Int32) : Int32 := if isIx p (nowF s E (100 + a)) = true then nI (nowF s E (80 + 10 * a + p.toNatClampNeg)) else -1
theorem h_next (c : clM V s E) (G : Gd s E) (a : Int32) : CO J mX7_next [.ref 0, .int a] V xsB (viewK s (isIx a 2)) (outV s E a.toNatClampNeg 0) (fun V' => clM V' s E) := by
  obtain ⟨wf, hb, hr, hck⟩ := Gd_run G
  unfold CO
  refine v_X7_next a (nd_ix a 2 (by omega) (fun h1 => rd_b (k1_isThere c G) (nd_st _ (fun h3 => ?_) (fun h3 => ?_))) (fun h1 => ?_))
  · obtain ⟨a, ha, rfl⟩ := isIx_ex (by omega) h1
    have m := c.2.2.2 (of_decide_eq_true h3)
    refine k1_sideNow a ha ?_
    rw [ccl (n := a) (by omega)]
    exact rd_o (k6_outAt (sOf_s mt_3 ha) (mt_sd m ha) (wfS_m (wfM_at wf ha)) 0) (vk_0 h1 h3) c
  · exact badV (vk_2 h1 h3) (by omega) (by simp [xsB]) c
  · exact badV (vk_1 h1) (by omega) (by simp [xsB]) c
theorem h_points (c : clM V s E) (G : Gd s E) (a : Int32) : CO J mX7_points [.ref 0, .int a] V xsB (viewK s (isIx a 2)) (nI (nowF s E (104 + a.toNatClampNeg))) (fun V' => clM V' s E) := by
  obtain ⟨wf, hb, hr, hck⟩ := Gd_run G
  unfold CO
  refine v_X7_points a (nd_ix a 2 (by omega) (fun h1 => rd_b (k1_isThere c G) (nd_st _ (fun h3 => ?_) (fun h3 => ?_))) (fun h1 => ?_))
  · obtain ⟨a, ha, rfl⟩ := isIx_ex (by omega) h1
    have m := c.2.2.2 (of_decide_eq_true h3)
    rw [ccl (n := a) (by omega)]
    exact rd_o (pointsOf m a ha) (vk_0 h1 h3) c
  · exact badV (vk_2 h1 h3) (by omega) (by simp [xsB]) c
  · exact badV (vk_1 h1) (by omega) (by simp [xsB]) c
theorem h_match (c : clM V s E) (G : Gd s E) (q : Int32) : CO J mX7_match [.ref 0, .int q] V xsC (viewK s (isIx q 8)) (tellV s E q.toNatClampNeg) (fun V' => clM V' s E) := by
  unfold CO
  refine v_X7_match q (rd_b (k7_isWithin J q 0 7 V) ?_)
  rw [inB_ix (n := 8) rfl]
  refine nd_arg _ (fun h1 => rd_b (k1_isThere c G) (nd_st _ (fun h3 => ?_) (fun h3 => ?_))) (fun h1 => ?_)
  · obtain ⟨q, hq, rfl⟩ := isIx_ex (by omega) h1
    rw [ccl (n := q) (by omega)]
    exact rd_o (k1_tellOf c G (of_decide_eq_true h3) q hq) (vk_0 h1 h3) c
  · exact badV (vk_2 h1 h3) (by omega) (by simp [xsC]) c
  · exact badV (vk_1 h1) (by omega) (by simp [xsC]) c
theorem h_hasReview (c : clM V s E) (G : Gd s E) (a : Int32) : CO J mX7_hasReview [.ref 0, .int a] V xsB (viewK s (isIx a 2)) (bI (decide (s (7 + a.toNatClampNeg) = 0))) (fun V' => clM V' s E) := by
  unfold CO
  refine v_X7_hasReview a (nd_ix a 2 (by omega) (fun h1 => rd_b (k1_isThere c G) (nd_st _ (fun h3 => ?_) (fun h3 => ?_))) (fun h1 => ?_))
  · obtain ⟨a, ha, rfl⟩ := isIx_ex (by omega) h1
    rw [ccl (n := a) (by omega)]
    exact rd_b (k1_keepsReview c G a ha) ⟨vk_0 h1 h3, rfl, offF_rf _ _ _, c⟩
  · exact badV (vk_2 h1 h3) (by omega) (by simp [xsB]) c
  · exact badV (vk_1 h1) (by omega) (by simp [xsB]) c
/-- the kode of a view of an event -/
def endK (s : Ms) (n a : Int32) : Nat := if (isIx n (s 2 - s 1) && isIx a 2) = false then 1 else 0
theorem ek_0 {n a : Int32} (h1 : isIx n (s 2 - s 1) = true) (h2 : isIx a 2 = true) : endK s n a = 0 := by unfold endK; rw [h1, h2]; rfl
theorem h_matAfter (c : clM V s E) (G : Gd s E) (n a : Int32) : CO J mX7_matAfter [.ref 0, .int n, .int a] V xsE (endK s n a) (nI (bits (runE E (n.toNatClampNeg + 1)) a.toNatClampNeg)) (fun V' => clM V' s E) := by
  have g2 := G.2.2.1
  unfold CO
  refine v_X7_matAfter n a (rd_i (k1_countEnded c G) (nd_ix n _ (by omega) (fun h1 => nd_ix a 2 (by omega) (fun h2 => ?_) (fun h2 => ?_)) (fun h1 => ?_)))
  · have hk := ek_0 h1 h2
    obtain ⟨n, hn, rfl⟩ := isIx_ex (by omega) h1
    obtain ⟨a, ha, rfl⟩ := isIx_ex (by omega) h2
    rw [ccl (n := a) (by omega), ccl (n := n) (by omega)]
    exact rd_o (k1_onAfter c G n a hn ha) hk c
  · exact badV (m := 1) (by unfold endK; rw [h1, h2]; rfl) (by omega) (by simp [xsE]) c
  · exact badV (m := 1) (by unfold endK; rw [h1]; rfl) (by omega) (by simp [xsE]) c
theorem h_pointsAfter (c : clM V s E) (G : Gd s E) (n a : Int32) : CO J mX7_pointsAfter [.ref 0, .int n, .int a] V xsE (endK s n a) (nI (runE E (n.toNatClampNeg + 1) (104 + a.toNatClampNeg))) (fun V' => clM V' s E) := by
  have g2 := G.2.2.1
  unfold CO
  refine v_X7_pointsAfter n a (rd_i (k1_countEnded c G) (nd_ix n _ (by omega) (fun h1 => nd_ix a 2 (by omega) (fun h2 => ?_) (fun h2 => ?_)) (fun h1 => ?_)))
  · have hk := ek_0 h1 h2
    obtain ⟨n, hn, rfl⟩ := isIx_ex (by omega) h1
    obtain ⟨a, ha, rfl⟩ := isIx_ex (by omega) h2
    rw [ccl (n := a) (by omega), ccl (n := n) (by omega)]
    exact rd_o (k1_pointsBehind c G n a hn ha) hk c
  · exact badV (m := 1) (by unfold endK; rw [h1, h2]; rfl) (by omega) (by simp [xsE]) c
  · exact badV (m := 1) (by unfold endK; rw [h1]; rfl) (by omega) (by simp [xsE]) c
theorem h_matAnew (c : clM V s E) (G : Gd s E) (n a : Int32) : CO J mX7_matAnew [.ref 0, .int n, .int a] V xsE (endK s n a) (nI (bits (runE E (n.toNatClampNeg + 1)) a.toNatClampNeg)) (fun V' => clM V' s E) := by
  have g2 := G.2.2.1
  unfold CO
  refine v_X7_matAnew n a (rd_i (k1_countEnded c G) (nd_ix n _ (by omega) (fun h1 => nd_ix a 2 (by omega) (fun h2 => ?_) (fun h2 => ?_)) (fun h1 => ?_)))
  · have hk := ek_0 h1 h2
    obtain ⟨n, hn, rfl⟩ := isIx_ex (by omega) h1
    obtain ⟨a, ha, rfl⟩ := isIx_ex (by omega) h2
    rw [ccl (n := a) (by omega), ccl (n := n) (by omega)]
    exact wm_r (k1_onAnew c G n a hn ha) hk (fun V' f' c' => c')
  · exact badV (m := 1) (by unfold endK; rw [h1, h2]; rfl) (by omega) (by simp [xsE]) c
  · exact badV (m := 1) (by unfold endK; rw [h1]; rfl) (by omega) (by simp [xsE]) c
end Hl3
