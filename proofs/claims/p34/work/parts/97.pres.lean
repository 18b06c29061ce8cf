/-! every call keeps what holds; what a call that is made tells is no exception's number -/
theorem not_f {b : Bool} (h : ¬ b = false) : b = true := by cases b <;> simp_all
theorem nI_ne {k : Nat} (h : k < 2000000000) : nI k ≠ -2100000000 := fun z => by
  have := congrArg Int32.toInt z
  rw [nI_toInt (by omega)] at this
  have e : (-2100000000 : Int32).toInt = -2100000000 := by decide
  omega
theorem m1_ne : (-1 : Int32) ≠ -2100000000 := by decide
theorem nI_subI {a b : Nat} (ha : a < 100000000) (hb : b < 100000000) : (nI a - nI b).toInt = (a : Int) - b := by
  rw [Int32.toInt_sub, nI_toInt (by omega), nI_toInt (by omega)]
  exact Int.bmod_eq_of_le (by omega) (by omega)
theorem sub_ne {a b : Nat} (ha : a < 100000000) (hb : b < 100000000) : nI a - nI b ≠ -2100000000 := fun z => by
  have := congrArg Int32.toInt z
  rw [nI_subI ha hb] at this
  have e : (-2100000000 : Int32).toInt = -2100000000 := by decide
  omega
theorem nI_sub2I {a b c d : Nat} (ha : a < 10000000) (hb : b < 10000000) (hc : c < 10000000) (hd : d < 10000000) : ((nI a - nI b) - (nI c - nI d)).toInt = ((a : Int) - b) - (c - d) := by
  rw [Int32.toInt_sub, nI_subI (by omega) (by omega), nI_subI (by omega) (by omega)]
  exact Int.bmod_eq_of_le (by omega) (by omega)
theorem sub2_ne {a b c d : Nat} (ha : a < 10000000) (hb : b < 10000000) (hc : c < 10000000) (hd : d < 10000000) : (nI a - nI b) - (nI c - nI d) ≠ -2100000000 := fun z => by
  have := congrArg Int32.toInt z
  rw [nI_sub2I ha hb hc hd] at this
  have e : (-2100000000 : Int32).toInt = -2100000000 := by decide
  omega
section Inv
variable {s : Ms} {E : Evs}
theorem raid_inv {p : Int32} (h : raidK s E p = 0) : ∃ n, n < 10 ∧ p = nI n ∧ raidB s E (nI n) = true := by
  unfold raidK at h
  split at h
  · omega
  · rename_i h1
    split at h
    · omega
    · rename_i h2
      obtain ⟨n, hn, rfl⟩ := isIx_ex (by omega) (not_f h1)
      exact ⟨n, hn, rfl, not_f h2⟩
theorem step_inv {k w t : Int32} (h : stepK s E k w t = 0) : ∃ x v n, x ≤ 6 ∧ v ≤ 10 ∧ (x = 0 ↔ 1 ≤ v) ∧ 1 ≤ n ∧ n ≤ 300 ∧ k = nI x ∧ w = wI v ∧ wN w = v ∧ t = nI n ∧ tellB s E x v n = true := by
  unfold stepK at h
  split at h
  · omega
  · rename_i h1
    split at h
    · omega
    · rename_i h2
      have h1 := not_f h1
      rw [Bool.and_eq_true] at h1
      obtain ⟨x, v, hx, hv, hxv, rfl, rfl, hwN⟩ := stepB_of (b := 6) (by omega) h1.1
      obtain ⟨n, hn1, hn2, rfl⟩ := inB_nI (a := 1) (b := 300) (by omega) h1.2 (by omega)
      rw [ccl (n := x) (by omega), ccl (n := n) (by omega), hwN] at h2
      exact ⟨x, v, n, hx, hv, hxv, hn1, hn2, rfl, rfl, hwN, rfl, not_f h2⟩
theorem not_or2 {b c : Bool} (h : ¬ (b = false ∨ c = false)) : b = true ∧ c = true := ⟨not_f (fun z => h (Or.inl z)), not_f (fun z => h (Or.inr z))⟩
theorem card_inv {a p k : Int32} (h : cardK s E a p k = 0) : ∃ x y z, x < 2 ∧ y < 10 ∧ z < 3 ∧ a = nI x ∧ p = nI y ∧ k = nI z ∧ cardB s E x y z = true := by
  unfold cardK at h
  split at h
  · omega
  · rename_i h1
    split at h
    · omega
    · rename_i h2
      split at h
      · omega
      · rename_i h3
        obtain ⟨i1, i2⟩ := not_or2 h1
        obtain ⟨x, hx, rfl⟩ := isIx_ex (by omega) i1
        obtain ⟨y, hy, rfl⟩ := isIx_ex (by omega) i2
        obtain ⟨z, -, hz, rfl⟩ := inB_nI (a := 0) (b := 2) (by omega) (not_f h2) (by omega)
        rw [ccl (by omega), ccl (by omega), ccl (by omega)] at h3
        exact ⟨x, y, z, hx, hy, by omega, rfl, rfl, rfl, not_f h3⟩
theorem swap_inv {a x y : Int32} (h : swapK s E a x y = 0) : ∃ b p r, b < 2 ∧ p < 10 ∧ r < 10 ∧ a = nI b ∧ x = nI p ∧ y = nI r ∧ swapB s E b p r = true := by
  unfold swapK at h
  split at h
  · omega
  · rename_i h1
    split at h
    · omega
    · rename_i h2
      obtain ⟨b, hb, rfl⟩ := isIx_ex (v := a) (n := 2) (by omega) (not_f (fun z => h1 (Or.inl z)))
      obtain ⟨p, hp, rfl⟩ := isIx_ex (v := x) (n := 10) (by omega) (not_f (fun z => h1 (Or.inr (Or.inl z))))
      obtain ⟨r, hr, rfl⟩ := isIx_ex (v := y) (n := 10) (by omega) (not_f (fun z => h1 (Or.inr (Or.inr z))))
      rw [ccl (by omega), ccl (by omega), ccl (by omega)] at h2
      exact ⟨b, p, r, hb, hp, hr, rfl, rfl, rfl, not_f h2⟩
theorem rev_inv (G : Gd s E) {a n p k w : Int32} (h : revK s E a n p k w = 0) : ∃ b i j x v, b < 2 ∧ i < s 2 - s 1 ∧ E i 0 = 0 ∧ j < E i 4 ∧ j < 10 ∧ x ≤ 5 ∧ v ≤ 10 ∧ (x = 0 ↔ 1 ≤ v) ∧ a = nI b ∧ n = nI i ∧ p = nI j ∧ k = nI x ∧ w = wI v ∧ wN w = v ∧ s 1 = 0 ∧ s (7 + b) = 0 ∧ fallsI s E i j x v = -1 := by
  unfold revK at h
  split at h
  · omega
  · rename_i h1
    split at h
    · omega
    · rename_i h2
      split at h
      · omega
      · rename_i h3
        obtain ⟨b, hb, rfl⟩ := isIx_ex (v := a) (n := 2) (by omega) (not_f (fun z => h1 (Or.inl z)))
        obtain ⟨i, j, hi, h0, hj, rfl, rfl, hj10⟩ := stepIx_ex G (not_f (fun z => h1 (Or.inr z)))
        obtain ⟨x, v, hx, hv, hxv, rfl, rfl, hwN⟩ := stepB_of (b := 5) (by omega) (not_f h2)
        have g2 := G.2.2.1
        have g1 := G.2.1
        have g7 : s (7 + b) ≤ 1 := by
          rcases (show b = 0 ∨ b = 1 by omega) with rfl | rfl
          · exact G.2.2.2.2.1
          · exact G.2.2.2.2.2.1
        unfold fallsV at h3
        rw [ccl (n := b) (by omega), ccl (n := i) (by omega), ccl (n := j) (by omega), ccl (n := x) (by omega), hwN] at h3
        refine ⟨b, i, j, x, v, hb, hi, h0, hj, hj10, hx, hv, hxv, rfl, rfl, rfl, rfl, rfl, hwN, ?_, ?_, ?_⟩
        · rcases Nat.lt_or_ge (s 1) 1 with z | z
          · omega
          · exact (h3 (Or.inl (by omega))).elim
        · rcases Nat.lt_or_ge (s (7 + b)) 1 with z | z
          · omega
          · exact (h3 (Or.inr (Or.inl (by omega)))).elim
        · by_cases z : fallsI s E i j x v = -1
          · exact z
          · exact (h3 (Or.inr (Or.inr z))).elim
theorem back_inv {n : Int32} (h : backK s n = 0) (h60 : s 2 ≤ 60) : ∃ i, i < s 2 ∧ n = nI i := by
  unfold backK at h
  split at h
  · omega
  · rename_i h1
    exact isIx_ex (by omega) (not_f h1)
theorem Gd_raidN (G : Gd s E) (p : Int32) : GdX (raidN s E p) := by
  unfold raidN GdX
  split
  · rename_i hk
    obtain ⟨p, hp, rfl, hB⟩ := raid_inv hk
    obtain ⟨h0, h1, h60, hclk, hon⟩ := raidB_of hp hB
    rw [ccl (by omega)]
    obtain ⟨w, hb, hr, hck⟩ := Gd_run G
    have ht := turnF_lt (nowF s E)
    have o : ∀ k, k < s 2 → up1 E (s 2) (evNew 0 (turnF (nowF s E)) p 0) k = E k := fun k hk => up1_off _ _ (by omega)
    have s2' : up1 (up1 s 1 1) 2 (s 2 + 1) 2 = s 2 + 1 := up1_at _ _ _
    have s1' : up1 (up1 s 1 1) 2 (s 2 + 1) 1 = 1 := by rw [up1_off _ _ (by omega), up1_at]
    have so : ∀ j, j ≠ 1 → j ≠ 2 → up1 (up1 s 1 1) 2 (s 2 + 1) j = s j := fun j h1 h2 => by rw [up1_off _ _ h2, up1_off _ _ h1]
    obtain ⟨g0, g1, g2, g3, g7, g8, ga, gb, gc, gd, ge⟩ := G
    show Gd (up1 (up1 s 1 1) 2 (s 2 + 1)) (up1 E (s 2) (evNew 0 (turnF (nowF s E)) p 0))
    unfold Gd
    rw [s2', s1', so 0 (by omega) (by omega), so 3 (by omega) (by omega), so 4 (by omega) (by omega), so 5 (by omega) (by omega), so 7 (by omega) (by omega), so 8 (by omega) (by omega), show s 2 + 1 - 1 = s 2 by omega]
    have cke : ∀ n, n ≤ s 2 → clkTo (up1 E (s 2) (evNew 0 (turnF (nowF s E)) p 0)) n = clkTo E n := fun n hn => clk_cg (fun k hk => by rw [o k (by omega)]; exact ⟨rfl, rfl⟩)
    have re : ∀ n, n ≤ s 2 → runE (up1 E (s 2) (evNew 0 (turnF (nowF s E)) p 0)) n = runE E n := fun n hn => runE_cg (fun k hk => o k (by omega))
    rw [show s 2 - s 1 = s 2 by omega] at gc hck
    have hnw : nowF s E = runE E (s 2) := by unfold nowF; rw [h1, Nat.sub_zero]
    refine ⟨g0, by omega, by omega, by omega, g7, g8, by omega, gb, fun k hk => ?_, fun k hk h => ?_, fun _ => ?_⟩
    · rw [o k hk, re k (by omega)]; exact gc k hk
    · rw [cke k (by omega)]
      by_cases hkm : k = s 2
      · subst hkm; rw [← hck]; exact hclk
      · rw [o k (by omega)] at h
        exact gd k (by omega) h
    · rw [up1_at, re _ (Nat.le_refl _), ← hnw]
      have n4 : evNew 0 (turnF (nowF s E)) p 0 4 = 0 := rfl
      refine ⟨rfl, ht, hp, by show 0 < 10; omega, ⟨by rw [n4]; omega, fun k hk => ?_⟩, fun k hk => ?_, hon, fun k hk => ?_⟩ <;> (rw [n4] at hk; exact absurd hk (Nat.not_lt_zero k))
  · exact G
theorem Gd_stepN (G : Gd s E) (k w t : Int32) : GdX (stepN s E k w t) := by
  unfold stepN GdX
  split
  · rename_i hk
    obtain ⟨x, v, n, hx, hv, hxv, hn1, hn2, rfl, rfl, hwN, rfl, hB⟩ := step_inv hk
    rw [ccl (by omega), ccl (by omega), hwN]
    exact (Gd_tell G x v n hx hv hxv hn2 hB).1
  · exact G
theorem Gd_cardN (G : Gd s E) (a p k : Int32) : GdX (cardN s E a p k) := by
  unfold cardN GdX
  split
  · rename_i hk
    obtain ⟨x, y, z, hx, hy, hz, rfl, rfl, rfl, hB⟩ := card_inv hk
    rw [ccl (by omega), ccl (by omega), ccl (by omega)]
    unfold cardB at hB
    rw [Bool.and_eq_true, decide_eq_true_eq, standB_t] at hB
    exact Gd_add G hB.1.1 hB.1.2.1 hB.1.2.2 1 x y z (Or.inl rfl) hx hy (by omega) (fun _ => hz) hB.2
  · exact G
theorem Gd_swapN (G : Gd s E) (a x y : Int32) : GdX (swapN s E a x y) := by
  unfold swapN GdX
  split
  · rename_i hk
    obtain ⟨b, p, r, hb, hp, hr, rfl, rfl, rfl, hB⟩ := swap_inv hk
    rw [ccl (by omega), ccl (by omega), ccl (by omega)]
    unfold swapB at hB
    rw [Bool.and_eq_true, decide_eq_true_eq, standB_t] at hB
    exact Gd_add G hB.1.1 hB.1.2.1 hB.1.2.2 2 b p r (Or.inr rfl) hb hp hr (fun z => by omega) hB.2
  · exact G
theorem Gd_revN (G : Gd s E) (a n p k w : Int32) : GdX (revN s E a n p k w) := by
  unfold revN GdX
  split
  · rename_i hk
    obtain ⟨b, i, j, x, v, hb, hi, h0, hj, hj10, hx, hv, hxv, rfl, rfl, rfl, rfl, rfl, hwN, h1, h7, hf⟩ := rev_inv G hk
    have g2 := G.2.2.1
    rw [ccl (by omega), ccl (by omega), ccl (by omega), ccl (by omega), hwN]
    obtain ⟨-, -, G'⟩ := Gd_fix G h1 i j x v (by omega) h0 hj (by omega) hv hxv hf
    exact Gd_lost G' b _ hb (by split <;> omega)
  · exact G
theorem Gd_backN (G : Gd s E) (n : Int32) : GdX (backN s E n) := by
  unfold backN GdX
  split
  · rename_i hk
    obtain ⟨i, hi, rfl⟩ := back_inv hk G.2.2.1
    have g2 := G.2.2.1
    rw [ccl (by omega)]
    exact Gd_drop G i hi
  · exact G
theorem Gd_entN (G : Gd s E) : GdX (entN s E) := by
  unfold entN GdX
  split
  · rename_i hk
    unfold entK at hk
    split at hk
    · rename_i h
      exact Gd_close G h.2.1
    · omega
  · exact G
end Inv
/-- all that holds of a hall behind m calls -/
def GX (m : Nat) (q : HS) : Prop := GdX q.1 ∧ GdA q.2.1 ∧ bddL q.2.2 (400000 * m) ∧ q.1.1 6 ≤ m ∧ LgI q.2.2 ∧ AuI q.2.1 ∧ ∀ c, c < 8 → q.2.2 (6 * c) ≤ 2 * m
theorem GX_H {m : Nat} {q : HS} (h : GX m q) (hm : m ≤ 2000) : GdH q := ⟨h.1, h.2.1, fun k hk => Nat.le_trans (h.2.2.1 k hk) (by omega)⟩
theorem GX_le {m m' : Nat} {q : HS} (h : GX m q) (hm : m ≤ m') : GX m' q := ⟨h.1, h.2.1, fun k hk => Nat.le_trans (h.2.2.1 k hk) (by omega), Nat.le_trans h.2.2.2.1 hm, h.2.2.2.2.1, h.2.2.2.2.2.1, fun c hc => Nat.le_trans (h.2.2.2.2.2.2 c hc) (by omega)⟩
theorem GX_st {m : Nat} {q : HS} {X : St} (h : GX m q) (G : GdX X) (h6 : X.1 6 ≤ q.1.1 6 + 1) : GX (m + 1) (X, q.2) := ⟨G, h.2.1, fun k hk => Nat.le_trans (h.2.2.1 k hk) (by omega), by have := h.2.2.2.1; show X.1 6 ≤ m + 1; omega, h.2.2.2.2.1, h.2.2.2.2.2.1, fun c hc => Nat.le_trans (h.2.2.2.2.2.2 c hc) (by omega)⟩
theorem GX_au {m : Nat} {q : HS} {u : Au} (h : GX m q) (G : GdA u) (I : AuI u) : GX (m + 1) (q.1, u, q.2.2) := ⟨h.1, G, fun k hk => Nat.le_trans (h.2.2.1 k hk) (by omega), Nat.le_trans h.2.2.2.1 (by omega), h.2.2.2.2.1, I, fun c hc => Nat.le_trans (h.2.2.2.2.2.2 c hc) (by omega)⟩
section Pres
variable {m : Nat} {q : HS}
theorem rightN_ok (h : GX m q) (c l : Int32) : GdA (rightN q.2.1 c l) ∧ AuI (rightN q.2.1 c l) := by
  unfold rightN
  split
  · rename_i hk
    unfold rightK at hk
    split at hk
    · omega
    · rename_i h1
      split at hk
      · omega
      · rename_i h2
        obtain ⟨i1, i2⟩ := not_or2 h1
        obtain ⟨c, hc, rfl⟩ := isIx_ex (by omega) i1
        obtain ⟨l, hl, rfl⟩ := isIx_ex (by omega) i2
        have h120 : q.2.1 120 ≠ nI l := fun z => h2 (Or.inl z)
        rw [ccl (n := c) (by omega), ccl (n := l) (by omega)]
        exact ⟨GdA_right h.2.1 c l hc hl h120, AuI_right h.2.2.2.2.2.1 h.2.1 c l hl h120⟩
  · exact ⟨h.2.1, h.2.2.2.2.2.1⟩
theorem callN_ok (h : GX m q) (l : Int32) : GdA (callN q.2.1 l) ∧ AuI (callN q.2.1 l) := by
  unfold callN
  split
  · rename_i hk
    unfold callK at hk
    split at hk
    · omega
    · rename_i h1
      split at hk
      · omega
      · rename_i h2
        obtain ⟨l, hl, rfl⟩ := isIx_ex (by omega) (not_f h1)
        rw [ccl (by omega)] at h2 ⊢
        have h30 : q.2.1 (30 + l) = -1 := by
          by_cases z : q.2.1 (30 + l) = -1
          · exact z
          · exact (h2 (Or.inr z)).elim
        exact ⟨GdA_call h.2.1 l hl, AuI_call h.2.2.2.2.2.1 l hl h30⟩
  · exact ⟨h.2.1, h.2.2.2.2.2.1⟩
theorem bid_inv {u : Au} {c x : Int32} (h : bidK u c x = 0) : ∃ a b, a < 8 ∧ 1 ≤ b ∧ b ≤ 1000 ∧ c = nI a ∧ x = nI b ∧ bidG u a (nI b) = true := by
  unfold bidK at h
  split at h
  · omega
  · rename_i h1
    split at h
    · omega
    · rename_i h2
      split at h
      · omega
      · rename_i h3
        obtain ⟨a, ha, rfl⟩ := isIx_ex (by omega) (not_f h1)
        obtain ⟨b, hb1, hb2, rfl⟩ := inB_nI (a := 1) (b := 1000) (by omega) (not_f h2) (by omega)
        rw [ccl (by omega)] at h3
        exact ⟨a, b, ha, hb1, hb2, rfl, rfl, not_f h3⟩
theorem bidN_ok (h : GX m q) (c x : Int32) : GdA (bidN q.2.1 c x) ∧ AuI (bidN q.2.1 c x) := by
  unfold bidN
  split
  · rename_i hk
    obtain ⟨a, b, ha, hb1, hb2, rfl, rfl, hB⟩ := bid_inv hk
    rw [ccl (by omega)]
    exact ⟨(GdA_bid h.2.1 a b ha hb2 hB).1, AuI_bid h.2.2.2.2.2.1 h.2.1 a b ha hB⟩
  · exact ⟨h.2.1, h.2.2.2.2.2.1⟩
theorem hamN_ok (h : GX m q) : GdA (hamN q.2.1) ∧ AuI (hamN q.2.1) := by
  unfold hamN
  split
  · rename_i hk
    unfold hamK at hk
    split at hk
    · rename_i h1
      exact ⟨GdA_strike h.2.1 h1.1 h1.2, AuI_strike h.2.2.2.2.2.1 h.2.1 h1.1 h1.2⟩
    · omega
  · exact ⟨h.2.1, h.2.2.2.2.2.1⟩
theorem ansN_ok (h : GX m q) (t : Bool) : GdA (ansN q.2.1 t) ∧ AuI (ansN q.2.1 t) := by
  unfold ansN
  split
  · rename_i hk
    unfold ansK at hk
    split at hk
    · rename_i h1
      exact ⟨GdA_settle h.2.1 h1 t, AuI_settle h.2.2.2.2.2.1 h.2.1 h1 t⟩
    · omega
  · exact ⟨h.2.1, h.2.2.2.2.2.1⟩
theorem GX_ent (h : GX m q) : GX (m + 1) (entN q.1.1 q.1.2, q.2.1, entG q.1.1 q.1.2 q.2.2) := by
  obtain ⟨h1, h2, h3, h4, h5, h6, h7⟩ := h
  refine ⟨Gd_entN h1, h2, ?_, ?_, ?_, h6, ?_⟩
  · have := bddL_ent h1 h3
    exact fun k hk => Nat.le_trans (this k hk) (by omega)
  · have e : (entN q.1.1 q.1.2).1 6 = q.1.1 6 := by
      unfold entN
      split
      · show closeS q.1.1 6 = _
        unfold closeS
        rw [up1_off _ _ (by omega), up1_off _ _ (by omega)]
      · rfl
    show (entN q.1.1 q.1.2).1 6 ≤ m + 1
    omega
  · show LgI (entG q.1.1 q.1.2 q.2.2)
    unfold entG
    split
    · rename_i hk
      unfold entK at hk
      split at hk
      · rename_i hh
        obtain ⟨a1, a2, -⟩ := h1.2.2.2.2.2.2.2.1 hh.1
        exact LgI_note h5 a1 a2
      · omega
    · exact h5
  · intro c hc
    have h8 := h7 c hc
    show entG q.1.1 q.1.2 q.2.2 (6 * c) ≤ _
    have one : ∀ (g : Lg) (d x y : Nat), noteG g d x y (6 * c) ≤ g (6 * c) + 1 := fun g d x y => by
      by_cases e : c = d
      · have := noteG_s g d x y 0 (by omega)
        rw [← e, Nat.add_zero] at this
        rw [← e, this]
        exact Nat.le_refl _
      · have := noteG_o g d c x y 0 (by omega) e
        rw [Nat.add_zero] at this
        omega
    unfold entG
    split
    · have a1 := one (noteG q.2.2 (q.1.1 3) (nowF q.1.1 q.1.2 104) (nowF q.1.1 q.1.2 105)) (q.1.1 4) (nowF q.1.1 q.1.2 105) (nowF q.1.1 q.1.2 104)
      have a2 := one q.2.2 (q.1.1 3) (nowF q.1.1 q.1.2 104) (nowF q.1.1 q.1.2 105)
      omega
    · omega
theorem GX_op (h : GX m q) (a b c d e : Int32) : ∀ k, GX (m + 1) (opN q a b c d e k)
  | 0 => GX_st h (Gd_begin h.1 a b c) (by
      unfold beginN
      split
      · exact Nat.le_refl (q.1.1 6 + 1)
      · exact Nat.le_succ _)
  | 1 => GX_st h (Gd_raidN h.1 a) (by
      unfold raidN
      split
      · show up1 (up1 q.1.1 1 1) 2 (q.1.1 2 + 1) 6 ≤ _
        rw [up1_off _ _ (by omega), up1_off _ _ (by omega)]
        omega
      · exact Nat.le_succ _)
  | 2 => GX_st h (Gd_stepN h.1 a b c) (by
      unfold stepN
      split
      · show tellS q.1.1 a.toNatClampNeg 6 ≤ _
        unfold tellS
        split
        · omega
        · rw [up1_off _ _ (by omega)]; omega
      · exact Nat.le_succ _)
  | 3 => GX_st h (Gd_cardN h.1 a b c) (by
      unfold cardN
      split
      · exact Nat.le_trans (Nat.le_of_eq (up1_off (h := 2) (a := 6) q.1.1 (q.1.1 2 + 1) (by decide))) (Nat.le_succ _)
      · exact Nat.le_succ _)
  | 4 => GX_st h (Gd_swapN h.1 a b c) (by
      unfold swapN
      split
      · exact Nat.le_trans (Nat.le_of_eq (up1_off (h := 2) (a := 6) q.1.1 (q.1.1 2 + 1) (by decide))) (Nat.le_succ _)
      · exact Nat.le_succ _)
  | 5 => GX_st h (Gd_revN h.1 a b c d e) (by
      unfold revN
      split
      · exact Nat.le_trans (Nat.le_of_eq (up1_off (h := 7 + a.toNatClampNeg) (a := 6) q.1.1 _ (by omega))) (Nat.le_succ _)
      · exact Nat.le_succ _)
  | 7 => GX_st h (Gd_backN h.1 a) (by
      unfold backN
      split
      · show dropS q.1.1 a.toNatClampNeg 6 ≤ _
        unfold dropS
        rw [up1_off _ _ (by omega), up1_off _ _ (by omega)]
        omega
      · exact Nat.le_succ _)
  | 8 => GX_ent h
  | 24 => GX_au h (rightN_ok h a b).1 (rightN_ok h a b).2
  | 25 => GX_au h (callN_ok h a).1 (callN_ok h a).2
  | 26 => GX_au h (bidN_ok h a b).1 (bidN_ok h a b).2
  | 27 => GX_au h (hamN_ok h).1 (hamN_ok h).2
  | 28 => GX_au h (ansN_ok h _).1 (ansN_ok h _).2
  | 6 => GX_le h (by omega)
  | 9 => GX_le h (by omega) | 10 => GX_le h (by omega) | 11 => GX_le h (by omega) | 12 => GX_le h (by omega) | 13 => GX_le h (by omega) | 14 => GX_le h (by omega) | 15 => GX_le h (by omega) | 16 => GX_le h (by omega) | 17 => GX_le h (by omega) | 18 => GX_le h (by omega) | 19 => GX_le h (by omega) | 20 => GX_le h (by omega) | 21 => GX_le h (by omega) | 22 => GX_le h (by omega) | 23 => GX_le h (by omega) | 29 => GX_le h (by omega) | 30 => GX_le h (by omega)
  | n + 31 => GX_le h (by omega)
/-- a call that throws changes nothing -/
theorem op_keep (a b c d e : Int32) : ∀ k, opK q a b c d e k ≠ 0 → opN q a b c d e k = q
  | 0, h => by show (beginN _ _ _ _ _, q.2) = q; unfold beginN; rw [if_neg (show ¬ beginK _ _ _ _ = 0 from h)]
  | 1, h => by show (raidN _ _ _, q.2) = q; unfold raidN; rw [if_neg (show ¬ raidK _ _ _ = 0 from h)]
  | 2, h => by show (stepN _ _ _ _ _, q.2) = q; unfold stepN; rw [if_neg (show ¬ stepK _ _ _ _ _ = 0 from h)]
  | 3, h => by show (cardN _ _ _ _ _, q.2) = q; unfold cardN; rw [if_neg (show ¬ cardK _ _ _ _ _ = 0 from h)]
  | 4, h => by show (swapN _ _ _ _ _, q.2) = q; unfold swapN; rw [if_neg (show ¬ swapK _ _ _ _ _ = 0 from h)]
  | 5, h => by show (revN _ _ _ _ _ _ _, q.2) = q; unfold revN; rw [if_neg (show ¬ revK _ _ _ _ _ _ _ = 0 from h)]
  | 7, h => by show (backN _ _ _, q.2) = q; unfold backN; rw [if_neg (show ¬ backK _ _ = 0 from h)]
  | 8, h => by show (entN _ _, q.2.1, entG _ _ _) = q; unfold entN entG; rw [if_neg (show ¬ entK _ _ = 0 from h), if_neg (show ¬ entK _ _ = 0 from h)]
  | 24, h => by show (q.1, rightN _ _ _, q.2.2) = q; unfold rightN; rw [if_neg (show ¬ rightK _ _ _ = 0 from h)]
  | 25, h => by show (q.1, callN _ _, q.2.2) = q; unfold callN; rw [if_neg (show ¬ callK _ _ = 0 from h)]
  | 26, h => by show (q.1, bidN _ _ _, q.2.2) = q; unfold bidN; rw [if_neg (show ¬ bidK _ _ _ = 0 from h)]
  | 27, h => by show (q.1, hamN _, q.2.2) = q; unfold hamN; rw [if_neg (show ¬ hamK _ = 0 from h)]
  | 28, h => by show (q.1, ansN _ _, q.2.2) = q; unfold ansN; rw [if_neg (show ¬ ansK _ = 0 from h)]
  | 6, _ => rfl
  | 9, _ => rfl | 10, _ => rfl | 11, _ => rfl | 12, _ => rfl | 13, _ => rfl | 14, _ => rfl | 15, _ => rfl | 16, _ => rfl | 17, _ => rfl | 18, _ => rfl | 19, _ => rfl | 20, _ => rfl | 21, _ => rfl | 22, _ => rfl | 23, _ => rfl | 29, _ => rfl | 30, _ => rfl
  | n + 31, _ => rfl
theorem now_le {s : Ms} {E : Evs} (G : Gd s E) {k : Nat} (hk : k < 110) : nowF s E k ≤ 200000 := (Gd_run G).2.1 k hk
theorem colF_le : ∀ c k, k < 3 → colF c k < 3 := fun c k hk => by
  unfold colF
  repeat' split
  all_goals omega
/-- the state's calls tell no exception's number -/
theorem op_val (h : GX m q) (hm : m ≤ 100000) (a b c d e : Int32) : ∀ k, (k ≤ 8 ∨ (24 ≤ k ∧ k ≤ 28)) → opK q a b c d e k = 0 → opX q a b c d e k ≠ -2100000000
  | 0, _, _ => nI_ne (by have := h.2.2.2.1; omega)
  | 1, _, _ => nI_ne (by have := h.1.2.2.1; omega)
  | 2, _, hk => by
    show stepV _ _ _ _ _ ≠ _
    obtain ⟨x, v, n, hx, hv, hxv, hn1, hn2, rfl, rfl, hwN, rfl, hB⟩ := step_inv hk
    unfold stepV tellR
    rw [ccl (by omega), ccl (by omega), hwN]
    split
    · exact m1_ne
    · have G' := (Gd_tell h.1 x v n hx hv hxv hn2 hB).1
      have ht := turnF_lt (nowF q.1.1 q.1.2)
      have a1 := now_le G' (k := 104 + turnF (nowF q.1.1 q.1.2)) (by omega)
      have a2 := now_le G' (k := 104 + (1 - turnF (nowF q.1.1 q.1.2))) (by omega)
      have a3 := now_le h.1 (k := 104 + turnF (nowF q.1.1 q.1.2)) (by omega)
      have a4 := now_le h.1 (k := 104 + (1 - turnF (nowF q.1.1 q.1.2))) (by omega)
      exact sub_ne (by omega) (by omega)
  | 3, _, hk => by
    show cardV _ _ _ _ _ ≠ _
    obtain ⟨x, y, z, hx, hy, hz, rfl, rfl, rfl, hB⟩ := card_inv hk
    unfold cardV
    rw [ccl (by omega), ccl (by omega), ccl (by omega)]
    have := colF_le (nowF q.1.1 q.1.2 (40 + 10 * x + y)) z hz
    exact nI_ne (by omega)
  | 4, _, hk => by
    show swapV _ _ _ ≠ _
    obtain ⟨x, p, r, hx, hp, hr, rfl, rfl, rfl, hB⟩ := swap_inv hk
    unfold swapV
    rw [ccl (by omega)]
    have := now_le h.1 (k := 102 + x) (by omega)
    exact nI_ne (by omega)
  | 5, _, hk => by
    show revV _ _ _ _ _ _ _ ≠ _
    obtain ⟨x, i, j, y, v, hb, hi, h0, hj, hj10, hx, hv, hxv, rfl, rfl, rfl, rfl, rfl, hwN, h1, h7, hf⟩ := rev_inv h.1 hk
    have g2 := h.1.2.2.1
    unfold revV amendR
    rw [ccl (by omega), ccl (by omega), ccl (by omega), ccl (by omega), hwN]
    obtain ⟨-, -, G'⟩ := Gd_fix h.1 h1 i j y v (by omega) h0 hj (by omega) hv hxv hf
    have a1 := now_le G' (k := 104 + x) (by omega)
    have a2 := now_le G' (k := 104 + (1 - x)) (by omega)
    have a3 := now_le h.1 (k := 104 + x) (by omega)
    have a4 := now_le h.1 (k := 104 + (1 - x)) (by omega)
    exact sub2_ne (by omega) (by omega) (by omega) (by omega)
  | 7, _, _ => nI_ne (by have := h.1.2.2.1; omega)
  | 8, _, hk => by
    show entV _ _ ≠ _
    unfold entV noteV
    have hk : entK q.1.1 q.1.2 = 0 := hk
    unfold entK at hk
    split at hk
    · rename_i hh
      obtain ⟨a1, a2, -⟩ := h.1.2.2.2.2.2.2.2.1 hh.1
      split
      · exact m1_ne
      · split
        · exact nI_ne (by omega)
        · exact nI_ne (by omega)
    · omega
  | 24, _, hk => by
    show q.2.1 (90 + _) ≠ _
    have hk : rightK q.2.1 a b = 0 := hk
    unfold rightK at hk
    split at hk
    · omega
    · rename_i h1
      obtain ⟨l, hl, rfl⟩ := isIx_ex (by omega) (not_or2 h1).2
      rw [ccl (by omega)]
      rcases h.2.1.2.1 l hl with z | ⟨c, hc, z⟩
      · rw [z]; exact m1_ne
      · rw [z]; exact nI_ne (by omega)
  | 25, _, _ => by
    show nI (baseF _) ≠ _
    refine nI_ne ?_
    unfold baseF
    repeat' split
    all_goals omega
  | 26, _, hk => by
    show q.2.1 121 + 1 ≠ _
    obtain ⟨x, y, ha, hb1, hb2, rfl, rfl, hB⟩ := bid_inv hk
    unfold bidG at hB
    rw [Bool.and_eq_true, decide_eq_true_eq] at hB
    rcases h.2.1.1 with z | ⟨l, hl, z1, n, z2, z3, -⟩
    · exact (hB.1.1 z).elim
    · rw [z2]
      have : nI n + 1 = nI (n + 1) := (Int32.ofNat_add n 1).symm
      rw [this]
      exact nI_ne (by omega)
  | 27, _, hk => by
    show strikeV _ ≠ _
    have hk : hamK q.2.1 = 0 := hk
    unfold hamK at hk
    split at hk
    · rename_i hh
      unfold strikeV
      split
      · exact m1_ne
      · rename_i hb
        split
        · exact m1_ne
        · rcases h.2.1.1 with z | ⟨l, hl, z1, n, z2, z3, z4⟩
          · exact (hh.1 z).elim
          · obtain ⟨hh2, c, y1, y2, y3, y4, y5, y6⟩ := z4 (fun y => hb (by rw [z2, y]; rfl))
            rw [y6]
            exact nI_ne (by omega)
    · omega
  | 28, _, hk => by
    show settleC _ _ ≠ _
    have hk : ansK q.2.1 = 0 := hk
    unfold ansK at hk
    split at hk
    · rename_i hh
      rcases h.2.1.2.2 with z | ⟨-, hc, hb1, l', hl', hl2', hr'⟩
      · rw [hh] at z; exact absurd z (by decide)
      rcases h.2.1.1 with z | ⟨l, hl, z1, n, z2, z3, z4⟩
      · exact (hc z).elim
      unfold settleC
      split
      · rw [z1, ccl (by omega)]
        rcases h.2.1.2.1 l hl with z | ⟨c, hc2, z⟩
        · rw [z]; exact m1_ne
        · rw [z]; exact nI_ne (by omega)
      · obtain ⟨hh2, c, y1, y2, y3, y4, y5, y6⟩ := z4 (fun y => hb1 (by rw [z2, y]; rfl))
        rw [y6]
        exact nI_ne (by omega)
    · omega
  | 6, _, hk => by
    show fallsV _ _ _ _ _ _ ≠ _
    have hk : fallsK q.1.1 q.1.2 a b c d = 0 := hk
    unfold fallsK at hk
    split at hk
    · omega
    · rename_i h1
      obtain ⟨i, j, hi, h0, hj, rfl, rfl, hj10⟩ := stepIx_ex h.1 (not_f h1)
      have g2 := h.1.2.2.1
      unfold fallsV fallsI
      rw [ccl (n := i) (by omega)]
      split
      · cases z : fallF (fixE q.1.2 i (nI j).toNatClampNeg c.toNatClampNeg (wN d)) (q.1.1 2 - q.1.1 1) with
        | none => exact m1_ne
        | some k =>
          have := fallF_lt z
          exact nI_ne (by omega)
      · exact nI_ne (by omega)
  | 9, hb, _ => absurd hb (by omega) | 10, hb, _ => absurd hb (by omega) | 11, hb, _ => absurd hb (by omega) | 12, hb, _ => absurd hb (by omega) | 13, hb, _ => absurd hb (by omega) | 14, hb, _ => absurd hb (by omega) | 15, hb, _ => absurd hb (by omega) | 16, hb, _ => absurd hb (by omega) | 17, hb, _ => absurd hb (by omega) | 18, hb, _ => absurd hb (by omega) | 19, hb, _ => absurd hb (by omega) | 20, hb, _ => absurd hb (by omega) | 21, hb, _ => absurd hb (by omega) | 22, hb, _ => absurd hb (by omega) | 23, hb, _ => absurd hb (by omega) | 29, hb, _ => absurd hb (by omega) | 30, hb, _ => absurd hb (by omega)
  | n + 31, hb, _ => absurd hb (by omega)
end Pres
