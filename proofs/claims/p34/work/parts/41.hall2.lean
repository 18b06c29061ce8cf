/-! more calls about a match, the class -/
section Hl2
variable {J : Nat → Nat → Int64} {V : Mem} {s : Ms} {E : Evs}
def cardK (s : Ms) (E : Evs) (a p k : Int32) : Nat := if isIx a 2 = false ∨ isIx p 10 = false then 1 else if inB k 0 2 = false then 2 else if cardB s E a.toNatClampNeg p.toNatClampNeg k.toNatClampNeg = false then 3 else 0
def cardN (s : Ms) (E : Evs) (a p k : Int32) : St := if cardK s E a p k = 0 then (up1 s 2 (s 2 + 1), up1 E (s 2) (evNew 1 a.toNatClampNeg p.toNatClampNeg k.toNatClampNeg)) else (s, E)
def cardV (s : Ms) (E : Evs) (a p k : Int32) : Int32 := nI (colF (nowF s E (40 + 10 * a.toNatClampNeg + p.toNatClampNeg)) k.toNatClampNeg)
theorem h_card (c : clM V s E) (G : Gd s E) (a p k : Int32) : CO J mX7_card [.ref 0, .int a, .int p, .int k] V xs3 (cardK s E a p k) (cardV s E a p k) (fun V' => clX V' (cardN s E a p k) ∧ GdX (cardN s E a p k)) := by
  unfold CO
  have bad : ∀ n, n ≠ 0 → cardK s E a p k = n → ∀ X, (n, X) ∈ xs3 → (cardK s E a p k ≠ 0 ∧ (cardK s E a p k, X) ∈ xs3 ∧ offF V V 1 388 ∧ clX V (cardN s E a p k) ∧ GdX (cardN s E a p k)) := by
    intro n hn hk X hX
    refine ⟨by rw [hk]; exact hn, by rw [hk]; exact hX, offF_rf _ _ _, ?_⟩
    unfold cardN; rw [if_neg (by rw [hk]; exact hn)]; exact ⟨c, G⟩
  refine v_X7_card a p k (nd_ix a 2 (by omega) (fun h1 => nd_ix p 10 (by omega) (fun h2 => rd_b (k7_isWithin J k 0 2 V) (nd_arg _ (fun h3 => ?_) (fun h3 => ?_))) (fun h2 => ?_)) (fun h1 => ?_))
  · obtain ⟨a, ha, rfl⟩ := isIx_ex (by omega) h1
    obtain ⟨p, hp, rfl⟩ := isIx_ex (by omega) h2
    obtain ⟨k, -, hk3, rfl⟩ := inB_nI (a := 0) (b := 2) (by omega) h3 (by omega)
    have e1 : (nI a).toNatClampNeg = a := ccl (by omega)
    have e2 : (nI p).toNatClampNeg = p := ccl (by omega)
    have e3 : (nI k).toNatClampNeg = k := ccl (by omega)
    have hkk : cardK s E (nI a) (nI p) (nI k) = if cardB s E a p k = false then 3 else 0 := by unfold cardK; rw [if_neg (by rw [h1, h2]; decide), if_neg (by rw [h3]; decide), e1, e2, e3]
    refine rd_b (k1_mayShowCard c G a p k ha hp (by omega)) (nd_st _ (fun h4 => ?_) (fun h4 => ?_))
    · have hk : cardK s E (nI a) (nI p) (nI k) = 0 := by rw [hkk, if_neg (by rw [h4]; decide)]
      have hv : cardV s E (nI a) (nI p) (nI k) = nI (colF (nowF s E (40 + 10 * a + p)) k) := by unfold cardV; rw [e1, e2, e3]
      rw [hv]
      refine wm_r (k1_showCard c G a p k ha hp (by omega) h4) hk (fun V' f' c' => ?_)
      unfold cardN; rw [if_pos hk, e1, e2, e3]
      unfold cardB at h4
      rw [Bool.and_eq_true, decide_eq_true_eq, standB_t] at h4
      exact ⟨c', Gd_add G h4.1.1 h4.1.2.1 h4.1.2.2 1 a p k (Or.inl rfl) ha hp (by omega) (fun _ => by omega) h4.2⟩
    · exact bad 3 (by omega) (by rw [hkk, if_pos h4]) _ (by simp [xs3])
  · exact bad 2 (by omega) (by unfold cardK; rw [if_neg (by rw [h1, h2]; decide), if_pos h3]) _ (by simp [xs3])
  · exact bad 1 (by omega) (by unfold cardK; rw [if_pos (Or.inr h2)]) _ (by simp [xs3])
  · exact bad 1 (by omega) (by unfold cardK; rw [if_pos (Or.inl h1)]) _ (by simp [xs3])
def swapK (s : Ms) (E : Evs) (a x y : Int32) : Nat := if isIx a 2 = false ∨ isIx x 10 = false ∨ isIx y 10 = false then 1 else if swapB s E a.toNatClampNeg x.toNatClampNeg y.toNatClampNeg = false then 2 else 0
def swapN (s : Ms) (E : Evs) (a x y : Int32) : St := if swapK s E a x y = 0 then (up1 s 2 (s 2 + 1), up1 E (s 2) (evNew 2 a.toNatClampNeg x.toNatClampNeg y.toNatClampNeg)) else (s, E)
def swapV (s : Ms) (E : Evs) (a : Int32) : Int32 := nI (nowF s E (102 + a.toNatClampNeg) + 1)
theorem h_change (c : clM V s E) (G : Gd s E) (a x y : Int32) : CO J mX7_change [.ref 0, .int a, .int x, .int y] V xsB (swapK s E a x y) (swapV s E a) (fun V' => clX V' (swapN s E a x y) ∧ GdX (swapN s E a x y)) := by
  unfold CO
  have bad : ∀ n, n ≠ 0 → swapK s E a x y = n → ∀ X, (n, X) ∈ xsB → (swapK s E a x y ≠ 0 ∧ (swapK s E a x y, X) ∈ xsB ∧ offF V V 1 388 ∧ clX V (swapN s E a x y) ∧ GdX (swapN s E a x y)) := by
    intro n hn hk X hX
    refine ⟨by rw [hk]; exact hn, by rw [hk]; exact hX, offF_rf _ _ _, ?_⟩
    unfold swapN; rw [if_neg (by rw [hk]; exact hn)]; exact ⟨c, G⟩
  refine v_X7_change a x y (nd_ix a 2 (by omega) (fun h1 => nd_ix x 10 (by omega) (fun h2 => nd_ix y 10 (by omega) (fun h3 => ?_) (fun h3 => ?_)) (fun h2 => ?_)) (fun h1 => ?_))
  · obtain ⟨a, ha, rfl⟩ := isIx_ex (by omega) h1
    obtain ⟨x, hx, rfl⟩ := isIx_ex (by omega) h2
    obtain ⟨y, hy, rfl⟩ := isIx_ex (by omega) h3
    have e1 : (nI a).toNatClampNeg = a := ccl (by omega)
    have e2 : (nI x).toNatClampNeg = x := ccl (by omega)
    have e3 : (nI y).toNatClampNeg = y := ccl (by omega)
    have hkk : swapK s E (nI a) (nI x) (nI y) = if swapB s E a x y = false then 2 else 0 := by unfold swapK; rw [if_neg (by rw [h1, h2, h3]; decide), e1, e2, e3]
    refine rd_b (k1_maySwap c G a x y ha hx hy) (nd_st _ (fun h4 => ?_) (fun h4 => ?_))
    · have hk : swapK s E (nI a) (nI x) (nI y) = 0 := by rw [hkk, if_neg (by rw [h4]; decide)]
      have hv : swapV s E (nI a) = nI (nowF s E (102 + a) + 1) := by unfold swapV; rw [e1]
      rw [hv]
      refine wm_r (k1_swap c G a x y ha hx hy h4) hk (fun V' f' c' => ?_)
      unfold swapN; rw [if_pos hk, e1, e2, e3]
      unfold swapB at h4
      rw [Bool.and_eq_true, decide_eq_true_eq, standB_t] at h4
      exact ⟨c', Gd_add G h4.1.1 h4.1.2.1 h4.1.2.2 2 a x y (Or.inr rfl) ha hx hy (fun z => by omega) h4.2⟩
    · exact bad 2 (by omega) (by rw [hkk, if_pos h4]) _ (by simp [xsB])
  · exact bad 1 (by omega) (by unfold swapK; rw [if_pos (Or.inr (Or.inr h3))]) _ (by simp [xsB])
  · exact bad 1 (by omega) (by unfold swapK; rw [if_pos (Or.inr (Or.inl h2))]) _ (by simp [xsB])
  · exact bad 1 (by omega) (by unfold swapK; rw [if_pos (Or.inl h1)]) _ (by simp [xsB])
/-- a step of a raid that has ended -/
def stepIx (s : Ms) (E : Evs) (n p : Int32) : Bool := isIx n (s 2 - s 1) && (decide (E n.toNatClampNeg 0 = 0) && isIx p (E n.toNatClampNeg 4))
theorem stepIx_of (G : Gd s E) {n p : Int32} (h : isIx p ((if isIx n (s 2 - s 1) = true ∧ E n.toNatClampNeg 0 = 0 then E n.toNatClampNeg 4 else 0)) = stepIx s E n p) : True := trivial
theorem k_stepIx (n p : Int32) : isIx p (if isIx n (s 2 - s 1) = true ∧ E n.toNatClampNeg 0 = 0 then E n.toNatClampNeg 4 else 0) = stepIx s E n p := by
  unfold stepIx
  by_cases h1 : isIx n (s 2 - s 1) = true
  · by_cases h2 : E n.toNatClampNeg 0 = 0
    · rw [if_pos ⟨h1, h2⟩, h1, decide_eq_true h2]; rfl
    · rw [if_neg (fun z => h2 z.2), h1, decide_eq_false h2]
      show isIx p 0 = false
      rw [Bool.eq_false_iff]
      intro z
      rw [isIx_t, vp_in_iff] at z
      omega
  · rw [if_neg (fun z => h1 z.1), Bool.eq_false_iff.mpr h1]
    show isIx p 0 = false
    rw [Bool.eq_false_iff]
    intro z
    rw [isIx_t, vp_in_iff] at z
    omega
theorem stepIx_ex (G : Gd s E) {n p : Int32} (h : stepIx s E n p = true) : ∃ a b, a < s 2 - s 1 ∧ E a 0 = 0 ∧ b < E a 4 ∧ n = nI a ∧ p = nI b ∧ b < 10 := by
  have g2 := G.2.2.1
  unfold stepIx at h
  rw [Bool.and_eq_true, Bool.and_eq_true, decide_eq_true_eq] at h
  obtain ⟨a, ha, rfl⟩ := isIx_ex (by omega) h.1
  have e1 : (nI a).toNatClampNeg = a := ccl (by omega)
  rw [e1] at h
  have hw := (Gd_W G (k := a) (by omega)).1
  obtain ⟨b, hb, rfl⟩ := isIx_ex (by omega) h.2.2
  exact ⟨a, b, ha, h.2.1, hb, rfl, rfl, by omega⟩
def fallsV (s : Ms) (E : Evs) (n p k w : Int32) : Int32 := fallsI s E n.toNatClampNeg p.toNatClampNeg k.toNatClampNeg (wN w)
def fallsK (s : Ms) (E : Evs) (n p k w : Int32) : Nat := if stepIx s E n p = false then 1 else if stepB k w 5 = false then 2 else 0
theorem nd_steps (c : clM V s E) (G : Gd s E) (n p : Int32) {Q : Mem → Prop} {Qx : String → Mem → Prop} (h1 : stepIx s E n p = true → Q V) (h2 : stepIx s E n p = false → Qx xIO V) : CTc J mX1_stepsOf [.ref 1, .int n] V (fun r V1 => ∃ r1 : Int32, r = some (.int r1) ∧ CTc J mX7_needIndex [.int p, .int r1] V1 (fun r V2 => r = none ∧ Q V2) Qx) Qx := by
  refine rd_i (k1_stepsOf c G n) ?_
  have e : (if isIx n (s 2 - s 1) = true ∧ E n.toNatClampNeg 0 = 0 then nI (E n.toNatClampNeg 4) else 0) = nI (if isIx n (s 2 - s 1) = true ∧ E n.toNatClampNeg 0 = 0 then E n.toNatClampNeg 4 else 0) := by
    split <;> rfl
  have hlt : (if isIx n (s 2 - s 1) = true ∧ E n.toNatClampNeg 0 = 0 then E n.toNatClampNeg 4 else 0) < 2147483648 := by
    have g2 := G.2.2.1
    split
    · next z =>
      obtain ⟨a, ha, rfl⟩ := isIx_ex (by omega) z.1
      rw [ccl (by omega)]
      have hw := (Gd_W G (k := a) (by omega)).1
      omega
    · omega
  rw [e]
  refine nd_ix p _ hlt (fun z => h1 ?_) (fun z => h2 ?_)
  · rw [k_stepIx] at z; exact z
  · rw [k_stepIx] at z; exact z
theorem h_wouldFall (c : clM V s E) (G : Gd s E) (n p k w : Int32) : CO J mX7_wouldFall [.ref 0, .int n, .int p, .int k, .int w] V xsD (fallsK s E n p k w) (fallsV s E n p k w) (fun V' => clX V' (s, E)) := by
  unfold CO
  refine v_X7_wouldFall n p k w (nd_steps c G n p (fun h1 => rd_b (k7_isStep J k w 5 V) (nd_arg _ (fun h2 => ?_) (fun h2 => ?_))) (fun h1 => ?_))
  · have hk : fallsK s E n p k w = 0 := by unfold fallsK; rw [if_neg (by rw [h1]; decide), if_neg (by rw [h2]; decide)]
    obtain ⟨a, b, ha, h0, hb, rfl, rfl, hb10⟩ := stepIx_ex G h1
    obtain ⟨x, v, hx, hv, hxv, rfl, rfl, hwN⟩ := stepB_of (b := 5) (by omega) h2
    have g2 := G.2.2.1
    have e : fallsV s E (nI a) (nI b) (nI x) (wI v) = fallsI s E a b x v := by unfold fallsV; rw [ccl (by omega), ccl (by omega), ccl (by omega), hwN]
    rw [e]
    exact wm_r (k1_firstFallen c G a b x v ha h0 hb (by omega) hv hxv) hk (fun V' f' c' => c')
  · have hk : fallsK s E n p k w = 2 := by unfold fallsK; rw [if_neg (by rw [h1]; decide), if_pos h2]
    rw [hk]; exact ⟨by omega, by simp [xsD], offF_rf _ _ _, c⟩
  · have hk : fallsK s E n p k w = 1 := by unfold fallsK; rw [if_pos h1]
    rw [hk]; exact ⟨by omega, by simp [xsD], offF_rf _ _ _, c⟩
def revK (s : Ms) (E : Evs) (a n p k w : Int32) : Nat := if isIx a 2 = false ∨ stepIx s E n p = false then 1 else if stepB k w 5 = false then 2 else if s 1 = 1 ∨ s (7 + a.toNatClampNeg) = 1 ∨ fallsV s E n p k w ≠ -1 then 3 else 0
def revN (s : Ms) (E : Evs) (a n p k w : Int32) : St := if revK s E a n p k w = 0 then (amendS s E a.toNatClampNeg n.toNatClampNeg p.toNatClampNeg k.toNatClampNeg (wN w), fixE E n.toNatClampNeg p.toNatClampNeg k.toNatClampNeg (wN w)) else (s, E)
def revV (s : Ms) (E : Evs) (a n p k w : Int32) : Int32 := amendR s E a.toNatClampNeg n.toNatClampNeg p.toNatClampNeg k.toNatClampNeg (wN w)
theorem h_review (c : clM V s E) (G : Gd s E) (a n p k w : Int32) : CO J mX7_review [.ref 0, .int a, .int n, .int p, .int k, .int w] V xs3 (revK s E a n p k w) (revV s E a n p k w) (fun V' => clX V' (revN s E a n p k w) ∧ GdX (revN s E a n p k w)) := by
  unfold CO
  have bad : ∀ m, m ≠ 0 → revK s E a n p k w = m → ∀ X V', (m, X) ∈ xs3 → offF V V' 1 388 → clM V' s E → (revK s E a n p k w ≠ 0 ∧ (revK s E a n p k w, X) ∈ xs3 ∧ offF V V' 1 388 ∧ clX V' (revN s E a n p k w) ∧ GdX (revN s E a n p k w)) := by
    intro m hn hk X V' hX hf hc
    refine ⟨by rw [hk]; exact hn, by rw [hk]; exact hX, hf, ?_⟩
    unfold revN; rw [if_neg (by rw [hk]; exact hn)]; exact ⟨hc, G⟩
  refine v_X7_review a n p k w (nd_ix a 2 (by omega) (fun h0 => nd_steps c G n p (fun h1 => rd_b (k7_isStep J k w 5 V) (nd_arg _ (fun h2 => rd_b (k1_isBetweenRaids c G) ?_) (fun h2 => ?_))) (fun h1 => ?_)) (fun h0 => ?_))
  · obtain ⟨a, ha, rfl⟩ := isIx_ex (by omega) h0
    obtain ⟨n, p, hn, hn0, hp, rfl, rfl, hb10⟩ := stepIx_ex G h1
    obtain ⟨x, v, hx, hv, hxv, rfl, rfl, hwN⟩ := stepB_of (b := 5) (by omega) h2
    have g0 := G.1
    have g1 := G.2.1
    have g2 := G.2.2.1
    have g7 := G.2.2.2.2.1
    have g8 := G.2.2.2.2.2.1
    have ga := G.2.2.2.2.2.2.1
    have ea : (nI a).toNatClampNeg = a := ccl (by omega)
    have en : (nI n).toNatClampNeg = n := ccl (by omega)
    have ep : (nI p).toNatClampNeg = p := ccl (by omega)
    have ex : (nI x).toNatClampNeg = x := ccl (by omega)
    have e : fallsV s E (nI n) (nI p) (nI x) (wI v) = fallsI s E n p x v := by unfold fallsV; rw [en, ep, ex, hwN]
    have hkk : revK s E (nI a) (nI n) (nI p) (nI x) (wI v) = if s 1 = 1 ∨ s (7 + a) = 1 ∨ fallsI s E n p x v ≠ -1 then 3 else 0 := by unfold revK; rw [if_neg (by rw [h0, h1]; decide), if_neg (by rw [h2]; decide), ea, e]
    have l7 : s (7 + a) ≤ 1 := by rcases (show a = 0 ∨ a = 1 by omega) with rfl | rfl; exact g7; exact g8
    have no : (s 1 = 1 ∨ s (7 + a) = 1) → F_X7_review_53 J (nI a) (nI n) (nI p) (nI x) (wI v) V (fun r V' => revK s E (nI a) (nI n) (nI p) (nI x) (wI v) = 0 ∧ r = some (.int (revV s E (nI a) (nI n) (nI p) (nI x) (wI v))) ∧ offF V V' 1 388 ∧ clX V' (revN s E (nI a) (nI n) (nI p) (nI x) (wI v)) ∧ GdX (revN s E (nI a) (nI n) (nI p) (nI x) (wI v))) (fun X V' => revK s E (nI a) (nI n) (nI p) (nI x) (wI v) ≠ 0 ∧ (revK s E (nI a) (nI n) (nI p) (nI x) (wI v), X) ∈ xs3 ∧ offF V V' 1 388 ∧ clX V' (revN s E (nI a) (nI n) (nI p) (nI x) (wI v)) ∧ GdX (revN s E (nI a) (nI n) (nI p) (nI x) (wI v))) := by
      intro hz
      unfold F_X7_review_53 F_X7_review_54
      refine nd_st false (fun z => Bool.noConfusion z) (fun _ => bad 3 (by omega) ?_ _ V (by simp [xs3]) (offF_rf _ _ _) c)
      rw [hkk, if_pos (by rcases hz with z | z; exact Or.inl z; exact Or.inr (Or.inl z))]
    refine ⟨fun h3 => no ?_, fun h3 => rd_b (k1_keepsReview c G a ha) ⟨fun h4 => no ?_, fun h4 => ?_⟩⟩
    · rw [decide_eq_false_iff_not] at h3
      exact Or.inl (by omega)
    · rw [decide_eq_false_iff_not] at h4
      exact Or.inr (by omega)
    · rw [decide_eq_true_eq] at h3 h4
      unfold F_X7_review_54
      refine nd_st true (fun _ => wm_i (k1_firstFallen c G n p x v hn hn0 hp (by omega) hv hxv) (fun V1 f1 c1 => ⟨fun h5 => ?_, fun h5 => ?_⟩)) (fun z => Bool.noConfusion z)
      · unfold F_X7_review_79
        refine nd_st false (fun z => Bool.noConfusion z) (fun _ => bad 3 (by omega) ?_ _ V1 (by simp [xs3]) f1 c1)
        rw [hkk, if_pos (Or.inr (Or.inr h5))]
      · have hk : revK s E (nI a) (nI n) (nI p) (nI x) (wI v) = 0 := by
          rw [hkk, if_neg]
          intro z
          rcases z with z | z | z
          · omega
          · omega
          · exact z h5
        unfold F_X7_review_79
        have hv2 : revV s E (nI a) (nI n) (nI p) (nI x) (wI v) = amendR s E a n p x v := by unfold revV; rw [ea, en, ep, ex, hwN]
        rw [hv2]
        refine nd_st true (fun _ => wm_i (k1_amend c1 G a n p x v ha h3.1 h3.2 h4 (by omega) hn0 hp (by omega) hv hxv h5) (fun V2 f2 c2 => ⟨hk, rfl, offF_tr f1 f2, ?_⟩)) (fun z => Bool.noConfusion z)
        unfold revN; rw [if_pos hk, ea, en, ep, ex, hwN]
        refine ⟨c2, ?_⟩
        obtain ⟨-, -, G'⟩ := Gd_fix G h3.2 n p x v (by omega) hn0 hp (by omega) hv hxv h5
        exact Gd_lost G' a _ ha (by split <;> omega)
  · exact bad 2 (by omega) (by unfold revK; rw [if_neg (by rw [h0, h1]; decide), if_pos h2]) _ V (by simp [xs3]) (offF_rf _ _ _) c
  · exact bad 1 (by omega) (by unfold revK; rw [if_pos (Or.inr h1)]) _ V (by simp [xs3]) (offF_rf _ _ _) c
  · exact bad 1 (by omega) (by unfold revK; rw [if_pos (Or.inl h0)]) _ V (by simp [xs3]) (offF_rf _ _ _) c
def backK (s : Ms) (n : Int32) : Nat := if isIx n (s 2) = false then 1 else 0
def backN (s : Ms) (E : Evs) (n : Int32) : St := if backK s n = 0 then (dropS s n.toNatClampNeg, E) else (s, E)
theorem h_takeBack (c : clM V s E) (G : Gd s E) (n : Int32) : CO J mX7_takeBack [.ref 0, .int n] V xsE (backK s n) (nI (s 2 - n.toNatClampNeg)) (fun V' => clX V' (backN s E n) ∧ GdX (backN s E n)) := by
  have g2 := G.2.2.1
  unfold CO
  refine v_X7_takeBack n (rd_i (k1_countEvents c) (nd_ix n _ (by omega) (fun h1 => ?_) (fun h1 => ?_)))
  · have hk : backK s n = 0 := by unfold backK; rw [if_neg (by rw [h1]; decide)]
    obtain ⟨a, ha, rfl⟩ := isIx_ex (by omega) h1
    have ea : (nI a).toNatClampNeg = a := ccl (by omega)
    rw [ea]
    refine wm_r (k1_dropFrom c G a ha) hk (fun V' f' c' => ?_)
    unfold backN; rw [if_pos hk, ea]
    exact ⟨c', Gd_drop G a ha⟩
  · have hk : backK s n = 1 := by unfold backK; rw [if_pos h1]
    rw [hk]
    refine ⟨by omega, by simp [xsE], offF_rf _ _ _, ?_⟩
    unfold backN; rw [hk]; exact ⟨c, G⟩
end Hl2
