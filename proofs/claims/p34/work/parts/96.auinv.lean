/-! the auction: purses and squads follow from the lots -/
def sumW (w : Nat → Nat) : Nat → Nat
  | 0 => 0
  | n + 1 => sumW w n + w n
theorem sumW_cg {w w' : Nat → Nat} : ∀ n, (∀ l, l < n → w' l = w l) → sumW w' n = sumW w n
  | 0, _ => rfl
  | n + 1, h => by
    unfold sumW
    rw [sumW_cg n (fun l hl => h l (by omega)), h n (by omega)]
theorem sumW_one {w w' : Nat → Nat} {k : Nat} : ∀ n, k < n → (∀ l, l < n → l ≠ k → w' l = w l) → sumW w' n + w k = sumW w n + w' k
  | 0, h, _ => absurd h (Nat.not_lt_zero k)
  | n + 1, h, hw => by
    unfold sumW
    by_cases e : k = n
    · subst e
      rw [sumW_cg k (fun l hl => hw l (by omega) (by omega))]
      omega
    · have ih := sumW_one n (k := k) (by omega) (fun l hl hne => hw l (by omega) hne)
      rw [hw n (by omega) (by omega)]
      omega
theorem sumW_le {w : Nat → Nat} {n : Nat} : ∀ d, sumW w n ≤ sumW w (n + d)
  | 0 => Nat.le_refl _
  | d + 1 => by
    have := sumW_le (w := w) (n := n) d
    show _ ≤ sumW w (n + d) + w (n + d)
    omega
def spW (u : Au) (c l : Nat) : Nat := if u (30 + l) = nI c then (u (60 + l)).toNatClampNeg else 0
def ctW (u : Au) (c l : Nat) : Nat := if u (30 + l) = nI c then 1 else 0
def foW (u : Au) (c l : Nat) : Nat := if u (30 + l) = nI c ∧ l % 4 = 0 then 1 else 0
def AuL (u : Au) (l : Nat) : Prop := (u (30 + l) = -1 ∧ u (60 + l) = -1) ∨ ∃ c p, c < 8 ∧ p ≤ 1000 ∧ u (30 + l) = nI c ∧ u (60 + l) = nI p
def AuC (u : Au) (c : Nat) : Prop := (sumW (spW u c) 24 ≤ 1000 ∧ u c = nI (1000 - sumW (spW u c) 24)) ∧ (sumW (ctW u c) 24 ≤ 6 ∧ u (10 + c) = nI (sumW (ctW u c) 24)) ∧ (sumW (foW u c) 24 ≤ 2 ∧ u (20 + c) = nI (sumW (foW u c) 24))
def AuN (u : Au) : Prop := (u 120 ≠ -1 → u (30 + (u 120).toNatClampNeg) = -1) ∧ (u 120 ≠ -1 → u 121 ≠ 0 → canF u (u 123).toNatClampNeg (u 122) (u 120).toNatClampNeg = true) ∧ (u 124 = 1 → canF u (u (90 + (u 120).toNatClampNeg)).toNatClampNeg (u 122) (u 120).toNatClampNeg = true)
def AuI (u : Au) : Prop := (∀ l, l < 24 → AuL u l) ∧ (∀ c, c < 8 → AuC u c) ∧ AuN u
theorem AuL_cg {u u' : Au} {l : Nat} (hl : l < 24) (h : ∀ j, j < 84 → u' j = u j) (q : AuL u l) : AuL u' l := by
  unfold AuL at *
  rw [h _ (by omega), h _ (by omega)]
  exact q
theorem W_cg {u u' : Au} {c l : Nat} (hl : l < 24) (h : ∀ j, j < 84 → u' j = u j) : spW u' c l = spW u c l ∧ ctW u' c l = ctW u c l ∧ foW u' c l = foW u c l := by
  unfold spW ctW foW
  rw [h (30 + l) (by omega), h (60 + l) (by omega)]
  exact ⟨rfl, rfl, rfl⟩
theorem AuC_cg {u u' : Au} {c : Nat} (hc : c < 8) (h : ∀ j, j < 84 → u' j = u j) (q : AuC u c) : AuC u' c := by
  unfold AuC at *
  rw [sumW_cg 24 (fun l hl => (W_cg (c := c) hl h).1), sumW_cg 24 (fun l hl => (W_cg (c := c) hl h).2.1), sumW_cg 24 (fun l hl => (W_cg (c := c) hl h).2.2), h c (by omega), h (10 + c) (by omega), h (20 + c) (by omega)]
  exact q
theorem canF_cg {u u' : Au} {c l : Nat} {x : Int32} (hc : c < 8) (h : ∀ j, j < 84 → u' j = u j) : canF u' c x l = canF u c x l := by
  unfold canF
  rw [h c (by omega), h (10 + c) (by omega), h (20 + c) (by omega)]
theorem sellF_at (u : Au) (c l j : Nat) (hc : c < 8) (hl : l < 24) : sellF u c l j = if j = 124 then 0 else if j = 120 then -1 else if l % 4 = 0 ∧ j = 20 + c then u (20 + c) + 1 else if j = 10 + c then u (10 + c) + 1 else if j = c then u c - u 122 else if j = 60 + l then u 122 else if j = 30 + l then nI c else u j := by
  unfold sellF sell1 up1
  by_cases h : l % 4 = 0
  · simp only [h, if_true, true_and]
  · simp only [h, if_false, false_and]
theorem nI_m1 {k : Nat} (h : k < 2147483648) : ¬ (-1 : Int32) = nI k := fun z => nI_n1 h z.symm
theorem AuI_sell {u : Au} {c l h : Nat} (q : (∀ l, l < 24 → AuL u l) ∧ ∀ c, c < 8 → AuC u c) (hc : c < 8) (hl : l < 24) (h0 : u (30 + l) = -1) (hh : u 122 = nI h) (h1 : h ≤ 1000) (hcan : canF u c (u 122) l = true) : AuI (sellF u c l) := by
  obtain ⟨qL, qC⟩ := q
  have at' := fun j => sellF_at u c l j hc hl
  unfold canF at hcan
  rw [Bool.and_eq_true, Bool.and_eq_true, decide_eq_true_eq, decide_eq_true_eq, Bool.or_eq_true, decide_eq_true_eq, decide_eq_true_eq] at hcan
  obtain ⟨n1, n2, n3⟩ := hcan
  have e30 : ∀ k, k < 24 → sellF u c l (30 + k) = if k = l then nI c else u (30 + k) := fun k hk => by
    rw [at', if_neg (by omega), if_neg (by omega), if_neg (by omega), if_neg (by omega), if_neg (by omega), if_neg (by omega)]
    by_cases e : k = l
    · rw [if_pos (by omega), if_pos e]
    · rw [if_neg (by omega), if_neg e]
  have e60 : ∀ k, k < 24 → sellF u c l (60 + k) = if k = l then u 122 else u (60 + k) := fun k hk => by
    rw [at', if_neg (by omega), if_neg (by omega), if_neg (by omega), if_neg (by omega), if_neg (by omega)]
    by_cases e : k = l
    · rw [if_pos (by omega), if_pos e]
    · rw [if_neg (by omega), if_neg (by omega), if_neg e]
  refine ⟨fun k hk => ?_, fun d hd => ?_, ?_, ?_, ?_⟩
  · unfold AuL
    rw [e30 k hk, e60 k hk]
    by_cases e : k = l
    · rw [if_pos e, if_pos e]
      exact Or.inr ⟨c, h, hc, h1, rfl, hh⟩
    · rw [if_neg e, if_neg e]
      exact qL k hk
  · obtain ⟨⟨s1, s2⟩, ⟨t1, t2⟩, f1, f2⟩ := qC d hd
    have oth : ∀ k, k < 24 → k ≠ l → spW (sellF u c l) d k = spW u d k ∧ ctW (sellF u c l) d k = ctW u d k ∧ foW (sellF u c l) d k = foW u d k := fun k hk hne => by
      unfold spW ctW foW
      rw [e30 k hk, e60 k hk, if_neg hne, if_neg hne]
      exact ⟨rfl, rfl, rfl⟩
    have a1 := sumW_one (w := spW u d) (w' := spW (sellF u c l) d) (k := l) 24 hl (fun k hk hne => (oth k hk hne).1)
    have a2 := sumW_one (w := ctW u d) (w' := ctW (sellF u c l) d) (k := l) 24 hl (fun k hk hne => (oth k hk hne).2.1)
    have a3 := sumW_one (w := foW u d) (w' := foW (sellF u c l) d) (k := l) 24 hl (fun k hk hne => (oth k hk hne).2.2)
    have b1 : spW u d l = 0 := by unfold spW; rw [h0, if_neg (nI_m1 (by omega))]
    have b2 : ctW u d l = 0 := by unfold ctW; rw [h0, if_neg (nI_m1 (by omega))]
    have b3 : foW u d l = 0 := by unfold foW; rw [h0, if_neg (fun z => nI_m1 (by omega) z.1)]
    have el : sellF u c l (30 + l) = nI c := by rw [e30 l hl, if_pos rfl]
    have ep : sellF u c l (60 + l) = nI h := by rw [e60 l hl, if_pos rfl, hh]
    by_cases e : d = c
    · subst e
      have c1 : spW (sellF u d l) d l = h := by unfold spW; rw [el, ep, if_pos rfl, ccl (by omega)]
      have c2 : ctW (sellF u d l) d l = 1 := by unfold ctW; rw [el, if_pos rfl]
      have c3 : foW (sellF u d l) d l = if l % 4 = 0 then 1 else 0 := by
        unfold foW
        rw [el]
        by_cases z : l % 4 = 0
        · rw [if_pos ⟨rfl, z⟩, if_pos z]
        · rw [if_neg (fun y => z y.2), if_neg z]
      rw [s2, hh, clt (by omega) (by omega)] at n1
      rw [t2, show (6 : Int32) = nI 6 from rfl, cle (by omega) (by omega)] at n2
      refine ⟨⟨by omega, ?_⟩, ⟨by omega, ?_⟩, ?_, ?_⟩
      · rw [at', if_neg (by omega), if_neg (by omega), if_neg (by omega), if_neg (by omega), if_pos rfl, s2, hh, nI_sub (by omega)]
        exact congrArg nI (by omega)
      · rw [at', if_neg (by omega), if_neg (by omega), if_neg (by omega), if_pos rfl, t2, show sumW (ctW (sellF u d l) d) 24 = sumW (ctW u d) 24 + 1 by omega]
        exact (Int32.ofNat_add _ _).symm
      · rcases n3 with n3 | n3
        · rw [if_neg n3] at c3; omega
        · rw [f2, show (2 : Int32) = nI 2 from rfl, cle (by omega) (by omega)] at n3
          split at c3 <;> omega
      · rw [at', if_neg (by omega), if_neg (by omega)]
        by_cases z : l % 4 = 0
        · rw [if_pos ⟨z, rfl⟩, f2, show sumW (foW (sellF u d l) d) 24 = sumW (foW u d) 24 + 1 by rw [if_pos z] at c3; omega]
          exact (Int32.ofNat_add _ _).symm
        · rw [if_neg (fun y => z y.1), if_neg (by omega), if_neg (by omega), if_neg (by omega), if_neg (by omega), f2, show sumW (foW (sellF u d l) d) 24 = sumW (foW u d) 24 by rw [if_neg z] at c3; omega]
    · have hcd : ¬ nI c = nI d := by rw [ceq (by omega) (by omega)]; omega
      have c1 : spW (sellF u c l) d l = 0 := by unfold spW; rw [el, if_neg hcd]
      have c2 : ctW (sellF u c l) d l = 0 := by unfold ctW; rw [el, if_neg hcd]
      have c3 : foW (sellF u c l) d l = 0 := by unfold foW; rw [el, if_neg (fun z => hcd z.1)]
      have z1 : sumW (spW (sellF u c l) d) 24 = sumW (spW u d) 24 := by omega
      have z2 : sumW (ctW (sellF u c l) d) 24 = sumW (ctW u d) 24 := by omega
      have z3 : sumW (foW (sellF u c l) d) 24 = sumW (foW u d) 24 := by omega
      unfold AuC
      rw [z1, z2, z3]
      refine ⟨⟨s1, ?_⟩, ⟨t1, ?_⟩, f1, ?_⟩
      · rw [at', if_neg (by omega), if_neg (by omega), if_neg (by omega), if_neg (by omega), if_neg (by omega), if_neg (by omega), if_neg (by omega)]; exact s2
      · rw [at', if_neg (by omega), if_neg (by omega), if_neg (by omega), if_neg (by omega), if_neg (by omega), if_neg (by omega), if_neg (by omega)]; exact t2
      · rw [at', if_neg (by omega), if_neg (by omega), if_neg (by omega), if_neg (by omega), if_neg (by omega), if_neg (by omega), if_neg (by omega)]; exact f2
  · intro z
    rw [at', if_neg (by omega), if_pos rfl] at z
    exact (z rfl).elim
  · intro z
    rw [at', if_neg (by omega), if_pos rfl] at z
    exact (z rfl).elim
  · intro z
    rw [at', if_pos rfl] at z
    exact absurd z (by decide)
section AuOps
variable {u : Au}
theorem AuI_right (I : AuI u) (G : GdA u) (c l : Nat) (hl : l < 24) (h : u 120 ≠ nI l) : AuI (up1 u (90 + l) (nI c)) := by
  obtain ⟨qL, qC, n1, n2, n3⟩ := I
  have o : ∀ j, j < 90 → up1 u (90 + l) (nI c) j = u j := fun j hj => up1_off _ _ (by omega)
  have o2 : ∀ j, 114 ≤ j → up1 u (90 + l) (nI c) j = u j := fun j hj => up1_off _ _ (by omega)
  refine ⟨fun k hk => AuL_cg hk (fun j hj => o j (by omega)) (qL k hk), fun d hd => AuC_cg hd (fun j hj => o j (by omega)) (qC d hd), ?_, ?_, ?_⟩
  · rw [o2 120 (by omega)]
    intro z
    obtain ⟨g1, -⟩ := G
    rcases g1 with g1 | ⟨l', hl', g2, -⟩
    · exact (z g1).elim
    have := n1 z
    rw [g2, ccl (by omega)] at this ⊢
    rw [o _ (by omega)]
    exact this
  · rw [o2 120 (by omega), o2 121 (by omega), o2 122 (by omega), o2 123 (by omega)]
    intro z z2
    have := n2 z z2
    obtain ⟨g1, -⟩ := G
    rcases g1 with g1 | ⟨l', hl', g2, b, g3, g4, g5⟩
    · exact (z g1).elim
    obtain ⟨hh, cc, g6, g7, g8, g9, g10, g11⟩ := g5 (fun y => z2 (by rw [g3, y]; rfl))
    rw [g11, ccl (by omega)] at this ⊢
    rw [canF_cg g10 (fun j hj => o j (by omega))]
    exact this
  · rw [o2 120 (by omega), o2 122 (by omega), o2 124 (by omega)]
    intro z
    have := n3 z
    obtain ⟨g1, gr, g3⟩ := G
    rcases g3 with g3 | ⟨-, -, -, l', hl', g4, g5⟩
    · rw [g3] at z; exact absurd z (by decide)
    have hne : l' ≠ l := fun y => h (by rw [g4, y])
    rw [g4, ccl (by omega)] at this ⊢
    rw [up1_off (a := 90 + l') _ _ (by omega)]
    rcases gr l' hl' with y | ⟨cc, y1, y2⟩
    · exact (g5 y).elim
    rw [y2, ccl (by omega)] at this ⊢
    rw [canF_cg y1 (fun j hj => o j (by omega))]
    exact this
theorem AuI_call (I : AuI u) (l : Nat) (hl : l < 24) (h : u (30 + l) = -1) : AuI (callF u l) := by
  obtain ⟨qL, qC, n1, n2, n3⟩ := I
  have o : ∀ j, j < 120 → callF u l j = u j := fun j hj => by
    unfold callF
    rw [up1_off _ _ (by omega), up1_off _ _ (by omega), up1_off _ _ (by omega), up1_off _ _ (by omega), up1_off _ _ (by omega)]
  have e0 : callF u l 120 = nI l := by simp [callF, up1]
  have e1 : callF u l 121 = 0 := by simp [callF, up1]
  have e4 : callF u l 124 = 0 := by simp [callF, up1]
  refine ⟨fun k hk => AuL_cg hk (fun j hj => o j (by omega)) (qL k hk), fun d hd => AuC_cg hd (fun j hj => o j (by omega)) (qC d hd), ?_, ?_, ?_⟩
  · intro _
    rw [e0, ccl (by omega), o _ (by omega)]
    exact h
  · intro _ z
    exact (z e1).elim
  · intro z
    rw [e4] at z
    exact absurd z (by decide)
theorem AuI_bid (I : AuI u) (G : GdA u) (c x : Nat) (hc : c < 8) (h : bidG u c (nI x) = true) : AuI (bidF u c (nI x)) := by
  obtain ⟨qL, qC, n1, n2, n3⟩ := I
  unfold bidG at h
  rw [Bool.and_eq_true, Bool.and_eq_true, decide_eq_true_eq, decide_eq_true_eq] at h
  obtain ⟨⟨h1, h2⟩, h3, h4⟩ := h
  have o : ∀ j, j < 121 ∨ j = 124 → bidF u c (nI x) j = u j := fun j hj => by
    unfold bidF
    rw [up1_off _ _ (by omega), up1_off _ _ (by omega), up1_off _ _ (by omega)]
  have e2 : bidF u c (nI x) 122 = nI x := by simp [bidF, up1]
  have e3 : bidF u c (nI x) 123 = nI c := by simp [bidF, up1]
  refine ⟨fun k hk => AuL_cg hk (fun j hj => o j (by omega)) (qL k hk), fun d hd => AuC_cg hd (fun j hj => o j (by omega)) (qC d hd), ?_, ?_, ?_⟩
  · rw [o 120 (by omega)]
    intro z
    obtain ⟨g1, -⟩ := G
    rcases g1 with g1 | ⟨l', hl', g2, -⟩
    · exact (z g1).elim
    have := n1 z
    rw [g2, ccl (by omega)] at this ⊢
    rw [o _ (by omega)]
    exact this
  · rw [o 120 (by omega), e2, e3, ccl (by omega)]
    intro _ _
    rw [canF_cg hc (fun j hj => o j (by omega))]
    exact h4
  · rw [o 124 (by omega), h2]
    intro z
    exact absurd z (by decide)
theorem AuI_strike (I : AuI u) (G : GdA u) (hc : u 120 ≠ -1) (ha : u 124 = 0) : AuI (strikeF u) := by
  obtain ⟨qL, qC, n1, n2, n3⟩ := I
  obtain ⟨g1, gr, -⟩ := G
  rcases g1 with g1 | ⟨l, hl, e0, b, hb, hb2, hbb⟩
  · exact (hc g1).elim
  have el : (u 120).toNatClampNeg = l := by rw [e0]; exact ccl (by omega)
  unfold strikeF
  split
  · have o : ∀ j, j ≠ 120 → up1 u 120 (-1) j = u j := fun j hj => up1_off _ _ hj
    refine ⟨fun k hk => AuL_cg hk (fun j hj => o j (by omega)) (qL k hk), fun d hd => AuC_cg hd (fun j hj => o j (by omega)) (qC d hd), ?_, ?_, ?_⟩
    · intro z; exact (z (up1_at _ _ _)).elim
    · intro z; exact (z (up1_at _ _ _)).elim
    · rw [o 124 (by omega), ha]; intro z; exact absurd z (by decide)
  · rename_i hb0
    obtain ⟨h, c, h2, h3, h4, h5, h6, h7⟩ := hbb (fun z => hb0 (by rw [hb, z]; rfl))
    split
    · rename_i hs
      have o : ∀ j, j ≠ 124 → up1 u 124 1 j = u j := fun j hj => up1_off _ _ hj
      refine ⟨fun k hk => AuL_cg hk (fun j hj => o j (by omega)) (qL k hk), fun d hd => AuC_cg hd (fun j hj => o j (by omega)) (qC d hd), ?_, ?_, ?_⟩
      · rw [o 120 (by omega), el, o _ (by omega)]
        have := n1
        rw [el] at this
        exact this
      · rw [o 120 (by omega), o 121 (by omega), o 122 (by omega), o 123 (by omega)]
        intro z z2
        have := n2 z z2
        rw [h7, ccl (by omega)] at this ⊢
        rw [canF_cg h6 (fun j hj => o j (by omega))]
        exact this
      · intro _
        rw [o 120 (by omega), o 122 (by omega), el, o _ (by omega)]
        rw [el] at hs
        unfold strikeB at hs
        rw [Bool.and_eq_true, Bool.and_eq_true, decide_eq_true_eq] at hs
        rcases gr l hl with y | ⟨cc, y1, y2⟩
        · exact (hs.1 y).elim
        have h9 := hs.2.2
        rw [y2, ccl (by omega)] at h9 ⊢
        rw [canF_cg y1 (fun j hj => o j (by omega))]
        exact h9
    · have h9 := n2 hc hb0
      have h8 := n1 hc
      rw [el] at h8 h9 ⊢
      rw [h7, ccl (by omega)] at h9 ⊢
      exact AuI_sell ⟨qL, qC⟩ h6 hl h8 h2 h4 h9
theorem AuI_settle (I : AuI u) (G : GdA u) (ha : u 124 = 1) (t : Bool) : AuI (settleF u t) := by
  obtain ⟨qL, qC, n1, n2, n3⟩ := I
  obtain ⟨g1, gr, g3⟩ := G
  rcases g3 with g3 | ⟨-, hc, hb1, l', hl', hl2', hr'⟩
  · rw [ha] at g3; exact absurd g3 (by decide)
  rcases g1 with g1 | ⟨l, hl, e0, b, hb, hb2, hbb⟩
  · exact (hc g1).elim
  have el : (u 120).toNatClampNeg = l := by rw [e0]; exact ccl (by omega)
  have hll : l' = l := by rw [e0, ceq (by omega) (by omega)] at hl2'; exact hl2'.symm
  subst hll
  obtain ⟨h, c, h2, h3, h4, h5, h6, h7⟩ := hbb (fun z => hb1 (by rw [hb, z]; rfl))
  have h8 := n1 hc
  have h9 := n2 hc hb1
  have h10 := n3 ha
  rw [el] at h8 h9 h10
  unfold settleF
  rw [el]
  generalize hu : up1 (up1 u (90 + l') (-1)) 124 0 = u'
  have o : ∀ j, j < 90 ∨ (114 ≤ j ∧ j ≠ 124) → u' j = u j := fun j hj => by
    rw [← hu, up1_off _ _ (by omega), up1_off _ _ (by omega)]
  have q' : (∀ l, l < 24 → AuL u' l) ∧ ∀ c, c < 8 → AuC u' c := ⟨fun k hk => AuL_cg hk (fun j hj => o j (by omega)) (qL k hk), fun d hd => AuC_cg hd (fun j hj => o j (by omega)) (qC d hd)⟩
  have fin : ∀ cc, cc < 8 → settleC u t = nI cc → canF u cc (u 122) l' = true → AuI (sellF u' (settleC u t).toNatClampNeg l') := by
    intro cc hcc e1 e2
    rw [e1, ccl (by omega)]
    refine AuI_sell q' hcc hl' (by rw [o _ (by omega)]; exact h8) (by rw [o 122 (by omega)]; exact h2) h4 ?_
    rw [canF_cg hcc (fun j hj => o j (by omega)), o 122 (by omega)]
    exact e2
  unfold settleC at fin ⊢
  rw [el] at fin ⊢
  cases t with
  | true =>
    rw [if_pos rfl] at fin ⊢
    rcases gr l' hl' with y | ⟨cc, y1, y2⟩
    · exact (hr' y).elim
    · rw [y2, ccl (by omega)] at h10
      exact fin cc y1 y2 h10
  | false =>
    rw [if_neg (by decide)] at fin ⊢
    rw [h7, ccl (by omega)] at h9
    exact fin c h6 h7 h9
end AuOps
