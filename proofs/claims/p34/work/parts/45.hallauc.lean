/-! the calls about the auction, the class -/
def CR (J : Nat → Nat → Int64) (d : pD) (as : List Value) (V : Mem) (lo n : Nat) (xs : List (Nat × String)) (k : Nat) (x : Int32) (P : Mem → Prop) : Prop :=
  CTc J d as V (fun r V' => k = 0 ∧ r = some (.int x) ∧ offF V V' lo n ∧ P V') (fun X V' => k ≠ 0 ∧ (k, X) ∈ xs ∧ offF V V' lo n ∧ P V')
theorem GdA_sell {u : Au} (g2 : ∀ l, l < 24 → u (90 + l) = -1 ∨ ∃ c, c < 8 ∧ u (90 + l) = nI c) (c l : Nat) (hc : c < 8) (hl : l < 24) : GdA (sellF u c l) := by
  have o : ∀ j, j < 24 → sellF u c l (90 + j) = u (90 + j) := by
    intro j hj
    unfold sellF
    rw [up1_off _ _ (by omega), up1_off _ _ (by omega)]
    split
    · rw [up1_off _ _ (by omega)]
      unfold sell1
      rw [up1_off _ _ (by omega), up1_off _ _ (by omega), up1_off _ _ (by omega), up1_off _ _ (by omega)]
    · unfold sell1
      rw [up1_off _ _ (by omega), up1_off _ _ (by omega), up1_off _ _ (by omega), up1_off _ _ (by omega)]
  refine ⟨Or.inl ?_, fun j hj => ?_, Or.inl ?_⟩
  · unfold sellF; rw [up1_off _ _ (by omega), up1_at]
  · rw [o j hj]; exact g2 j hj
  · unfold sellF; rw [up1_at]
section Ha
variable {J : Nat → Nat → Int64} {V : Mem} {u : Au}
theorem badA {xs : List (Nat × String)} {k m : Nat} {X : String} (h : k = m) (hm : m ≠ 0) (hX : (m, X) ∈ xs) (p : clA V u) (g : GdA u) : k ≠ 0 ∧ (k, X) ∈ xs ∧ offF V V 398 7 ∧ clA V u ∧ GdA u := ⟨by rw [h]; exact hm, by rw [h]; exact hX, offF_rf _ _ _, p, g⟩
def rightK (u : Au) (c l : Int32) : Nat := if isIx c 8 = false ∨ isIx l 24 = false then 1 else if u 120 = l ∨ u (30 + l.toNatClampNeg) ≠ -1 then 2 else 0
def rightN (u : Au) (c l : Int32) : Au := if rightK u c l = 0 then up1 u (90 + l.toNatClampNeg) (nI c.toNatClampNeg) else u
theorem GdA_right (G : GdA u) (c l : Nat) (hc : c < 8) (hl : l < 24) (h : u 120 ≠ nI l) : GdA (up1 u (90 + l) (nI c)) := by
  obtain ⟨g1, g2, g3⟩ := G
  unfold GdA
  rw [up1_off (a := 120) _ _ (by omega), up1_off (a := 121) _ _ (by omega), up1_off (a := 122) _ _ (by omega), up1_off (a := 123) _ _ (by omega), up1_off (a := 124) _ _ (by omega)]
  refine ⟨g1, fun j hj => ?_, ?_⟩
  · by_cases hjl : j = l
    · subst hjl; rw [up1_at]; exact Or.inr ⟨c, hc, rfl⟩
    · rw [up1_off _ _ (by omega)]; exact g2 j hj
  · rcases g3 with z | ⟨z1, z2, z3, j, hj, z4, z5⟩
    · exact Or.inl z
    · refine Or.inr ⟨z1, z2, z3, j, hj, z4, ?_⟩
      have : j ≠ l := fun y => h (by rw [z4, y])
      rw [up1_off _ _ (by omega)]; exact z5
theorem h_right (q : clA V u) (G : GdA u) (c l : Int32) : CR J mX7_right [.ref 0, .int c, .int l] V 398 7 xsB (rightK u c l) (u (90 + l.toNatClampNeg)) (fun V' => clA V' (rightN u c l) ∧ GdA (rightN u c l)) := by
  unfold CR
  refine v_X7_right c l (nd_ix c 8 (by omega) (fun h1 => nd_ix l 24 (by omega) (fun h2 => ?_) (fun h2 => ?_)) (fun h1 => ?_))
  · obtain ⟨c, hc, rfl⟩ := isIx_ex (by omega) h1
    obtain ⟨l, hl, rfl⟩ := isIx_ex (by omega) h2
    have ec : (nI c).toNatClampNeg = c := ccl (by omega)
    have el : (nI l).toNatClampNeg = l := ccl (by omega)
    have hkk : rightK u (nI c) (nI l) = if u 120 = nI l ∨ u (30 + l) ≠ -1 then 2 else 0 := by unfold rightK; rw [if_neg (by rw [h1, h2]; decide), el]
    have bad : (u 120 = nI l ∨ u (30 + l) ≠ -1) → F_X7_right_38 J (nI c) (nI l) V (fun r V' => rightK u (nI c) (nI l) = 0 ∧ r = some (.int (u (90 + (nI l).toNatClampNeg))) ∧ offF V V' 398 7 ∧ clA V' (rightN u (nI c) (nI l)) ∧ GdA (rightN u (nI c) (nI l))) (fun X V' => rightK u (nI c) (nI l) ≠ 0 ∧ (rightK u (nI c) (nI l), X) ∈ xsB ∧ offF V V' 398 7 ∧ clA V' (rightN u (nI c) (nI l)) ∧ GdA (rightN u (nI c) (nI l))) := by
      intro hz
      have hk : rightK u (nI c) (nI l) = 2 := by rw [hkk, if_pos hz]
      unfold F_X7_right_38 F_X7_right_39 rightN
      rw [hk]
      exact nd_st false (fun z => Bool.noConfusion z) (fun _ => badA (m := 2) rfl (by omega) (by simp [xsB]) q G)
    refine rd_b (k0_isCalled q _) ⟨fun z => bad (Or.inl (of_decide_eq_true z)), fun z => rd_b (k0_isSold q l hl) ⟨fun y => bad (Or.inr (of_decide_eq_true y)), fun y => ?_⟩⟩
    have z := of_decide_eq_false z
    have y := of_decide_eq_false y
    have hk : rightK u (nI c) (nI l) = 0 := by rw [hkk, if_neg (fun w => by rcases w with w | w; exact z w; exact y w)]
    unfold F_X7_right_39 rightN
    rw [hk, if_pos rfl, ec, el]
    exact nd_st true (fun _ => wa_i (k0_giveRight q c l hl) (fun V' f' c' => ⟨rfl, rfl, f', c', GdA_right G c l hc hl z⟩)) (fun z => Bool.noConfusion z)
  · have hk : rightK u c l = 1 := by unfold rightK; rw [if_pos (Or.inr h2)]
    unfold rightN; rw [hk]
    exact badA (m := 1) rfl (by omega) (by simp [xsB]) q G
  · have hk : rightK u c l = 1 := by unfold rightK; rw [if_pos (Or.inl h1)]
    unfold rightN; rw [hk]
    exact badA (m := 1) rfl (by omega) (by simp [xsB]) q G
def callK (u : Au) (l : Int32) : Nat := if isIx l 24 = false then 1 else if u 120 ≠ -1 ∨ u (30 + l.toNatClampNeg) ≠ -1 then 2 else 0
def callN (u : Au) (l : Int32) : Au := if callK u l = 0 then callF u l.toNatClampNeg else u
theorem GdA_call (G : GdA u) (l : Nat) (hl : l < 24) : GdA (callF u l) := by
  obtain ⟨g1, g2, g3⟩ := G
  have e0 : callF u l 120 = nI l := by simp [callF, up1]
  have e1 : callF u l 121 = nI 0 := by simp [callF, up1]; rfl
  have e4 : callF u l 124 = 0 := by simp [callF, up1]
  unfold GdA
  rw [e0, e1, e4]
  refine ⟨Or.inr ⟨l, hl, rfl, 0, rfl, by omega, fun z => (z rfl).elim⟩, fun j hj => ?_, Or.inl rfl⟩
  have : callF u l (90 + j) = u (90 + j) := by
    unfold callF
    rw [up1_off _ _ (by omega), up1_off _ _ (by omega), up1_off _ _ (by omega), up1_off _ _ (by omega), up1_off _ _ (by omega)]
  rw [this]; exact g2 j hj
theorem h_call (q : clA V u) (G : GdA u) (l : Int32) : CR J mX7_call [.ref 0, .int l] V 398 7 xsB (callK u l) (nI (baseF l.toNatClampNeg)) (fun V' => clA V' (callN u l) ∧ GdA (callN u l)) := by
  unfold CR
  refine v_X7_call l (nd_ix l 24 (by omega) (fun h2 => ?_) (fun h2 => ?_))
  · obtain ⟨l, hl, rfl⟩ := isIx_ex (by omega) h2
    have el : (nI l).toNatClampNeg = l := ccl (by omega)
    have hkk : callK u (nI l) = if u 120 ≠ -1 ∨ u (30 + l) ≠ -1 then 2 else 0 := by unfold callK; rw [if_neg (by rw [h2]; decide), el]
    have bad : (u 120 ≠ -1 ∨ u (30 + l) ≠ -1) → F_X7_call_31 J (nI l) V (fun r V' => callK u (nI l) = 0 ∧ r = some (.int (nI (baseF (nI l).toNatClampNeg))) ∧ offF V V' 398 7 ∧ clA V' (callN u (nI l)) ∧ GdA (callN u (nI l))) (fun X V' => callK u (nI l) ≠ 0 ∧ (callK u (nI l), X) ∈ xsB ∧ offF V V' 398 7 ∧ clA V' (callN u (nI l)) ∧ GdA (callN u (nI l))) := by
      intro hz
      have hk : callK u (nI l) = 2 := by rw [hkk, if_pos hz]
      unfold F_X7_call_31 F_X7_call_32 callN
      rw [hk]
      exact nd_st false (fun z => Bool.noConfusion z) (fun _ => badA (m := 2) rfl (by omega) (by simp [xsB]) q G)
    refine rd_b (k0_isBusy q) ⟨fun z => bad (Or.inl (of_decide_eq_true z)), fun z => rd_b (k0_isSold q l hl) ⟨fun y => bad (Or.inr (of_decide_eq_true y)), fun y => ?_⟩⟩
    have z := of_decide_eq_false z
    have y := of_decide_eq_false y
    have hk : callK u (nI l) = 0 := by rw [hkk, if_neg (fun w => by rcases w with w | w; exact z w; exact y w)]
    have ha : u 124 = 0 := by
      rcases G.2.2 with w | w
      · exact w
      · exact (z w.2.1).elim
    unfold F_X7_call_32 callN
    rw [hk, if_pos rfl, el]
    exact nd_st true (fun _ => wa_i (k0_callUp q l hl ha) (fun V' f' c' => ⟨rfl, rfl, f', c', GdA_call G l hl⟩)) (fun z => Bool.noConfusion z)
  · have hk : callK u l = 1 := by unfold callK; rw [if_pos h2]
    unfold callN; rw [hk]
    exact badA (m := 1) rfl (by omega) (by simp [xsB]) q G
def leastF (u : Au) : Int32 := if u 121 = 0 then nI (baseF (u 120).toNatClampNeg) else u 122 + 5
def bidG (u : Au) (c : Nat) (x : Int32) : Bool := decide (u 120 ≠ -1 ∧ u 124 = 0) && (decide (¬ x < leastF u) && canF u c x (u 120).toNatClampNeg)
def bidK (u : Au) (c x : Int32) : Nat := if isIx c 8 = false then 1 else if inB x 1 1000 = false then 2 else if bidG u c.toNatClampNeg x = false then 3 else 0
def bidN (u : Au) (c x : Int32) : Au := if bidK u c x = 0 then bidF u c.toNatClampNeg x else u
theorem GdA_bid (G : GdA u) (c x : Nat) (hc : c < 8) (hx : x ≤ 1000) (h : bidG u c (nI x) = true) : GdA (bidF u c (nI x)) ∧ u 121 + 1 ≠ 0 := by
  obtain ⟨g1, g2, g3⟩ := G
  unfold bidG at h
  rw [Bool.and_eq_true, Bool.and_eq_true, decide_eq_true_eq, decide_eq_true_eq] at h
  obtain ⟨⟨h1, h2⟩, h3, h4⟩ := h
  rcases g1 with g1 | ⟨l, hl, e0, b, hb, hb2, hbb⟩
  · exact (h1 g1).elim
  have el : (u 120).toNatClampNeg = l := by rw [e0]; exact ccl (by omega)
  have i0 : bidF u c (nI x) 120 = u 120 := by simp [bidF, up1]
  have i1 : bidF u c (nI x) 121 = nI (b + 1) := by simp [bidF, up1, hb, nI_1]
  have i2 : bidF u c (nI x) 122 = nI x := by simp [bidF, up1]
  have i3 : bidF u c (nI x) 123 = nI c := by simp [bidF, up1]
  have i4 : bidF u c (nI x) 124 = u 124 := by simp [bidF, up1]
  have hbs : 10 ≤ baseF l ∧ baseF l ≤ 50 := by unfold baseF; split; omega; split <;> omega
  have key : 5 * (b + 1) ≤ x ∧ baseF l ≤ x ∧ b + 1 ≤ 1000 := by
    unfold leastF at h3
    rw [hb, el] at h3
    by_cases b0 : b = 0
    · subst b0
      rw [if_pos (by rfl), clt (by omega) (by omega)] at h3
      omega
    · obtain ⟨h, c', hh, h5, hh1, hbs2, hc8, h123⟩ := hbb b0
      rw [if_neg (by rw [nI_0', ceq (by omega) (by omega)]; exact b0), hh, show (5 : Int32) = nI 5 from rfl, nI_add, clt (by omega) (by omega)] at h3
      omega
  refine ⟨⟨Or.inr ⟨l, hl, by rw [i0]; exact e0, b + 1, i1, by omega, fun _ => ⟨x, c, i2, by omega, by omega, by omega, hc, i3⟩⟩, fun j hj => ?_, Or.inl (by rw [i4]; exact h2)⟩, ?_⟩
  · have : bidF u c (nI x) (90 + j) = u (90 + j) := by
      unfold bidF
      rw [up1_off _ _ (by omega), up1_off _ _ (by omega), up1_off _ _ (by omega)]
    rw [this]; exact g2 j hj
  · rw [hb, nI_1, nI_0']
    intro z
    rw [ceq (by omega) (by omega)] at z
    omega
theorem h_bid (q : clA V u) (G : GdA u) (c x : Int32) : CR J mX7_bid [.ref 0, .int c, .int x] V 398 7 xs3 (bidK u c x) (u 121 + 1) (fun V' => clA V' (bidN u c x) ∧ GdA (bidN u c x)) := by
  unfold CR
  refine v_X7_bid c x (nd_ix c 8 (by omega) (fun h1 => rd_b (k7_isWithin J x 1 1000 V) (nd_arg _ (fun h2 => ?_) (fun h2 => ?_))) (fun h1 => ?_))
  · obtain ⟨c, hc, rfl⟩ := isIx_ex (by omega) h1
    obtain ⟨x, hx1, hx2, rfl⟩ := inB_nI (a := 1) (b := 1000) (by omega) h2 (by omega)
    have ec : (nI c).toNatClampNeg = c := ccl (by omega)
    have hkk : bidK u (nI c) (nI x) = if bidG u c (nI x) = false then 3 else 0 := by unfold bidK; rw [if_neg (by rw [h1]; decide), if_neg (by rw [h2]; decide), ec]
    have bad : bidG u c (nI x) = false → F_X7_bid_54 J (nI c) (nI x) V (fun r V' => bidK u (nI c) (nI x) = 0 ∧ r = some (.int (u 121 + 1)) ∧ offF V V' 398 7 ∧ clA V' (bidN u (nI c) (nI x)) ∧ GdA (bidN u (nI c) (nI x))) (fun X V' => bidK u (nI c) (nI x) ≠ 0 ∧ (bidK u (nI c) (nI x), X) ∈ xs3 ∧ offF V V' 398 7 ∧ clA V' (bidN u (nI c) (nI x)) ∧ GdA (bidN u (nI c) (nI x))) := by
      intro hz
      have hk : bidK u (nI c) (nI x) = 3 := by rw [hkk, if_pos hz]
      unfold F_X7_bid_54 F_X7_bid_55 bidN
      rw [hk]
      exact nd_st false (fun z => Bool.noConfusion z) (fun _ => badA (m := 3) rfl (by omega) (by simp [xs3]) q G)
    refine rd_b (k0_isOpen q) ⟨fun z => bad ?_, fun z => ?_⟩
    · unfold bidG; rw [z]; rfl
    · have z' := of_decide_eq_true z
      have G' := G
      rcases G.1 with g1 | ⟨l, hl, e0, -⟩
      · exact (z'.1 g1).elim
      have el : (u 120).toNatClampNeg = l := by rw [e0]; exact ccl (by omega)
      have hle : (if u 121 = 0 then nI (baseF l) else u 122 + 5) = leastF u := by unfold leastF; rw [el]
      refine rd_i (k0_leastBid q l hl e0) ?_
      rw [hle]
      refine ⟨fun y => bad ?_, fun y => rd_b (k0_canPay q c l hc hl e0 _) ⟨fun w => bad ?_, fun w => ?_⟩⟩
      · unfold bidG; rw [decide_eq_false (p := ¬ nI x < leastF u) (fun v => v y), Bool.false_and, Bool.and_false]
      · unfold bidG; rw [el, w, Bool.and_false, Bool.and_false]
      · have hG : bidG u c (nI x) = true := by unfold bidG; rw [el, w, z, decide_eq_true y]; rfl
        have hk : bidK u (nI c) (nI x) = 0 := by rw [hkk, if_neg (by rw [hG]; decide)]
        obtain ⟨b1, b2⟩ := GdA_bid G' c x hc hx2 hG
        unfold F_X7_bid_55 bidN
        rw [hk, if_pos rfl, ec]
        exact nd_st true (fun _ => wa_i (k0_takeBid q c (nI x) z'.1 b2) (fun V' f' c' => ⟨rfl, rfl, f', c', b1⟩)) (fun z => Bool.noConfusion z)
  · have hk : bidK u c x = 2 := by unfold bidK; rw [if_neg (by rw [h1]; decide), if_pos h2]
    unfold bidN; rw [hk]
    exact badA (m := 2) rfl (by omega) (by simp [xs3]) q G
  · have hk : bidK u c x = 1 := by unfold bidK; rw [if_pos h1]
    unfold bidN; rw [hk]
    exact badA (m := 1) rfl (by omega) (by simp [xs3]) q G
def hamK (u : Au) : Nat := if u 120 ≠ -1 ∧ u 124 = 0 then 0 else 1
def hamN (u : Au) : Au := if hamK u = 0 then strikeF u else u
theorem GdA_strike (G : GdA u) (hc : u 120 ≠ -1) (ha : u 124 = 0) : GdA (strikeF u) := by
  obtain ⟨g1, g2, g3⟩ := G
  rcases g1 with g1 | ⟨l, hl, e0, b, hb, hb2, hbb⟩
  · exact (hc g1).elim
  have el : (u 120).toNatClampNeg = l := by rw [e0]; exact ccl (by omega)
  unfold strikeF
  rw [el]
  split
  · refine ⟨Or.inl (up1_at _ _ _), fun j hj => ?_, Or.inl ?_⟩
    · rw [up1_off _ _ (by omega)]; exact g2 j hj
    · rw [up1_off _ _ (by omega)]; exact ha
  · next h0 =>
    have b0 : b ≠ 0 := fun y => h0 (by rw [hb, y]; rfl)
    obtain ⟨h, c, hh, h5, hh1, hbs, hc8, h123⟩ := hbb b0
    have ec : (u 123).toNatClampNeg = c := by rw [h123]; exact ccl (by omega)
    rw [ec]
    split
    · next hs =>
      unfold strikeB at hs
      rw [Bool.and_eq_true, decide_eq_true_eq] at hs
      unfold GdA
      rw [up1_off (a := 120) _ _ (by omega), up1_off (a := 121) _ _ (by omega), up1_off (a := 122) _ _ (by omega), up1_off (a := 123) _ _ (by omega), up1_at]
      refine ⟨Or.inr ⟨l, hl, e0, b, hb, hb2, hbb⟩, fun j hj => ?_, Or.inr ⟨rfl, hc, h0, l, hl, e0, ?_⟩⟩
      · rw [up1_off _ _ (by omega)]; exact g2 j hj
      · rw [up1_off _ _ (by omega)]; exact hs.1
    · exact GdA_sell g2 c l hc8 hl
theorem h_hammer (q : clA V u) (G : GdA u) : CR J mX7_hammer [.ref 0] V 398 7 xsF (hamK u) (strikeV u) (fun V' => clA V' (hamN u) ∧ GdA (hamN u)) := by
  unfold CR
  refine v_X7_hammer (rd_b (k0_isOpen q) (nd_st _ (fun h => ?_) (fun h => ?_)))
  · have h := of_decide_eq_true h
    have hk : hamK u = 0 := by unfold hamK; rw [if_pos h]
    unfold hamN; rw [hk, if_pos rfl]
    exact wa_i (k0_strike q G h.1 h.2) (fun V' f' c' => ⟨rfl, rfl, f', c', GdA_strike G h.1 h.2⟩)
  · have h := of_decide_eq_false h
    have hk : hamK u = 1 := by unfold hamK; rw [if_neg h]
    unfold hamN; rw [hk]
    exact badA (m := 1) rfl (by omega) (by simp [xsF]) q G
def ansK (u : Au) : Nat := if u 124 = 1 then 0 else 1
def ansN (u : Au) (b : Bool) : Au := if ansK u = 0 then settleF u b else u
theorem GdA_settle (G : GdA u) (ha : u 124 = 1) (t : Bool) : GdA (settleF u t) := by
  obtain ⟨g1, g2, g3⟩ := G
  rcases g3 with g3 | ⟨-, hc, hb1, l', hl', hl2', hr'⟩
  · rw [ha] at g3; exact absurd g3 (by decide)
  rcases g1 with g1 | ⟨l, hl, h2, b, hb, hb2, hbb⟩
  · exact (hc g1).elim
  have hll : l' = l := by rw [h2, ceq (by omega) (by omega)] at hl2'; exact hl2'.symm
  subst hll
  have hb0 : b ≠ 0 := fun y => hb1 (by rw [hb, y]; rfl)
  obtain ⟨h, c, hh, h5, hh1, hbs, hc8, h123⟩ := hbb hb0
  have el : (u 120).toNatClampNeg = l' := by rw [h2]; exact ccl (by omega)
  have hC : ∃ d, d < 8 ∧ settleC u t = nI d := by
    unfold settleC
    split
    · rw [el]
      rcases g2 l' hl with v | ⟨d, hd, v⟩
      · exact (hr' v).elim
      · exact ⟨d, hd, v⟩
    · exact ⟨c, hc8, h123⟩
  obtain ⟨d, hd, hdC⟩ := hC
  unfold settleF
  rw [hdC, el, ccl (n := d) (by omega)]
  refine GdA_sell (fun j hj => ?_) d l' hd hl
  rw [up1_off _ _ (by omega)]
  by_cases hjl : j = l'
  · subst hjl; rw [up1_at]; exact Or.inl rfl
  · rw [up1_off _ _ (by omega)]; exact g2 j hj
theorem h_answer (q : clA V u) (G : GdA u) (t : Bool) : CR J mX7_answer [.ref 0, .int (bI t)] V 398 7 xsF (ansK u) (settleC u t) (fun V' => clA V' (ansN u t) ∧ GdA (ansN u t)) := by
  unfold CR
  refine v_X7_answer _ (rd_b (k0_isAsking q G) (nd_st _ (fun h => ?_) (fun h => ?_)))
  · have h := of_decide_eq_true h
    have hk : ansK u = 0 := by unfold ansK; rw [if_pos h]
    unfold ansN; rw [hk, if_pos rfl]
    exact wa_i (k0_settle q G h t) (fun V' f' c' => ⟨rfl, rfl, f', c', GdA_settle G h t⟩)
  · have h := of_decide_eq_false h
    have hk : ansK u = 1 := by unfold ansK; rw [if_neg h]
    unfold ansN; rw [hk]
    exact badA (m := 1) rfl (by omega) (by simp [xsF]) q G
/-- the kode of a view of a lot or of a club -/
def twoK (a b : Bool) : Nat := if a = false then 1 else if b = false then 2 else 0
theorem h_lot (q : clA V u) (G : GdA u) (l k : Int32) : CR J mX7_lot [.ref 0, .int l, .int k] V 398 7 xsD (twoK (isIx l 24) (isIx k 4)) (lotV u l.toNatClampNeg k.toNatClampNeg) (fun V' => clA V' u ∧ GdA u) := by
  unfold CR
  refine v_X7_lot l k (nd_ix l 24 (by omega) (fun h1 => rd_b (k7_isWithin J k 0 3 V) ?_) (fun h1 => ?_))
  · rw [inB_ix (n := 4) rfl]
    refine nd_arg _ (fun h2 => ?_) (fun h2 => ?_)
    · rw [h1, h2]
      obtain ⟨l, hl, rfl⟩ := isIx_ex (by omega) h1
      obtain ⟨k, hk, rfl⟩ := isIx_ex (by omega) h2
      rw [ccl (n := l) (by omega), ccl (n := k) (by omega)]
      exact rd_i (k0_tellOfLot q l k hl hk) ⟨rfl, rfl, offF_rf _ _ _, q, G⟩
    · rw [h1, h2]; exact badA (m := 2) rfl (by omega) (by simp [xsD]) q G
  · rw [h1]; exact badA (m := 1) rfl (by omega) (by simp [xsD]) q G
theorem h_squad (q : clA V u) (G : GdA u) (c k : Int32) : CR J mX7_squad [.ref 0, .int c, .int k] V 398 7 xsD (twoK (isIx c 8) (isIx k 3)) (u (10 * k.toNatClampNeg + c.toNatClampNeg)) (fun V' => clA V' u ∧ GdA u) := by
  unfold CR
  refine v_X7_squad c k (nd_ix c 8 (by omega) (fun h1 => rd_b (k7_isWithin J k 0 2 V) ?_) (fun h1 => ?_))
  · rw [inB_ix (n := 3) rfl]
    refine nd_arg _ (fun h2 => ?_) (fun h2 => ?_)
    · rw [h1, h2]
      obtain ⟨c, hc, rfl⟩ := isIx_ex (by omega) h1
      obtain ⟨k, hk, rfl⟩ := isIx_ex (by omega) h2
      rw [ccl (n := c) (by omega), ccl (n := k) (by omega)]
      exact rd_i (k0_tellOfClub q c k hc hk) ⟨rfl, rfl, offF_rf _ _ _, q, G⟩
    · rw [h1, h2]; exact badA (m := 2) rfl (by omega) (by simp [xsD]) q G
  · rw [h1]; exact badA (m := 1) rfl (by omega) (by simp [xsD]) q G
end Ha
