/-! selling, the class -/
theorem clA_end {V : Mem} {u : Au} (q : clA V u) (h : u 124 = 0) : clA (up2 V 398 6 (-1)) (up1 (up1 u 120 (-1)) 124 0) := by
  obtain ⟨q1, q2, q3, q4⟩ := q
  refine ⟨fun i j hi hj => ?_, ?_, ?_, fun z => (z ?_).elim⟩
  · have := ofA_lt hi hj
    rw [up1_off _ _ (by omega), up1_off _ _ (by omega), up2_off _ _ _ (by omega)]
    exact q1 i j hi hj
  · simp [up2_rw, up1]
  · simp [up2_rw, up1, q3, h]
  · simp [up1]
section Auc2
variable {J : Nat → Nat → Int64} {V : Mem} {u : Au}
theorem clA_c {i c : Nat} (q : clA V u) (hi : i < 3) (hc : c < 8) : V (399 + i) c = u (10 * i + c) := by
  have := q.1 i c (by omega) (by unfold szA; rw [if_pos hi]; exact hc)
  unfold ofA at this
  rwa [if_pos hi] at this
theorem k0_sellTo (q : clA V u) (c l : Nat) (hc : c < 8) (hl : l < 24) (h2 : u 120 = nI l) (hb : u 121 ≠ 0) (ha : u 124 = 0) : WA J mX0_sellTo [.ref 398, .int (nI c)] V (nI c) (fun V' => clA V' (sellF u c l)) := by
  have hq := q.2.2.2 (by rw [h2]; exact nI_n1 (by omega))
  have e8 : V 398 8 = u 122 := (hq.2.2 hb).1
  have e6 : V 398 6 = nI l := q.2.1.trans h2
  have el : (nI l).toNatClampNeg = l := ccl (by omega)
  have ec : (nI c).toNatClampNeg = c := ccl (by omega)
  refine v_X0_sellTo _ (rd_b (k7_isClub J _ V) ?_)
  rw [isIx_nI (by omega) hc]
  refine ⟨fun z => Bool.noConfusion z, fun _ => ?_⟩
  rw [e6]
  refine rd_b (k7_isLot J _ V) ?_
  rw [isIx_nI (by omega) hl]
  refine ⟨fun z => Bool.noConfusion z, fun _ => ?_⟩
  have o1 : ∀ (W : Mem) j x, up2 W 402 j x 398 = W 398 := fun W j x => up2_off _ _ _ (by omega)
  have o2 : ∀ (W : Mem) j x, up2 W 403 j x 398 = W 398 := fun W j x => up2_off _ _ _ (by omega)
  have o3 : ∀ (W : Mem) j x, up2 W 399 j x 398 = W 398 := fun W j x => up2_off _ _ _ (by omega)
  have o4 : ∀ (W : Mem) j x, up2 W 400 j x 398 = W 398 := fun W j x => up2_off _ _ _ (by omega)
  have o5 : ∀ (W : Mem) j x, up2 W 402 j x 399 = W 399 := fun W j x => up2_off _ _ _ (by omega)
  have o6 : ∀ (W : Mem) j x, up2 W 403 j x 399 = W 399 := fun W j x => up2_off _ _ _ (by omega)
  have o7 : ∀ (W : Mem) j x, up2 W 402 j x 400 = W 400 := fun W j x => up2_off _ _ _ (by omega)
  have o8 : ∀ (W : Mem) j x, up2 W 403 j x 400 = W 400 := fun W j x => up2_off _ _ _ (by omega)
  have o9 : ∀ (W : Mem) j x, up2 W 399 j x 400 = W 400 := fun W j x => up2_off _ _ _ (by omega)
  simp only [o1, o2, o3, o4, o5, o6, o7, o8, o9, e6, e8, el, ec]
  have p1 : V 399 c = u c := (clA_c q (i := 0) (by omega) hc).trans (by rw [show 10 * 0 + c = c by omega])
  have p2 : V 400 c = u (10 + c) := clA_c q (i := 1) (by omega) hc
  rw [p1, p2]
  have a1 := clA_arr q 3 l (by omega) hl (nI c)
  have a2 := clA_arr a1 4 l (by omega) hl (u 122)
  have a3 := clA_arr a2 0 c (by omega) hc (u c - u 122)
  have a4 := clA_arr a3 1 c (by omega) hc (u (10 + c) + 1)
  have z3 : ofA 0 + c = c := Nat.zero_add c
  have z1 : ofA 3 + l = 30 + l := rfl
  have z2 : ofA 4 + l = 60 + l := rfl
  have z4 : ofA 1 + c = 10 + c := rfl
  rw [z3, z1, z2, z4] at a4
  have ff : ∀ W : Mem, offF V W 398 7 → offF V (up2 W 398 6 (-1)) 398 7 := fun W h => offF_up h (by omega)
  generalize hM : up2 (up2 (up2 (up2 V 402 l (nI c)) 403 l (u 122)) 399 c (u c - u 122)) 400 c (u (10 + c) + 1) = M
  have fM : offF V M 398 7 := by rw [← hM]; exact offF_up (offF_up (offF_up (offF_up (offF_rf _ _ _) (by omega)) (by omega)) (by omega)) (by omega)
  have qM : clA M (up1 (up1 (up1 (up1 u (30 + l) (nI c)) (60 + l) (u 122)) c (u c - u 122)) (10 + c) (u (10 + c) + 1)) := by rw [← hM]; exact a4
  have h124 : up1 (up1 (up1 (up1 u (30 + l) (nI c)) (60 + l) (u 122)) c (u c - u 122)) (10 + c) (u (10 + c) + 1) 124 = 0 := by
    rw [up1_off _ _ (by omega), up1_off _ _ (by omega), up1_off _ _ (by omega), up1_off _ _ (by omega)]; exact ha
  refine ⟨vp_in_nI hl (by decide), vp_in_nI hl (by decide), vp_in_nI hc (by decide), vp_in_nI hc (by decide), vp_in_nI hc (by decide), vp_in_nI hc (by decide), rd_b (k0_isForeign l hl) ⟨fun w => ?_, fun w => ?_⟩⟩
  · have w := of_decide_eq_false w
    refine ⟨by trivial, ff _ fM, ?_⟩
    unfold sellF
    rw [if_neg w]
    exact clA_end qM h124
  · have w := of_decide_eq_true w
    have e20 : M 401 c = u (20 + c) := by
      have := clA_c qM (i := 2) (by omega) hc
      rw [up1_off _ _ (by omega), up1_off _ _ (by omega), up1_off _ _ (by omega), up1_off _ _ (by omega)] at this
      exact this
    rw [e20]
    refine ⟨vp_in_nI hc (by decide), vp_in_nI hc (by decide), by trivial, ff _ (offF_up fM (by omega)), ?_⟩
    unfold sellF
    rw [if_pos w]
    have a5 := clA_arr qM 2 c (by omega) hc (u (20 + c) + 1)
    exact clA_end a5 (by rw [up1_off _ _ (by have : ofA 2 = 20 := rfl; omega)]; exact h124)
/-- what the hammer does: the answer and the rest -/
def strikeB (u : Au) (l c : Nat) : Bool := decide (u (90 + l) ≠ -1) && (decide (u (90 + l) ≠ nI c) && canF u (u (90 + l)).toNatClampNeg (u 122) l)
def strikeV (u : Au) : Int32 := if u 121 = 0 then -1 else if strikeB u (u 120).toNatClampNeg (u 123).toNatClampNeg = true then -1 else u 123
def strikeF (u : Au) : Au := if u 121 = 0 then up1 u 120 (-1) else if strikeB u (u 120).toNatClampNeg (u 123).toNatClampNeg = true then up1 u 124 1 else sellF u (u 123).toNatClampNeg (u 120).toNatClampNeg
theorem k0_strike (q : clA V u) (G : GdA u) (hc : u 120 ≠ -1) (ha : u 124 = 0) : WA J mX0_strike [.ref 398] V (strikeV u) (fun V' => clA V' (strikeF u)) := by
  obtain ⟨g1, g2, g3⟩ := G
  rcases g1 with g1 | ⟨l, hl, h2, b, hb, hb2, hbb⟩
  · exact (hc g1).elim
  have hq := q.2.2.2 hc
  have el : (u 120).toNatClampNeg = l := by rw [h2]; exact ccl (by omega)
  refine v_X0_strike ?_
  unfold F_X0_strike strikeV strikeF
  rw [hq.1, el, q.2.1]
  refine ⟨fun z => ?_, fun z => ?_⟩
  · have hb0 : b ≠ 0 := fun y => z (by rw [hb, y]; rfl)
    obtain ⟨h, c, hh, h5, hh1, hbs, hc8, h123⟩ := hbb hb0
    have ec : (u 123).toNatClampNeg = c := by rw [h123]; exact ccl (by omega)
    obtain ⟨p8, p9⟩ := hq.2.2 z
    rw [if_neg z, if_neg z, ec, h2]
    refine rd_i (k0_rightOn q l hl) ?_
    rw [p9, p8, h123]
    have sell : strikeB u l c = false → CTc J mX0_sellTo [.ref 398, .int (nI c)] V (fun r V2 => ∃ r2 : Int32, r = some (Value.int r2) ∧ (some (Value.int r2) = some (Value.int (if strikeB u l c = true then -1 else nI c)) ∧ offF V V2 398 7 ∧ clA V2 (if strikeB u l c = true then up1 u 124 1 else sellF u c l))) NX := by
      intro hs
      rw [hs]
      refine wa_i (k0_sellTo q c l hc8 hl h2 z ha) (fun V' f' c' => ⟨rfl, f', c'⟩)
    refine ⟨fun y => sell ?_, fun y => ⟨fun w => sell ?_, fun w => ?_⟩⟩
    · unfold strikeB; rw [decide_eq_false (fun v => v y)]; rfl
    · unfold strikeB; rw [decide_eq_false (p := u (90 + l) ≠ nI c) (fun v => v w), Bool.false_and, Bool.and_false]
    · rcases g2 l hl with v | ⟨d, hd, v⟩
      · exact (y v).elim
      · have hsb : strikeB u l c = canF u d (u 122) l := by
          unfold strikeB
          rw [decide_eq_true y, decide_eq_true w, v, ccl (by omega)]; rfl
        rw [v]
        refine rd_b (k0_canPay q d l hd hl h2 (u 122)) ⟨fun x => by rw [p9, h123]; exact sell (by rw [hsb]; exact x), fun x => ?_⟩
        rw [hsb, x, if_pos rfl, if_pos rfl]
        refine ⟨rfl, offF_up (offF_rf _ _ _) (by omega), fun i j hi hj => ?_, ?_, ?_, fun _ => ?_⟩
        · have := ofA_lt hi hj
          rw [up1_off _ _ (by omega), up2_off _ _ _ (by omega)]
          exact q.1 i j hi hj
        · rw [up1_off _ _ (by omega)]; simp [up2_rw, up1]; exact q.2.1
        · simp [up2_rw, up1]
        · simp [up2_rw, up1, hq.1]
          exact ⟨hq.2.1, hq.2.2⟩
  · rw [if_pos z, if_pos z]
    refine ⟨rfl, offF_up (offF_rf _ _ _) (by omega), fun i j hi hj => ?_, ?_, ?_, fun y => (y (up1_at _ _ _)).elim⟩
    · have := ofA_lt hi hj
      rw [up1_off _ _ (by omega), up2_off _ _ _ (by omega)]
      exact q.1 i j hi hj
    · simp [up2_rw, up1]
    · rw [up1_off _ _ (by omega)]; simp [up2_rw, up1]; exact q.2.2.1
/-- what an answer does -/
def settleC (u : Au) (b : Bool) : Int32 := if b = true then u (90 + (u 120).toNatClampNeg) else u 123
def settleF (u : Au) (b : Bool) : Au := sellF (up1 (up1 u (90 + (u 120).toNatClampNeg) (-1)) 124 0) (settleC u b).toNatClampNeg (u 120).toNatClampNeg
theorem k0_settle (q : clA V u) (G : GdA u) (ha : u 124 = 1) (t : Bool) : WA J mX0_settle [.ref 398, .int (bI t)] V (settleC u t) (fun V' => clA V' (settleF u t)) := by
  obtain ⟨g1, g2, g3⟩ := G
  rcases g3 with g3 | ⟨-, hc, hb1, l', hl', hl2', hr'⟩
  · rw [ha] at g3; exact absurd g3 (by decide)
  rcases g1 with g1 | ⟨l, hl, h2, b, hb, hb2, hbb⟩
  · exact (hc g1).elim
  have hll : l' = l := by rw [h2, ceq (by omega) (by omega)] at hl2'; exact hl2'.symm
  subst hll
  have hb0 : b ≠ 0 := fun y => hb1 (by rw [hb, y]; rfl)
  obtain ⟨h, c, hh, h5, hh1, hbs, hc8, h123⟩ := hbb hb0
  have hq := q.2.2.2 hc
  obtain ⟨p8, p9⟩ := hq.2.2 hb1
  have el : (u 120).toNatClampNeg = l' := by rw [h2]; exact ccl (by omega)
  have e6 : V 398 6 = nI l' := q.2.1.trans h2
  have hC : ∃ d, d < 8 ∧ settleC u t = nI d := by
    unfold settleC
    split
    · rw [el]
      rcases g2 l' hl with v | ⟨d, hd, v⟩
      · exact (hr' v).elim
      · exact ⟨d, hd, v⟩
    · exact ⟨c, hc8, h123⟩
  obtain ⟨d, hd, hdC⟩ := hC
  have L : F_X0_settle_19 J (bI t) (settleC u t) V (fun r V' => r = some (.int (settleC u t)) ∧ offF V V' 398 7 ∧ clA V' (settleF u t)) NX := by
    unfold F_X0_settle_19 F_X0_settle_40
    rw [e6]
    refine rd_b (k7_isLot J _ V) ?_
    rw [isIx_nI (by omega) hl]
    refine ⟨fun z => Bool.noConfusion z, fun _ => ?_⟩
    rw [e6, ccl (by omega)]
    refine ⟨vp_in_nI hl (by decide), ?_⟩
    unfold settleF
    rw [hdC, el, ccl (n := d) (by omega)]
    have a1 := clA_arr q 5 l' (by omega) hl (-1)
    have a2 : clA (up2 (up2 V 404 l' (-1)) 398 10 0) (up1 (up1 u (90 + l') (-1)) 124 0) := by
      obtain ⟨r1, r2, r3, r4⟩ := a1
      have e120 : up1 (up1 u (90 + l') (-1)) 124 0 120 = u 120 := by rw [up1_off _ _ (by omega), up1_off _ _ (by omega)]
      have e121 : up1 (up1 u (90 + l') (-1)) 124 0 121 = u 121 := by rw [up1_off _ _ (by omega), up1_off _ _ (by omega)]
      have e122 : up1 (up1 u (90 + l') (-1)) 124 0 122 = u 122 := by rw [up1_off _ _ (by omega), up1_off _ _ (by omega)]
      have e123 : up1 (up1 u (90 + l') (-1)) 124 0 123 = u 123 := by rw [up1_off _ _ (by omega), up1_off _ _ (by omega)]
      unfold clA
      rw [e120, e121, e122, e123]
      refine ⟨fun i j hi hj => ?_, ?_, ?_, fun _ => ?_⟩
      · have := ofA_lt hi hj
        rw [up1_off _ _ (by omega), up2_off _ _ _ (by omega)]
        exact r1 i j hi hj
      · simp [up2_rw, up1]; exact q.2.1
      · simp [up2_rw, up1]
      · simp [up2_rw, up1]; exact hq
    refine wa_i (k0_sellTo a2 d l' hd hl ?_ ?_ (up1_at _ _ _)) (fun V' f' c' => ⟨rfl, offF_tr (offF_up (offF_up (offF_rf _ _ _) (by omega)) (by omega)) f', c'⟩)
    · rw [up1_off _ _ (by omega), up1_off _ _ (by omega)]; exact h2
    · rw [up1_off _ _ (by omega), up1_off _ _ (by omega)]; exact hb1
  refine v_X0_settle _ ?_
  unfold F_X0_settle
  refine ⟨fun z => ?_, fun z => ?_⟩
  · have : settleC u t = u 123 := by
      have hf := bI_f z
      unfold settleC; rw [if_neg (by rw [hf]; decide)]
    rw [p9, ← this]
    exact L
  · have : settleC u t = u (90 + l') := by
      have hf := bI_t z
      unfold settleC; rw [if_pos hf, el]
    rw [e6]
    refine rd_i (k0_rightOn q l' hl) ?_
    rw [← this]
    exact L
def lotV (u : Au) (l k : Nat) : Int32 := if k = 0 then u (30 + l) else if k = 1 then u (60 + l) else if k = 2 then u (90 + l) else if u 120 = nI l ∧ u 121 ≠ 0 then u 122 else -1
theorem k0_tellOfLot (q : clA V u) (l k : Nat) (hl : l < 24) (hk : k < 4) : RD J mX0_tellOfLot [.ref 398, .int (nI l), .int (nI k)] V (lotV u l k) := by
  refine v_X0_tellOfLot _ _ (rd_b (k7_isLot J _ V) ?_)
  have hz : (nI k).toInt = (k : Int) := nI_toInt (by omega)
  rw [isIx_nI (by omega) hl, ccl (by omega), hz]
  refine ⟨fun _ => ⟨fun z => ⟨vp_in_nI hl (by decide), ?_⟩, fun z => ⟨vp_in_nI hl (by decide), ?_⟩, fun z => ⟨vp_in_nI hl (by decide), ?_⟩, fun z => rd_b (k0_isCalled q _) ⟨fun y => ?_, fun y => ?_⟩⟩, fun z => Bool.noConfusion z⟩
  · rw [nI_0', ceq (by omega) (by omega)] at z
    subst z; rw [show V 402 l = u (30 + l) from q.1 3 l (by omega) hl]; exact ⟨rfl, rfl⟩
  · rw [show (1 : Int32) = nI 1 from rfl, ceq (by omega) (by omega)] at z
    subst z; rw [show V 403 l = u (60 + l) from q.1 4 l (by omega) hl]; exact ⟨rfl, rfl⟩
  · rw [show (2 : Int32) = nI 2 from rfl, ceq (by omega) (by omega)] at z
    subst z; rw [show V 404 l = u (90 + l) from q.1 5 l (by omega) hl]; exact ⟨rfl, rfl⟩
  · have y := of_decide_eq_false y
    unfold lotV
    rw [if_neg (by omega), if_neg (by omega), if_neg (by omega), if_neg (fun w => y w.1)]
    exact ⟨rfl, rfl⟩
  · have y := of_decide_eq_true y
    have hq := q.2.2.2 (by rw [y]; exact nI_n1 (by omega))
    unfold lotV
    rw [if_neg (by omega), if_neg (by omega), if_neg (by omega)]
    by_cases h0 : u 121 = 0
    · rw [if_neg (fun w => w.2 h0), hq.2.1 h0]; exact ⟨rfl, rfl⟩
    · rw [if_pos ⟨y, h0⟩, (hq.2.2 h0).1]; exact ⟨rfl, rfl⟩
theorem k0_tellOfClub (q : clA V u) (c k : Nat) (hc : c < 8) (hk : k < 3) : RD J mX0_tellOfClub [.ref 398, .int (nI c), .int (nI k)] V (u (10 * k + c)) := by
  refine v_X0_tellOfClub _ _ (rd_b (k7_isClub J _ V) ?_)
  rw [isIx_nI (by omega) hc, ccl (by omega), nI_0', show (1 : Int32) = nI 1 from rfl, ceq (by omega) (by omega), ceq (by omega) (by omega)]
  refine ⟨fun _ => ⟨fun z => ⟨vp_in_nI hc (by decide), ?_⟩, fun z => ⟨vp_in_nI hc (by decide), ?_⟩, fun z y => ⟨vp_in_nI hc (by decide), ?_⟩⟩, fun z => Bool.noConfusion z⟩
  · subst z; rw [show V 399 c = u (10 * 0 + c) from clA_c q (i := 0) (by omega) hc]; exact ⟨rfl, rfl⟩
  · subst z; rw [show V 400 c = u (10 * 1 + c) from clA_c q (i := 1) (by omega) hc]; exact ⟨rfl, rfl⟩
  · have : k = 2 := by omega
    subst this; rw [show V 401 c = u (10 * 2 + c) from clA_c q (i := 2) (by omega) hc]; exact ⟨rfl, rfl⟩
end Auc2
