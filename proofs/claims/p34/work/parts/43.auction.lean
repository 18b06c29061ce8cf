/-! the auction: u = purses c, squads 10 + c, foreign 20 + c, owners 30 + l, prices 60 + l, rights 90 + l, 120 called, 121 bids, 122 highest, 123 bidder, 124 asking -/
abbrev Au : Type := Nat → Int32
def ofA (i : Nat) : Nat := if i < 3 then 10 * i else 30 * (i - 2)
def szA (i : Nat) : Nat := if i < 3 then 8 else 24
theorem ofA_inj {i j i' j' : Nat} (hi : i < 6) (hj : j < szA i) (hi' : i' < 6) (hj' : j' < szA i') (h : ofA i + j = ofA i' + j') : i = i' ∧ j = j' := by
  unfold szA at hj hj'
  unfold ofA at h
  split at hj <;> split at hj' <;> split at h <;> omega
theorem ofA_lt {i j : Nat} (hi : i < 6) (hj : j < szA i) : ofA i + j < 120 := by
  unfold szA at hj
  unfold ofA
  split at hj <;> (split <;> omega)
def clA (V : Mem) (u : Au) : Prop := (∀ i j, i < 6 → j < szA i → V (399 + i) j = u (ofA i + j)) ∧ V 398 6 = u 120 ∧ V 398 10 = u 124 ∧ (u 120 ≠ -1 → V 398 7 = u 121 ∧ (u 121 = 0 → V 398 8 = -1) ∧ (u 121 ≠ 0 → V 398 8 = u 122 ∧ V 398 9 = u 123))
theorem clA_arr {V : Mem} {u : Au} (q : clA V u) (i j : Nat) (hi : i < 6) (hj : j < szA i) (x : Int32) : clA (up2 V (399 + i) j x) (up1 u (ofA i + j) x) := by
  obtain ⟨q1, q2, q3, q4⟩ := q
  have hl := ofA_lt hi hj
  unfold clA
  rw [up2_off _ _ _ (by omega), up1_off _ _ (by omega), up1_off _ _ (by omega), up1_off _ _ (by omega), up1_off _ _ (by omega), up1_off _ _ (by omega)]
  refine ⟨fun i' j' hi' hj' => ?_, q2, q3, q4⟩
  by_cases h : i = i' ∧ j = j'
  · obtain ⟨rfl, rfl⟩ := h
    rw [up2_at, up1_at, up1_at]
  · have h1 : ofA i' + j' ≠ ofA i + j := fun z => h (ofA_inj hi hj hi' hj' z.symm)
    rw [up1_off _ _ h1, ← q1 i' j' hi' hj']
    by_cases h2 : i' = i
    · subst h2
      rw [up2_at]
      exact up1_off _ _ (fun z => h ⟨rfl, z.symm⟩)
    · rw [up2_off _ _ _ (by omega)]
def baseF (l : Nat) : Nat := if l % 3 = 0 then 50 else if l % 3 = 1 then 30 else 10
theorem rem3 : ∀ l, l < 24 → nI l - nI l / 3 * 3 = nI (l % 3) := by decide +kernel
theorem rem4 : ∀ l, l < 24 → nI l - nI l / 4 * 4 = nI (l % 4) := by decide +kernel
def GdA (u : Au) : Prop :=
  (u 120 = -1 ∨ ∃ l, l < 24 ∧ u 120 = nI l ∧ ∃ b, u 121 = nI b ∧ b ≤ 1000 ∧ (b ≠ 0 → ∃ h c, u 122 = nI h ∧ 5 * b ≤ h ∧ h ≤ 1000 ∧ baseF l ≤ h ∧ c < 8 ∧ u 123 = nI c)) ∧
  (∀ l, l < 24 → u (90 + l) = -1 ∨ ∃ c, c < 8 ∧ u (90 + l) = nI c) ∧
  (u 124 = 0 ∨ (u 124 = 1 ∧ u 120 ≠ -1 ∧ u 121 ≠ 0 ∧ ∃ l, l < 24 ∧ u 120 = nI l ∧ u (90 + l) ≠ -1))
theorem nI_n1 {k : Nat} (hk : k < 2147483648) : nI k ≠ -1 := by
  intro z
  have z2 : (nI k).toInt = (-1 : Int32).toInt := by rw [z]
  rw [nI_toInt (by omega)] at z2
  have : (-1 : Int32).toInt = -1 := rfl
  omega
def canF (u : Au) (c : Nat) (x : Int32) (l : Nat) : Bool := decide (¬ u c < x) && (decide (¬ 6 ≤ u (10 + c)) && (decide (l % 4 ≠ 0) || decide (¬ 2 ≤ u (20 + c))))
def sell1 (u : Au) (c l : Nat) : Au := up1 (up1 (up1 (up1 u (30 + l) (nI c)) (60 + l) (u 122)) c (u c - u 122)) (10 + c) (u (10 + c) + 1)
def sellF (u : Au) (c l : Nat) : Au := up1 (up1 (if l % 4 = 0 then up1 (sell1 u c l) (20 + c) (u (20 + c) + 1) else sell1 u c l) 120 (-1)) 124 0
section Auc
variable {J : Nat → Nat → Int64} {V : Mem} {u : Au}
theorem bI_d0 {p : Prop} [Decidable p] (h : ¬ p) : bI (decide p) = 0 := by rw [decide_eq_false h]; rfl
theorem bI_d1 {p : Prop} [Decidable p] (h : p) : bI (decide p) = 1 := by rw [decide_eq_true h]; rfl
theorem k0_isCalled (q : clA V u) (p : Int32) : RD J mX0_isCalled [.ref 398, .int p] V (bI (decide (u 120 = p))) := by
  refine v_X0_isCalled p ?_
  unfold F_X0_isCalled
  rw [q.2.1]
  exact ⟨fun z => ⟨by rw [bI_d0 z], rfl⟩, fun z => ⟨by rw [bI_d1 z], rfl⟩⟩
theorem k0_isBusy (q : clA V u) : RD J mX0_isBusy [.ref 398] V (bI (decide (u 120 ≠ -1))) := by
  refine v_X0_isBusy ?_
  unfold F_X0_isBusy
  rw [q.2.1]
  exact ⟨fun z => ⟨by rw [bI_d0 (fun y => y z)], rfl⟩, fun z => ⟨by rw [bI_d1 z], rfl⟩⟩
theorem k0_isOpen (q : clA V u) : RD J mX0_isOpen [.ref 398] V (bI (decide (u 120 ≠ -1 ∧ u 124 = 0))) := by
  refine v_X0_isOpen (rd_b (k0_isBusy q) ?_)
  rw [q.2.2.1, decide_eq_false_iff_not, decide_eq_true_eq]
  exact ⟨fun z => ⟨by rw [bI_d0 (fun y => z y.1)], rfl⟩, fun z => ⟨fun y => ⟨by rw [bI_d0 (fun x => y x.2)], rfl⟩, fun y => ⟨by rw [bI_d1 ⟨z, y⟩], rfl⟩⟩⟩
theorem k0_isAsking (q : clA V u) (G : GdA u) : RD J mX0_isAsking [.ref 398] V (bI (decide (u 124 = 1))) := by
  refine v_X0_isAsking ?_
  unfold F_X0_isAsking
  rw [q.2.2.1]
  rcases G.2.2 with z | z
  · rw [z]; exact ⟨Or.inl rfl, rfl, rfl⟩
  · rw [z.1]; exact ⟨Or.inr rfl, rfl, rfl⟩
theorem k0_isSold (q : clA V u) (l : Nat) (hl : l < 24) : RD J mX0_isSold [.ref 398, .int (nI l)] V (bI (decide (u (30 + l) ≠ -1))) := by
  refine v_X0_isSold _ (rd_b (k7_isLot J _ V) ?_)
  rw [isIx_nI (by omega) hl, ccl (by omega), show V 402 l = u (30 + l) from q.1 3 l (by omega) hl]
  exact ⟨fun z => Bool.noConfusion z, fun _ => ⟨vp_in_nI hl (by decide), fun z => ⟨by rw [bI_d0 (fun y => y z)], rfl⟩, fun z => ⟨by rw [bI_d1 z], rfl⟩⟩⟩
theorem k0_basePrice (l : Nat) (hl : l < 24) : RD J mX0_basePrice [.int (nI l)] V (nI (baseF l)) := by
  refine v_X0_basePrice _ ?_
  unfold F_X0_basePrice
  rw [rem3 l hl, nI_0', show (1 : Int32) = nI 1 from rfl, ceq (by omega) (by omega), ceq (by omega) (by omega)]
  unfold baseF
  refine ⟨fun z => ⟨fun y => ?_, fun y => ?_⟩, fun z => ?_⟩
  · rw [if_neg z, if_neg y]; exact ⟨rfl, rfl⟩
  · rw [if_neg z, if_pos y]; exact ⟨rfl, rfl⟩
  · rw [if_pos z]; exact ⟨rfl, rfl⟩
theorem k0_isForeign (l : Nat) (hl : l < 24) : RD J mX0_isForeign [.int (nI l)] V (bI (decide (l % 4 = 0))) := by
  refine v_X0_isForeign _ ?_
  unfold F_X0_isForeign
  rw [rem4 l hl, nI_0', ceq (by omega) (by omega)]
  exact ⟨fun z => ⟨by rw [bI_d0 z]; rfl, rfl⟩, fun z => ⟨by rw [bI_d1 z], rfl⟩⟩
theorem k0_rightOn (q : clA V u) (l : Nat) (hl : l < 24) : RD J mX0_rightOn [.ref 398, .int (nI l)] V (u (90 + l)) := by
  refine v_X0_rightOn _ (rd_b (k7_isLot J _ V) ?_)
  rw [isIx_nI (by omega) hl, ccl (by omega), show V 404 l = u (90 + l) from q.1 5 l (by omega) hl]
  exact ⟨fun z => Bool.noConfusion z, fun _ => ⟨vp_in_nI hl (by decide), rfl, rfl⟩⟩
theorem k0_canPay (q : clA V u) (c l : Nat) (hc : c < 8) (hl : l < 24) (h2 : u 120 = nI l) (x : Int32) : RD J mX0_canPay [.ref 398, .int (nI c), .int x] V (bI (canF u c x l)) := by
  refine v_X0_canPay _ x (rd_b (k7_isClub J _ V) ?_)
  rw [isIx_nI (by omega) hc, ccl (by omega), q.2.1, h2, show V 399 c = u c from (q.1 0 c (by omega) hc).trans (by rw [show ofA 0 + c = c from Nat.zero_add c]), show V 400 c = u (10 + c) from q.1 1 c (by omega) hc]
  have e4 : V 401 c = u (20 + c) := q.1 2 c (by omega) hc
  unfold canF
  refine ⟨fun z => Bool.noConfusion z, fun _ => ⟨vp_in_nI hc (by decide), fun z => ?_, fun z => ⟨vp_in_nI hc (by decide), fun y => ?_, fun y => rd_b (k0_isForeign l hl) ⟨fun w => ?_, fun w => ⟨vp_in_nI hc (by decide), fun v => ?_, fun v => ?_⟩⟩⟩⟩⟩
  · simp [z, bI]
  · simp [y, bI]
  · have w := of_decide_eq_false w
    simp [z, y, w, bI]
  · have w := of_decide_eq_true w
    rw [e4] at v
    simp [w, v, bI]
  · have w := of_decide_eq_true w
    rw [e4] at v
    simp [z, y, v, bI]
def WA (J : Nat → Nat → Int64) (d : pD) (as : List Value) (V : Mem) (x : Int32) (P : Mem → Prop) : Prop := CTc J d as V (fun r V' => r = some (.int x) ∧ offF V V' 398 7 ∧ P V') NX
theorem wa_i {d : pD} {as : List Value} {x : Int32} {P : Mem → Prop} {Q : Int32 → Mem → Prop} {Qx : String → Mem → Prop} (q : WA J d as V x P) (k : ∀ V', offF V V' 398 7 → P V' → Q x V') : CTc J d as V (fun r V' => ∃ r1 : Int32, r = some (.int r1) ∧ Q r1 V') Qx := CTc_nx q (fun _ V' z => ⟨x, z.1, k V' z.2.1 z.2.2⟩)
theorem k0_giveRight (q : clA V u) (c l : Nat) (hl : l < 24) : WA J mX0_giveRight [.ref 398, .int (nI c), .int (nI l)] V (u (90 + l)) (fun V' => clA V' (up1 u (90 + l) (nI c))) := by
  refine v_X0_giveRight _ _ (rd_i (k0_rightOn q l hl) (rd_b (k7_isLot J _ V) ?_))
  rw [isIx_nI (by omega) hl, ccl (by omega)]
  exact ⟨fun z => Bool.noConfusion z, fun _ => ⟨vp_in_nI hl (by decide), rfl, offF_up (offF_rf _ _ _) (by omega), clA_arr q 5 l (by omega) hl (nI c)⟩⟩
def callF (u : Au) (l : Nat) : Au := up1 (up1 (up1 (up1 (up1 u 120 (nI l)) 121 0) 122 0) 123 (-1)) 124 0
theorem k0_callUp (q : clA V u) (l : Nat) (hl : l < 24) (ha : u 124 = 0) : WA J mX0_callUp [.ref 398, .int (nI l)] V (nI (baseF l)) (fun V' => clA V' (callF u l)) := by
  refine v_X0_callUp _ (rd_i (k0_basePrice l hl) ⟨rfl, offF_up (offF_up (offF_up (offF_up (offF_rf _ _ _) (by omega)) (by omega)) (by omega)) (by omega), ?_⟩)
  obtain ⟨q1, q2, q3, q4⟩ := q
  refine ⟨fun i j hi hj => ?_, ?_, ?_, fun _ => ⟨?_, fun _ => ?_, fun z => ?_⟩⟩
  · have := ofA_lt hi hj
    unfold callF
    rw [up1_off _ _ (by omega), up1_off _ _ (by omega), up1_off _ _ (by omega), up1_off _ _ (by omega), up1_off _ _ (by omega), up2_off _ _ _ (by omega), up2_off _ _ _ (by omega), up2_off _ _ _ (by omega), up2_off _ _ _ (by omega)]
    exact q1 i j hi hj
  · simp [up2_rw, up1, callF]
  · simp [up2_rw, up1, callF, q3, ha]
  · simp [up2_rw, up1, callF]
  · simp [up2_rw, up1]
  · exact (z (by simp [callF, up1])).elim
theorem k0_leastBid (q : clA V u) (l : Nat) (hl : l < 24) (h2 : u 120 = nI l) : RD J mX0_leastBid [.ref 398] V (if u 121 = 0 then nI (baseF l) else u 122 + 5) := by
  obtain ⟨q1, q2, q3, q4⟩ := q
  obtain ⟨q5, q6, q7⟩ := q4 (by rw [h2]; exact nI_n1 (by omega))
  refine v_X0_leastBid ?_
  unfold F_X0_leastBid
  rw [q5, q2, h2]
  refine ⟨fun z => ?_, fun z => ?_⟩
  · rw [if_neg z, (q7 z).1]; exact ⟨rfl, rfl⟩
  · rw [if_pos z]; exact rd_i (k0_basePrice l hl) ⟨rfl, rfl⟩
def bidF (u : Au) (c : Nat) (x : Int32) : Au := up1 (up1 (up1 u 122 x) 123 (nI c)) 121 (u 121 + 1)
theorem k0_takeBid (q : clA V u) (c : Nat) (x : Int32) (hc : u 120 ≠ -1) (hb : u 121 + 1 ≠ 0) : WA J mX0_takeBid [.ref 398, .int (nI c), .int x] V (u 121 + 1) (fun V' => clA V' (bidF u c x)) := by
  obtain ⟨q1, q2, q3, q4⟩ := q
  obtain ⟨q5, q6, q7⟩ := q4 hc
  refine v_X0_takeBid _ _ ?_
  unfold F_X0_takeBid
  refine ⟨by simp [up2_rw, up1, q5], offF_up (offF_up (offF_up (offF_rf _ _ _) (by omega)) (by omega)) (by omega), fun i j hi hj => ?_, ?_, ?_, fun _ => ⟨?_, fun z => ?_, fun z => ⟨?_, ?_⟩⟩⟩
  · have := ofA_lt hi hj
    unfold bidF
    rw [up1_off _ _ (by omega), up1_off _ _ (by omega), up1_off _ _ (by omega), up2_off _ _ _ (by omega), up2_off _ _ _ (by omega), up2_off _ _ _ (by omega)]
    exact q1 i j hi hj
  · simp [up2_rw, up1, bidF, q2]
  · simp [up2_rw, up1, bidF, q3]
  · simp [up2_rw, up1, bidF, q5]
  · exact (hb (by simpa [bidF, up1] using z)).elim
  · simp [up2_rw, up1, bidF]
  · simp [up2_rw, up1, bidF]
end Auc
