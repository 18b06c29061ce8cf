/-! the reference: what can stand, a card -/
theorem bI_0 {b : Bool} : (bI b = 0) ↔ b = false := by cases b <;> decide
section Md4
variable {J : Nat → Nat → Int64} {V : Mem} {σ : Sg} {n : Nat} {e : Ev}
theorem hasTo_no {e : Ev} {x w : Nat} : ∀ {c}, (∀ k, k < c → e (10 + k) ≠ x) → hasTo e x w c = false
  | 0, _ => rfl
  | c + 1, h => by
    unfold hasTo
    rw [hasTo_no (fun k hk => h k (by omega)), decide_eq_false (h c (by omega))]
    rfl
theorem m_canStep (q : sOK V σ) (w : wfM σ) (hr : σ 109 < 100) (hn : n < 60) (c x wh t : Nat) (hc : c < 14)
    (rows : ∀ k, k < c → V 413 (14 * n + k) = nI (e (10 + k)) ∧ V 414 (14 * n + k) = wI (e (30 + k)) ∧ e (10 + k) ≤ 6 ∧ e (30 + k) ≤ 10 ∧ (e (10 + k) = 0 ↔ 1 ≤ e (30 + k)))
    (vx : V 413 (14 * n + c) = nI x) (vw : V 414 (14 * n + c) = wI wh) (vt : V 415 (14 * n + c) = nI t) (hx : x ≤ 6) (hwh : wh ≤ 10) (h0 : x = 0 ↔ 1 ≤ wh) (he : 3 ≤ x → ∀ k, k < c → e (10 + k) ≠ x) (ht3 : t < 2147483648) :
    RD J mX8_canStep [.ref 405, .int (nI n), .int (nI c)] V (bI (canB σ e c x wh t)) := by
  have ht := turnF_lt σ
  have hbt : 1 - turnF σ < 2 := by omega
  have L53 : ∀ b0 : Bool, b0 = (if x = 0 then decide (σ (10 * (1 - turnF σ) + (wh - 1)) = 0) else true) → F_X8_canStep_53 J (nI n) (nI c) (nI (14 * n + c)) (nI x) (bI b0) (14 * nI n) V (fun r V' => r = some (.int (bI (canB σ e c x wh t))) ∧ V' = V) NX := by
    intro b0 hb0
    unfold F_X8_canStep_53
    refine ⟨fun m x3 x4 x5 x6 V' => ∃ k, k ≤ c ∧ m = c - k ∧ x3 = nI (14 * n + c) ∧ x4 = nI x ∧ x5 = bI (b0 && !hasTo e x wh k) ∧ x6 = nI (14 * n + k) ∧ V = V', ⟨c, 0, by omega, by omega, rfl, rfl, by cases b0 <;> rfl, by rw [show (14 : Int32) = nI 14 from rfl, nI_mul]; rfl, rfl⟩, ?_⟩
    rintro m x3 x4 x5 x6 V' ⟨k, hk, hm, rfl, rfl, rfl, rfl, rfl⟩
    unfold B_X8_canStep_53 F_X8_canStep_96 F_X8_canStep_92
    have L97 : k < c → ∀ sm : Bool, hasTo e x wh (k + 1) = (hasTo e x wh k || sm) → F_X8_canStep_97 J (nI n) (nI c) (fun x3 x4 x5 x6 V' => ∃ n', n' < m ∧ ∃ k, k ≤ c ∧ n' = c - k ∧ x3 = nI (14 * n + c) ∧ x4 = nI x ∧ x5 = bI (b0 && !hasTo e x wh k) ∧ x6 = nI (14 * n + k) ∧ V = V') (nI (14 * n + c)) (nI x) (bI (b0 && !hasTo e x wh k)) (nI (14 * n + k)) (bI sm) V (fun r V' => r = some (.int (bI (canB σ e c x wh t))) ∧ V' = V) NX := by
      intro hkc sm hsm
      have go : ∀ z, z = bI (b0 && !hasTo e x wh (k + 1)) → ∃ n', n' < m ∧ ∃ k', k' ≤ c ∧ n' = c - k' ∧ nI (14 * n + c) = nI (14 * n + c) ∧ nI x = nI x ∧ z = bI (b0 && !hasTo e x wh k') ∧ nI (14 * n + k) + 1 = nI (14 * n + k') ∧ V = V := fun z hz => ⟨c - (k + 1), by omega, k + 1, by omega, rfl, rfl, rfl, hz, nI_1 _, rfl⟩
      unfold F_X8_canStep_97 F_X8_canStep_113 F_X8_canStep_114
      rw [bI_0, bI_0]
      refine ⟨fun c1 => go 0 ?_, fun c1 => ⟨fun c2 => go 0 ?_, fun c2 => go 1 ?_⟩⟩
      · rw [hsm]; revert c1; cases b0 <;> cases hasTo e x wh k <;> cases sm <;> decide
      · rw [hsm]; revert c1 c2; cases b0 <;> cases hasTo e x wh k <;> cases sm <;> decide
      · rw [hsm]; revert c1 c2; cases b0 <;> cases hasTo e x wh k <;> cases sm <;> decide
    rw [cle (by omega) (by omega), ccl (n := 14 * n + c) (by omega), ccl (n := 14 * n + k) (by omega), bI_0, vt, vw, show (6 : Int32) = nI 6 from rfl, show (300 : Int32) = nI 300 from rfl, nI_0', ceq (n := x) (by omega) (by omega), ceq (n := t) (by omega) (by omega), ceq (n := x) (k := 0) (by omega) (by omega)]
    refine ⟨fun c1 => ?_, fun c1 => ?_⟩
    · have hkc : k = c := by omega
      subst hkc
      have fin : ∀ z, z = bI (canB σ e k x wh t) → ((some (Value.int z) = some (Value.int (bI (canB σ e k x wh t)))) ∧ V = V) := fun z hz => ⟨by rw [hz], rfl⟩
      have hno : 3 ≤ x → hasTo e x wh k = false := fun h3 => hasTo_no (he h3)
      have hB : canB σ e k x wh t = (decide (x = 6 → t = 300) && (b0 && !hasTo e x wh k)) := by
        unfold canB
        rw [hb0]
        by_cases h6 : x = 6
        · rw [hno (by omega)]; simp [h6]
        · by_cases h3 : x < 3
          · simp [h6, h3]
          · rw [hno (by omega)]; simp [h6, h3, show x ≠ 0 by omega]
      refine ⟨fun c2 => fin 0 ?_, fun c2 => ⟨fun c3 => fin 1 ?_, fun c3 => ⟨s840 (by omega), fun c4 => fin 0 ?_, fun c4 => fin 1 ?_⟩⟩⟩
      · rw [hB, c2, Bool.and_false]; rfl
      · rw [hB, decide_eq_true (fun z => (c3 z).elim)]
        revert c2; cases (b0 && !hasTo e x wh k) <;> decide
      · rw [hB, decide_eq_false (fun z => c4 (z c3))]; rfl
      · rw [hB, decide_eq_true (fun _ => c4)]
        revert c2; cases (b0 && !hasTo e x wh k) <;> decide
    · have hkc : k < c := by omega
      obtain ⟨r1, r2, r3, r4, r5⟩ := rows k hkc
      rw [r1, r2, ceq (by omega) (by omega), wI_eq (by omega) (by omega)]
      refine ⟨s840 (by omega), fun c2 => L97 hkc false ?_, fun c2 => ⟨fun c3 => L97 hkc true ?_, fun c3 => ⟨s840 (by omega), s840 (by omega), fun c4 => L97 hkc false ?_, fun c4 => L97 hkc true ?_⟩⟩⟩
      · rw [show hasTo e x wh (k + 1) = (hasTo e x wh k || (decide (e (10 + k) = x) && decide (e (30 + k) = wh))) from rfl, decide_eq_false c2]; rfl
      · rw [show hasTo e x wh (k + 1) = (hasTo e x wh k || (decide (e (10 + k) = x) && decide (e (30 + k) = wh))) from rfl, decide_eq_true c2, decide_eq_true (by omega)]; rfl
      · rw [show hasTo e x wh (k + 1) = (hasTo e x wh k || (decide (e (10 + k) = x) && decide (e (30 + k) = wh))) from rfl, decide_eq_false c4, Bool.and_false]
      · rw [show hasTo e x wh (k + 1) = (hasTo e x wh k || (decide (e (10 + k) = x) && decide (e (30 + k) = wh))) from rfl, decide_eq_true c2, decide_eq_true c4]; rfl
  refine v_X8_canStep _ _ ?_
  unfold F_X8_canStep F_X8_canStep_45 F_X8_canStep_40 F_X8_canStep_45
  rw [i14, ccl (n := 14 * n + c) (by omega), vx]
  have ez : (nI x = 0) ↔ x = 0 := by rw [nI_0', ceq (by omega) (by omega)]
  rw [ez]
  refine ⟨s840 (by omega), fun c1 => L53 true (by rw [if_neg c1]), fun c1 => rd_i (m_turn q hr) ⟨s840 (by omega), ?_⟩⟩
  have hwh1 := h0.mp c1
  have hwI : wI wh = nI (wh - 1) := by
    obtain ⟨z, hz⟩ : ∃ z, wh = z + 1 := ⟨wh - 1, by omega⟩
    rw [hz, wI_s]; rfl
  have hst := (wfM_at w hbt).1 (wh - 1) (by omega)
  rw [nI_other _ ht, vw, hwI]
  refine rd_b (m_is q (1 - turnF σ) (wh - 1) 0 (by omega) (by omega) (by omega)) ⟨fun z => L53 false ?_, fun z => L53 true ?_⟩
  · rw [if_pos c1, z]
  · rw [if_pos c1, z]
theorem m_canRaid (q : sOK V σ) (w : wfM σ) (hr : σ 109 < 100) (b : bdd σ 1000000) (l p : Nat) (hl : V 405 5 = nI l) (hl2 : l < 1000000) (hp : p < 10) : RD J mX8_canRaid [.ref 405, .int (nI p)] V (bI (decide (σ 108 < l) && decide (σ (10 * turnF σ + p) = 0))) := by
  have ht := turnF_lt σ
  have hc := b 108 (by omega)
  have hst := (wfM_at w ht).1 p hp
  refine v_X8_canRaid _ ?_
  unfold F_X8_canRaid
  rw [hl, q 108 (by omega), cle (by omega) (by omega)]
  refine ⟨fun c => ⟨?_, rfl⟩, fun c => rd_i (m_turn q hr) (rd_b (m_is q (turnF σ) p 0 (by omega) (by omega) (by omega)) ⟨fun z => ⟨?_, rfl⟩, fun z => ⟨?_, rfl⟩⟩)⟩
  · rw [decide_eq_false (by omega)]; rfl
  · rw [z, Bool.and_false]; rfl
  · rw [z, decide_eq_true (by omega)]; rfl
theorem m_canCard (q : sOK V σ) (w : wfM σ) (a p k : Nat) (ha : a < 2) (hp : p < 10) (hk : k < 3) : RD J mX8_canCard [.ref 405, .int (nI a), .int (nI p), .int (nI k)] V (bI (decide (σ (10 * a + p) = 0 ∧ (colF (σ (40 + 10 * a + p)) k = 0 ∨ cnt σ a 3 4 < 3)))) := by
  have wa := wfM_at w ha
  have hst := wa.1 p hp
  have h8 := wa.2.2.2.2.2.2.2 p hp
  have hc := colF_lt _ h8 k hk
  have hn := cnt_le σ a 3 4
  refine v_X8_canCard _ _ _ (rd_b (m_is q a p 0 (by omega) (by omega) (by omega)) ⟨fun z => ⟨?_, rfl⟩, fun z => rd_i (m_colourFor q a p k ha hp hk h8) ?_⟩)
  · rw [decide_eq_false (fun y => of_decide_eq_false z y.1)]; rfl
  · have z := of_decide_eq_true z
    have ez : (nI (colF (σ (40 + 10 * a + p)) k) = 0) ↔ colF (σ (40 + 10 * a + p)) k = 0 := by rw [nI_0', ceq (by omega) (by omega)]
    rw [ez]
    refine ⟨fun y => ⟨?_, rfl⟩, fun y => rd_i (m_manyThat q a 3 4 ha wa.1 (by omega) (by omega)) ?_⟩
    · rw [decide_eq_true ⟨z, Or.inl y⟩]; rfl
    · rw [show (3 : Int32) = nI 3 from rfl, cle (by omega) (by omega)]
      refine ⟨fun x => ⟨?_, rfl⟩, fun x => ⟨?_, rfl⟩⟩
      · rw [decide_eq_false (by omega)]; rfl
      · rw [decide_eq_true ⟨z, Or.inr (by omega)⟩]; rfl
theorem m_canChange (q : sOK V σ) (w : wfM σ) (a x y : Nat) (ha : a < 2) (hx : x < 10) (hy : y < 10) : RD J mX8_canChange [.ref 405, .int (nI a), .int (nI x), .int (nI y)] V (bI (decide (σ (10 * a + x) = 0 ∧ σ (10 * a + y) = 1 ∧ σ (102 + a) < 5))) := by
  have wa := wfM_at w ha
  have h1 := wa.1 x hx
  have h2 := wa.1 y hy
  have h5 := wa.2.2.2.2.2.1
  refine v_X8_canChange _ _ _ (rd_b (m_is q a x 0 (by omega) (by omega) (by omega)) ⟨fun z => ⟨?_, rfl⟩, fun z => rd_b (m_is q a y 1 (by omega) (by omega) (by omega)) ⟨fun z2 => ⟨?_, rfl⟩, fun z2 => ?_⟩⟩)
  · rw [decide_eq_false (fun u => of_decide_eq_false z u.1)]; rfl
  · rw [decide_eq_false (fun u => of_decide_eq_false z2 u.2.1)]; rfl
  · have z := of_decide_eq_true z
    have z2 := of_decide_eq_true z2
    rw [i102, ccl (n := 102 + a) (by omega), q _ (by omega), show (5 : Int32) = nI 5 from rfl, cle (by omega) (by omega)]
    refine ⟨s110 (by omega), fun u => ⟨?_, rfl⟩, fun u => ⟨?_, rfl⟩⟩
    · rw [decide_eq_false (by omega)]; rfl
    · rw [decide_eq_true (by omega)]; rfl
theorem m_givesCard (q : sOK V σ) (w : wfM σ) (a p k : Nat) (ha : a < 2) (hp : p < 10) (hk : k < 3) (h0 : σ (10 * a + p) = 0) : WR J mX8_givesCard [.ref 405, .int (nI a), .int (nI p), .int (nI k)] V 416 1 (fun V' => sOK V' (cardF σ a p k)) := by
  have wa := wfM_at w ha
  have h8 := wa.2.2.2.2.2.2.2 p hp
  have hc := colF_lt _ h8 k hk
  have hso := sh_or _ h8 _ hc
  have o : ∀ c j, ¬ inSd a j → up1 σ (40 + 10 * a + p) c j = σ j := fun c j hj => up1_off _ _ (by unfold inSd at hj; omega)
  have w1 : wfM (up1 σ (40 + 10 * a + p) (orN (σ (40 + 10 * a + p)) (colF (σ (40 + 10 * a + p)) k))) := wfM_side w ha (wfS_card wa ha hp hc) (o _)
  refine v_X8_givesCard _ _ _ (rd_i (m_colourFor q a p k ha hp hk h8) ?_)
  rw [i40', ccl (n := 40 + 10 * a + p) (by omega), q _ (by omega), hso, i10]
  have q1 : sOK (up2 V 416 (40 + 10 * a + p) (nI (orN (σ (40 + 10 * a + p)) (colF (σ (40 + 10 * a + p)) k)))) (up1 σ (40 + 10 * a + p) (orN (σ (40 + 10 * a + p)) (colF (σ (40 + 10 * a + p)) k))) := sOK_up q
  have f1 : offF V (up2 V 416 (40 + 10 * a + p) (nI (orN (σ (40 + 10 * a + p)) (colF (σ (40 + 10 * a + p)) k)))) 416 1 := offF_up (offF_rf _ _ _) (by omega)
  generalize up2 V 416 (40 + 10 * a + p) (nI (orN (σ (40 + 10 * a + p)) (colF (σ (40 + 10 * a + p)) k))) = V1 at q1 f1 ⊢
  have L56 : ∀ s, s = (if colF (σ (40 + 10 * a + p)) k = 1 then 3 else 4) → colF (σ (40 + 10 * a + p)) k ≠ 0 → F_X8_givesCard_56 J (nI a) (nI p) (nI k) (nI (colF (σ (40 + 10 * a + p)) k)) (nI (10 * a + p)) (nI s) (nI (10 * a + p)) V1 (fun r V' => r = none ∧ offF V V' 416 1 ∧ sOK V' (cardF σ a p k)) NX := by
    intro s hs hne
    have w2 : wfM (up1 (up1 σ (40 + 10 * a + p) (orN (σ (40 + 10 * a + p)) (colF (σ (40 + 10 * a + p)) k))) (10 * a + p) s) := wfM_side w1 ha (wfS_st (wfM_at w1 ha) ha hp (by rw [up1_off _ _ (by omega)]; exact h0) (by rw [hs]; split <;> omega)) (fun j hj => up1_off _ _ (by unfold inSd at hj; omega))
    have q2 : sOK (up2 V1 416 (10 * a + p) (nI s)) _ := sOK_up (k := 10 * a + p) (v := s) q1
    have f2 := offF_up (j := 10 * a + p) (x := nI s) f1 (show 416 ≤ 416 ∧ 416 < 416 + 1 by omega)
    unfold F_X8_givesCard_56
    rw [i20, i105 a ha, ccl (n := 10 * a + p) (by omega), ccl (n := 20 + (10 * a + p)) (by omega), ccl (n := 104 + (1 - a)) (by omega)]
    generalize up2 V1 416 (10 * a + p) (nI s) = V2 at q2 f2 ⊢
    have e8 : V2 416 108 + 1200 = nI (σ 108 + 1200) := by
      rw [q2 108 (by omega), up1_off _ _ (by omega), up1_off _ _ (by omega)]
      exact nI_add _ 1200
    rw [e8, show 20 + (10 * a + p) = 20 + 10 * a + p by omega]
    have q3 := sOK_up (k := 20 + 10 * a + p) (v := σ 108 + 1200) q2
    have w3 := wfM_up (k := 20 + 10 * a + p) (v := σ 108 + 1200) w2 (by omega)
    have f3 := offF_up (j := 20 + 10 * a + p) (x := nI (σ 108 + 1200)) f2 (show 416 ≤ 416 ∧ 416 < 416 + 1 by omega)
    generalize up2 V2 416 (20 + 10 * a + p) (nI (σ 108 + 1200)) = V3 at q3 f3 ⊢
    have L99 : ∀ g, g = (if colF (σ (40 + 10 * a + p)) k = 2 then 1 else 0) → F_X8_givesCard_99 J (nI a) (nI p) (nI k) (nI g) (V3 416 (104 + (1 - a))) (nI (104 + (1 - a))) V3 (fun r V' => r = none ∧ offF V V' 416 1 ∧ sOK V' (cardF σ a p k)) NX := by
      intro g hg
      unfold F_X8_givesCard_99
      rw [ccl (n := 104 + (1 - a)) (by omega), q3 (104 + (1 - a)) (by omega), nI_add]
      refine ⟨s110 (by omega), wr_use (m_looksAtMat (sOK_up q3) (wfM_add (g := g) w3 (show 1 - a < 2 by omega)) a ha) (fun V4 f4 q4 => ⟨rfl, offF_tr (offF_up f3 (by omega)) f4, ?_⟩)⟩
      unfold cardF
      rw [if_neg hne, ← hs, ← hg]
      exact q4
    rw [show (2 : Int32) = nI 2 from rfl, ceq (by omega) (by omega)]
    exact ⟨s110 (by omega), s110 (by omega), s110 (by omega), fun z => L99 0 (by rw [if_neg z]), fun z => L99 1 (by rw [if_pos z])⟩
  have ez : (nI (colF (σ (40 + 10 * a + p)) k) ≤ 0) ↔ colF (σ (40 + 10 * a + p)) k = 0 := by rw [nI_0', cle (by omega) (by omega)]; omega
  rw [ez, show (1 : Int32) = nI 1 from rfl, ceq (by omega) (by omega)]
  refine ⟨s110 (by omega), s110 (by omega), fun z => ⟨rfl, f1, ?_⟩, fun z => ⟨fun y => L56 4 (by rw [if_neg y]) z, fun y => L56 3 (by rw [if_pos y]) z⟩⟩
  unfold cardF
  rw [if_pos z]
  unfold sgTake
  rw [if_neg (by omega), if_neg (by omega)]
  rw [z] at q1
  exact q1
end Md4
