/-! the reference: its row of numbers -/
def sOK (V : Mem) (σ : Sg) : Prop := ∀ k, k < 110 → V 416 k = nI (σ k)
theorem sOK_up {V : Mem} {σ : Sg} {k v : Nat} (q : sOK V σ) : sOK (up2 V 416 k (nI v)) (up1 σ k v) := by
  intro j hj
  rw [up2_at]
  by_cases h : j = k
  · subst h; rw [up1_at, up1_at]
  · rw [up1_off _ _ h, up1_off _ _ h]; exact q j hj
theorem sOK_off {V V' : Mem} {σ : Sg} (q : sOK V σ) (f : V' 416 = V 416) : sOK V' σ := fun k hk => by rw [f]; exact q k hk
theorem s110 {k : Nat} (h : k < 110) : vp_in (nI k) 110 := vp_in_nI h (by decide)
theorem i10 (a p : Nat) : 10 * nI a + nI p = nI (10 * a + p) := by rw [show (10 : Int32) = nI 10 from rfl, nI_mul, nI_add]
theorem i10' (a : Nat) : 10 * nI a = nI (10 * a) := nI_mul 10 a
theorem i40 (a p : Nat) : 40 + 10 * nI a + nI p = nI (40 + 10 * a + p) := by rw [i10', show (40 : Int32) = nI 40 from rfl, nI_add, nI_add]
theorem i40' (a p : Nat) : 40 + (10 * nI a + nI p) = nI (40 + 10 * a + p) := by rw [i10, show (40 : Int32) = nI 40 from rfl, nI_add, Nat.add_assoc]
theorem i60 (a p : Nat) : 60 + 10 * nI a + nI p = nI (60 + 10 * a + p) := by rw [i10', show (60 : Int32) = nI 60 from rfl, nI_add, nI_add]
theorem i80 (a p : Nat) : 80 + 10 * nI a + nI p = nI (80 + 10 * a + p) := by rw [i10', show (80 : Int32) = nI 80 from rfl, nI_add, nI_add]
theorem i80' (a : Nat) : 80 + 10 * nI a = nI (80 + 10 * a) := by rw [i10', show (80 : Int32) = nI 80 from rfl, nI_add]
theorem i100 (a : Nat) : 100 + nI a = nI (100 + a) := nI_add 100 a
theorem i102 (a : Nat) : 102 + nI a = nI (102 + a) := nI_add 102 a
theorem i104 (a : Nat) : 104 + nI a = nI (104 + a) := nI_add 104 a
theorem i106 (a : Nat) : 106 + nI a = nI (106 + a) := nI_add 106 a
theorem i20 (a : Nat) : 20 + nI a = nI (20 + a) := nI_add 20 a
theorem i105 : ∀ a, a < 2 → 105 - nI a = nI (104 + (1 - a)) := by decide +kernel
theorem rem2 : ∀ n, n < 100 → nI n - nI n / 2 * 2 = nI (n % 2) := by decide +kernel
theorem rem10 : ∀ n, n < 110 → nI n - nI n / 10 * 10 = nI (n % 10) := by decide +kernel
section Md1
variable {J : Nat → Nat → Int64} {V : Mem} {σ : Sg}
theorem m_starts : WR J mX8_starts [.ref 405] V 416 1 (fun V' => sOK V' sg0) := by
  refine v_X8_starts ?_
  unfold F_X8_starts F_X8_starts_2
  refine ⟨fun n x1 V' => ∃ k, k ≤ 110 ∧ n = 110 - k ∧ x1 = nI k ∧ offF V V' 416 1 ∧ ∀ i, i < k → V' 416 i = nI (sg0 i), ⟨110, 0, by omega, rfl, rfl, offF_rf _ _ _, fun i hi => by omega⟩, ?_⟩
  rintro n x1 V' ⟨k, hk, hn, rfl, hf, hq⟩
  unfold B_X8_starts_2 F_X8_starts_32
  have step : k < 110 → ∀ w, w = sg0 k → F_X8_starts_33 J (fun x1 V' => ∃ n', n' < n ∧ ∃ k, k ≤ 110 ∧ n' = 110 - k ∧ x1 = nI k ∧ offF V V' 416 1 ∧ ∀ i, i < k → V' 416 i = nI (sg0 i)) (nI k) (nI w) (nI k) V' (fun r V'' => r = none ∧ offF V V'' 416 1 ∧ sOK V'' sg0) NX := by
    intro h1 w hw
    unfold F_X8_starts_33
    refine ⟨s110 h1, 110 - (k + 1), by omega, k + 1, by omega, rfl, nI_1 k, offF_up hf (by omega), fun i hi => ?_⟩
    rw [ccl (by omega), up2_at]
    by_cases hik : i = k
    · subst hik; rw [up1_at, hw]
    · rw [up1_off _ _ hik]; exact hq i (by omega)
  refine ⟨fun c => ?_, fun c => ?_⟩
  · have h2 := lpE (n := 110) (by omega) hk c
    subst h2
    exact ⟨rfl, hf, fun i hi => hq i hi⟩
  · have h1 := lpL (n := 110) (by omega) hk c
    rw [rem10 k h1, show (20 : Int32) = nI 20 from rfl, cle (by omega) (by omega), show (6 : Int32) = nI 6 from rfl, cle (by omega) (by omega)]
    refine ⟨fun c2 => step h1 0 ?_, fun c2 => ⟨fun c3 => step h1 0 ?_, fun c3 => step h1 1 ?_⟩⟩
    · unfold sg0; rw [if_neg (by omega)]
    · unfold sg0; rw [if_neg (by omega)]
    · unfold sg0; rw [if_pos (by omega)]
theorem m_is (q : sOK V σ) (a p x : Nat) (h : 10 * a + p < 110) (hb : σ (10 * a + p) < 2147483648) (hx : x < 2147483648) : RD J mX8_is [.ref 405, .int (nI a), .int (nI p), .int (nI x)] V (bI (decide (σ (10 * a + p) = x))) := by
  refine v_X8_is _ _ _ ?_
  unfold F_X8_is
  rw [i10, ccl (by omega), q _ h, ceq hb hx]
  exact ⟨s110 h, fun z => ⟨by rw [bI_d0 z], rfl⟩, fun z => ⟨by rw [bI_d1 z], rfl⟩⟩
theorem m_manyThat (q : sOK V σ) (a x y : Nat) (ha : a < 2) (hb : ∀ i, i < 10 → σ (10 * a + i) ≤ 4) (hx : x ≤ 4) (hy : y ≤ 4) : RD J mX8_manyThat [.ref 405, .int (nI a), .int (nI x), .int (nI y)] V (nI (cnt σ a x y)) := by
  refine v_X8_manyThat _ _ _ ?_
  unfold F_X8_manyThat F_X8_manyThat_6
  refine ⟨fun n x4 x5 V' => ∃ k, k ≤ 10 ∧ n = 10 - k ∧ x5 = nI k ∧ x4 = nI (cntTo σ a x y k) ∧ V = V', ⟨10, 0, by omega, rfl, rfl, rfl, rfl⟩, ?_⟩
  rintro n x4 x5 V' ⟨k, hk, hn, rfl, rfl, rfl⟩
  unfold B_X8_manyThat_6 F_X8_manyThat_37 F_X8_manyThat_42
  refine ⟨fun c => ?_, fun c => ?_⟩
  · have h2 := lpE (n := 10) (by omega) hk c
    subst h2
    exact ⟨rfl, rfl⟩
  · have h1 := lpL (n := 10) (by omega) hk c
    have hbk := hb k h1
    refine rd_b (m_is q a k x (by omega) (by omega) (by omega)) ⟨fun z => ?_, fun z => rd_b (m_is q a k y (by omega) (by omega) (by omega)) ⟨fun w => ?_, fun w => ?_⟩⟩
    · have z := of_decide_eq_true z
      refine ⟨10 - (k + 1), by omega, k + 1, by omega, rfl, nI_1 k, ?_, rfl⟩
      simp [cntTo, z, nI_1]
    · have z := of_decide_eq_false z
      have w := of_decide_eq_false w
      refine ⟨10 - (k + 1), by omega, k + 1, by omega, rfl, nI_1 k, ?_, rfl⟩
      simp [cntTo, z, w]
    · have w := of_decide_eq_true w
      refine ⟨10 - (k + 1), by omega, k + 1, by omega, rfl, nI_1 k, ?_, rfl⟩
      simp [cntTo, w, nI_1]
theorem m_turn (q : sOK V σ) (hr : σ 109 < 100) : RD J mX8_turn [.ref 405] V (nI (turnF σ)) := by
  refine v_X8_turn ⟨?_, rfl⟩
  rw [q 109 (by omega), rem2 _ hr]
  rfl
theorem m_goesOut (q : sOK V σ) (a p : Nat) (ha : a < 2) (hp : p < 10) (hm : σ (100 + a) < 10) : WR J mX8_goesOut [.ref 405, .int (nI a), .int (nI p)] V 416 1 (fun V' => sOK V' (sgOut σ a p)) := by
  refine v_X8_goesOut _ _ ?_
  unfold F_X8_goesOut
  rw [i10, i100, ccl (n := 10 * a + p) (by omega), ccl (n := 100 + a) (by omega)]
  have q1 : sOK (up2 V 416 (10 * a + p) 2) (up1 σ (10 * a + p) 2) := sOK_up (v := 2) q
  have e1 : up2 V 416 (10 * a + p) 2 416 (100 + a) = nI (σ (100 + a)) := by rw [q1 _ (by omega), up1_off _ _ (by omega)]
  rw [e1, i80, ccl (n := 80 + 10 * a + σ (100 + a)) (by omega)]
  have q2 := sOK_up (k := 80 + 10 * a + σ (100 + a)) (v := p) q1
  have e2 : up2 (up2 V 416 (10 * a + p) 2) 416 (80 + 10 * a + σ (100 + a)) (nI p) 416 (100 + a) = nI (σ (100 + a)) := by rw [q2 _ (by omega), up1_off _ _ (by omega), up1_off _ _ (by omega)]
  rw [e2, nI_1]
  exact ⟨s110 (by omega), s110 (by omega), s110 (by omega), s110 (by omega), s110 (by omega), rfl, offF_up (offF_up (offF_up (offF_rf _ _ _) (by omega)) (by omega)) (by omega), sOK_up q2⟩
/-- coming back, as far as k places of the row -/
def sgBk (σ : Sg) (a k : Nat) : Sg := fun j => if 80 + 10 * a ≤ j ∧ j < 80 + 10 * a + k then σ (j + 1) else if j = 100 + a then σ (100 + a) - 1 else if j = 10 * a + σ (80 + 10 * a) then 0 else σ j
theorem sgBk_s {σ : Sg} {a k : Nat} (ha : a < 2) (hk : k < 9) (hp : σ (80 + 10 * a) < 10) : up1 (sgBk σ a k) (80 + 10 * a + k) (sgBk σ a k (80 + 10 * a + k + 1)) = sgBk σ a (k + 1) := by
  have e : sgBk σ a k (80 + 10 * a + k + 1) = σ (80 + 10 * a + k + 1) := by
    unfold sgBk
    rw [if_neg (by omega), if_neg (by omega), if_neg (by omega)]
  rw [e]
  funext j
  by_cases h : j = 80 + 10 * a + k
  · subst h
    rw [up1_at]
    unfold sgBk
    rw [if_pos (by omega)]
  · rw [up1_off _ _ h]
    unfold sgBk
    by_cases h2 : 80 + 10 * a ≤ j ∧ j < 80 + 10 * a + k
    · rw [if_pos h2, if_pos (by omega)]
    · rw [if_neg h2, if_neg (c := 80 + 10 * a ≤ j ∧ j < 80 + 10 * a + (k + 1)) (by omega)]
theorem m_comesBack (q : sOK V σ) (a : Nat) (ha : a < 2) (w : wfS σ a) : WR J mX8_comesBack [.ref 405, .int (nI a)] V 416 1 (fun V' => sOK V' (sgBack σ a)) := by
  have hm := wfS_m w
  refine v_X8_comesBack _ ?_
  unfold F_X8_comesBack
  rw [i100, ccl (n := 100 + a) (by omega), q _ (by omega), nI_0', cle (by omega) (by omega), i80', ccl (n := 80 + 10 * a) (by omega), q (80 + 10 * a) (by omega)]
  refine ⟨s110 (by omega), fun z => ⟨rfl, offF_rf _ _ _, ?_⟩, fun z => ?_⟩
  · rw [sgBack_0 (by omega)]; exact q
  · have hp := (w.2.2.1 0 (by omega)).1
    rw [Nat.add_zero] at hp
    rw [i10, ccl (n := 10 * a + σ (80 + 10 * a)) (by omega)]
    have q1 : sOK (up2 V 416 (10 * a + σ (80 + 10 * a)) (nI 0)) (up1 σ (10 * a + σ (80 + 10 * a)) 0) := sOK_up q
    have e1 : up2 V 416 (10 * a + σ (80 + 10 * a)) (nI 0) 416 (100 + a) - 1 = nI (σ (100 + a) - 1) := by
      rw [q1 _ (by omega), up1_off _ _ (by omega)]
      exact nI_sub (b := 1) (by omega)
    rw [e1]
    have q2 := sOK_up (k := 100 + a) (v := σ (100 + a) - 1) q1
    have e0 : up1 (up1 σ (10 * a + σ (80 + 10 * a)) 0) (100 + a) (σ (100 + a) - 1) = sgBk σ a 0 := by
      funext j
      unfold sgBk up1
      rw [if_neg (c := 80 + 10 * a ≤ j ∧ j < 80 + 10 * a + 0) (by omega)]
    rw [e0] at q2
    refine ⟨s110 (by omega), s110 (by omega), s110 (by omega), s110 (by omega), ?_⟩
    unfold F_X8_comesBack_50
    refine ⟨fun n x2 V' => ∃ k, k ≤ σ (100 + a) - 1 ∧ n = σ (100 + a) - 1 - k ∧ x2 = nI k ∧ sOK V' (sgBk σ a k) ∧ offF V V' 416 1, ⟨σ (100 + a) - 1, 0, by omega, by omega, rfl, q2, offF_up (offF_up (offF_rf _ _ _) (by omega)) (by omega)⟩, ?_⟩
    rintro n x2 V' ⟨k, hk, hn, rfl, qk, hf⟩
    unfold B_X8_comesBack_50
    have em : sgBk σ a k (100 + a) = σ (100 + a) - 1 := by
      unfold sgBk
      rw [if_neg (by omega), if_pos rfl]
    rw [i100, ccl (n := 100 + a) (by omega), qk _ (by omega), em, i80, nI_1]
    refine ⟨s110 (by omega), fun c => ⟨rfl, hf, ?_⟩, fun c => ?_⟩
    · have h2 := lpE (by omega) hk c
      subst h2
      have e9 : sgBack σ a = sgBk σ a (σ (100 + a) - 1) := by
        funext j
        rw [sgBack_at (by omega)]
        rfl
      show sOK V' (sgBack σ a)
      rw [e9]; exact qk
    · have h1 := lpL (by omega) hk c
      rw [ccl (n := 80 + 10 * a + k) (by omega), ccl (n := 80 + 10 * a + k + 1) (by omega), qk _ (by omega), nI_1]
      refine ⟨s110 (by omega), s110 (by omega), σ (100 + a) - 1 - (k + 1), by omega, k + 1, by omega, rfl, rfl, ?_, offF_up hf (by omega)⟩
      rw [← sgBk_s ha (by omega) hp]
      exact sOK_up qk
theorem m_looksAtMat (q : sOK V σ) (w : wfM σ) (a : Nat) (ha : a < 2) : WR J mX8_looksAtMat [.ref 405, .int (nI a)] V 416 1 (fun V' => sOK V' (lookF σ a)) := by
  have wa := wfM_at w ha
  have hc := cnt_le σ a 0 0
  refine v_X8_looksAtMat _ (rd_i (m_manyThat q a 0 0 ha wa.1 (by omega) (by omega)) ?_)
  rw [i105 a ha, ccl (n := 104 + (1 - a)) (by omega), q _ (by omega), show (2 : Int32) = nI 2 from rfl, nI_add]
  have ez : (nI (cnt σ a 0 0) = 0) ↔ cnt σ a 0 0 = 0 := by rw [nI_0', ceq (by omega) (by omega)]
  rw [ez]
  unfold lookF
  refine ⟨fun z => ⟨rfl, offF_rf _ _ _, ?_⟩, fun z => ⟨s110 (by omega), s110 (by omega), ?_⟩⟩
  · rw [if_neg z]; exact q
  · rw [if_pos z]
    have q1 : sOK (up2 V 416 (104 + (1 - a)) (nI (σ (104 + (1 - a)) + 2))) (sgAdd σ (104 + (1 - a)) 2) := sOK_up q
    have w1 := wfM_at (wfM_add (g := 2) w (show 1 - a < 2 by omega)) ha
    have hm := wfS_m w1
    generalize sgAdd σ (104 + (1 - a)) 2 = τ at *
    unfold F_X8_looksAtMat_23
    refine ⟨fun n V' => ∃ i, n = sgCome τ a i (100 + a) ∧ i + sgCome τ a i (100 + a) ≤ 10 ∧ sOK V' (sgCome τ a i) ∧ offF V V' 416 1, ⟨_, 0, rfl, by show 0 + τ (100 + a) ≤ 10; omega, q1, offF_up (offF_rf _ _ _) (by omega)⟩, ?_⟩
    rintro n V' ⟨i, hn, hi, qi, hf⟩
    have wi := wfS_come w1 ha i
    have hmi := wfS_m wi
    unfold B_X8_looksAtMat_23
    rw [i100, ccl (n := 100 + a) (by omega), qi _ (by omega), nI_0', cle (by omega) (by omega)]
    refine ⟨s110 (by omega), fun c => ⟨rfl, hf, ?_⟩, fun c => wr_use (m_comesBack qi a ha wi) (fun V2 f2 q2 => ?_)⟩
    · have h3 := sgCome_stop (σ := τ) (a := a) (i := i) (by omega) (10 - i)
      rw [show i + (10 - i) = 10 by omega] at h3
      rw [h3]; exact qi
    · have hb : sgCome τ a (i + 1) (100 + a) = sgCome τ a i (100 + a) - 1 := sgBack_m ha hmi
      exact ⟨sgCome τ a (i + 1) (100 + a), by omega, i + 1, rfl, by omega, q2, offF_tr hf f2⟩
theorem m_raiderIsOut (q : sOK V σ) (w : wfM σ) (a r g : Nat) (ha : a < 2) (hr : r < 10) (h0 : σ (10 * a + r) = 0) : WR J mX8_raiderIsOut [.ref 405, .int (nI a), .int (nI r), .int (nI g)] V 416 1 (fun V' => sOK V' (loseF σ a r g)) := by
  have hm := wfS_on (wfM_at w ha) hr (by omega)
  refine v_X8_raiderIsOut _ _ _ (wr_use (m_goesOut q a r ha hr hm) (fun V1 f1 q1 => ?_))
  rw [i105 a ha, ccl (n := 104 + (1 - a)) (by omega), q1 _ (by omega), nI_add, nI_other a ha]
  have w1 := wfM_out w ha hr h0
  have q2 : sOK (up2 V1 416 (104 + (1 - a)) (nI (sgOut σ a r (104 + (1 - a)) + g))) (sgAdd (sgOut σ a r) (104 + (1 - a)) g) := sOK_up q1
  have w2 := wfM_at (wfM_add (g := g) w1 (show 1 - a < 2 by omega)) (show 1 - a < 2 by omega)
  exact ⟨s110 (by omega), s110 (by omega), wr_use (m_comesBack q2 (1 - a) (by omega) w2) (fun V2 f2 q3 => ⟨rfl, offF_tr (offF_up f1 (by omega)) f2, q3⟩)⟩
theorem m_colourFor (q : sOK V σ) (a p k : Nat) (ha : a < 2) (hp : p < 10) (hk : k < 3) (hc : σ (40 + 10 * a + p) < 8) : RD J mX8_colourFor [.ref 405, .int (nI a), .int (nI p), .int (nI k)] V (nI (colF (σ (40 + 10 * a + p)) k)) := by
  refine v_X8_colourFor _ _ _ ?_
  unfold F_X8_colourFor F_X8_colourFor_3
  refine ⟨fun n x4 V' => ∃ j, k ≤ j ∧ j ≤ 2 ∧ n = 2 - j ∧ x4 = nI j ∧ colF (σ (40 + 10 * a + p)) j = colF (σ (40 + 10 * a + p)) k ∧ V = V', ⟨2 - k, k, by omega, by omega, rfl, rfl, rfl, rfl⟩, ?_⟩
  rintro n x4 V' ⟨j, hj, hj2, hn, rfl, hcf, rfl⟩
  unfold B_X8_colourFor_3
  rw [i40, ccl (n := 40 + 10 * a + p) (by omega), q _ (by omega)]
  refine ⟨fun c => ?_, fun c => ?_⟩
  · have h2 := lpE (n := 2) (by omega) hj2 c
    subst h2
    rw [← hcf]
    exact ⟨rfl, rfl⟩
  · have h1 := lpL (n := 2) (by omega) hj2 c
    refine ⟨s110 (by omega), fun c2 => ?_, fun c2 => ?_⟩
    · rw [sh_bit _ hc j h1] at c2
      rw [← hcf, colF_sp _ hc j h1 c2]
      exact ⟨rfl, rfl⟩
    · rw [sh_bit _ hc j h1] at c2
      exact ⟨2 - (j + 1), by omega, j + 1, by omega, by omega, rfl, nI_1 j, by rw [colF_st _ hc j h1 c2, hcf], rfl⟩
end Md1
