/-! the reference: an event, a raid -/
def mdE (V : Mem) (n : Nat) (e : Ev) : Prop := V 408 n = nI (e 0) ∧ V 409 n = nI (if e 0 = 0 then e 2 else e 1) ∧ (e 0 ≠ 0 → V 410 n = nI (e 2) ∧ V 411 n = nI (e 3)) ∧ V 412 n = nI (e 4) ∧ ∀ k, k < e 4 → V 413 (14 * n + k) = nI (e (10 + k)) ∧ V 414 (14 * n + k) = wI (e (30 + k)) ∧ V 415 (14 * n + k) = nI (e (50 + k))
theorem mdE_off {V V' : Mem} {n : Nat} {e : Ev} (q : mdE V n e) (f : ∀ x, 408 ≤ x → x < 416 → V' x = V x) : mdE V' n e := by
  unfold mdE
  rw [f 408 (by omega) (by omega), f 409 (by omega) (by omega), f 410 (by omega) (by omega), f 411 (by omega) (by omega), f 412 (by omega) (by omega), f 413 (by omega) (by omega), f 414 (by omega) (by omega), f 415 (by omega) (by omega)]
  exact q
theorem mdE_s {V V' : Mem} {n : Nat} {e : Ev} (q : mdE V n e) (f : offF V V' 416 1) : mdE V' n e := mdE_off q (fun x h1 h2 => f x (by omega))
theorem i14 (n k : Nat) : 14 * nI n + nI k = nI (14 * n + k) := by rw [show (14 : Int32) = nI 14 from rfl, nI_mul, nI_add]
theorem s840 {k : Nat} (h : k < 840) : vp_in (nI k) 840 := vp_in_nI h (by decide)
theorem s60 {k : Nat} (h : k < 60) : vp_in (nI k) 60 := vp_in_nI h (by decide)
section Md2
variable {J : Nat → Nat → Int64} {V : Mem} {σ : Sg} {n : Nat} {e : Ev}
theorem m_stepsThat (ev : mdE V n e) (hn : n < 60) (hw : evW e) (x : Nat) (hx : x ≤ 6) : RD J mX8_stepsThat [.ref 405, .int (nI n), .int (nI x)] V (nI (steps e x)) := by
  have h10 := hw.1
  refine v_X8_stepsThat _ _ ?_
  unfold F_X8_stepsThat F_X8_stepsThat_5
  refine ⟨fun m x3 x4 V' => ∃ k, k ≤ e 4 ∧ m = e 4 - k ∧ x4 = nI k ∧ x3 = nI (stepsTo e x k) ∧ V = V', ⟨e 4, 0, by omega, rfl, rfl, rfl, rfl⟩, ?_⟩
  rintro m x3 x4 V' ⟨k, hk, hm, rfl, rfl, rfl⟩
  unfold B_X8_stepsThat_5 F_X8_stepsThat_38
  rw [ccl (n := n) (by omega), ev.2.2.2.1]
  refine ⟨s60 hn, fun c1 => ?_, fun c1 => ?_⟩
  · have h2 := lpE (by omega) hk c1
    unfold steps
    rw [h2]
    exact ⟨rfl, rfl⟩
  · have h1 := lpL (by omega) hk c1
    obtain ⟨s1, s2, s3, s4⟩ := hw.2 k h1
    rw [i14, ccl (n := 14 * n + k) (by omega), (ev.2.2.2.2 k h1).1, ceq (by omega) (by omega)]
    refine ⟨s840 (by omega), fun c3 => ?_, fun c3 => ?_⟩
    · refine ⟨e 4 - (k + 1), by omega, k + 1, by omega, rfl, nI_1 k, ?_, rfl⟩
      simp [stepsTo, c3]
    · refine ⟨e 4 - (k + 1), by omega, k + 1, by omega, rfl, nI_1 k, ?_, rfl⟩
      simp [stepsTo, c3, nI_1]
theorem m_comesHome (q : sOK V σ) (w : wfM σ) (ev : mdE V n e) (hn : n < 60) (hw : evW e) (h00 : e 0 = 0) (hp : e 2 < 10) (h0 : σ (10 * turnF σ + e 2) = 0) (hs : ∀ k, k < e 4 → canSt σ e k) (b : Nat) (hb : b ≤ 1) : WR J mX8_comesHome [.ref 405, .int (nI n), .int (nI (turnF σ)), .int (nI b)] V 416 1 (fun V' => sOK V' (homeF σ e (turnF σ) b)) := by
  have ht := turnF_lt σ
  have hbt : 1 - turnF σ < 2 := by omega
  have hg := evW_go hw hs
  have h10 := hw.1
  have hs0 := steps_le e 0
  have h2 := (wfM_at w ht).2.2.2.2.2.2.1
  have v9 : V 409 n = nI (e 2) := by have := ev.2.1; rw [if_pos h00] at this; exact this
  have L83 : ((steps e 0 = 0 ∧ steps e 1 = 0 ∧ steps e 2 = 0) ∨ (steps e 0 + b = 0 ∧ σ (106 + turnF σ) = 2)) → F_X8_comesHome_83 J (nI n) (nI (turnF σ)) (nI b) (nI (e 2)) V (fun r V' => r = none ∧ offF V V' 416 1 ∧ sOK V' (homeF σ e (turnF σ) b)) NX := by
    intro hc
    unfold F_X8_comesHome_83
    rw [i106, ccl (n := 106 + turnF σ) (by omega)]
    have q1 : sOK (up2 V 416 (106 + turnF σ) 0) (up1 σ (106 + turnF σ) 0) := sOK_up (v := 0) q
    refine ⟨s110 (by omega), wr_use (m_raiderIsOut q1 (wfM_emp w ht (by omega)) (turnF σ) (e 2) 1 ht hp (by rw [up1_off _ _ (by omega)]; exact h0)) (fun V1 f1 q2 => ⟨rfl, offF_tr (offF_up (offF_rf _ _ _) (by omega)) f1, ?_⟩)⟩
    unfold homeF
    rw [if_pos hc]
    exact q2
  have L104 : ¬ ((steps e 0 = 0 ∧ steps e 1 = 0 ∧ steps e 2 = 0) ∨ (steps e 0 + b = 0 ∧ σ (106 + turnF σ) = 2)) → F_X8_comesHome_104 J (nI n) (nI (turnF σ)) (nI b) (nI (steps e 0)) (nI (e 2)) V (fun r V' => r = none ∧ offF V V' 416 1 ∧ sOK V' (homeF σ e (turnF σ) b)) NX := by
    intro hc
    unfold F_X8_comesHome_104
    rw [nI_add, i106, i104, i60, ccl (n := 106 + turnF σ) (by omega), ccl (n := 104 + turnF σ) (by omega), ccl (n := 60 + 10 * turnF σ + e 2) (by omega), nI_0', ceq (by omega) (by omega)]
    unfold homeF
    rw [if_neg hc]
    refine ⟨fun z => ?_, fun z => ⟨s110 (by omega), s110 (by omega), rfl, offF_up (offF_rf _ _ _) (by omega), ?_⟩⟩
    · rw [if_neg z]
      have q1 : sOK (up2 V 416 (106 + turnF σ) (nI 0)) (up1 σ (106 + turnF σ) 0) := sOK_up q
      rw [q1 (104 + turnF σ) (by omega), nI_add]
      have q2 : sOK (up2 (up2 V 416 (106 + turnF σ) (nI 0)) 416 (104 + turnF σ) (nI (up1 σ (106 + turnF σ) 0 (104 + turnF σ) + (steps e 0 + b)))) (sgAdd (up1 σ (106 + turnF σ) 0) (104 + turnF σ) (steps e 0 + b)) := sOK_up q1
      rw [q2 (60 + 10 * turnF σ + e 2) (by omega), nI_add]
      have q3 : sOK (up2 (up2 (up2 V 416 (106 + turnF σ) (nI 0)) 416 (104 + turnF σ) (nI (up1 σ (106 + turnF σ) 0 (104 + turnF σ) + (steps e 0 + b)))) 416 (60 + 10 * turnF σ + e 2) (nI (sgAdd (up1 σ (106 + turnF σ) 0) (104 + turnF σ) (steps e 0 + b) (60 + 10 * turnF σ + e 2) + (steps e 0 + b)))) (sgScore (up1 σ (106 + turnF σ) 0) (turnF σ) (e 2) (steps e 0 + b)) := sOK_up q2
      have f3 : offF V (up2 (up2 (up2 V 416 (106 + turnF σ) (nI 0)) 416 (104 + turnF σ) (nI (up1 σ (106 + turnF σ) 0 (104 + turnF σ) + (steps e 0 + b)))) 416 (60 + 10 * turnF σ + e 2) (nI (sgAdd (up1 σ (106 + turnF σ) 0) (104 + turnF σ) (steps e 0 + b) (60 + 10 * turnF σ + e 2) + (steps e 0 + b)))) 416 1 := offF_up (offF_up (offF_up (offF_rf _ _ _) (by omega)) (by omega)) (by omega)
      generalize up2 (up2 (up2 V 416 (106 + turnF σ) (nI 0)) 416 (104 + turnF σ) (nI (up1 σ (106 + turnF σ) 0 (104 + turnF σ) + (steps e 0 + b)))) 416 (60 + 10 * turnF σ + e 2) (nI (sgAdd (up1 σ (106 + turnF σ) 0) (104 + turnF σ) (steps e 0 + b) (60 + 10 * turnF σ + e 2) + (steps e 0 + b))) = V3 at q3 f3 ⊢
      have w3 := wfM_score (g := steps e 0 + b) (wfM_emp w ht (v := 0) (by omega)) ht hp
      have g3 : toGo (sgScore (up1 σ (106 + turnF σ) 0) (turnF σ) (e 2) (steps e 0 + b)) (1 - turnF σ) e := toGo_cg hg (fun i hi => by rw [sgScore_o (by omega) (by omega), up1_off _ _ (by omega)])
      generalize sgScore (up1 σ (106 + turnF σ) 0) (turnF σ) (e 2) (steps e 0 + b) = τ at q3 w3 g3 ⊢
      refine ⟨s110 (by omega), s110 (by omega), s110 (by omega), s110 (by omega), s110 (by omega), ?_⟩
      unfold F_X8_comesHome_178
      refine ⟨fun m x4 x8 V' => ∃ k, k ≤ e 4 ∧ m = e 4 - k ∧ x8 = nI k ∧ x4 = nI (steps e 0) ∧ sOK V' (touchTo τ (1 - turnF σ) e k) ∧ offF V V' 416 1, ⟨e 4, 0, by omega, by omega, rfl, rfl, q3, f3⟩, ?_⟩
      rintro m x4 x8 V' ⟨k, hk, hm, rfl, rfl, qk, hf⟩
      obtain ⟨w1, o1, s1⟩ := touchTo_ok w3 hbt g3 k hk
      have ev' := mdE_s ev hf
      unfold B_X8_comesHome_178 F_X8_comesHome_223
      rw [ccl (n := n) (by omega), ev'.2.2.2.1]
      refine ⟨s60 hn, fun c1 => ?_, fun c1 => ?_⟩
      · have hke := lpE (by omega) hk c1
        rw [hke] at qk w1
        have wt := wfM_at w1 ht
        unfold F_X8_comesHome_232
        refine ⟨fun m x4 x8 V'' => ∃ i, i ≤ steps e 0 ∧ m = steps e 0 - i ∧ x8 = nI i ∧ x4 = nI (steps e 0) ∧ sOK V'' (sgCome (touchTo τ (1 - turnF σ) e (e 4)) (turnF σ) i) ∧ offF V V'' 416 1, ⟨_, 0, by omega, rfl, rfl, rfl, qk, hf⟩, ?_⟩
        rintro m2 x4 x8 V2 ⟨i, hi, hm2, rfl, rfl, qi, hf2⟩
        unfold B_X8_comesHome_232
        refine ⟨fun c2 => ?_, fun c2 => ?_⟩
        · have hie := lpE (by omega) hi c2
          rw [hie] at qi
          exact ⟨rfl, hf2, qi⟩
        · have hil := lpL (by omega) hi c2
          exact wr_use (m_comesBack qi (turnF σ) ht (wfS_come wt ht i)) (fun V4 f4 q4 => ⟨steps e 0 - (i + 1), by omega, i + 1, by omega, rfl, nI_1 i, rfl, q4, offF_tr hf2 f4⟩)
      · have h1 := lpL (by omega) hk c1
        obtain ⟨y1, y2, y3, y4⟩ := hw.2 k h1
        rw [i14, ccl (n := 14 * n + k) (by omega), (ev'.2.2.2.2 k h1).1, (ev'.2.2.2.2 k h1).2.1]
        have ez : (nI (e (10 + k)) = 0) ↔ e (10 + k) = 0 := by rw [nI_0', ceq (by omega) (by omega)]
        rw [ez]
        refine ⟨s840 (by omega), fun c3 => ⟨e 4 - (k + 1), by omega, k + 1, by omega, rfl, nI_1 k, rfl, ?_, hf⟩, fun c3 => ⟨s840 (by omega), ?_⟩⟩
        · unfold touchTo; rw [if_neg c3]; exact qk
        · obtain ⟨⟨g1, g2⟩, gg3, gg4⟩ := g3 k h1 c3
          have g5 : hasTo e 0 (e (30 + k) - 1 + 1) k = false := by rw [show e (30 + k) - 1 + 1 = e (30 + k) by omega]; exact gg4
          have ss := s1 (e (30 + k) - 1) (by omega) g5
          have hm := wfS_on (wfM_at w1 hbt) (p := e (30 + k) - 1) (by omega) (by omega)
          have hwI : wI (e (30 + k)) = nI (e (30 + k) - 1) := by
            obtain ⟨z, hz⟩ : ∃ z, e (30 + k) = z + 1 := ⟨e (30 + k) - 1, by omega⟩
            rw [hz, wI_s]; rfl
          rw [nI_other _ ht, hwI]
          refine wr_use (m_goesOut qk (1 - turnF σ) _ hbt (by omega) hm) (fun V4 f4 q4 => ⟨e 4 - (k + 1), by omega, k + 1, by omega, rfl, nI_1 k, rfl, ?_, offF_tr hf f4⟩)
          unfold touchTo; rw [if_pos c3]; exact q4
    · rw [if_pos z, q _ (by omega), nI_1]
      exact sOK_up q
  have L56 : ∀ d z, (d = 1 ↔ σ (106 + turnF σ) = 2) → d ≤ 1 → z ≤ 1 → (z = 1 ↔ (steps e 0 = 0 ∧ steps e 1 = 0 ∧ steps e 2 = 0)) → F_X8_comesHome_56 J (nI n) (nI (turnF σ)) (nI b) (nI (steps e 0)) (nI d) (nI z) V (fun r V' => r = none ∧ offF V V' 416 1 ∧ sOK V' (homeF σ e (turnF σ) b)) NX := by
    intro d z hd hd1 hz1 hz
    unfold F_X8_comesHome_56
    rw [ccl (n := n) (by omega), v9, nI_add, nI_0', ceq (by omega) (by omega), ceq (by omega) (by omega), ceq (by omega) (by omega)]
    refine ⟨s60 hn, fun c1 => L83 (Or.inl (hz.mp (by omega))), fun c1 => ⟨fun c2 => L104 ?_, fun c2 => ⟨fun c3 => L104 ?_, fun c3 => L83 (Or.inr ⟨c2, hd.mp (by omega)⟩)⟩⟩⟩
    · intro y
      rcases y with y | y
      · have := hz.mpr y; omega
      · omega
    · intro y
      rcases y with y | y
      · have := hz.mpr y; omega
      · have := hd.mpr y.2; omega
  have L26 : ∀ d, (d = 1 ↔ σ (106 + turnF σ) = 2) → d ≤ 1 → F_X8_comesHome_26 J (nI n) (nI (turnF σ)) (nI b) (nI (steps e 0)) (nI d) V (fun r V' => r = none ∧ offF V V' 416 1 ∧ sOK V' (homeF σ e (turnF σ) b)) NX := by
    intro d hd hd1
    unfold F_X8_comesHome_26 F_X8_comesHome_55
    have e1 := steps_le e 1
    have e2 := steps_le e 2
    have z0 : (nI (steps e 0) = 0) ↔ steps e 0 = 0 := by rw [nI_0', ceq (by omega) (by omega)]
    have z1 : (nI (steps e 1) = 0) ↔ steps e 1 = 0 := by rw [nI_0', ceq (by omega) (by omega)]
    have z2 : (nI (steps e 2) = 0) ↔ steps e 2 = 0 := by rw [nI_0', ceq (by omega) (by omega)]
    rw [z0]
    refine ⟨fun c => L56 d 0 hd hd1 (by omega) (by omega), fun c => rd_i (m_stepsThat ev hn hw 1 (by omega)) ?_⟩
    rw [z1]
    refine ⟨fun c1 => L56 d 0 hd hd1 (by omega) (by omega), fun c1 => rd_i (m_stepsThat ev hn hw 2 (by omega)) ?_⟩
    rw [z2]
    exact ⟨fun c2 => L56 d 0 hd hd1 (by omega) (by omega), fun c2 => L56 d 1 hd hd1 (by omega) (by omega)⟩
  refine v_X8_comesHome _ _ _ (rd_i (m_stepsThat ev hn hw 0 (by omega)) ?_)
  have h2' : (nI (σ (106 + turnF σ)) = 2) ↔ σ (106 + turnF σ) = 2 := by rw [show (2 : Int32) = nI 2 from rfl, ceq (by omega) (by omega)]
  rw [i106, ccl (n := 106 + turnF σ) (by omega), q _ (by omega), h2']
  exact ⟨s110 (by omega), fun c => L26 0 (by omega) (by omega), fun c => L26 1 (by omega) (by omega)⟩
end Md2
