theorem ci_4 {h : Nat} {R : Nat → Nat → Option Nat} {V : Nat → Nat → Int32} (hh : isMats h) (q : okM R (h + 1) V) (hR : R h = fun _ => none) : CI mX4_init h (h + 1) (h + 13) R V V := by
  have hb : h = 3 ∨ h = 16 := hh
  unfold CI
  refine ct_of pX4_init (fun _ _ => rfl) (Nat.le_refl 1) (s_aload_n (x := h) dX4_init_0 rfl (s_objInit (d := mX4_init) (h := h) (TBg_of (w := Cond.methodLink RX4 3 Lib.objectInit) (i := 70) (by decide +kernel) (by decide +kernel)) oi_2 oi_3 dX4_init_1 (by decide) (by decide) (by decide) ?_))
  refine c_obj (d' := mX6_init) (j := 0) (n' := h + 7) (Or.inr iv_4_11) q (by omega) (by omega) (mt_o hh).2 (sd_o (mt_s0 hh)).2 (by omega) dX4_init_4 dX4_init_5 nw_4_9 dX4_init_8 dX4_init_9 dX4_init_12 (by unfold rmP; decide) rfl (by decide) (by decide) rfl fl_4_12 rfl rfl (ci_6 (mt_s0 hh) (okM_le q (by omega)) (q.1 _ (Nat.le_refl _))) (fun q1 => ?_)
  refine c_obj (d' := mX6_init) (j := 1) (n' := h + 13) (Or.inr iv_4_11) q1 (by omega) (by omega) (mt_o hh).2 (sd_o (mt_s1 hh)).2 (by omega) dX4_init_15 dX4_init_16 nw_4_9 dX4_init_19 dX4_init_20 dX4_init_23 (by unfold rmP; decide) rfl (by decide) (by decide) rfl fl_4_18 rfl rfl (ci_6 (mt_s1 hh) (okM_le q1 (by omega)) (q1.1 _ (Nat.le_refl _))) (fun q2 => ?_)
  have e : up2 (rF (up2 (rF R (h + 1) (h + 2) (h + 7)) h 0 (some (h + 1))) (h + 7) (h + 8) (h + 13)) h 1 (some (h + 7)) = rF R h (h + 1) (h + 13) := by
    funext i j
    by_cases e1 : i = h
    · subst e1
      rw [rF_in (Or.inl rfl)]
      by_cases e2 : j = 1
      · subst e2
        rw [up2_same, mt_r1 hh]
      · rw [up2_ne _ _ (Or.inr e2), rF_off (by omega)]
        by_cases e3 : j = 0
        · subst e3
          rw [up2_same, mt_r0 hh]
        · rw [up2_ne _ _ (Or.inr e3), rF_off (by omega), hR]
          rcases hb with rfl | rfl <;> simp [R0, e2, e3]
    · rw [up2_off _ _ _ e1]
      by_cases e2 : h + 7 ≤ i ∧ i < h + 13
      · rw [rF_in (by omega), rF_in (by omega)]
      · rw [rF_off (by omega), up2_off _ _ _ e1]
        by_cases e3 : h + 1 ≤ i ∧ i < h + 7
        · rw [rF_in (by omega), rF_in (by omega)]
        · rw [rF_off (by omega), rF_off (by omega)]
  exact s_vret dX4_init_26 rfl ⟨rfl, by rw [← e], by rw [← e]; exact q2⟩
theorem ci_7 {V Va : Nat → Nat → Int32} {R : Nat → Nat → Option Nat} (q : okM R 1 V) (hR : R 0 = fun _ => none) (h1 : ∀ R', okM R' 2 V → R' 1 = (fun _ => none) → CI mX1_init 1 2 389 R' V V) (h0 : ∀ R', okM R' 399 V → R' 398 = (fun _ => none) → CI mX0_init 398 399 405 R' V Va) : CI mX7_init 0 1 405 R V Va := by
  unfold CI
  refine ct_of pX7_init (fun _ _ => rfl) (Nat.le_refl 1) (s_aload_n (x := 0) dX7_init_0 rfl (s_objInit (d := mX7_init) (h := 0) (TBg_of (w := Cond.methodLink RX7 3 Lib.objectInit) (i := 54) (by decide +kernel) (by decide +kernel)) oi_2 oi_3 dX7_init_1 (by decide) (by decide) (by decide) ?_))
  refine c_obj (d' := mX1_init) (j := 0) (n' := 389) (Or.inl iv_7_11) q (by omega) (by omega) rfl rfl (by omega) dX7_init_4 dX7_init_5 nw_7_9 dX7_init_8 dX7_init_9 dX7_init_12 (by unfold rmP; decide) rfl (by decide) (by decide) rfl fl_7_12 rfl rfl (h1 _ (okM_le q (by omega)) (q.1 _ (Nat.le_refl _))) (fun q1 => ?_)
  refine c_obj (d' := mX5_init) (j := 1) (n' := 391) (Or.inr iv_7_18) q1 (by omega) (by omega) rfl rfl (by omega) dX7_init_15 dX7_init_16 nw_7_16 dX7_init_19 dX7_init_20 dX7_init_23 (by unfold rmP; decide) rfl (by decide) (by decide) rfl fl_7_19 rfl rfl (ci_5 (okM_le q1 (by omega)) (q1.1 _ (Nat.le_refl _))) (fun q2 => ?_)
  refine c_obj (d' := mX3_init) (j := 2) (n' := 398) (Or.inr iv_7_25) q2 (by omega) (by omega) rfl rfl (by omega) dX7_init_26 dX7_init_27 nw_7_23 dX7_init_30 dX7_init_31 dX7_init_34 (by unfold rmP; decide) rfl (by decide) (by decide) rfl fl_7_26 rfl rfl (ci_3 (okM_le q2 (by omega)) (q2.1 _ (Nat.le_refl _))) (fun q3 => ?_)
  refine c_obj (d' := mX0_init) (j := 3) (n' := 405) (Or.inl iv_7_32) q3 (by omega) (by omega) rfl rfl (by omega) dX7_init_37 dX7_init_38 nw_7_30 dX7_init_41 dX7_init_42 dX7_init_45 (by unfold rmP; decide) rfl (by decide) (by decide) rfl fl_7_33 rfl rfl (h0 _ (okM_le q3 (by omega)) (q3.1 _ (Nat.le_refl _))) (fun q4 => ?_)
  have e : up2 (rF (up2 (rF (up2 (rF (up2 (rF R 1 2 389) 0 0 (some 1)) 389 390 391) 0 1 (some 389)) 391 392 398) 0 2 (some 391)) 398 399 405) 0 3 (some 398) = rF R 0 1 405 := by
    funext i j
    by_cases e1 : i = 0
    · subst e1
      rw [rF_in (Or.inl rfl)]
      by_cases e2 : j = 3
      · subst e2
        rw [up2_same]
        rfl
      · rw [up2_ne _ _ (Or.inr e2), rF_off (by omega)]
        by_cases e3 : j = 2
        · subst e3
          rw [up2_same]
          rfl
        · rw [up2_ne _ _ (Or.inr e3), rF_off (by omega)]
          by_cases e4 : j = 1
          · subst e4
            rw [up2_same]
            rfl
          · rw [up2_ne _ _ (Or.inr e4), rF_off (by omega)]
            by_cases e5 : j = 0
            · subst e5
              rw [up2_same]
              rfl
            · rw [up2_ne _ _ (Or.inr e5), rF_off (by omega), hR]
              simp [R0, e2, e3, e4, e5]
    · rw [up2_off _ _ _ e1]
      by_cases e2 : 398 ≤ i ∧ i < 405
      · rw [rF_in (by omega), rF_in (by omega)]
      · rw [rF_off (by omega), up2_off _ _ _ e1]
        by_cases e3 : 391 ≤ i ∧ i < 398
        · rw [rF_in (by omega), rF_in (by omega)]
        · rw [rF_off (by omega), up2_off _ _ _ e1]
          by_cases e4 : 389 ≤ i ∧ i < 391
          · rw [rF_in (by omega), rF_in (by omega)]
          · rw [rF_off (by omega), up2_off _ _ _ e1]
            by_cases e5 : 1 ≤ i ∧ i < 389
            · rw [rF_in (by omega), rF_in (by omega)]
            · rw [rF_off (by omega), rF_off (by omega)]
  exact s_vret dX7_init_48 rfl ⟨rfl, by rw [← e], by rw [← e]; exact q4⟩
