/-! the class: out -/
def F_X7_out (J : Nat → Nat → Int64) (p1 p2 : Int32) (V : Nat → Nat → Int32) (Qr : Option Value → (Nat → Nat → Int32) → Prop) (Qx : String → (Nat → Nat → Int32) → Prop) : Prop :=
CTc J mX7_needIndex [.int p1, .int 2] V (fun r V1 =>
  r = none ∧
  CTc J mX7_needIndex [.int (if 0 < p2 then 0 else p2), .int 1] V1 (fun r V1 =>
    r = none ∧
    CTc J mX1_isThere [.ref 1] V1 (fun r V2 =>
      ∃ b2 : Bool, r = some (.int (bI b2)) ∧
      CTc J mX7_needState [.int (bI b2)] V2 (fun r V3 =>
        r = none ∧
        CTc J mX1_sideNow [.ref 1, .int p1] V3 (fun r V4 =>
          ∃ c4 : Nat, r = some (.ref c4) ∧ isSide c4 ∧
          CTc J mX6_outAt [.ref c4, .int p2] V4 (fun r V5 =>
            ∃ r5 : Int32, r = some (.int r5) ∧
            Qr (some (.int r5)) V5) Qx) Qx) Qx) Qx) Qx) Qx
theorem v_X7_out {J : Nat → Nat → Int64} (p1 p2 : Int32) {V : Nat → Nat → Int32} {Qr : Option Value → (Nat → Nat → Int32) → Prop} {Qx : String → (Nat → Nat → Int32) → Prop} (H : F_X7_out J p1 p2 V Qr Qx) : CTc J mX7_out [.ref 0, .int p1, .int p2] V Qr Qx := by
  refine ctc_of (M := (T0 J, V)) pX7_out (fun _ _ => rfl) (Nat.le_of_ble_eq_true rfl) ?_
  unfold F_X7_out at H
  show WPc J mX7_out Qr Qx 0 [(0, .ref 0), (1, .int p1), (2, .int p2)] [] V 3 18
  refine s_iload_n dX7_out_0 rfl ?_
  refine s_iconst (v := 2) dX7_out_1 (by decide) ?_
  refine t_cS (As := [.int p1, .int 2]) (st := []) iv_7_37 dX7_out_2 ⟨by decide, by decide⟩ rfl (Nat.le_of_ble_eq_true rfl) (by decide) (by decide) rfl H (fun r V1 H => ?_)
  obtain ⟨rfl, H⟩ := H
  refine s_iload_n dX7_out_5 rfl ?_
  refine s_iconst (v := 0) dX7_out_6 (by decide) ?_
  refine s_mmin (TBg_of (w := Cond.methodLink RX7 158 Lib.Math.min.name) (i := 948) (by decide +kernel) (by decide +kernel)) (TBg_of (w := Cond.static Lib.Math.min.name) (i := 949) (by decide +kernel) (by decide +kernel)) (TBg_of (w := Cond.initialized "java/lang/Math") (i := 48) (by decide +kernel) (by decide +kernel)) (TBg_of (w := Cond.code Lib.Math.min.name Lib.Math.min.code 2 (some .int)) (i := 950) (by decide +kernel) (by decide +kernel)) dX7_out_7 (Nat.le_of_ble_eq_true rfl) (by decide) (by decide) ?_
  refine s_iconst (v := 1) dX7_out_10 (by decide) ?_
  refine t_cS (As := [.int (if 0 < p2 then 0 else p2), .int 1]) (st := []) iv_7_37 dX7_out_11 ⟨by decide, by decide⟩ rfl (Nat.le_of_ble_eq_true rfl) (by decide) (by decide) rfl H (fun r V1 H => ?_)
  obtain ⟨rfl, H⟩ := H
  refine s_aload_n dX7_out_14 rfl ?_
  refine t_getR (r := 1) fl_7_12 dX7_out_15 ob_0 rfl rfl ?_
  refine t_cV (h := 1) (As := []) (st := []) iv_7_49 dX7_out_18 ⟨by decide, by decide⟩ rfl (Nat.le_of_ble_eq_true rfl) (by decide) (by decide) rfl ob_1 H (fun r V2 H => ?_)
  obtain ⟨b2, rfl, H⟩ := H
  refine t_cS (As := [.int (bI b2)]) (st := []) iv_7_53 dX7_out_21 ⟨by decide, by decide⟩ rfl (Nat.le_of_ble_eq_true rfl) (by decide) (by decide) rfl H (fun r V3 H => ?_)
  obtain ⟨rfl, H⟩ := H
  refine s_aload_n dX7_out_24 rfl ?_
  refine t_getR (r := 1) fl_7_12 dX7_out_25 ob_0 rfl rfl ?_
  refine s_iload_n dX7_out_28 rfl ?_
  refine t_cV (h := 1) (As := [.int p1]) (st := []) iv_7_149 dX7_out_29 ⟨by decide, by decide⟩ rfl (Nat.le_of_ble_eq_true rfl) (by decide) (by decide) rfl ob_1 H (fun r V4 H => ?_)
  obtain ⟨c4, rfl, hc4, H⟩ := H
  refine s_iload_n dX7_out_32 rfl ?_
  refine t_cV (h := c4) (As := [.int p2]) (st := []) iv_7_164 dX7_out_33 ⟨by decide, by decide⟩ rfl (Nat.le_of_ble_eq_true rfl) (by decide) (by decide) rfl (sd_o hc4) H (fun r V5 H => ?_)
  obtain ⟨r5, rfl, H⟩ := H
  exact s_iret dX7_out_36 (Or.inl rfl) ⟨rfl, H⟩
section HlO
variable {J : Nat → Nat → Int64} {V : Mem} {s : Ms} {E : Evs}
theorem min_ix {p : Int32} : isIx (if 0 < p then 0 else p) 1 = !decide (p < 0) := by
  have e0 : (0 : Int32).toInt = 0 := rfl
  have h1 : (0 < p) ↔ 0 < p.toInt := by rw [i_lt, e0]
  have h2 : (p < 0) ↔ p.toInt < 0 := by rw [i_lt, e0]
  rw [Bool.eq_iff_iff, isIx_t, vp_in_iff, Bool.not_eq_true', decide_eq_false_iff_not, h2]
  by_cases h : 0 < p
  · rw [if_pos h, e0]
    have := h1.mp h
    omega
  · rw [if_neg h]
    have : ¬ 0 < p.toInt := fun z => h (h1.mpr z)
    omega
theorem h_out (c : clM V s E) (G : Gd s E) (a p : Int32) : CO J mX7_out [.ref 0, .int a, .int p] V xsB (viewK s (isIx a 2 && !decide (p < 0))) (outV s E a.toNatClampNeg p) (fun V' => clM V' s E) := by
  obtain ⟨wf, hb, hr, hck⟩ := Gd_run G
  unfold CO
  refine v_X7_out a p (nd_ix a 2 (by omega) (fun h1 => nd_ix _ 1 (by omega) (fun h2 => rd_b (k1_isThere c G) (nd_st _ (fun h3 => ?_) (fun h3 => ?_))) (fun h2 => ?_)) (fun h1 => ?_))
  · rw [min_ix] at h2
    obtain ⟨a, ha, rfl⟩ := isIx_ex (by omega) h1
    have m := c.2.2.2 (of_decide_eq_true h3)
    refine k1_sideNow a ha ?_
    rw [ccl (n := a) (by omega)]
    exact rd_o (k6_outAt (sOf_s mt_3 ha) (mt_sd m ha) (wfS_m (wfM_at wf ha)) p) (vk_0 (by rw [h1, h2]; rfl) h3) c
  · rw [min_ix] at h2
    exact badV (vk_2 (by rw [h1, h2]; rfl) h3) (by omega) (by simp [xsB]) c
  · rw [min_ix] at h2
    exact badV (vk_1 (by rw [h1, h2]; rfl)) (by omega) (by simp [xsB]) c
  · exact badV (vk_1 (by rw [h1]; rfl)) (by omega) (by simp [xsB]) c
end HlO
