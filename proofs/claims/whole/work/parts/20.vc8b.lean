def F_X8_isBetween (J : Nat → Nat → Int64)  (V : Nat → Nat → Int32) (Qr : Option Value → (Nat → Nat → Int32) → Prop) (Qx : String → (Nat → Nat → Int32) → Prop) : Prop :=
(((V 405 2) = 0) →
  Qr (some (.int 0)) V) ∧
((¬ (V 405 2) = 0) →
  ((¬ (V 405 3) = 0) →
    Qr (some (.int 0)) V) ∧
  (((V 405 3) = 0) →
    ((60 ≤ (V 405 7)) →
      Qr (some (.int 0)) V) ∧
    ((¬ 60 ≤ (V 405 7)) →
      Qr (some (.int 1)) V)))
theorem v_X8_isBetween {J : Nat → Nat → Int64}  {V : Nat → Nat → Int32} {Qr : Option Value → (Nat → Nat → Int32) → Prop} {Qx : String → (Nat → Nat → Int32) → Prop} (H : F_X8_isBetween J  V Qr Qx) : CTc J mX8_isBetween [.ref 405] V Qr Qx := by
  refine ctc_of (M := (T0 J, V)) pX8_isBetween (fun _ _ => rfl) (Nat.le_of_ble_eq_true rfl) ?_
  unfold F_X8_isBetween at H
  show WPc J mX8_isBetween Qr Qx 0 [(0, .ref 405)] [] V 0 0
  refine s_aload_n dX8_isBetween_0 rfl ?_
  refine t_getI fl_8_166 dX8_isBetween_1 ob_405 rfl ?_
  refine s_if_eq (tgt := 27) dX8_isBetween_4 (by decide) (fun c => ?_) (fun c => ?_)
  · have H := H.1 c
    refine s_iconst (v := 0) dX8_isBetween_27 (by decide) ?_
    exact s_iret dX8_isBetween_28 (Or.inr ⟨rfl, (Or.inl rfl)⟩) ⟨rfl, H⟩
  · have H := H.2 c
    refine s_aload_n dX8_isBetween_7 rfl ?_
    refine t_getI fl_8_147 dX8_isBetween_8 ob_405 rfl ?_
    refine s_if_ne (tgt := 27) dX8_isBetween_11 (by decide) (fun c => ?_) (fun c => ?_)
    · have H := H.1 c
      refine s_iconst (v := 0) dX8_isBetween_27 (by decide) ?_
      exact s_iret dX8_isBetween_28 (Or.inr ⟨rfl, (Or.inl rfl)⟩) ⟨rfl, H⟩
    · have H := H.2 c
      refine s_aload_n dX8_isBetween_14 rfl ?_
      refine t_getI fl_8_151 dX8_isBetween_15 ob_405 rfl ?_
      refine s_bipush (v := 60) dX8_isBetween_18 (by decide) ?_
      refine s_icmp_ge (tgt := 27) dX8_isBetween_20 (by decide) (fun c => ?_) (fun c => ?_)
      · have H := H.1 c
        refine s_iconst (v := 0) dX8_isBetween_27 (by decide) ?_
        exact s_iret dX8_isBetween_28 (Or.inr ⟨rfl, (Or.inl rfl)⟩) ⟨rfl, H⟩
      · have H := H.2 c
        refine s_iconst (v := 1) dX8_isBetween_23 (by decide) ?_
        refine s_goto (tgt := 28) dX8_isBetween_24 (by decide) ?_
        exact s_iret dX8_isBetween_28 (Or.inr ⟨rfl, (Or.inr rfl)⟩) ⟨rfl, H⟩

def F_X8_adds (J : Nat → Nat → Int64) (p1 : Int32) (p2 : Int32) (p3 : Int32) (p4 : Int32) (V : Nat → Nat → Int32) (Qr : Option Value → (Nat → Nat → Int32) → Prop) (Qx : String → (Nat → Nat → Int32) → Prop) : Prop :=
vp_in (V 405 7) 60 ∧
vp_in ((up2 V 408 (V 405 7).toNatClampNeg p1) 405 7) 60 ∧
vp_in ((up2 (up2 V 408 (V 405 7).toNatClampNeg p1) 409 ((up2 V 408 (V 405 7).toNatClampNeg p1) 405 7).toNatClampNeg p2) 405 7) 60 ∧
vp_in ((up2 (up2 (up2 V 408 (V 405 7).toNatClampNeg p1) 409 ((up2 V 408 (V 405 7).toNatClampNeg p1) 405 7).toNatClampNeg p2) 410 ((up2 (up2 V 408 (V 405 7).toNatClampNeg p1) 409 ((up2 V 408 (V 405 7).toNatClampNeg p1) 405 7).toNatClampNeg p2) 405 7).toNatClampNeg p3) 405 7) 60 ∧
vp_in ((up2 (up2 (up2 (up2 V 408 (V 405 7).toNatClampNeg p1) 409 ((up2 V 408 (V 405 7).toNatClampNeg p1) 405 7).toNatClampNeg p2) 410 ((up2 (up2 V 408 (V 405 7).toNatClampNeg p1) 409 ((up2 V 408 (V 405 7).toNatClampNeg p1) 405 7).toNatClampNeg p2) 405 7).toNatClampNeg p3) 411 ((up2 (up2 (up2 V 408 (V 405 7).toNatClampNeg p1) 409 ((up2 V 408 (V 405 7).toNatClampNeg p1) 405 7).toNatClampNeg p2) 410 ((up2 (up2 V 408 (V 405 7).toNatClampNeg p1) 409 ((up2 V 408 (V 405 7).toNatClampNeg p1) 405 7).toNatClampNeg p2) 405 7).toNatClampNeg p3) 405 7).toNatClampNeg p4) 405 7) 60 ∧
Qr (some (.int (((up2 (up2 (up2 (up2 (up2 (up2 V 408 (V 405 7).toNatClampNeg p1) 409 ((up2 V 408 (V 405 7).toNatClampNeg p1) 405 7).toNatClampNeg p2) 410 ((up2 (up2 V 408 (V 405 7).toNatClampNeg p1) 409 ((up2 V 408 (V 405 7).toNatClampNeg p1) 405 7).toNatClampNeg p2) 405 7).toNatClampNeg p3) 411 ((up2 (up2 (up2 V 408 (V 405 7).toNatClampNeg p1) 409 ((up2 V 408 (V 405 7).toNatClampNeg p1) 405 7).toNatClampNeg p2) 410 ((up2 (up2 V 408 (V 405 7).toNatClampNeg p1) 409 ((up2 V 408 (V 405 7).toNatClampNeg p1) 405 7).toNatClampNeg p2) 405 7).toNatClampNeg p3) 405 7).toNatClampNeg p4) 412 ((up2 (up2 (up2 (up2 V 408 (V 405 7).toNatClampNeg p1) 409 ((up2 V 408 (V 405 7).toNatClampNeg p1) 405 7).toNatClampNeg p2) 410 ((up2 (up2 V 408 (V 405 7).toNatClampNeg p1) 409 ((up2 V 408 (V 405 7).toNatClampNeg p1) 405 7).toNatClampNeg p2) 405 7).toNatClampNeg p3) 411 ((up2 (up2 (up2 V 408 (V 405 7).toNatClampNeg p1) 409 ((up2 V 408 (V 405 7).toNatClampNeg p1) 405 7).toNatClampNeg p2) 410 ((up2 (up2 V 408 (V 405 7).toNatClampNeg p1) 409 ((up2 V 408 (V 405 7).toNatClampNeg p1) 405 7).toNatClampNeg p2) 405 7).toNatClampNeg p3) 405 7).toNatClampNeg p4) 405 7).toNatClampNeg 0) 405 7 (((up2 (up2 (up2 (up2 (up2 V 408 (V 405 7).toNatClampNeg p1) 409 ((up2 V 408 (V 405 7).toNatClampNeg p1) 405 7).toNatClampNeg p2) 410 ((up2 (up2 V 408 (V 405 7).toNatClampNeg p1) 409 ((up2 V 408 (V 405 7).toNatClampNeg p1) 405 7).toNatClampNeg p2) 405 7).toNatClampNeg p3) 411 ((up2 (up2 (up2 V 408 (V 405 7).toNatClampNeg p1) 409 ((up2 V 408 (V 405 7).toNatClampNeg p1) 405 7).toNatClampNeg p2) 410 ((up2 (up2 V 408 (V 405 7).toNatClampNeg p1) 409 ((up2 V 408 (V 405 7).toNatClampNeg p1) 405 7).toNatClampNeg p2) 405 7).toNatClampNeg p3) 405 7).toNatClampNeg p4) 412 ((up2 (up2 (up2 (up2 V 408 (V 405 7).toNatClampNeg p1) 409 ((up2 V 408 (V 405 7).toNatClampNeg p1) 405 7).toNatClampNeg p2) 410 ((up2 (up2 V 408 (V 405 7).toNatClampNeg p1) 409 ((up2 V 408 (V 405 7).toNatClampNeg p1) 405 7).toNatClampNeg p2) 405 7).toNatClampNeg p3) 411 ((up2 (up2 (up2 V 408 (V 405 7).toNatClampNeg p1) 409 ((up2 V 408 (V 405 7).toNatClampNeg p1) 405 7).toNatClampNeg p2) 410 ((up2 (up2 V 408 (V 405 7).toNatClampNeg p1) 409 ((up2 V 408 (V 405 7).toNatClampNeg p1) 405 7).toNatClampNeg p2) 405 7).toNatClampNeg p3) 405 7).toNatClampNeg p4) 405 7).toNatClampNeg 0) 405 7) + 1)) 405 7) - 1))) (up2 (up2 (up2 (up2 (up2 (up2 V 408 (V 405 7).toNatClampNeg p1) 409 ((up2 V 408 (V 405 7).toNatClampNeg p1) 405 7).toNatClampNeg p2) 410 ((up2 (up2 V 408 (V 405 7).toNatClampNeg p1) 409 ((up2 V 408 (V 405 7).toNatClampNeg p1) 405 7).toNatClampNeg p2) 405 7).toNatClampNeg p3) 411 ((up2 (up2 (up2 V 408 (V 405 7).toNatClampNeg p1) 409 ((up2 V 408 (V 405 7).toNatClampNeg p1) 405 7).toNatClampNeg p2) 410 ((up2 (up2 V 408 (V 405 7).toNatClampNeg p1) 409 ((up2 V 408 (V 405 7).toNatClampNeg p1) 405 7).toNatClampNeg p2) 405 7).toNatClampNeg p3) 405 7).toNatClampNeg p4) 412 ((up2 (up2 (up2 (up2 V 408 (V 405 7).toNatClampNeg p1) 409 ((up2 V 408 (V 405 7).toNatClampNeg p1) 405 7).toNatClampNeg p2) 410 ((up2 (up2 V 408 (V 405 7).toNatClampNeg p1) 409 ((up2 V 408 (V 405 7).toNatClampNeg p1) 405 7).toNatClampNeg p2) 405 7).toNatClampNeg p3) 411 ((up2 (up2 (up2 V 408 (V 405 7).toNatClampNeg p1) 409 ((up2 V 408 (V 405 7).toNatClampNeg p1) 405 7).toNatClampNeg p2) 410 ((up2 (up2 V 408 (V 405 7).toNatClampNeg p1) 409 ((up2 V 408 (V 405 7).toNatClampNeg p1) 405 7).toNatClampNeg p2) 405 7).toNatClampNeg p3) 405 7).toNatClampNeg p4) 405 7).toNatClampNeg 0) 405 7 (((up2 (up2 (up2 (up2 (up2 V 408 (V 405 7).toNatClampNeg p1) 409 ((up2 V 408 (V 405 7).toNatClampNeg p1) 405 7).toNatClampNeg p2) 410 ((up2 (up2 V 408 (V 405 7).toNatClampNeg p1) 409 ((up2 V 408 (V 405 7).toNatClampNeg p1) 405 7).toNatClampNeg p2) 405 7).toNatClampNeg p3) 411 ((up2 (up2 (up2 V 408 (V 405 7).toNatClampNeg p1) 409 ((up2 V 408 (V 405 7).toNatClampNeg p1) 405 7).toNatClampNeg p2) 410 ((up2 (up2 V 408 (V 405 7).toNatClampNeg p1) 409 ((up2 V 408 (V 405 7).toNatClampNeg p1) 405 7).toNatClampNeg p2) 405 7).toNatClampNeg p3) 405 7).toNatClampNeg p4) 412 ((up2 (up2 (up2 (up2 V 408 (V 405 7).toNatClampNeg p1) 409 ((up2 V 408 (V 405 7).toNatClampNeg p1) 405 7).toNatClampNeg p2) 410 ((up2 (up2 V 408 (V 405 7).toNatClampNeg p1) 409 ((up2 V 408 (V 405 7).toNatClampNeg p1) 405 7).toNatClampNeg p2) 405 7).toNatClampNeg p3) 411 ((up2 (up2 (up2 V 408 (V 405 7).toNatClampNeg p1) 409 ((up2 V 408 (V 405 7).toNatClampNeg p1) 405 7).toNatClampNeg p2) 410 ((up2 (up2 V 408 (V 405 7).toNatClampNeg p1) 409 ((up2 V 408 (V 405 7).toNatClampNeg p1) 405 7).toNatClampNeg p2) 405 7).toNatClampNeg p3) 405 7).toNatClampNeg p4) 405 7).toNatClampNeg 0) 405 7) + 1))
theorem v_X8_adds {J : Nat → Nat → Int64} (p1 : Int32) (p2 : Int32) (p3 : Int32) (p4 : Int32) {V : Nat → Nat → Int32} {Qr : Option Value → (Nat → Nat → Int32) → Prop} {Qx : String → (Nat → Nat → Int32) → Prop} (H : F_X8_adds J p1 p2 p3 p4 V Qr Qx) : CTc J mX8_adds [.ref 405, .int p1, .int p2, .int p3, .int p4] V Qr Qx := by
  refine ctc_of (M := (T0 J, V)) pX8_adds (fun _ _ => rfl) (Nat.le_of_ble_eq_true rfl) ?_
  unfold F_X8_adds at H
  show WPc J mX8_adds Qr Qx 0 [(0, .ref 405), (1, .int p1), (2, .int p2), (3, .int p3), (4, .int p4)] [] V 0 0
  refine s_aload_n dX8_adds_0 rfl ?_
  refine t_getR (r := 408) fl_8_17 dX8_adds_1 ob_405 rfl rfl ?_
  refine s_aload_n dX8_adds_4 rfl ?_
  refine t_getI fl_8_151 dX8_adds_5 ob_405 rfl ?_
  refine s_iload_n dX8_adds_8 rfl ?_
  refine t_iast dX8_adds_9 ap_408 H.1 ?_
  have H := H.2
  refine s_aload_n dX8_adds_10 rfl ?_
  refine t_getR (r := 409) fl_8_20 dX8_adds_11 ob_405 rfl rfl ?_
  refine s_aload_n dX8_adds_14 rfl ?_
  refine t_getI fl_8_151 dX8_adds_15 ob_405 rfl ?_
  refine s_iload_n dX8_adds_18 rfl ?_
  refine t_iast dX8_adds_19 ap_409 H.1 ?_
  have H := H.2
  refine s_aload_n dX8_adds_20 rfl ?_
  refine t_getR (r := 410) fl_8_23 dX8_adds_21 ob_405 rfl rfl ?_
  refine s_aload_n dX8_adds_24 rfl ?_
  refine t_getI fl_8_151 dX8_adds_25 ob_405 rfl ?_
  refine s_iload_n dX8_adds_28 rfl ?_
  refine t_iast dX8_adds_29 ap_410 H.1 ?_
  have H := H.2
  refine s_aload_n dX8_adds_30 rfl ?_
  refine t_getR (r := 411) fl_8_26 dX8_adds_31 ob_405 rfl rfl ?_
  refine s_aload_n dX8_adds_34 rfl ?_
  refine t_getI fl_8_151 dX8_adds_35 ob_405 rfl ?_
  refine s_iload dX8_adds_38 rfl ?_
  refine t_iast dX8_adds_40 ap_411 H.1 ?_
  have H := H.2
  refine s_aload_n dX8_adds_41 rfl ?_
  refine t_getR (r := 412) fl_8_29 dX8_adds_42 ob_405 rfl rfl ?_
  refine s_aload_n dX8_adds_45 rfl ?_
  refine t_getI fl_8_151 dX8_adds_46 ob_405 rfl ?_
  refine s_iconst (v := 0) dX8_adds_49 (by decide) ?_
  refine t_iast dX8_adds_50 ap_412 H.1 ?_
  have H := H.2
  refine s_aload_n dX8_adds_51 rfl ?_
  refine s_dup dX8_adds_52 rfl ?_
  refine t_getI fl_8_151 dX8_adds_53 ob_405 rfl ?_
  refine s_iconst (v := 1) dX8_adds_56 (by decide) ?_
  refine s_iadd dX8_adds_57 ?_
  refine t_putI fl_8_151 dX8_adds_58 ob_405 (Or.inl rfl) ?_
  refine s_aload_n dX8_adds_61 rfl ?_
  refine t_getI fl_8_151 dX8_adds_62 ob_405 rfl ?_
  refine s_iconst (v := 1) dX8_adds_65 (by decide) ?_
  refine s_isub dX8_adds_66 ?_
  exact s_iret dX8_adds_67 (Or.inl rfl) ⟨rfl, H⟩

def F_X8_raid_34 (J : Nat → Nat → Int64) (p1 : Int32) (s0 : Int32) (V : Nat → Nat → Int32) (Qr : Option Value → (Nat → Nat → Int32) → Prop) (Qx : String → (Nat → Nat → Int32) → Prop) : Prop :=
CTc J mX8_holds [.ref 405, .int s0] V (fun r V1 =>
  ∃ b1 : Bool, r = some (.int (bI b1)) ∧
  ((b1 = true) →
    CTc J mX8_adds [.ref 405, .int 0, .int p1, .int 0, .int 0] (up2 V1 405 3 1) (fun r V2 =>
      ∃ r2 : Int32, r = some (.int r2) ∧
      Qr (some (.int r2)) V2) Qx) ∧
  ((b1 = false) →
    Qr (some (.int 0)) V1)) Qx
theorem v_X8_raid_34 {J : Nat → Nat → Int64} (p1 : Int32) {Qr : Option Value → (Nat → Nat → Int32) → Prop} {Qx : String → (Nat → Nat → Int32) → Prop} (s0 : Int32)  {V : Nat → Nat → Int32} (H : F_X8_raid_34 J p1  s0 V Qr Qx) : WPc J mX8_raid Qr Qx 34 [(0, .ref 405), (1, .int p1)] [.int s0, .ref 405] V 0 0 := by
  unfold F_X8_raid_34 at H
  refine t_cV (h := 405) (As := [.int s0]) (st := []) iv_8_169 dX8_raid_34 ⟨by decide, by decide⟩ rfl (Nat.le_of_ble_eq_true rfl) (by decide) (by decide) rfl ob_405 H (fun r V1 H => ?_)
  obtain ⟨b1, rfl, H⟩ := H
  refine s_if_ne (tgt := 42) dX8_raid_37 (by decide) (fun c => ?_) (fun c => ?_)
  · have H := H.1 (bI_t c)
    refine s_aload_n dX8_raid_42 rfl ?_
    refine s_iconst (v := 1) dX8_raid_43 (by decide) ?_
    refine t_putI fl_8_147 dX8_raid_44 ob_405 (Or.inr ⟨rfl, (Or.inr rfl)⟩) ?_
    refine s_aload_n dX8_raid_47 rfl ?_
    refine s_iconst (v := 0) dX8_raid_48 (by decide) ?_
    refine s_iload_n dX8_raid_49 rfl ?_
    refine s_iconst (v := 0) dX8_raid_50 (by decide) ?_
    refine s_iconst (v := 0) dX8_raid_51 (by decide) ?_
    refine t_cV (h := 405) (As := [.int 0, .int p1, .int 0, .int 0]) (st := []) iv_8_182 dX8_raid_52 ⟨by decide, by decide⟩ rfl (Nat.le_of_ble_eq_true rfl) (by decide) (by decide) rfl ob_405 H (fun r V2 H => ?_)
    obtain ⟨r2, rfl, H⟩ := H
    exact s_iret dX8_raid_55 (Or.inl rfl) ⟨rfl, H⟩
  · have H := H.2 (bI_f c)
    refine s_iconst (v := 0) dX8_raid_40 (by decide) ?_
    exact s_iret dX8_raid_41 (Or.inl rfl) ⟨rfl, H⟩
def F_X8_raid_29 (J : Nat → Nat → Int64) (p1 : Int32)  (V : Nat → Nat → Int32) (Qr : Option Value → (Nat → Nat → Int32) → Prop) (Qx : String → (Nat → Nat → Int32) → Prop) : Prop :=
F_X8_raid_34 J p1  2 V Qr Qx
theorem v_X8_raid_29 {J : Nat → Nat → Int64} (p1 : Int32) {Qr : Option Value → (Nat → Nat → Int32) → Prop} {Qx : String → (Nat → Nat → Int32) → Prop}   {V : Nat → Nat → Int32} (H : F_X8_raid_29 J p1   V Qr Qx) : WPc J mX8_raid Qr Qx 29 [(0, .ref 405), (1, .int p1)] [.ref 405] V 0 0 := by
  unfold F_X8_raid_29 at H
  refine s_iconst (v := 2) dX8_raid_29 (by decide) ?_
  refine s_goto (tgt := 34) dX8_raid_30 (by decide) ?_
  exact t_loc [0, 1] rfl (v_X8_raid_34 p1    2  H)
def F_X8_raid (J : Nat → Nat → Int64) (p1 : Int32) (V : Nat → Nat → Int32) (Qr : Option Value → (Nat → Nat → Int32) → Prop) (Qx : String → (Nat → Nat → Int32) → Prop) : Prop :=
CTc J mX8_isPlayer [.int p1] V (fun r V1 =>
  ∃ b1 : Bool, r = some (.int (bI b1)) ∧
  ((b1 = true) →
    CTc J mX8_isBetween [.ref 405] V1 (fun r V2 =>
      ∃ b2 : Bool, r = some (.int (bI b2)) ∧
      ((b2 = false) →
        F_X8_raid_29 J p1   V2 Qr Qx) ∧
      ((b2 = true) →
        CTc J mX8_canRaid [.ref 405, .int p1] V2 (fun r V3 =>
          ∃ b3 : Bool, r = some (.int (bI b3)) ∧
          ((b3 = true) →
            F_X8_raid_34 J p1  0 V3 Qr Qx) ∧
          ((b3 = false) →
            F_X8_raid_29 J p1   V3 Qr Qx)) Qx)) Qx) ∧
  ((b1 = false) →
    F_X8_raid_34 J p1  1 V1 Qr Qx)) Qx
theorem v_X8_raid {J : Nat → Nat → Int64} (p1 : Int32) {V : Nat → Nat → Int32} {Qr : Option Value → (Nat → Nat → Int32) → Prop} {Qx : String → (Nat → Nat → Int32) → Prop} (H : F_X8_raid J p1 V Qr Qx) : CTc J mX8_raid [.ref 405, .int p1] V Qr Qx := by
  refine ctc_of (M := (T0 J, V)) pX8_raid (fun _ _ => rfl) (Nat.le_of_ble_eq_true rfl) ?_
  unfold F_X8_raid at H
  show WPc J mX8_raid Qr Qx 0 [(0, .ref 405), (1, .int p1)] [] V 0 0
  refine s_iload_n dX8_raid_0 rfl ?_
  refine t_cS (As := [.int p1]) (st := []) iv_8_175 dX8_raid_1 ⟨by decide, by decide⟩ rfl (Nat.le_of_ble_eq_true rfl) (by decide) (by decide) rfl H (fun r V1 H => ?_)
  obtain ⟨b1, rfl, H⟩ := H
  refine t_istore_n (L' := [(2, .int (bI b1)), (0, .ref 405), (1, .int p1)]) dX8_raid_4 (by decide) rfl ?_
  refine s_aload_n dX8_raid_5 rfl ?_
  refine s_iload_n dX8_raid_6 rfl ?_
  refine s_if_ne (tgt := 14) dX8_raid_7 (by decide) (fun c => ?_) (fun c => ?_)
  · have H := H.1 (bI_t c)
    refine s_aload_n dX8_raid_14 rfl ?_
    refine t_cV (h := 405) (As := []) (st := [.ref 405]) iv_8_178 dX8_raid_15 ⟨by decide, by decide⟩ rfl (Nat.le_of_ble_eq_true rfl) (by decide) (by decide) rfl ob_405 H (fun r V2 H => ?_)
    obtain ⟨b2, rfl, H⟩ := H
    refine s_if_eq (tgt := 29) dX8_raid_18 (by decide) (fun c => ?_) (fun c => ?_)
    · have H := H.1 (bI_f c)
      exact t_loc [1, 2] rfl (v_X8_raid_29 p1      H)
    · have H := H.2 (bI_t c)
      refine s_aload_n dX8_raid_21 rfl ?_
      refine s_iload_n dX8_raid_22 rfl ?_
      refine t_cV (h := 405) (As := [.int p1]) (st := [.ref 405]) iv_8_124 dX8_raid_23 ⟨by decide, by decide⟩ rfl (Nat.le_of_ble_eq_true rfl) (by decide) (by decide) rfl ob_405 H (fun r V3 H => ?_)
      obtain ⟨b3, rfl, H⟩ := H
      refine s_if_ne (tgt := 33) dX8_raid_26 (by decide) (fun c => ?_) (fun c => ?_)
      · have H := H.1 (bI_t c)
        refine s_iconst (v := 0) dX8_raid_33 (by decide) ?_
        exact t_loc [1, 2] rfl (v_X8_raid_34 p1    0  H)
      · have H := H.2 (bI_f c)
        exact t_loc [1, 2] rfl (v_X8_raid_29 p1      H)
  · have H := H.2 (bI_f c)
    refine s_iconst (v := 1) dX8_raid_10 (by decide) ?_
    refine s_goto (tgt := 34) dX8_raid_11 (by decide) ?_
    exact t_loc [1, 2] rfl (v_X8_raid_34 p1    1  H)

def F_X8_isWho (J : Nat → Nat → Int64) (p1 : Int32) (p2 : Int32) (V : Nat → Nat → Int32) (Qr : Option Value → (Nat → Nat → Int32) → Prop) (Qx : String → (Nat → Nat → Int32) → Prop) : Prop :=
((¬ p1 = 0) →
  ((¬ p2 = (-1)) →
    Qr (some (.int 0)) V) ∧
  ((p2 = (-1)) →
    Qr (some (.int 1)) V)) ∧
((p1 = 0) →
  CTc J mX8_isPlayer [.int p2] V (fun r V1 =>
    ∃ b1 : Bool, r = some (.int (bI b1)) ∧
    Qr (some (.int (bI b1))) V1) Qx)
theorem v_X8_isWho {J : Nat → Nat → Int64} (p1 : Int32) (p2 : Int32) {V : Nat → Nat → Int32} {Qr : Option Value → (Nat → Nat → Int32) → Prop} {Qx : String → (Nat → Nat → Int32) → Prop} (H : F_X8_isWho J p1 p2 V Qr Qx) : CTc J mX8_isWho [.int p1, .int p2] V Qr Qx := by
  refine ctc_of (M := (T0 J, V)) pX8_isWho (fun _ _ => rfl) (Nat.le_of_ble_eq_true rfl) ?_
  unfold F_X8_isWho at H
  show WPc J mX8_isWho Qr Qx 0 [(0, .int p1), (1, .int p2)] [] V 0 0
  refine s_iload_n dX8_isWho_0 rfl ?_
  refine s_if_ne (tgt := 11) dX8_isWho_1 (by decide) (fun c => ?_) (fun c => ?_)
  · have H := H.1 c
    refine s_iload_n dX8_isWho_11 rfl ?_
    refine s_iconst (v := (-1)) dX8_isWho_12 (by decide) ?_
    refine s_icmp_ne (tgt := 20) dX8_isWho_13 (by decide) (fun c => ?_) (fun c => ?_)
    · have H := H.1 c
      refine s_iconst (v := 0) dX8_isWho_20 (by decide) ?_
      exact s_iret dX8_isWho_21 (Or.inr ⟨rfl, (Or.inl rfl)⟩) ⟨rfl, H⟩
    · have H := H.2 c
      refine s_iconst (v := 1) dX8_isWho_16 (by decide) ?_
      refine s_goto (tgt := 21) dX8_isWho_17 (by decide) ?_
      exact s_iret dX8_isWho_21 (Or.inr ⟨rfl, (Or.inr rfl)⟩) ⟨rfl, H⟩
  · have H := H.2 c
    refine s_iload_n dX8_isWho_4 rfl ?_
    refine t_cS (As := [.int p2]) (st := []) iv_8_175 dX8_isWho_5 ⟨by decide, by decide⟩ rfl (Nat.le_of_ble_eq_true rfl) (by decide) (by decide) rfl H (fun r V1 H => ?_)
    obtain ⟨b1, rfl, H⟩ := H
    refine s_goto (tgt := 21) dX8_isWho_8 (by decide) ?_
    exact s_iret dX8_isWho_21 (Or.inr ⟨rfl, (bI_01 b1)⟩) ⟨rfl, H⟩

def F_X8_canTell_86 (J : Nat → Nat → Int64) (p1 : Int32) (p2 : Int32) (p3 : Int32) (x4 : Int32) (V : Nat → Nat → Int32) (Qr : Option Value → (Nat → Nat → Int32) → Prop) (Qx : String → (Nat → Nat → Int32) → Prop) : Prop :=
vp_in x4 60 ∧
CTc J mX8_canStep [.ref 405, .int x4, .int (V 412 x4.toNatClampNeg)] V (fun r V1 =>
  ∃ b1 : Bool, r = some (.int (bI b1)) ∧
  ((b1 = false) →
    Qr (some (.int 0)) V1) ∧
  ((b1 = true) →
    Qr (some (.int 1)) V1)) Qx
theorem v_X8_canTell_86 {J : Nat → Nat → Int64} (p1 : Int32) (p2 : Int32) (p3 : Int32) {Qr : Option Value → (Nat → Nat → Int32) → Prop} {Qx : String → (Nat → Nat → Int32) → Prop} (x4 : Int32)  {V : Nat → Nat → Int32} (H : F_X8_canTell_86 J p1 p2 p3  x4 V Qr Qx) : WPc J mX8_canTell Qr Qx 86 [(0, .ref 405), (4, .int x4)] [] V 0 0 := by
  unfold F_X8_canTell_86 at H
  refine s_aload_n dX8_canTell_86 rfl ?_
  refine s_iload dX8_canTell_87 rfl ?_
  refine s_aload_n dX8_canTell_89 rfl ?_
  refine t_getR (r := 412) fl_8_29 dX8_canTell_90 ob_405 rfl rfl ?_
  refine s_iload dX8_canTell_93 rfl ?_
  refine t_iald dX8_canTell_95 ap_412 H.1 ?_
  have H := H.2
  refine t_cV (h := 405) (As := [.int x4, .int (V 412 x4.toNatClampNeg)]) (st := []) iv_8_128 dX8_canTell_96 ⟨by decide, by decide⟩ rfl (Nat.le_of_ble_eq_true rfl) (by decide) (by decide) rfl ob_405 H (fun r V1 H => ?_)
  obtain ⟨b1, rfl, H⟩ := H
  refine s_if_eq (tgt := 106) dX8_canTell_99 (by decide) (fun c => ?_) (fun c => ?_)
  · have H := H.1 (bI_f c)
    refine s_iconst (v := 0) dX8_canTell_106 (by decide) ?_
    exact s_iret dX8_canTell_107 (Or.inr ⟨rfl, (Or.inl rfl)⟩) ⟨rfl, H⟩
  · have H := H.2 (bI_t c)
    refine s_iconst (v := 1) dX8_canTell_102 (by decide) ?_
    refine s_goto (tgt := 107) dX8_canTell_103 (by decide) ?_
    exact s_iret dX8_canTell_107 (Or.inr ⟨rfl, (Or.inr rfl)⟩) ⟨rfl, H⟩
def F_X8_canTell (J : Nat → Nat → Int64) (p1 : Int32) (p2 : Int32) (p3 : Int32) (V : Nat → Nat → Int32) (Qr : Option Value → (Nat → Nat → Int32) → Prop) (Qx : String → (Nat → Nat → Int32) → Prop) : Prop :=
(((V 405 2) = 0) →
  Qr (some (.int 0)) V) ∧
((¬ (V 405 2) = 0) →
  ((¬ (V 405 3) = 0) →
    vp_in ((V 405 7) - 1) 60 ∧
    vp_in ((14 * ((V 405 7) - 1)) + (V 412 ((V 405 7) - 1).toNatClampNeg)) 840 ∧
    vp_in ((14 * ((V 405 7) - 1)) + (V 412 ((V 405 7) - 1).toNatClampNeg)) 840 ∧
    vp_in ((14 * ((V 405 7) - 1)) + (V 412 ((V 405 7) - 1).toNatClampNeg)) 840 ∧
    vp_in ((V 405 7) - 1) 60 ∧
    ((((up2 (up2 (up2 V 413 ((14 * ((V 405 7) - 1)) + (V 412 ((V 405 7) - 1).toNatClampNeg)).toNatClampNeg p1) 414 ((14 * ((V 405 7) - 1)) + (V 412 ((V 405 7) - 1).toNatClampNeg)).toNatClampNeg p2) 415 ((14 * ((V 405 7) - 1)) + (V 412 ((V 405 7) - 1).toNatClampNeg)).toNatClampNeg p3) 412 ((V 405 7) - 1).toNatClampNeg) = 0) →
      F_X8_canTell_86 J p1 p2 p3  ((V 405 7) - 1) (up2 (up2 (up2 V 413 ((14 * ((V 405 7) - 1)) + (V 412 ((V 405 7) - 1).toNatClampNeg)).toNatClampNeg p1) 414 ((14 * ((V 405 7) - 1)) + (V 412 ((V 405 7) - 1).toNatClampNeg)).toNatClampNeg p2) 415 ((14 * ((V 405 7) - 1)) + (V 412 ((V 405 7) - 1).toNatClampNeg)).toNatClampNeg p3) Qr Qx) ∧
    ((¬ ((up2 (up2 (up2 V 413 ((14 * ((V 405 7) - 1)) + (V 412 ((V 405 7) - 1).toNatClampNeg)).toNatClampNeg p1) 414 ((14 * ((V 405 7) - 1)) + (V 412 ((V 405 7) - 1).toNatClampNeg)).toNatClampNeg p2) 415 ((14 * ((V 405 7) - 1)) + (V 412 ((V 405 7) - 1).toNatClampNeg)).toNatClampNeg p3) 412 ((V 405 7) - 1).toNatClampNeg) = 0) →
      vp_in (((14 * ((V 405 7) - 1)) + (V 412 ((V 405 7) - 1).toNatClampNeg)) - 1) 840 ∧
      ((p3 ≤ ((up2 (up2 (up2 V 413 ((14 * ((V 405 7) - 1)) + (V 412 ((V 405 7) - 1).toNatClampNeg)).toNatClampNeg p1) 414 ((14 * ((V 405 7) - 1)) + (V 412 ((V 405 7) - 1).toNatClampNeg)).toNatClampNeg p2) 415 ((14 * ((V 405 7) - 1)) + (V 412 ((V 405 7) - 1).toNatClampNeg)).toNatClampNeg p3) 415 (((14 * ((V 405 7) - 1)) + (V 412 ((V 405 7) - 1).toNatClampNeg)) - 1).toNatClampNeg)) →
        Qr (some (.int 0)) (up2 (up2 (up2 V 413 ((14 * ((V 405 7) - 1)) + (V 412 ((V 405 7) - 1).toNatClampNeg)).toNatClampNeg p1) 414 ((14 * ((V 405 7) - 1)) + (V 412 ((V 405 7) - 1).toNatClampNeg)).toNatClampNeg p2) 415 ((14 * ((V 405 7) - 1)) + (V 412 ((V 405 7) - 1).toNatClampNeg)).toNatClampNeg p3)) ∧
      ((¬ p3 ≤ ((up2 (up2 (up2 V 413 ((14 * ((V 405 7) - 1)) + (V 412 ((V 405 7) - 1).toNatClampNeg)).toNatClampNeg p1) 414 ((14 * ((V 405 7) - 1)) + (V 412 ((V 405 7) - 1).toNatClampNeg)).toNatClampNeg p2) 415 ((14 * ((V 405 7) - 1)) + (V 412 ((V 405 7) - 1).toNatClampNeg)).toNatClampNeg p3) 415 (((14 * ((V 405 7) - 1)) + (V 412 ((V 405 7) - 1).toNatClampNeg)) - 1).toNatClampNeg)) →
        F_X8_canTell_86 J p1 p2 p3  ((V 405 7) - 1) (up2 (up2 (up2 V 413 ((14 * ((V 405 7) - 1)) + (V 412 ((V 405 7) - 1).toNatClampNeg)).toNatClampNeg p1) 414 ((14 * ((V 405 7) - 1)) + (V 412 ((V 405 7) - 1).toNatClampNeg)).toNatClampNeg p2) 415 ((14 * ((V 405 7) - 1)) + (V 412 ((V 405 7) - 1).toNatClampNeg)).toNatClampNeg p3) Qr Qx))) ∧
  (((V 405 3) = 0) →
    Qr (some (.int 0)) V))
theorem v_X8_canTell {J : Nat → Nat → Int64} (p1 : Int32) (p2 : Int32) (p3 : Int32) {V : Nat → Nat → Int32} {Qr : Option Value → (Nat → Nat → Int32) → Prop} {Qx : String → (Nat → Nat → Int32) → Prop} (H : F_X8_canTell J p1 p2 p3 V Qr Qx) : CTc J mX8_canTell [.ref 405, .int p1, .int p2, .int p3] V Qr Qx := by
  refine ctc_of (M := (T0 J, V)) pX8_canTell (fun _ _ => rfl) (Nat.le_of_ble_eq_true rfl) ?_
  unfold F_X8_canTell at H
  show WPc J mX8_canTell Qr Qx 0 [(0, .ref 405), (1, .int p1), (2, .int p2), (3, .int p3)] [] V 0 0
  refine s_aload_n dX8_canTell_0 rfl ?_
  refine t_getI fl_8_166 dX8_canTell_1 ob_405 rfl ?_
  refine s_if_eq (tgt := 14) dX8_canTell_4 (by decide) (fun c => ?_) (fun c => ?_)
  · have H := H.1 c
    refine s_iconst (v := 0) dX8_canTell_14 (by decide) ?_
    exact s_iret dX8_canTell_15 (Or.inr ⟨rfl, (Or.inl rfl)⟩) ⟨rfl, H⟩
  · have H := H.2 c
    refine s_aload_n dX8_canTell_7 rfl ?_
    refine t_getI fl_8_147 dX8_canTell_8 ob_405 rfl ?_
    refine s_if_ne (tgt := 16) dX8_canTell_11 (by decide) (fun c => ?_) (fun c => ?_)
    · have H := H.1 c
      refine s_aload_n dX8_canTell_16 rfl ?_
      refine t_getI fl_8_151 dX8_canTell_17 ob_405 rfl ?_
      refine s_iconst (v := 1) dX8_canTell_20 (by decide) ?_
      refine s_isub dX8_canTell_21 ?_
      refine t_istore (L' := [(4, .int ((V 405 7) - 1)), (0, .ref 405), (1, .int p1), (2, .int p2), (3, .int p3)]) dX8_canTell_22 (by decide) rfl ?_
      refine s_bipush (v := 14) dX8_canTell_24 (by decide) ?_
      refine s_iload dX8_canTell_26 rfl ?_
      refine s_imul dX8_canTell_28 ?_
      refine s_aload_n dX8_canTell_29 rfl ?_
      refine t_getR (r := 412) fl_8_29 dX8_canTell_30 ob_405 rfl rfl ?_
      refine s_iload dX8_canTell_33 rfl ?_
      refine t_iald dX8_canTell_35 ap_412 H.1 ?_
      have H := H.2
      refine s_iadd dX8_canTell_36 ?_
      refine t_istore (L' := [(5, .int ((14 * ((V 405 7) - 1)) + (V 412 ((V 405 7) - 1).toNatClampNeg))), (4, .int ((V 405 7) - 1)), (0, .ref 405), (1, .int p1), (2, .int p2), (3, .int p3)]) dX8_canTell_37 (by decide) rfl ?_
      refine s_aload_n dX8_canTell_39 rfl ?_
      refine t_getR (r := 413) fl_8_32 dX8_canTell_40 ob_405 rfl rfl ?_
      refine s_iload dX8_canTell_43 rfl ?_
      refine s_iload_n dX8_canTell_45 rfl ?_
      refine t_iast dX8_canTell_46 ap_413 H.1 ?_
      have H := H.2
      refine s_aload_n dX8_canTell_47 rfl ?_
      refine t_getR (r := 414) fl_8_35 dX8_canTell_48 ob_405 rfl rfl ?_
      refine s_iload dX8_canTell_51 rfl ?_
      refine s_iload_n dX8_canTell_53 rfl ?_
      refine t_iast dX8_canTell_54 ap_414 H.1 ?_
      have H := H.2
      refine s_aload_n dX8_canTell_55 rfl ?_
      refine t_getR (r := 415) fl_8_38 dX8_canTell_56 ob_405 rfl rfl ?_
      refine s_iload dX8_canTell_59 rfl ?_
      refine s_iload_n dX8_canTell_61 rfl ?_
      refine t_iast dX8_canTell_62 ap_415 H.1 ?_
      have H := H.2
      refine s_aload_n dX8_canTell_63 rfl ?_
      refine t_getR (r := 412) fl_8_29 dX8_canTell_64 ob_405 rfl rfl ?_
      refine s_iload dX8_canTell_67 rfl ?_
      refine t_iald dX8_canTell_69 ap_412 H.1 ?_
      have H := H.2
      refine s_if_eq (tgt := 86) dX8_canTell_70 (by decide) (fun c => ?_) (fun c => ?_)
      · have H := H.1 c
        exact t_loc [2, 1] rfl (v_X8_canTell_86 p1 p2 p3    ((V 405 7) - 1)  H)
      · have H := H.2 c
        refine s_aload_n dX8_canTell_73 rfl ?_
        refine t_getR (r := 415) fl_8_38 dX8_canTell_74 ob_405 rfl rfl ?_
        refine s_iload dX8_canTell_77 rfl ?_
        refine s_iconst (v := 1) dX8_canTell_79 (by decide) ?_
        refine s_isub dX8_canTell_80 ?_
        refine t_iald dX8_canTell_81 ap_415 H.1 ?_
        have H := H.2
        refine s_iload_n dX8_canTell_82 rfl ?_
        refine s_icmp_ge (tgt := 106) dX8_canTell_83 (by decide) (fun c => ?_) (fun c => ?_)
        · have H := H.1 c
          refine s_iconst (v := 0) dX8_canTell_106 (by decide) ?_
          exact s_iret dX8_canTell_107 (Or.inr ⟨rfl, (Or.inl rfl)⟩) ⟨rfl, H⟩
        · have H := H.2 c
          exact t_loc [2, 1] rfl (v_X8_canTell_86 p1 p2 p3    ((V 405 7) - 1)  H)
    · have H := H.2 c
      refine s_iconst (v := 0) dX8_canTell_14 (by decide) ?_
      exact s_iret dX8_canTell_15 (Or.inr ⟨rfl, (Or.inl rfl)⟩) ⟨rfl, H⟩

def F_X8_step_61 (J : Nat → Nat → Int64) (p1 : Int32) (p2 : Int32) (p3 : Int32) (s0 : Int32) (V : Nat → Nat → Int32) (Qr : Option Value → (Nat → Nat → Int32) → Prop) (Qx : String → (Nat → Nat → Int32) → Prop) : Prop :=
CTc J mX8_holds [.ref 405, .int s0] V (fun r V1 =>
  ∃ b1 : Bool, r = some (.int (bI b1)) ∧
  ((b1 = true) →
    vp_in ((V1 405 7) - 1) 60 ∧
    vp_in ((V1 405 7) - 1) 60 ∧
    ((3 ≤ p1) →
      CTc J mX8_turn [.ref 405] (up2 V1 412 ((V1 405 7) - 1).toNatClampNeg ((V1 412 ((V1 405 7) - 1).toNatClampNeg) + 1)) (fun r V2 =>
        ∃ r2 : Int32, r = some (.int r2) ∧
        vp_in (104 + r2) 110 ∧
        vp_in (105 - r2) 110 ∧
        CTc J mX8_endsRaid [.ref 405, .int ((V1 405 7) - 1)] V2 (fun r V3 =>
          r = none ∧
          CTc J mX8_notes [.ref 405, .int ((V1 405 7) - 1)] V3 (fun r V4 =>
            r = none ∧
            vp_in (104 + r2) 110 ∧
            vp_in (105 - r2) 110 ∧
            Qr (some (.int (((10 * (((up2 V4 405 3 0) 416 (104 + r2).toNatClampNeg) - (V2 416 (104 + r2).toNatClampNeg))) + ((up2 V4 405 3 0) 416 (105 - r2).toNatClampNeg)) - (V2 416 (105 - r2).toNatClampNeg)))) (up2 V4 405 3 0)) Qx) Qx) Qx) ∧
    ((¬ 3 ≤ p1) →
      Qr (some (.int (-1))) (up2 V1 412 ((V1 405 7) - 1).toNatClampNeg ((V1 412 ((V1 405 7) - 1).toNatClampNeg) + 1)))) ∧
  ((b1 = false) →
    Qr (some (.int 0)) V1)) Qx
theorem v_X8_step_61 {J : Nat → Nat → Int64} (p1 : Int32) (p2 : Int32) (p3 : Int32) {Qr : Option Value → (Nat → Nat → Int32) → Prop} {Qx : String → (Nat → Nat → Int32) → Prop} (s0 : Int32)  {V : Nat → Nat → Int32} (H : F_X8_step_61 J p1 p2 p3  s0 V Qr Qx) : WPc J mX8_step Qr Qx 61 [(0, .ref 405), (1, .int p1)] [.int s0, .ref 405] V 0 0 := by
  unfold F_X8_step_61 at H
  refine t_cV (h := 405) (As := [.int s0]) (st := []) iv_8_169 dX8_step_61 ⟨by decide, by decide⟩ rfl (Nat.le_of_ble_eq_true rfl) (by decide) (by decide) rfl ob_405 H (fun r V1 H => ?_)
  obtain ⟨b1, rfl, H⟩ := H
  refine s_if_ne (tgt := 69) dX8_step_64 (by decide) (fun c => ?_) (fun c => ?_)
  · have H := H.1 (bI_t c)
    refine s_aload_n dX8_step_69 rfl ?_
    refine t_getI fl_8_151 dX8_step_70 ob_405 rfl ?_
    refine s_iconst (v := 1) dX8_step_73 (by decide) ?_
    refine s_isub dX8_step_74 ?_
    refine t_istore (L' := [(5, .int ((V1 405 7) - 1)), (0, .ref 405), (1, .int p1)]) dX8_step_75 (by decide) rfl ?_
    refine s_aload_n dX8_step_77 rfl ?_
    refine t_getR (r := 412) fl_8_29 dX8_step_78 ob_405 rfl rfl ?_
    refine s_iload dX8_step_81 rfl ?_
    refine s_dup2 dX8_step_83 rfl rfl ?_
    refine t_iald dX8_step_84 ap_412 H.1 ?_
    have H := H.2
    refine s_iconst (v := 1) dX8_step_85 (by decide) ?_
    refine s_iadd dX8_step_86 ?_
    refine t_iast dX8_step_87 ap_412 H.1 ?_
    have H := H.2
    refine s_iload_n dX8_step_88 rfl ?_
    refine s_iconst (v := 3) dX8_step_89 (by decide) ?_
    refine s_icmp_ge (tgt := 95) dX8_step_90 (by decide) (fun c => ?_) (fun c => ?_)
    · have H := H.1 c
      refine s_aload_n dX8_step_95 rfl ?_
      refine t_cV (h := 405) (As := []) (st := []) iv_8_108 dX8_step_96 ⟨by decide, by decide⟩ rfl (Nat.le_of_ble_eq_true rfl) (by decide) (by decide) rfl ob_405 H (fun r V2 H => ?_)
      obtain ⟨r2, rfl, H⟩ := H
      refine t_istore (L' := [(6, .int r2), (5, .int ((V1 405 7) - 1)), (0, .ref 405), (1, .int p1)]) dX8_step_99 (by decide) rfl ?_
      refine s_aload_n dX8_step_101 rfl ?_
      refine t_getR (r := 416) fl_8_41 dX8_step_102 ob_405 rfl rfl ?_
      refine s_bipush (v := 104) dX8_step_105 (by decide) ?_
      refine s_iload dX8_step_107 rfl ?_
      refine s_iadd dX8_step_109 ?_
      refine t_iald dX8_step_110 ap_416 H.1 ?_
      have H := H.2
      refine t_istore (L' := [(7, .int (V2 416 (104 + r2).toNatClampNeg)), (6, .int r2), (5, .int ((V1 405 7) - 1)), (0, .ref 405), (1, .int p1)]) dX8_step_111 (by decide) rfl ?_
      refine s_aload_n dX8_step_113 rfl ?_
      refine t_getR (r := 416) fl_8_41 dX8_step_114 ob_405 rfl rfl ?_
      refine s_bipush (v := 105) dX8_step_117 (by decide) ?_
      refine s_iload dX8_step_119 rfl ?_
      refine s_isub dX8_step_121 ?_
      refine t_iald dX8_step_122 ap_416 H.1 ?_
      have H := H.2
      refine t_istore (L' := [(8, .int (V2 416 (105 - r2).toNatClampNeg)), (7, .int (V2 416 (104 + r2).toNatClampNeg)), (6, .int r2), (5, .int ((V1 405 7) - 1)), (0, .ref 405), (1, .int p1)]) dX8_step_123 (by decide) rfl ?_
      refine s_aload_n dX8_step_125 rfl ?_
      refine s_iload dX8_step_126 rfl ?_
      refine t_cV (h := 405) (As := [.int ((V1 405 7) - 1)]) (st := []) iv_8_132 dX8_step_128 ⟨by decide, by decide⟩ rfl (Nat.le_of_ble_eq_true rfl) (by decide) (by decide) rfl ob_405 H (fun r V3 H => ?_)
      obtain ⟨rfl, H⟩ := H
      refine s_aload_n dX8_step_131 rfl ?_
      refine s_iload dX8_step_132 rfl ?_
      refine t_cV (h := 405) (As := [.int ((V1 405 7) - 1)]) (st := []) iv_8_144 dX8_step_134 ⟨by decide, by decide⟩ rfl (Nat.le_of_ble_eq_true rfl) (by decide) (by decide) rfl ob_405 H (fun r V4 H => ?_)
      obtain ⟨rfl, H⟩ := H
      refine s_aload_n dX8_step_137 rfl ?_
      refine s_iconst (v := 0) dX8_step_138 (by decide) ?_
      refine t_putI fl_8_147 dX8_step_139 ob_405 (Or.inr ⟨rfl, (Or.inl rfl)⟩) ?_
      refine s_bipush (v := 10) dX8_step_142 (by decide) ?_
      refine s_aload_n dX8_step_144 rfl ?_
      refine t_getR (r := 416) fl_8_41 dX8_step_145 ob_405 rfl rfl ?_
      refine s_bipush (v := 104) dX8_step_148 (by decide) ?_
      refine s_iload dX8_step_150 rfl ?_
      refine s_iadd dX8_step_152 ?_
      refine t_iald dX8_step_153 ap_416 H.1 ?_
      have H := H.2
      refine s_iload dX8_step_154 rfl ?_
      refine s_isub dX8_step_156 ?_
      refine s_imul dX8_step_157 ?_
      refine s_aload_n dX8_step_158 rfl ?_
      refine t_getR (r := 416) fl_8_41 dX8_step_159 ob_405 rfl rfl ?_
      refine s_bipush (v := 105) dX8_step_162 (by decide) ?_
      refine s_iload dX8_step_164 rfl ?_
      refine s_isub dX8_step_166 ?_
      refine t_iald dX8_step_167 ap_416 H.1 ?_
      have H := H.2
      refine s_iadd dX8_step_168 ?_
      refine s_iload dX8_step_169 rfl ?_
      refine s_isub dX8_step_171 ?_
      exact s_iret dX8_step_172 (Or.inl rfl) ⟨rfl, H⟩
    · have H := H.2 c
      refine s_iconst (v := (-1)) dX8_step_93 (by decide) ?_
      exact s_iret dX8_step_94 (Or.inl rfl) ⟨rfl, H⟩
  · have H := H.2 (bI_f c)
    refine s_iconst (v := 0) dX8_step_67 (by decide) ?_
    exact s_iret dX8_step_68 (Or.inl rfl) ⟨rfl, H⟩
def F_X8_step_34 (J : Nat → Nat → Int64) (p1 : Int32) (p2 : Int32) (p3 : Int32) (s0 : Int32) (V : Nat → Nat → Int32) (Qr : Option Value → (Nat → Nat → Int32) → Prop) (Qx : String → (Nat → Nat → Int32) → Prop) : Prop :=
((¬ s0 = 0) →
  CTc J mX8_canTell [.ref 405, .int p1, .int p2, .int p3] V (fun r V1 =>
    ∃ b1 : Bool, r = some (.int (bI b1)) ∧
    ((b1 = false) →
      F_X8_step_61 J p1 p2 p3  2 V1 Qr Qx) ∧
    ((b1 = true) →
      F_X8_step_61 J p1 p2 p3  0 V1 Qr Qx)) Qx) ∧
((s0 = 0) →
  F_X8_step_61 J p1 p2 p3  1 V Qr Qx)
theorem v_X8_step_34 {J : Nat → Nat → Int64} (p1 : Int32) (p2 : Int32) (p3 : Int32) {Qr : Option Value → (Nat → Nat → Int32) → Prop} {Qx : String → (Nat → Nat → Int32) → Prop} (s0 : Int32)  {V : Nat → Nat → Int32} (H : F_X8_step_34 J p1 p2 p3  s0 V Qr Qx) : WPc J mX8_step Qr Qx 34 [(0, .ref 405), (1, .int p1), (2, .int p2), (3, .int p3)] [.int s0] V 0 0 := by
  unfold F_X8_step_34 at H
  refine t_istore (L' := [(4, .int s0), (0, .ref 405), (1, .int p1), (2, .int p2), (3, .int p3)]) dX8_step_34 (by decide) rfl ?_
  refine s_aload_n dX8_step_36 rfl ?_
  refine s_iload dX8_step_37 rfl ?_
  refine s_if_ne (tgt := 46) dX8_step_39 (by decide) (fun c => ?_) (fun c => ?_)
  · have H := H.1 c
    refine s_aload_n dX8_step_46 rfl ?_
    refine s_iload_n dX8_step_47 rfl ?_
    refine s_iload_n dX8_step_48 rfl ?_
    refine s_iload_n dX8_step_49 rfl ?_
    refine t_cV (h := 405) (As := [.int p1, .int p2, .int p3]) (st := [.ref 405]) iv_8_189 dX8_step_50 ⟨by decide, by decide⟩ rfl (Nat.le_of_ble_eq_true rfl) (by decide) (by decide) rfl ob_405 H (fun r V1 H => ?_)
    obtain ⟨b1, rfl, H⟩ := H
    refine s_if_eq (tgt := 60) dX8_step_53 (by decide) (fun c => ?_) (fun c => ?_)
    · have H := H.1 (bI_f c)
      refine s_iconst (v := 2) dX8_step_60 (by decide) ?_
      exact t_loc [1, 2] rfl (v_X8_step_61 p1 p2 p3    2  H)
    · have H := H.2 (bI_t c)
      refine s_iconst (v := 0) dX8_step_56 (by decide) ?_
      refine s_goto (tgt := 61) dX8_step_57 (by decide) ?_
      exact t_loc [1, 2] rfl (v_X8_step_61 p1 p2 p3    0  H)
  · have H := H.2 c
    refine s_iconst (v := 1) dX8_step_42 (by decide) ?_
    refine s_goto (tgt := 61) dX8_step_43 (by decide) ?_
    exact t_loc [1, 2] rfl (v_X8_step_61 p1 p2 p3    1  H)
def F_X8_step_33 (J : Nat → Nat → Int64) (p1 : Int32) (p2 : Int32) (p3 : Int32)  (V : Nat → Nat → Int32) (Qr : Option Value → (Nat → Nat → Int32) → Prop) (Qx : String → (Nat → Nat → Int32) → Prop) : Prop :=
F_X8_step_34 J p1 p2 p3  0 V Qr Qx
theorem v_X8_step_33 {J : Nat → Nat → Int64} (p1 : Int32) (p2 : Int32) (p3 : Int32) {Qr : Option Value → (Nat → Nat → Int32) → Prop} {Qx : String → (Nat → Nat → Int32) → Prop}   {V : Nat → Nat → Int32} (H : F_X8_step_33 J p1 p2 p3   V Qr Qx) : WPc J mX8_step Qr Qx 33 [(0, .ref 405), (1, .int p1), (2, .int p2), (3, .int p3)] [] V 0 0 := by
  unfold F_X8_step_33 at H
  refine s_iconst (v := 0) dX8_step_33 (by decide) ?_
  exact t_loc [0, 1, 2, 3] rfl (v_X8_step_34 p1 p2 p3    0  H)
def F_X8_step (J : Nat → Nat → Int64) (p1 : Int32) (p2 : Int32) (p3 : Int32) (V : Nat → Nat → Int32) (Qr : Option Value → (Nat → Nat → Int32) → Prop) (Qx : String → (Nat → Nat → Int32) → Prop) : Prop :=
CTc J mX8_in [.int p1, .int 0, .int 6] V (fun r V1 =>
  ∃ b1 : Bool, r = some (.int (bI b1)) ∧
  ((b1 = false) →
    F_X8_step_33 J p1 p2 p3   V1 Qr Qx) ∧
  ((b1 = true) →
    CTc J mX8_isWho [.int p1, .int p2] V1 (fun r V2 =>
      ∃ b2 : Bool, r = some (.int (bI b2)) ∧
      ((b2 = false) →
        F_X8_step_33 J p1 p2 p3   V2 Qr Qx) ∧
      ((b2 = true) →
        CTc J mX8_in [.int p3, .int 1, .int 300] V2 (fun r V3 =>
          ∃ b3 : Bool, r = some (.int (bI b3)) ∧
          ((b3 = false) →
            F_X8_step_33 J p1 p2 p3   V3 Qr Qx) ∧
          ((b3 = true) →
            F_X8_step_34 J p1 p2 p3  1 V3 Qr Qx)) Qx)) Qx)) Qx
theorem v_X8_step {J : Nat → Nat → Int64} (p1 : Int32) (p2 : Int32) (p3 : Int32) {V : Nat → Nat → Int32} {Qr : Option Value → (Nat → Nat → Int32) → Prop} {Qx : String → (Nat → Nat → Int32) → Prop} (H : F_X8_step J p1 p2 p3 V Qr Qx) : CTc J mX8_step [.ref 405, .int p1, .int p2, .int p3] V Qr Qx := by
  refine ctc_of (M := (T0 J, V)) pX8_step (fun _ _ => rfl) (Nat.le_of_ble_eq_true rfl) ?_
  unfold F_X8_step at H
  show WPc J mX8_step Qr Qx 0 [(0, .ref 405), (1, .int p1), (2, .int p2), (3, .int p3)] [] V 0 0
  refine s_iload_n dX8_step_0 rfl ?_
  refine s_iconst (v := 0) dX8_step_1 (by decide) ?_
  refine s_bipush (v := 6) dX8_step_2 (by decide) ?_
  refine t_cS (As := [.int p1, .int 0, .int 6]) (st := []) iv_8_81 dX8_step_4 ⟨by decide, by decide⟩ rfl (Nat.le_of_ble_eq_true rfl) (by decide) (by decide) rfl H (fun r V1 H => ?_)
  obtain ⟨b1, rfl, H⟩ := H
  refine s_if_eq (tgt := 33) dX8_step_7 (by decide) (fun c => ?_) (fun c => ?_)
  · have H := H.1 (bI_f c)
    exact t_loc [0, 1, 2, 3] rfl (v_X8_step_33 p1 p2 p3      H)
  · have H := H.2 (bI_t c)
    refine s_iload_n dX8_step_10 rfl ?_
    refine s_iload_n dX8_step_11 rfl ?_
    refine t_cS (As := [.int p1, .int p2]) (st := []) iv_8_186 dX8_step_12 ⟨by decide, by decide⟩ rfl (Nat.le_of_ble_eq_true rfl) (by decide) (by decide) rfl H (fun r V2 H => ?_)
    obtain ⟨b2, rfl, H⟩ := H
    refine s_if_eq (tgt := 33) dX8_step_15 (by decide) (fun c => ?_) (fun c => ?_)
    · have H := H.1 (bI_f c)
      exact t_loc [0, 1, 2, 3] rfl (v_X8_step_33 p1 p2 p3      H)
    · have H := H.2 (bI_t c)
      refine s_iload_n dX8_step_18 rfl ?_
      refine s_iconst (v := 1) dX8_step_19 (by decide) ?_
      refine s_sipush (v := 300) dX8_step_20 (by decide) ?_
      refine t_cS (As := [.int p3, .int 1, .int 300]) (st := []) iv_8_81 dX8_step_23 ⟨by decide, by decide⟩ rfl (Nat.le_of_ble_eq_true rfl) (by decide) (by decide) rfl H (fun r V3 H => ?_)
      obtain ⟨b3, rfl, H⟩ := H
      refine s_if_eq (tgt := 33) dX8_step_26 (by decide) (fun c => ?_) (fun c => ?_)
      · have H := H.1 (bI_f c)
        exact t_loc [0, 1, 2, 3] rfl (v_X8_step_33 p1 p2 p3      H)
      · have H := H.2 (bI_t c)
        refine s_iconst (v := 1) dX8_step_29 (by decide) ?_
        refine s_goto (tgt := 34) dX8_step_30 (by decide) ?_
        exact t_loc [0, 1, 2, 3] rfl (v_X8_step_34 p1 p2 p3    1  H)

def F_X8_card_66 (J : Nat → Nat → Int64) (p1 : Int32) (p2 : Int32) (p3 : Int32) (s0 : Int32) (V : Nat → Nat → Int32) (Qr : Option Value → (Nat → Nat → Int32) → Prop) (Qx : String → (Nat → Nat → Int32) → Prop) : Prop :=
CTc J mX8_holds [.ref 405, .int s0] V (fun r V1 =>
  ∃ b1 : Bool, r = some (.int (bI b1)) ∧
  ((b1 = true) →
    CTc J mX8_colourFor [.ref 405, .int p1, .int p2, .int p3] V1 (fun r V2 =>
      ∃ r2 : Int32, r = some (.int r2) ∧
      CTc J mX8_adds [.ref 405, .int 1, .int p1, .int p2, .int p3] V2 (fun r V3 =>
        ∃ r3 : Int32, r = some (.int r3) ∧
        CTc J mX8_follows [.ref 405, .int r3] V3 (fun r V4 =>
          ∃ b4 : Bool, r = some (.int (bI b4)) ∧
          ((b4 = false) →
            Qr (some (.int 0)) V4) ∧
          ((b4 = true) →
            Qr (some (.int r2)) V4)) Qx) Qx) Qx) ∧
  ((b1 = false) →
    Qr (some (.int 0)) V1)) Qx
theorem v_X8_card_66 {J : Nat → Nat → Int64} (p1 : Int32) (p2 : Int32) (p3 : Int32) {Qr : Option Value → (Nat → Nat → Int32) → Prop} {Qx : String → (Nat → Nat → Int32) → Prop} (s0 : Int32)  {V : Nat → Nat → Int32} (H : F_X8_card_66 J p1 p2 p3  s0 V Qr Qx) : WPc J mX8_card Qr Qx 66 [(0, .ref 405), (1, .int p1), (2, .int p2), (3, .int p3)] [.int s0, .ref 405] V 0 0 := by
  unfold F_X8_card_66 at H
  refine t_cV (h := 405) (As := [.int s0]) (st := []) iv_8_169 dX8_card_66 ⟨by decide, by decide⟩ rfl (Nat.le_of_ble_eq_true rfl) (by decide) (by decide) rfl ob_405 H (fun r V1 H => ?_)
  obtain ⟨b1, rfl, H⟩ := H
  refine s_if_ne (tgt := 74) dX8_card_69 (by decide) (fun c => ?_) (fun c => ?_)
  · have H := H.1 (bI_t c)
    refine s_aload_n dX8_card_74 rfl ?_
    refine s_iload_n dX8_card_75 rfl ?_
    refine s_iload_n dX8_card_76 rfl ?_
    refine s_iload_n dX8_card_77 rfl ?_
    refine t_cV (h := 405) (As := [.int p1, .int p2, .int p3]) (st := []) iv_8_121 dX8_card_78 ⟨by decide, by decide⟩ rfl (Nat.le_of_ble_eq_true rfl) (by decide) (by decide) rfl ob_405 H (fun r V2 H => ?_)
    obtain ⟨r2, rfl, H⟩ := H
    refine t_istore (L' := [(5, .int r2), (0, .ref 405), (1, .int p1), (2, .int p2), (3, .int p3)]) dX8_card_81 (by decide) rfl ?_
    refine s_aload_n dX8_card_83 rfl ?_
    refine s_iconst (v := 1) dX8_card_84 (by decide) ?_
    refine s_iload_n dX8_card_85 rfl ?_
    refine s_iload_n dX8_card_86 rfl ?_
    refine s_iload_n dX8_card_87 rfl ?_
    refine t_cV (h := 405) (As := [.int 1, .int p1, .int p2, .int p3]) (st := []) iv_8_182 dX8_card_88 ⟨by decide, by decide⟩ rfl (Nat.le_of_ble_eq_true rfl) (by decide) (by decide) rfl ob_405 H (fun r V3 H => ?_)
    obtain ⟨r3, rfl, H⟩ := H
    refine t_istore (L' := [(6, .int r3), (5, .int r2), (0, .ref 405), (1, .int p1), (2, .int p2), (3, .int p3)]) dX8_card_91 (by decide) rfl ?_
    refine s_aload_n dX8_card_93 rfl ?_
    refine s_iload dX8_card_94 rfl ?_
    refine t_cV (h := 405) (As := [.int r3]) (st := []) iv_8_160 dX8_card_96 ⟨by decide, by decide⟩ rfl (Nat.le_of_ble_eq_true rfl) (by decide) (by decide) rfl ob_405 H (fun r V4 H => ?_)
    obtain ⟨b4, rfl, H⟩ := H
    refine s_if_eq (tgt := 107) dX8_card_99 (by decide) (fun c => ?_) (fun c => ?_)
    · have H := H.1 (bI_f c)
      refine s_iconst (v := 0) dX8_card_107 (by decide) ?_
      exact s_iret dX8_card_108 (Or.inl rfl) ⟨rfl, H⟩
    · have H := H.2 (bI_t c)
      refine s_iload dX8_card_102 rfl ?_
      refine s_goto (tgt := 108) dX8_card_104 (by decide) ?_
      exact s_iret dX8_card_108 (Or.inl rfl) ⟨rfl, H⟩
  · have H := H.2 (bI_f c)
    refine s_iconst (v := 0) dX8_card_72 (by decide) ?_
    exact s_iret dX8_card_73 (Or.inl rfl) ⟨rfl, H⟩
def F_X8_card_61 (J : Nat → Nat → Int64) (p1 : Int32) (p2 : Int32) (p3 : Int32)  (V : Nat → Nat → Int32) (Qr : Option Value → (Nat → Nat → Int32) → Prop) (Qx : String → (Nat → Nat → Int32) → Prop) : Prop :=
F_X8_card_66 J p1 p2 p3  3 V Qr Qx
theorem v_X8_card_61 {J : Nat → Nat → Int64} (p1 : Int32) (p2 : Int32) (p3 : Int32) {Qr : Option Value → (Nat → Nat → Int32) → Prop} {Qx : String → (Nat → Nat → Int32) → Prop}   {V : Nat → Nat → Int32} (H : F_X8_card_61 J p1 p2 p3   V Qr Qx) : WPc J mX8_card Qr Qx 61 [(0, .ref 405), (1, .int p1), (2, .int p2), (3, .int p3)] [.ref 405] V 0 0 := by
  unfold F_X8_card_61 at H
  refine s_iconst (v := 3) dX8_card_61 (by decide) ?_
  refine s_goto (tgt := 66) dX8_card_62 (by decide) ?_
  exact t_loc [0, 1, 2, 3] rfl (v_X8_card_66 p1 p2 p3    3  H)
def F_X8_card_19 (J : Nat → Nat → Int64) (p1 : Int32) (p2 : Int32) (p3 : Int32) (s0 : Int32) (V : Nat → Nat → Int32) (Qr : Option Value → (Nat → Nat → Int32) → Prop) (Qx : String → (Nat → Nat → Int32) → Prop) : Prop :=
((¬ s0 = 0) →
  CTc J mX8_in [.int p3, .int 0, .int 2] V (fun r V1 =>
    ∃ b1 : Bool, r = some (.int (bI b1)) ∧
    ((b1 = true) →
      CTc J mX8_isBetween [.ref 405] V1 (fun r V2 =>
        ∃ b2 : Bool, r = some (.int (bI b2)) ∧
        ((b2 = false) →
          F_X8_card_61 J p1 p2 p3   V2 Qr Qx) ∧
        ((b2 = true) →
          CTc J mX8_canCard [.ref 405, .int p1, .int p2, .int p3] V2 (fun r V3 =>
            ∃ b3 : Bool, r = some (.int (bI b3)) ∧
            ((b3 = true) →
              F_X8_card_66 J p1 p2 p3  0 V3 Qr Qx) ∧
            ((b3 = false) →
              F_X8_card_61 J p1 p2 p3   V3 Qr Qx)) Qx)) Qx) ∧
    ((b1 = false) →
      F_X8_card_66 J p1 p2 p3  2 V1 Qr Qx)) Qx) ∧
((s0 = 0) →
  F_X8_card_66 J p1 p2 p3  1 V Qr Qx)
theorem v_X8_card_19 {J : Nat → Nat → Int64} (p1 : Int32) (p2 : Int32) (p3 : Int32) {Qr : Option Value → (Nat → Nat → Int32) → Prop} {Qx : String → (Nat → Nat → Int32) → Prop} (s0 : Int32)  {V : Nat → Nat → Int32} (H : F_X8_card_19 J p1 p2 p3  s0 V Qr Qx) : WPc J mX8_card Qr Qx 19 [(0, .ref 405), (1, .int p1), (2, .int p2), (3, .int p3)] [.int s0] V 0 0 := by
  unfold F_X8_card_19 at H
  refine t_istore (L' := [(4, .int s0), (0, .ref 405), (1, .int p1), (2, .int p2), (3, .int p3)]) dX8_card_19 (by decide) rfl ?_
  refine s_aload_n dX8_card_21 rfl ?_
  refine s_iload dX8_card_22 rfl ?_
  refine s_if_ne (tgt := 31) dX8_card_24 (by decide) (fun c => ?_) (fun c => ?_)
  · have H := H.1 c
    refine s_iload_n dX8_card_31 rfl ?_
    refine s_iconst (v := 0) dX8_card_32 (by decide) ?_
    refine s_iconst (v := 2) dX8_card_33 (by decide) ?_
    refine t_cS (As := [.int p3, .int 0, .int 2]) (st := [.ref 405]) iv_8_81 dX8_card_34 ⟨by decide, by decide⟩ rfl (Nat.le_of_ble_eq_true rfl) (by decide) (by decide) rfl H (fun r V1 H => ?_)
    obtain ⟨b1, rfl, H⟩ := H
    refine s_if_ne (tgt := 44) dX8_card_37 (by decide) (fun c => ?_) (fun c => ?_)
    · have H := H.1 (bI_t c)
      refine s_aload_n dX8_card_44 rfl ?_
      refine t_cV (h := 405) (As := []) (st := [.ref 405]) iv_8_178 dX8_card_45 ⟨by decide, by decide⟩ rfl (Nat.le_of_ble_eq_true rfl) (by decide) (by decide) rfl ob_405 H (fun r V2 H => ?_)
      obtain ⟨b2, rfl, H⟩ := H
      refine s_if_eq (tgt := 61) dX8_card_48 (by decide) (fun c => ?_) (fun c => ?_)
      · have H := H.1 (bI_f c)
        exact t_loc [1, 2, 3, 4] rfl (v_X8_card_61 p1 p2 p3      H)
      · have H := H.2 (bI_t c)
        refine s_aload_n dX8_card_51 rfl ?_
        refine s_iload_n dX8_card_52 rfl ?_
        refine s_iload_n dX8_card_53 rfl ?_
        refine s_iload_n dX8_card_54 rfl ?_
        refine t_cV (h := 405) (As := [.int p1, .int p2, .int p3]) (st := [.ref 405]) iv_8_135 dX8_card_55 ⟨by decide, by decide⟩ rfl (Nat.le_of_ble_eq_true rfl) (by decide) (by decide) rfl ob_405 H (fun r V3 H => ?_)
        obtain ⟨b3, rfl, H⟩ := H
        refine s_if_ne (tgt := 65) dX8_card_58 (by decide) (fun c => ?_) (fun c => ?_)
        · have H := H.1 (bI_t c)
          refine s_iconst (v := 0) dX8_card_65 (by decide) ?_
          exact t_loc [1, 2, 3, 4] rfl (v_X8_card_66 p1 p2 p3    0  H)
        · have H := H.2 (bI_f c)
          exact t_loc [1, 2, 3, 4] rfl (v_X8_card_61 p1 p2 p3      H)
    · have H := H.2 (bI_f c)
      refine s_iconst (v := 2) dX8_card_40 (by decide) ?_
      refine s_goto (tgt := 66) dX8_card_41 (by decide) ?_
      exact t_loc [1, 2, 3, 4] rfl (v_X8_card_66 p1 p2 p3    2  H)
  · have H := H.2 c
    refine s_iconst (v := 1) dX8_card_27 (by decide) ?_
    refine s_goto (tgt := 66) dX8_card_28 (by decide) ?_
    exact t_loc [1, 2, 3, 4] rfl (v_X8_card_66 p1 p2 p3    1  H)
def F_X8_card_18 (J : Nat → Nat → Int64) (p1 : Int32) (p2 : Int32) (p3 : Int32)  (V : Nat → Nat → Int32) (Qr : Option Value → (Nat → Nat → Int32) → Prop) (Qx : String → (Nat → Nat → Int32) → Prop) : Prop :=
F_X8_card_19 J p1 p2 p3  0 V Qr Qx
theorem v_X8_card_18 {J : Nat → Nat → Int64} (p1 : Int32) (p2 : Int32) (p3 : Int32) {Qr : Option Value → (Nat → Nat → Int32) → Prop} {Qx : String → (Nat → Nat → Int32) → Prop}   {V : Nat → Nat → Int32} (H : F_X8_card_18 J p1 p2 p3   V Qr Qx) : WPc J mX8_card Qr Qx 18 [(0, .ref 405), (1, .int p1), (2, .int p2), (3, .int p3)] [] V 0 0 := by
  unfold F_X8_card_18 at H
  refine s_iconst (v := 0) dX8_card_18 (by decide) ?_
  exact t_loc [0, 1, 2, 3] rfl (v_X8_card_19 p1 p2 p3    0  H)
def F_X8_card (J : Nat → Nat → Int64) (p1 : Int32) (p2 : Int32) (p3 : Int32) (V : Nat → Nat → Int32) (Qr : Option Value → (Nat → Nat → Int32) → Prop) (Qx : String → (Nat → Nat → Int32) → Prop) : Prop :=
CTc J mX8_isSide [.int p1] V (fun r V1 =>
  ∃ b1 : Bool, r = some (.int (bI b1)) ∧
  ((b1 = false) →
    F_X8_card_18 J p1 p2 p3   V1 Qr Qx) ∧
  ((b1 = true) →
    CTc J mX8_isPlayer [.int p2] V1 (fun r V2 =>
      ∃ b2 : Bool, r = some (.int (bI b2)) ∧
      ((b2 = false) →
        F_X8_card_18 J p1 p2 p3   V2 Qr Qx) ∧
      ((b2 = true) →
        F_X8_card_19 J p1 p2 p3  1 V2 Qr Qx)) Qx)) Qx
theorem v_X8_card {J : Nat → Nat → Int64} (p1 : Int32) (p2 : Int32) (p3 : Int32) {V : Nat → Nat → Int32} {Qr : Option Value → (Nat → Nat → Int32) → Prop} {Qx : String → (Nat → Nat → Int32) → Prop} (H : F_X8_card J p1 p2 p3 V Qr Qx) : CTc J mX8_card [.ref 405, .int p1, .int p2, .int p3] V Qr Qx := by
  refine ctc_of (M := (T0 J, V)) pX8_card (fun _ _ => rfl) (Nat.le_of_ble_eq_true rfl) ?_
  unfold F_X8_card at H
  show WPc J mX8_card Qr Qx 0 [(0, .ref 405), (1, .int p1), (2, .int p2), (3, .int p3)] [] V 0 0
  refine s_iload_n dX8_card_0 rfl ?_
  refine t_cS (As := [.int p1]) (st := []) iv_8_192 dX8_card_1 ⟨by decide, by decide⟩ rfl (Nat.le_of_ble_eq_true rfl) (by decide) (by decide) rfl H (fun r V1 H => ?_)
  obtain ⟨b1, rfl, H⟩ := H
  refine s_if_eq (tgt := 18) dX8_card_4 (by decide) (fun c => ?_) (fun c => ?_)
  · have H := H.1 (bI_f c)
    exact t_loc [0, 1, 2, 3] rfl (v_X8_card_18 p1 p2 p3      H)
  · have H := H.2 (bI_t c)
    refine s_iload_n dX8_card_7 rfl ?_
    refine t_cS (As := [.int p2]) (st := []) iv_8_175 dX8_card_8 ⟨by decide, by decide⟩ rfl (Nat.le_of_ble_eq_true rfl) (by decide) (by decide) rfl H (fun r V2 H => ?_)
    obtain ⟨b2, rfl, H⟩ := H
    refine s_if_eq (tgt := 18) dX8_card_11 (by decide) (fun c => ?_) (fun c => ?_)
    · have H := H.1 (bI_f c)
      exact t_loc [0, 1, 2, 3] rfl (v_X8_card_18 p1 p2 p3      H)
    · have H := H.2 (bI_t c)
      refine s_iconst (v := 1) dX8_card_14 (by decide) ?_
      refine s_goto (tgt := 19) dX8_card_15 (by decide) ?_
      exact t_loc [0, 1, 2, 3] rfl (v_X8_card_19 p1 p2 p3    1  H)

def F_X8_change_60 (J : Nat → Nat → Int64) (p1 : Int32) (p2 : Int32) (p3 : Int32) (s0 : Int32) (V : Nat → Nat → Int32) (Qr : Option Value → (Nat → Nat → Int32) → Prop) (Qx : String → (Nat → Nat → Int32) → Prop) : Prop :=
CTc J mX8_holds [.ref 405, .int s0] V (fun r V1 =>
  ∃ b1 : Bool, r = some (.int (bI b1)) ∧
  ((b1 = true) →
    CTc J mX8_adds [.ref 405, .int 2, .int p1, .int p2, .int p3] V1 (fun r V2 =>
      ∃ r2 : Int32, r = some (.int r2) ∧
      CTc J mX8_follows [.ref 405, .int r2] V2 (fun r V3 =>
        ∃ b3 : Bool, r = some (.int (bI b3)) ∧
        ((b3 = false) →
          Qr (some (.int 0)) V3) ∧
        ((b3 = true) →
          vp_in (102 + p1) 110 ∧
          Qr (some (.int (V3 416 (102 + p1).toNatClampNeg))) V3)) Qx) Qx) ∧
  ((b1 = false) →
    Qr (some (.int 0)) V1)) Qx
theorem v_X8_change_60 {J : Nat → Nat → Int64} (p1 : Int32) (p2 : Int32) (p3 : Int32) {Qr : Option Value → (Nat → Nat → Int32) → Prop} {Qx : String → (Nat → Nat → Int32) → Prop} (s0 : Int32)  {V : Nat → Nat → Int32} (H : F_X8_change_60 J p1 p2 p3  s0 V Qr Qx) : WPc J mX8_change Qr Qx 60 [(0, .ref 405), (1, .int p1), (2, .int p2), (3, .int p3)] [.int s0, .ref 405] V 0 0 := by
  unfold F_X8_change_60 at H
  refine t_cV (h := 405) (As := [.int s0]) (st := []) iv_8_169 dX8_change_60 ⟨by decide, by decide⟩ rfl (Nat.le_of_ble_eq_true rfl) (by decide) (by decide) rfl ob_405 H (fun r V1 H => ?_)
  obtain ⟨b1, rfl, H⟩ := H
  refine s_if_ne (tgt := 68) dX8_change_63 (by decide) (fun c => ?_) (fun c => ?_)
  · have H := H.1 (bI_t c)
    refine s_aload_n dX8_change_68 rfl ?_
    refine s_iconst (v := 2) dX8_change_69 (by decide) ?_
    refine s_iload_n dX8_change_70 rfl ?_
    refine s_iload_n dX8_change_71 rfl ?_
    refine s_iload_n dX8_change_72 rfl ?_
    refine t_cV (h := 405) (As := [.int 2, .int p1, .int p2, .int p3]) (st := []) iv_8_182 dX8_change_73 ⟨by decide, by decide⟩ rfl (Nat.le_of_ble_eq_true rfl) (by decide) (by decide) rfl ob_405 H (fun r V2 H => ?_)
    obtain ⟨r2, rfl, H⟩ := H
    refine t_istore (L' := [(5, .int r2), (0, .ref 405), (1, .int p1), (2, .int p2), (3, .int p3)]) dX8_change_76 (by decide) rfl ?_
    refine s_aload_n dX8_change_78 rfl ?_
    refine s_iload dX8_change_79 rfl ?_
    refine t_cV (h := 405) (As := [.int r2]) (st := []) iv_8_160 dX8_change_81 ⟨by decide, by decide⟩ rfl (Nat.le_of_ble_eq_true rfl) (by decide) (by decide) rfl ob_405 H (fun r V3 H => ?_)
    obtain ⟨b3, rfl, H⟩ := H
    refine s_if_eq (tgt := 99) dX8_change_84 (by decide) (fun c => ?_) (fun c => ?_)
    · have H := H.1 (bI_f c)
      refine s_iconst (v := 0) dX8_change_99 (by decide) ?_
      exact s_iret dX8_change_100 (Or.inl rfl) ⟨rfl, H⟩
    · have H := H.2 (bI_t c)
      refine s_aload_n dX8_change_87 rfl ?_
      refine t_getR (r := 416) fl_8_41 dX8_change_88 ob_405 rfl rfl ?_
      refine s_bipush (v := 102) dX8_change_91 (by decide) ?_
      refine s_iload_n dX8_change_93 rfl ?_
      refine s_iadd dX8_change_94 ?_
      refine t_iald dX8_change_95 ap_416 H.1 ?_
      have H := H.2
      refine s_goto (tgt := 100) dX8_change_96 (by decide) ?_
      exact s_iret dX8_change_100 (Or.inl rfl) ⟨rfl, H⟩
  · have H := H.2 (bI_f c)
    refine s_iconst (v := 0) dX8_change_66 (by decide) ?_
    exact s_iret dX8_change_67 (Or.inl rfl) ⟨rfl, H⟩
def F_X8_change_55 (J : Nat → Nat → Int64) (p1 : Int32) (p2 : Int32) (p3 : Int32)  (V : Nat → Nat → Int32) (Qr : Option Value → (Nat → Nat → Int32) → Prop) (Qx : String → (Nat → Nat → Int32) → Prop) : Prop :=
F_X8_change_60 J p1 p2 p3  2 V Qr Qx
theorem v_X8_change_55 {J : Nat → Nat → Int64} (p1 : Int32) (p2 : Int32) (p3 : Int32) {Qr : Option Value → (Nat → Nat → Int32) → Prop} {Qx : String → (Nat → Nat → Int32) → Prop}   {V : Nat → Nat → Int32} (H : F_X8_change_55 J p1 p2 p3   V Qr Qx) : WPc J mX8_change Qr Qx 55 [(0, .ref 405), (1, .int p1), (2, .int p2), (3, .int p3)] [.ref 405] V 0 0 := by
  unfold F_X8_change_55 at H
  refine s_iconst (v := 2) dX8_change_55 (by decide) ?_
  refine s_goto (tgt := 60) dX8_change_56 (by decide) ?_
  exact t_loc [0, 1, 2, 3] rfl (v_X8_change_60 p1 p2 p3    2  H)
def F_X8_change_26 (J : Nat → Nat → Int64) (p1 : Int32) (p2 : Int32) (p3 : Int32) (s0 : Int32) (V : Nat → Nat → Int32) (Qr : Option Value → (Nat → Nat → Int32) → Prop) (Qx : String → (Nat → Nat → Int32) → Prop) : Prop :=
((¬ s0 = 0) →
  CTc J mX8_isBetween [.ref 405] V (fun r V1 =>
    ∃ b1 : Bool, r = some (.int (bI b1)) ∧
    ((b1 = false) →
      F_X8_change_55 J p1 p2 p3   V1 Qr Qx) ∧
    ((b1 = true) →
      CTc J mX8_canChange [.ref 405, .int p1, .int p2, .int p3] V1 (fun r V2 =>
        ∃ b2 : Bool, r = some (.int (bI b2)) ∧
        ((b2 = true) →
          F_X8_change_60 J p1 p2 p3  0 V2 Qr Qx) ∧
        ((b2 = false) →
          F_X8_change_55 J p1 p2 p3   V2 Qr Qx)) Qx)) Qx) ∧
((s0 = 0) →
  F_X8_change_60 J p1 p2 p3  1 V Qr Qx)
theorem v_X8_change_26 {J : Nat → Nat → Int64} (p1 : Int32) (p2 : Int32) (p3 : Int32) {Qr : Option Value → (Nat → Nat → Int32) → Prop} {Qx : String → (Nat → Nat → Int32) → Prop} (s0 : Int32)  {V : Nat → Nat → Int32} (H : F_X8_change_26 J p1 p2 p3  s0 V Qr Qx) : WPc J mX8_change Qr Qx 26 [(0, .ref 405), (1, .int p1), (2, .int p2), (3, .int p3)] [.int s0] V 0 0 := by
  unfold F_X8_change_26 at H
  refine t_istore (L' := [(4, .int s0), (0, .ref 405), (1, .int p1), (2, .int p2), (3, .int p3)]) dX8_change_26 (by decide) rfl ?_
  refine s_aload_n dX8_change_28 rfl ?_
  refine s_iload dX8_change_29 rfl ?_
  refine s_if_ne (tgt := 38) dX8_change_31 (by decide) (fun c => ?_) (fun c => ?_)
  · have H := H.1 c
    refine s_aload_n dX8_change_38 rfl ?_
    refine t_cV (h := 405) (As := []) (st := [.ref 405]) iv_8_178 dX8_change_39 ⟨by decide, by decide⟩ rfl (Nat.le_of_ble_eq_true rfl) (by decide) (by decide) rfl ob_405 H (fun r V1 H => ?_)
    obtain ⟨b1, rfl, H⟩ := H
    refine s_if_eq (tgt := 55) dX8_change_42 (by decide) (fun c => ?_) (fun c => ?_)
    · have H := H.1 (bI_f c)
      exact t_loc [1, 2, 3, 4] rfl (v_X8_change_55 p1 p2 p3      H)
    · have H := H.2 (bI_t c)
      refine s_aload_n dX8_change_45 rfl ?_
      refine s_iload_n dX8_change_46 rfl ?_
      refine s_iload_n dX8_change_47 rfl ?_
      refine s_iload_n dX8_change_48 rfl ?_
      refine t_cV (h := 405) (As := [.int p1, .int p2, .int p3]) (st := [.ref 405]) iv_8_141 dX8_change_49 ⟨by decide, by decide⟩ rfl (Nat.le_of_ble_eq_true rfl) (by decide) (by decide) rfl ob_405 H (fun r V2 H => ?_)
      obtain ⟨b2, rfl, H⟩ := H
      refine s_if_ne (tgt := 59) dX8_change_52 (by decide) (fun c => ?_) (fun c => ?_)
      · have H := H.1 (bI_t c)
        refine s_iconst (v := 0) dX8_change_59 (by decide) ?_
        exact t_loc [1, 2, 3, 4] rfl (v_X8_change_60 p1 p2 p3    0  H)
      · have H := H.2 (bI_f c)
        exact t_loc [1, 2, 3, 4] rfl (v_X8_change_55 p1 p2 p3      H)
  · have H := H.2 c
    refine s_iconst (v := 1) dX8_change_34 (by decide) ?_
    refine s_goto (tgt := 60) dX8_change_35 (by decide) ?_
    exact t_loc [1, 2, 3, 4] rfl (v_X8_change_60 p1 p2 p3    1  H)
def F_X8_change_25 (J : Nat → Nat → Int64) (p1 : Int32) (p2 : Int32) (p3 : Int32)  (V : Nat → Nat → Int32) (Qr : Option Value → (Nat → Nat → Int32) → Prop) (Qx : String → (Nat → Nat → Int32) → Prop) : Prop :=
F_X8_change_26 J p1 p2 p3  0 V Qr Qx
theorem v_X8_change_25 {J : Nat → Nat → Int64} (p1 : Int32) (p2 : Int32) (p3 : Int32) {Qr : Option Value → (Nat → Nat → Int32) → Prop} {Qx : String → (Nat → Nat → Int32) → Prop}   {V : Nat → Nat → Int32} (H : F_X8_change_25 J p1 p2 p3   V Qr Qx) : WPc J mX8_change Qr Qx 25 [(0, .ref 405), (1, .int p1), (2, .int p2), (3, .int p3)] [] V 0 0 := by
  unfold F_X8_change_25 at H
  refine s_iconst (v := 0) dX8_change_25 (by decide) ?_
  exact t_loc [0, 1, 2, 3] rfl (v_X8_change_26 p1 p2 p3    0  H)
def F_X8_change (J : Nat → Nat → Int64) (p1 : Int32) (p2 : Int32) (p3 : Int32) (V : Nat → Nat → Int32) (Qr : Option Value → (Nat → Nat → Int32) → Prop) (Qx : String → (Nat → Nat → Int32) → Prop) : Prop :=
CTc J mX8_isSide [.int p1] V (fun r V1 =>
  ∃ b1 : Bool, r = some (.int (bI b1)) ∧
  ((b1 = false) →
    F_X8_change_25 J p1 p2 p3   V1 Qr Qx) ∧
  ((b1 = true) →
    CTc J mX8_isPlayer [.int p2] V1 (fun r V2 =>
      ∃ b2 : Bool, r = some (.int (bI b2)) ∧
      ((b2 = false) →
        F_X8_change_25 J p1 p2 p3   V2 Qr Qx) ∧
      ((b2 = true) →
        CTc J mX8_isPlayer [.int p3] V2 (fun r V3 =>
          ∃ b3 : Bool, r = some (.int (bI b3)) ∧
          ((b3 = false) →
            F_X8_change_25 J p1 p2 p3   V3 Qr Qx) ∧
          ((b3 = true) →
            F_X8_change_26 J p1 p2 p3  1 V3 Qr Qx)) Qx)) Qx)) Qx
theorem v_X8_change {J : Nat → Nat → Int64} (p1 : Int32) (p2 : Int32) (p3 : Int32) {V : Nat → Nat → Int32} {Qr : Option Value → (Nat → Nat → Int32) → Prop} {Qx : String → (Nat → Nat → Int32) → Prop} (H : F_X8_change J p1 p2 p3 V Qr Qx) : CTc J mX8_change [.ref 405, .int p1, .int p2, .int p3] V Qr Qx := by
  refine ctc_of (M := (T0 J, V)) pX8_change (fun _ _ => rfl) (Nat.le_of_ble_eq_true rfl) ?_
  unfold F_X8_change at H
  show WPc J mX8_change Qr Qx 0 [(0, .ref 405), (1, .int p1), (2, .int p2), (3, .int p3)] [] V 0 0
  refine s_iload_n dX8_change_0 rfl ?_
  refine t_cS (As := [.int p1]) (st := []) iv_8_192 dX8_change_1 ⟨by decide, by decide⟩ rfl (Nat.le_of_ble_eq_true rfl) (by decide) (by decide) rfl H (fun r V1 H => ?_)
  obtain ⟨b1, rfl, H⟩ := H
  refine s_if_eq (tgt := 25) dX8_change_4 (by decide) (fun c => ?_) (fun c => ?_)
  · have H := H.1 (bI_f c)
    exact t_loc [0, 1, 2, 3] rfl (v_X8_change_25 p1 p2 p3      H)
  · have H := H.2 (bI_t c)
    refine s_iload_n dX8_change_7 rfl ?_
    refine t_cS (As := [.int p2]) (st := []) iv_8_175 dX8_change_8 ⟨by decide, by decide⟩ rfl (Nat.le_of_ble_eq_true rfl) (by decide) (by decide) rfl H (fun r V2 H => ?_)
    obtain ⟨b2, rfl, H⟩ := H
    refine s_if_eq (tgt := 25) dX8_change_11 (by decide) (fun c => ?_) (fun c => ?_)
    · have H := H.1 (bI_f c)
      exact t_loc [0, 1, 2, 3] rfl (v_X8_change_25 p1 p2 p3      H)
    · have H := H.2 (bI_t c)
      refine s_iload_n dX8_change_14 rfl ?_
      refine t_cS (As := [.int p3]) (st := []) iv_8_175 dX8_change_15 ⟨by decide, by decide⟩ rfl (Nat.le_of_ble_eq_true rfl) (by decide) (by decide) rfl H (fun r V3 H => ?_)
      obtain ⟨b3, rfl, H⟩ := H
      refine s_if_eq (tgt := 25) dX8_change_18 (by decide) (fun c => ?_) (fun c => ?_)
      · have H := H.1 (bI_f c)
        exact t_loc [0, 1, 2, 3] rfl (v_X8_change_25 p1 p2 p3      H)
      · have H := H.2 (bI_t c)
        refine s_iconst (v := 1) dX8_change_21 (by decide) ?_
        refine s_goto (tgt := 26) dX8_change_22 (by decide) ?_
        exact t_loc [0, 1, 2, 3] rfl (v_X8_change_26 p1 p2 p3    1  H)

def F_X8_isStep (J : Nat → Nat → Int64) (p1 : Int32) (p2 : Int32) (V : Nat → Nat → Int32) (Qr : Option Value → (Nat → Nat → Int32) → Prop) (Qx : String → (Nat → Nat → Int32) → Prop) : Prop :=
(((V 405 2) = 0) →
  Qr (some (.int 0)) V) ∧
((¬ (V 405 2) = 0) →
  CTc J mX8_ended [.ref 405] V (fun r V1 =>
    ∃ r1 : Int32, r = some (.int r1) ∧
    CTc J mX8_in [.int p1, .int 0, .int (r1 - 1)] V1 (fun r V2 =>
      ∃ b2 : Bool, r = some (.int (bI b2)) ∧
      ((b2 = false) →
        Qr (some (.int 0)) V2) ∧
      ((b2 = true) →
        vp_in p1 60 ∧
        ((¬ (V2 408 p1.toNatClampNeg) = 0) →
          Qr (some (.int 0)) V2) ∧
        (((V2 408 p1.toNatClampNeg) = 0) →
          vp_in p1 60 ∧
          CTc J mX8_in [.int p2, .int 0, .int ((V2 412 p1.toNatClampNeg) - 1)] V2 (fun r V3 =>
            ∃ b3 : Bool, r = some (.int (bI b3)) ∧
            ((b3 = false) →
              Qr (some (.int 0)) V3) ∧
            ((b3 = true) →
              Qr (some (.int 1)) V3)) Qx))) Qx) Qx)
theorem v_X8_isStep {J : Nat → Nat → Int64} (p1 : Int32) (p2 : Int32) {V : Nat → Nat → Int32} {Qr : Option Value → (Nat → Nat → Int32) → Prop} {Qx : String → (Nat → Nat → Int32) → Prop} (H : F_X8_isStep J p1 p2 V Qr Qx) : CTc J mX8_isStep [.ref 405, .int p1, .int p2] V Qr Qx := by
  refine ctc_of (M := (T0 J, V)) pX8_isStep (fun _ _ => rfl) (Nat.le_of_ble_eq_true rfl) ?_
  unfold F_X8_isStep at H
  show WPc J mX8_isStep Qr Qx 0 [(0, .ref 405), (1, .int p1), (2, .int p2)] [] V 0 0
  refine s_aload_n dX8_isStep_0 rfl ?_
  refine t_getI fl_8_166 dX8_isStep_1 ob_405 rfl ?_
  refine s_if_eq (tgt := 50) dX8_isStep_4 (by decide) (fun c => ?_) (fun c => ?_)
  · have H := H.1 c
    refine s_iconst (v := 0) dX8_isStep_50 (by decide) ?_
    exact s_iret dX8_isStep_51 (Or.inr ⟨rfl, (Or.inl rfl)⟩) ⟨rfl, H⟩
  · have H := H.2 c
    refine s_iload_n dX8_isStep_7 rfl ?_
    refine s_iconst (v := 0) dX8_isStep_8 (by decide) ?_
    refine s_aload_n dX8_isStep_9 rfl ?_
    refine t_cV (h := 405) (As := []) (st := [.int 0, .int p1]) iv_8_157 dX8_isStep_10 ⟨by decide, by decide⟩ rfl (Nat.le_of_ble_eq_true rfl) (by decide) (by decide) rfl ob_405 H (fun r V1 H => ?_)
    obtain ⟨r1, rfl, H⟩ := H
    refine s_iconst (v := 1) dX8_isStep_13 (by decide) ?_
    refine s_isub dX8_isStep_14 ?_
    refine t_cS (As := [.int p1, .int 0, .int (r1 - 1)]) (st := []) iv_8_81 dX8_isStep_15 ⟨by decide, by decide⟩ rfl (Nat.le_of_ble_eq_true rfl) (by decide) (by decide) rfl H (fun r V2 H => ?_)
    obtain ⟨b2, rfl, H⟩ := H
    refine s_if_eq (tgt := 50) dX8_isStep_18 (by decide) (fun c => ?_) (fun c => ?_)
    · have H := H.1 (bI_f c)
      refine s_iconst (v := 0) dX8_isStep_50 (by decide) ?_
      exact s_iret dX8_isStep_51 (Or.inr ⟨rfl, (Or.inl rfl)⟩) ⟨rfl, H⟩
    · have H := H.2 (bI_t c)
      refine s_aload_n dX8_isStep_21 rfl ?_
      refine t_getR (r := 408) fl_8_17 dX8_isStep_22 ob_405 rfl rfl ?_
      refine s_iload_n dX8_isStep_25 rfl ?_
      refine t_iald dX8_isStep_26 ap_408 H.1 ?_
      have H := H.2
      refine s_if_ne (tgt := 50) dX8_isStep_27 (by decide) (fun c => ?_) (fun c => ?_)
      · have H := H.1 c
        refine s_iconst (v := 0) dX8_isStep_50 (by decide) ?_
        exact s_iret dX8_isStep_51 (Or.inr ⟨rfl, (Or.inl rfl)⟩) ⟨rfl, H⟩
      · have H := H.2 c
        refine s_iload_n dX8_isStep_30 rfl ?_
        refine s_iconst (v := 0) dX8_isStep_31 (by decide) ?_
        refine s_aload_n dX8_isStep_32 rfl ?_
        refine t_getR (r := 412) fl_8_29 dX8_isStep_33 ob_405 rfl rfl ?_
        refine s_iload_n dX8_isStep_36 rfl ?_
        refine t_iald dX8_isStep_37 ap_412 H.1 ?_
        have H := H.2
        refine s_iconst (v := 1) dX8_isStep_38 (by decide) ?_
        refine s_isub dX8_isStep_39 ?_
        refine t_cS (As := [.int p2, .int 0, .int ((V2 412 p1.toNatClampNeg) - 1)]) (st := []) iv_8_81 dX8_isStep_40 ⟨by decide, by decide⟩ rfl (Nat.le_of_ble_eq_true rfl) (by decide) (by decide) rfl H (fun r V3 H => ?_)
        obtain ⟨b3, rfl, H⟩ := H
        refine s_if_eq (tgt := 50) dX8_isStep_43 (by decide) (fun c => ?_) (fun c => ?_)
        · have H := H.1 (bI_f c)
          refine s_iconst (v := 0) dX8_isStep_50 (by decide) ?_
          exact s_iret dX8_isStep_51 (Or.inr ⟨rfl, (Or.inl rfl)⟩) ⟨rfl, H⟩
        · have H := H.2 (bI_t c)
          refine s_iconst (v := 1) dX8_isStep_46 (by decide) ?_
          refine s_goto (tgt := 51) dX8_isStep_47 (by decide) ?_
          exact s_iret dX8_isStep_51 (Or.inr ⟨rfl, (Or.inr rfl)⟩) ⟨rfl, H⟩

def F_X8_canBeSaid_17 (J : Nat → Nat → Int64) (p1 : Int32) (p2 : Int32) (p3 : Int32) (s0 : Int32) (V : Nat → Nat → Int32) (Qr : Option Value → (Nat → Nat → Int32) → Prop) (Qx : String → (Nat → Nat → Int32) → Prop) : Prop :=
((p3 < 3) →
  ((¬ s0 = 0) →
    Qr (some (.int 0)) V) ∧
  ((s0 = 0) →
    Qr (some (.int 1)) V)) ∧
((¬ p3 < 3) →
  ((¬ s0 = 1) →
    Qr (some (.int 0)) V) ∧
  ((s0 = 1) →
    Qr (some (.int 1)) V))
theorem v_X8_canBeSaid_17 {J : Nat → Nat → Int64} (p1 : Int32) (p2 : Int32) (p3 : Int32) {Qr : Option Value → (Nat → Nat → Int32) → Prop} {Qx : String → (Nat → Nat → Int32) → Prop} (s0 : Int32)  {V : Nat → Nat → Int32} (H : F_X8_canBeSaid_17 J p1 p2 p3  s0 V Qr Qx) : WPc J mX8_canBeSaid Qr Qx 17 [(3, .int p3)] [.int s0] V 0 0 := by
  unfold F_X8_canBeSaid_17 at H
  refine t_istore (L' := [(4, .int s0), (3, .int p3)]) dX8_canBeSaid_17 (by decide) rfl ?_
  refine s_iload dX8_canBeSaid_19 rfl ?_
  refine s_iload_n dX8_canBeSaid_21 rfl ?_
  refine s_iconst (v := 3) dX8_canBeSaid_22 (by decide) ?_
  refine s_icmp_lt (tgt := 30) dX8_canBeSaid_23 (by decide) (fun c => ?_) (fun c => ?_)
  · have H := H.1 c
    refine s_iconst (v := 0) dX8_canBeSaid_30 (by decide) ?_
    refine s_icmp_ne (tgt := 38) dX8_canBeSaid_31 (by decide) (fun c => ?_) (fun c => ?_)
    · have H := H.1 c
      refine s_iconst (v := 0) dX8_canBeSaid_38 (by decide) ?_
      exact s_iret dX8_canBeSaid_39 (Or.inr ⟨rfl, (Or.inl rfl)⟩) ⟨rfl, H⟩
    · have H := H.2 c
      refine s_iconst (v := 1) dX8_canBeSaid_34 (by decide) ?_
      refine s_goto (tgt := 39) dX8_canBeSaid_35 (by decide) ?_
      exact s_iret dX8_canBeSaid_39 (Or.inr ⟨rfl, (Or.inr rfl)⟩) ⟨rfl, H⟩
  · have H := H.2 c
    refine s_iconst (v := 1) dX8_canBeSaid_26 (by decide) ?_
    refine s_goto (tgt := 31) dX8_canBeSaid_27 (by decide) ?_
    refine s_icmp_ne (tgt := 38) dX8_canBeSaid_31 (by decide) (fun c => ?_) (fun c => ?_)
    · have H := H.1 c
      refine s_iconst (v := 0) dX8_canBeSaid_38 (by decide) ?_
      exact s_iret dX8_canBeSaid_39 (Or.inr ⟨rfl, (Or.inl rfl)⟩) ⟨rfl, H⟩
    · have H := H.2 c
      refine s_iconst (v := 1) dX8_canBeSaid_34 (by decide) ?_
      refine s_goto (tgt := 39) dX8_canBeSaid_35 (by decide) ?_
      exact s_iret dX8_canBeSaid_39 (Or.inr ⟨rfl, (Or.inr rfl)⟩) ⟨rfl, H⟩
def F_X8_canBeSaid (J : Nat → Nat → Int64) (p1 : Int32) (p2 : Int32) (p3 : Int32) (V : Nat → Nat → Int32) (Qr : Option Value → (Nat → Nat → Int32) → Prop) (Qx : String → (Nat → Nat → Int32) → Prop) : Prop :=
vp_in p1 60 ∧
((¬ p2 = ((V 412 p1.toNatClampNeg) - 1)) →
  F_X8_canBeSaid_17 J p1 p2 p3  0 V Qr Qx) ∧
((p2 = ((V 412 p1.toNatClampNeg) - 1)) →
  F_X8_canBeSaid_17 J p1 p2 p3  1 V Qr Qx)
theorem v_X8_canBeSaid {J : Nat → Nat → Int64} (p1 : Int32) (p2 : Int32) (p3 : Int32) {V : Nat → Nat → Int32} {Qr : Option Value → (Nat → Nat → Int32) → Prop} {Qx : String → (Nat → Nat → Int32) → Prop} (H : F_X8_canBeSaid J p1 p2 p3 V Qr Qx) : CTc J mX8_canBeSaid [.ref 405, .int p1, .int p2, .int p3] V Qr Qx := by
  refine ctc_of (M := (T0 J, V)) pX8_canBeSaid (fun _ _ => rfl) (Nat.le_of_ble_eq_true rfl) ?_
  unfold F_X8_canBeSaid at H
  show WPc J mX8_canBeSaid Qr Qx 0 [(0, .ref 405), (1, .int p1), (2, .int p2), (3, .int p3)] [] V 0 0
  refine s_iload_n dX8_canBeSaid_0 rfl ?_
  refine s_aload_n dX8_canBeSaid_1 rfl ?_
  refine t_getR (r := 412) fl_8_29 dX8_canBeSaid_2 ob_405 rfl rfl ?_
  refine s_iload_n dX8_canBeSaid_5 rfl ?_
  refine t_iald dX8_canBeSaid_6 ap_412 H.1 ?_
  have H := H.2
  refine s_iconst (v := 1) dX8_canBeSaid_7 (by decide) ?_
  refine s_isub dX8_canBeSaid_8 ?_
  refine s_icmp_ne (tgt := 16) dX8_canBeSaid_9 (by decide) (fun c => ?_) (fun c => ?_)
  · have H := H.1 c
    refine s_iconst (v := 0) dX8_canBeSaid_16 (by decide) ?_
    exact t_loc [3] rfl (v_X8_canBeSaid_17 p1 p2 p3    0  H)
  · have H := H.2 c
    refine s_iconst (v := 1) dX8_canBeSaid_12 (by decide) ?_
    refine s_goto (tgt := 17) dX8_canBeSaid_13 (by decide) ?_
    exact t_loc [3] rfl (v_X8_canBeSaid_17 p1 p2 p3    1  H)

def F_X8_says (J : Nat → Nat → Int64) (p1 : Int32) (p2 : Int32) (p3 : Int32) (V : Nat → Nat → Int32) (Qr : Option Value → (Nat → Nat → Int32) → Prop) (Qx : String → (Nat → Nat → Int32) → Prop) : Prop :=
vp_in p1 840 ∧
vp_in p1 840 ∧
Qr none (up2 (up2 V 413 p1.toNatClampNeg p2) 414 p1.toNatClampNeg p3)
theorem v_X8_says {J : Nat → Nat → Int64} (p1 : Int32) (p2 : Int32) (p3 : Int32) {V : Nat → Nat → Int32} {Qr : Option Value → (Nat → Nat → Int32) → Prop} {Qx : String → (Nat → Nat → Int32) → Prop} (H : F_X8_says J p1 p2 p3 V Qr Qx) : CTc J mX8_says [.ref 405, .int p1, .int p2, .int p3] V Qr Qx := by
  refine ctc_of (M := (T0 J, V)) pX8_says (fun _ _ => rfl) (Nat.le_of_ble_eq_true rfl) ?_
  unfold F_X8_says at H
  show WPc J mX8_says Qr Qx 0 [(0, .ref 405), (1, .int p1), (2, .int p2), (3, .int p3)] [] V 0 0
  refine s_aload_n dX8_says_0 rfl ?_
  refine t_getR (r := 413) fl_8_32 dX8_says_1 ob_405 rfl rfl ?_
  refine s_iload_n dX8_says_4 rfl ?_
  refine s_iload_n dX8_says_5 rfl ?_
  refine t_iast dX8_says_6 ap_413 H.1 ?_
  have H := H.2
  refine s_aload_n dX8_says_7 rfl ?_
  refine t_getR (r := 414) fl_8_35 dX8_says_8 ob_405 rfl rfl ?_
  refine s_iload_n dX8_says_11 rfl ?_
  refine s_iload_n dX8_says_12 rfl ?_
  refine t_iast dX8_says_13 ap_414 H.1 ?_
  have H := H.2
  exact s_vret dX8_says_14 rfl ⟨rfl, H⟩

def F_X8_falls (J : Nat → Nat → Int64) (p1 : Int32) (p2 : Int32) (p3 : Int32) (p4 : Int32) (V : Nat → Nat → Int32) (Qr : Option Value → (Nat → Nat → Int32) → Prop) (Qx : String → (Nat → Nat → Int32) → Prop) : Prop :=
CTc J mX8_canBeSaid [.ref 405, .int p1, .int p2, .int p3] V (fun r V1 =>
  ∃ b1 : Bool, r = some (.int (bI b1)) ∧
  ((b1 = true) →
    vp_in ((14 * p1) + p2) 840 ∧
    vp_in ((14 * p1) + p2) 840 ∧
    CTc J mX8_says [.ref 405, .int ((14 * p1) + p2), .int p3, .int p4] V1 (fun r V2 =>
      r = none ∧
      CTc J mX8_plays [.ref 405] V2 (fun r V3 =>
        ∃ r3 : Int32, r = some (.int r3) ∧
        CTc J mX8_says [.ref 405, .int ((14 * p1) + p2), .int (V1 413 ((14 * p1) + p2).toNatClampNeg), .int (V1 414 ((14 * p1) + p2).toNatClampNeg)] V3 (fun r V4 =>
          r = none ∧
          CTc J mX8_plays [.ref 405] V4 (fun r V5 =>
            ∃ r5 : Int32, r = some (.int r5) ∧
            Qr (some (.int r3)) V5) Qx) Qx) Qx) Qx) ∧
  ((b1 = false) →
    Qr (some (.int p1)) V1)) Qx
theorem v_X8_falls {J : Nat → Nat → Int64} (p1 : Int32) (p2 : Int32) (p3 : Int32) (p4 : Int32) {V : Nat → Nat → Int32} {Qr : Option Value → (Nat → Nat → Int32) → Prop} {Qx : String → (Nat → Nat → Int32) → Prop} (H : F_X8_falls J p1 p2 p3 p4 V Qr Qx) : CTc J mX8_falls [.ref 405, .int p1, .int p2, .int p3, .int p4] V Qr Qx := by
  refine ctc_of (M := (T0 J, V)) pX8_falls (fun _ _ => rfl) (Nat.le_of_ble_eq_true rfl) ?_
  unfold F_X8_falls at H
  show WPc J mX8_falls Qr Qx 0 [(0, .ref 405), (1, .int p1), (2, .int p2), (3, .int p3), (4, .int p4)] [] V 0 0
  refine s_aload_n dX8_falls_0 rfl ?_
  refine s_iload_n dX8_falls_1 rfl ?_
  refine s_iload_n dX8_falls_2 rfl ?_
  refine s_iload_n dX8_falls_3 rfl ?_
  refine t_cV (h := 405) (As := [.int p1, .int p2, .int p3]) (st := []) iv_8_195 dX8_falls_4 ⟨by decide, by decide⟩ rfl (Nat.le_of_ble_eq_true rfl) (by decide) (by decide) rfl ob_405 H (fun r V1 H => ?_)
  obtain ⟨b1, rfl, H⟩ := H
  refine s_if_ne (tgt := 12) dX8_falls_7 (by decide) (fun c => ?_) (fun c => ?_)
  · have H := H.1 (bI_t c)
    refine s_bipush (v := 14) dX8_falls_12 (by decide) ?_
    refine s_iload_n dX8_falls_14 rfl ?_
    refine s_imul dX8_falls_15 ?_
    refine s_iload_n dX8_falls_16 rfl ?_
    refine s_iadd dX8_falls_17 ?_
    refine t_istore (L' := [(5, .int ((14 * p1) + p2)), (0, .ref 405), (1, .int p1), (2, .int p2), (3, .int p3), (4, .int p4)]) dX8_falls_18 (by decide) rfl ?_
    refine s_aload_n dX8_falls_20 rfl ?_
    refine t_getR (r := 413) fl_8_32 dX8_falls_21 ob_405 rfl rfl ?_
    refine s_iload dX8_falls_24 rfl ?_
    refine t_iald dX8_falls_26 ap_413 H.1 ?_
    have H := H.2
    refine t_istore (L' := [(6, .int (V1 413 ((14 * p1) + p2).toNatClampNeg)), (5, .int ((14 * p1) + p2)), (0, .ref 405), (1, .int p1), (2, .int p2), (3, .int p3), (4, .int p4)]) dX8_falls_27 (by decide) rfl ?_
    refine s_aload_n dX8_falls_29 rfl ?_
    refine t_getR (r := 414) fl_8_35 dX8_falls_30 ob_405 rfl rfl ?_
    refine s_iload dX8_falls_33 rfl ?_
    refine t_iald dX8_falls_35 ap_414 H.1 ?_
    have H := H.2
    refine t_istore (L' := [(7, .int (V1 414 ((14 * p1) + p2).toNatClampNeg)), (6, .int (V1 413 ((14 * p1) + p2).toNatClampNeg)), (5, .int ((14 * p1) + p2)), (0, .ref 405), (1, .int p1), (2, .int p2), (3, .int p3), (4, .int p4)]) dX8_falls_36 (by decide) rfl ?_
    refine s_aload_n dX8_falls_38 rfl ?_
    refine s_iload dX8_falls_39 rfl ?_
    refine s_iload_n dX8_falls_41 rfl ?_
    refine s_iload dX8_falls_42 rfl ?_
    refine t_cV (h := 405) (As := [.int ((14 * p1) + p2), .int p3, .int p4]) (st := []) iv_8_198 dX8_falls_44 ⟨by decide, by decide⟩ rfl (Nat.le_of_ble_eq_true rfl) (by decide) (by decide) rfl ob_405 H (fun r V2 H => ?_)
    obtain ⟨rfl, H⟩ := H
    refine s_aload_n dX8_falls_47 rfl ?_
    refine t_cV (h := 405) (As := []) (st := []) iv_8_201 dX8_falls_48 ⟨by decide, by decide⟩ rfl (Nat.le_of_ble_eq_true rfl) (by decide) (by decide) rfl ob_405 H (fun r V3 H => ?_)
    obtain ⟨r3, rfl, H⟩ := H
    refine t_istore (L' := [(8, .int r3), (7, .int (V1 414 ((14 * p1) + p2).toNatClampNeg)), (6, .int (V1 413 ((14 * p1) + p2).toNatClampNeg)), (5, .int ((14 * p1) + p2)), (0, .ref 405), (1, .int p1), (2, .int p2), (3, .int p3), (4, .int p4)]) dX8_falls_51 (by decide) rfl ?_
    refine s_aload_n dX8_falls_53 rfl ?_
    refine s_iload dX8_falls_54 rfl ?_
    refine s_iload dX8_falls_56 rfl ?_
    refine s_iload dX8_falls_58 rfl ?_
    refine t_cV (h := 405) (As := [.int ((14 * p1) + p2), .int (V1 413 ((14 * p1) + p2).toNatClampNeg), .int (V1 414 ((14 * p1) + p2).toNatClampNeg)]) (st := []) iv_8_198 dX8_falls_60 ⟨by decide, by decide⟩ rfl (Nat.le_of_ble_eq_true rfl) (by decide) (by decide) rfl ob_405 H (fun r V4 H => ?_)
    obtain ⟨rfl, H⟩ := H
    refine s_aload_n dX8_falls_63 rfl ?_
    refine t_cV (h := 405) (As := []) (st := []) iv_8_201 dX8_falls_64 ⟨by decide, by decide⟩ rfl (Nat.le_of_ble_eq_true rfl) (by decide) (by decide) rfl ob_405 H (fun r V5 H => ?_)
    obtain ⟨r5, rfl, H⟩ := H
    refine t_istore (L' := [(9, .int r5), (8, .int r3), (7, .int (V1 414 ((14 * p1) + p2).toNatClampNeg)), (6, .int (V1 413 ((14 * p1) + p2).toNatClampNeg)), (5, .int ((14 * p1) + p2)), (0, .ref 405), (1, .int p1), (2, .int p2), (3, .int p3), (4, .int p4)]) dX8_falls_67 (by decide) rfl ?_
    refine s_iload dX8_falls_69 rfl ?_
    exact s_iret dX8_falls_71 (Or.inl rfl) ⟨rfl, H⟩
  · have H := H.2 (bI_f c)
    refine s_iload_n dX8_falls_10 rfl ?_
    exact s_iret dX8_falls_11 (Or.inl rfl) ⟨rfl, H⟩

def F_X8_review_104 (J : Nat → Nat → Int64) (p1 : Int32) (p2 : Int32) (p3 : Int32) (p4 : Int32) (p5 : Int32) (s0 : Int32) (V : Nat → Nat → Int32) (Qr : Option Value → (Nat → Nat → Int32) → Prop) (Qx : String → (Nat → Nat → Int32) → Prop) : Prop :=
CTc J mX8_holds [.ref 405, .int s0] V (fun r V1 =>
  ∃ b1 : Bool, r = some (.int (bI b1)) ∧
  ((b1 = true) →
    vp_in (104 + p1) 110 ∧
    vp_in (105 - p1) 110 ∧
    CTc J mX8_says [.ref 405, .int ((14 * p2) + p3), .int p4, .int p5] V1 (fun r V2 =>
      r = none ∧
      CTc J mX8_plays [.ref 405] V2 (fun r V3 =>
        ∃ r3 : Int32, r = some (.int r3) ∧
        vp_in (104 + p1) 110 ∧
        vp_in (105 - p1) 110 ∧
        ((0 < (((V3 416 (104 + p1).toNatClampNeg) - (V3 416 (105 - p1).toNatClampNeg)) - ((V1 416 (104 + p1).toNatClampNeg) - (V1 416 (105 - p1).toNatClampNeg)))) →
          vp_in p1 2 ∧
          Qr (some (.int (((V3 416 (104 + p1).toNatClampNeg) - (V3 416 (105 - p1).toNatClampNeg)) - ((V1 416 (104 + p1).toNatClampNeg) - (V1 416 (105 - p1).toNatClampNeg))))) (up2 V3 407 p1.toNatClampNeg 0)) ∧
        ((¬ 0 < (((V3 416 (104 + p1).toNatClampNeg) - (V3 416 (105 - p1).toNatClampNeg)) - ((V1 416 (104 + p1).toNatClampNeg) - (V1 416 (105 - p1).toNatClampNeg)))) →
          vp_in p1 2 ∧
          Qr (some (.int (((V3 416 (104 + p1).toNatClampNeg) - (V3 416 (105 - p1).toNatClampNeg)) - ((V1 416 (104 + p1).toNatClampNeg) - (V1 416 (105 - p1).toNatClampNeg))))) (up2 V3 407 p1.toNatClampNeg 1))) Qx) Qx) ∧
  ((b1 = false) →
    Qr (some (.int 0)) V1)) Qx
theorem v_X8_review_104 {J : Nat → Nat → Int64} (p1 : Int32) (p2 : Int32) (p3 : Int32) (p4 : Int32) (p5 : Int32) {Qr : Option Value → (Nat → Nat → Int32) → Prop} {Qx : String → (Nat → Nat → Int32) → Prop} (s0 : Int32)  {V : Nat → Nat → Int32} (H : F_X8_review_104 J p1 p2 p3 p4 p5  s0 V Qr Qx) : WPc J mX8_review Qr Qx 104 [(0, .ref 405), (1, .int p1), (2, .int p2), (3, .int p3), (4, .int p4), (5, .int p5)] [.int s0, .ref 405] V 0 0 := by
  unfold F_X8_review_104 at H
  refine t_cV (h := 405) (As := [.int s0]) (st := []) iv_8_169 dX8_review_104 ⟨by decide, by decide⟩ rfl (Nat.le_of_ble_eq_true rfl) (by decide) (by decide) rfl ob_405 H (fun r V1 H => ?_)
  obtain ⟨b1, rfl, H⟩ := H
  refine s_if_ne (tgt := 112) dX8_review_107 (by decide) (fun c => ?_) (fun c => ?_)
  · have H := H.1 (bI_t c)
    refine s_aload_n dX8_review_112 rfl ?_
    refine t_getR (r := 416) fl_8_41 dX8_review_113 ob_405 rfl rfl ?_
    refine s_bipush (v := 104) dX8_review_116 (by decide) ?_
    refine s_iload_n dX8_review_118 rfl ?_
    refine s_iadd dX8_review_119 ?_
    refine t_iald dX8_review_120 ap_416 H.1 ?_
    have H := H.2
    refine s_aload_n dX8_review_121 rfl ?_
    refine t_getR (r := 416) fl_8_41 dX8_review_122 ob_405 rfl rfl ?_
    refine s_bipush (v := 105) dX8_review_125 (by decide) ?_
    refine s_iload_n dX8_review_127 rfl ?_
    refine s_isub dX8_review_128 ?_
    refine t_iald dX8_review_129 ap_416 H.1 ?_
    have H := H.2
    refine s_isub dX8_review_130 ?_
    refine t_istore (L' := [(8, .int ((V1 416 (104 + p1).toNatClampNeg) - (V1 416 (105 - p1).toNatClampNeg))), (0, .ref 405), (1, .int p1), (2, .int p2), (3, .int p3), (4, .int p4), (5, .int p5)]) dX8_review_131 (by decide) rfl ?_
    refine s_aload_n dX8_review_133 rfl ?_
    refine s_bipush (v := 14) dX8_review_134 (by decide) ?_
    refine s_iload_n dX8_review_136 rfl ?_
    refine s_imul dX8_review_137 ?_
    refine s_iload_n dX8_review_138 rfl ?_
    refine s_iadd dX8_review_139 ?_
    refine s_iload dX8_review_140 rfl ?_
    refine s_iload dX8_review_142 rfl ?_
    refine t_cV (h := 405) (As := [.int ((14 * p2) + p3), .int p4, .int p5]) (st := []) iv_8_198 dX8_review_144 ⟨by decide, by decide⟩ rfl (Nat.le_of_ble_eq_true rfl) (by decide) (by decide) rfl ob_405 H (fun r V2 H => ?_)
    obtain ⟨rfl, H⟩ := H
    refine s_aload_n dX8_review_147 rfl ?_
    refine t_cV (h := 405) (As := []) (st := []) iv_8_201 dX8_review_148 ⟨by decide, by decide⟩ rfl (Nat.le_of_ble_eq_true rfl) (by decide) (by decide) rfl ob_405 H (fun r V3 H => ?_)
    obtain ⟨r3, rfl, H⟩ := H
    refine t_istore (L' := [(9, .int r3), (8, .int ((V1 416 (104 + p1).toNatClampNeg) - (V1 416 (105 - p1).toNatClampNeg))), (0, .ref 405), (1, .int p1), (2, .int p2), (3, .int p3), (4, .int p4), (5, .int p5)]) dX8_review_151 (by decide) rfl ?_
    refine s_aload_n dX8_review_153 rfl ?_
    refine t_getR (r := 416) fl_8_41 dX8_review_154 ob_405 rfl rfl ?_
    refine s_bipush (v := 104) dX8_review_157 (by decide) ?_
    refine s_iload_n dX8_review_159 rfl ?_
    refine s_iadd dX8_review_160 ?_
    refine t_iald dX8_review_161 ap_416 H.1 ?_
    have H := H.2
    refine s_aload_n dX8_review_162 rfl ?_
    refine t_getR (r := 416) fl_8_41 dX8_review_163 ob_405 rfl rfl ?_
    refine s_bipush (v := 105) dX8_review_166 (by decide) ?_
    refine s_iload_n dX8_review_168 rfl ?_
    refine s_isub dX8_review_169 ?_
    refine t_iald dX8_review_170 ap_416 H.1 ?_
    have H := H.2
    refine s_isub dX8_review_171 ?_
    refine s_iload dX8_review_172 rfl ?_
    refine s_isub dX8_review_174 ?_
    refine t_istore (L' := [(10, .int (((V3 416 (104 + p1).toNatClampNeg) - (V3 416 (105 - p1).toNatClampNeg)) - ((V1 416 (104 + p1).toNatClampNeg) - (V1 416 (105 - p1).toNatClampNeg)))), (9, .int r3), (8, .int ((V1 416 (104 + p1).toNatClampNeg) - (V1 416 (105 - p1).toNatClampNeg))), (0, .ref 405), (1, .int p1), (2, .int p2), (3, .int p3), (4, .int p4), (5, .int p5)]) dX8_review_175 (by decide) rfl ?_
    refine s_aload_n dX8_review_177 rfl ?_
    refine t_getR (r := 407) fl_8_13 dX8_review_178 ob_405 rfl rfl ?_
    refine s_iload_n dX8_review_181 rfl ?_
    refine s_iload dX8_review_182 rfl ?_
    refine s_if_gt (tgt := 191) dX8_review_184 (by decide) (fun c => ?_) (fun c => ?_)
    · have H := H.1 c
      refine s_iconst (v := 0) dX8_review_191 (by decide) ?_
      refine t_zast dX8_review_192 H.1 (Or.inl rfl) ?_
      have H := H.2
      refine s_iload dX8_review_193 rfl ?_
      exact s_iret dX8_review_195 (Or.inl rfl) ⟨rfl, H⟩
    · have H := H.2 c
      refine s_iconst (v := 1) dX8_review_187 (by decide) ?_
      refine s_goto (tgt := 192) dX8_review_188 (by decide) ?_
      refine t_zast dX8_review_192 H.1 (Or.inr rfl) ?_
      have H := H.2
      refine s_iload dX8_review_193 rfl ?_
      exact s_iret dX8_review_195 (Or.inl rfl) ⟨rfl, H⟩
  · have H := H.2 (bI_f c)
    refine s_iconst (v := 0) dX8_review_110 (by decide) ?_
    exact s_iret dX8_review_111 (Or.inl rfl) ⟨rfl, H⟩
def F_X8_review_99 (J : Nat → Nat → Int64) (p1 : Int32) (p2 : Int32) (p3 : Int32) (p4 : Int32) (p5 : Int32)  (V : Nat → Nat → Int32) (Qr : Option Value → (Nat → Nat → Int32) → Prop) (Qx : String → (Nat → Nat → Int32) → Prop) : Prop :=
F_X8_review_104 J p1 p2 p3 p4 p5  3 V Qr Qx
theorem v_X8_review_99 {J : Nat → Nat → Int64} (p1 : Int32) (p2 : Int32) (p3 : Int32) (p4 : Int32) (p5 : Int32) {Qr : Option Value → (Nat → Nat → Int32) → Prop} {Qx : String → (Nat → Nat → Int32) → Prop}   {V : Nat → Nat → Int32} (H : F_X8_review_99 J p1 p2 p3 p4 p5   V Qr Qx) : WPc J mX8_review Qr Qx 99 [(0, .ref 405), (1, .int p1), (2, .int p2), (3, .int p3), (4, .int p4), (5, .int p5)] [.ref 405] V 0 0 := by
  unfold F_X8_review_99 at H
  refine s_iconst (v := 3) dX8_review_99 (by decide) ?_
  refine s_goto (tgt := 104) dX8_review_100 (by decide) ?_
  exact t_loc [0, 1, 2, 3, 4, 5] rfl (v_X8_review_104 p1 p2 p3 p4 p5    3  H)
def F_X8_review_48 (J : Nat → Nat → Int64) (p1 : Int32) (p2 : Int32) (p3 : Int32) (p4 : Int32) (p5 : Int32) (x6 : Int32) (s0 : Int32) (V : Nat → Nat → Int32) (Qr : Option Value → (Nat → Nat → Int32) → Prop) (Qx : String → (Nat → Nat → Int32) → Prop) : Prop :=
((¬ x6 = 0) →
  ((¬ s0 = 0) →
    ((¬ (V 405 3) = 0) →
      F_X8_review_99 J p1 p2 p3 p4 p5   V Qr Qx) ∧
    (((V 405 3) = 0) →
      vp_in p1 2 ∧
      ((¬ (V 407 p1.toNatClampNeg) = 0) →
        F_X8_review_99 J p1 p2 p3 p4 p5   V Qr Qx) ∧
      (((V 407 p1.toNatClampNeg) = 0) →
        CTc J mX8_falls [.ref 405, .int p2, .int p3, .int p4, .int p5] V (fun r V1 =>
          ∃ r1 : Int32, r = some (.int r1) ∧
          ((r1 = (-1)) →
            F_X8_review_104 J p1 p2 p3 p4 p5  0 V1 Qr Qx) ∧
          ((¬ r1 = (-1)) →
            F_X8_review_99 J p1 p2 p3 p4 p5   V1 Qr Qx)) Qx))) ∧
  ((s0 = 0) →
    F_X8_review_104 J p1 p2 p3 p4 p5  2 V Qr Qx)) ∧
((x6 = 0) →
  F_X8_review_104 J p1 p2 p3 p4 p5  1 V Qr Qx)
theorem v_X8_review_48 {J : Nat → Nat → Int64} (p1 : Int32) (p2 : Int32) (p3 : Int32) (p4 : Int32) (p5 : Int32) {Qr : Option Value → (Nat → Nat → Int32) → Prop} {Qx : String → (Nat → Nat → Int32) → Prop} (x6 : Int32) (s0 : Int32)  {V : Nat → Nat → Int32} (H : F_X8_review_48 J p1 p2 p3 p4 p5  x6 s0 V Qr Qx) : WPc J mX8_review Qr Qx 48 [(0, .ref 405), (1, .int p1), (2, .int p2), (3, .int p3), (4, .int p4), (5, .int p5), (6, .int x6)] [.int s0] V 0 0 := by
  unfold F_X8_review_48 at H
  refine t_istore (L' := [(7, .int s0), (0, .ref 405), (1, .int p1), (2, .int p2), (3, .int p3), (4, .int p4), (5, .int p5), (6, .int x6)]) dX8_review_48 (by decide) rfl ?_
  refine s_aload_n dX8_review_50 rfl ?_
  refine s_iload dX8_review_51 rfl ?_
  refine s_if_ne (tgt := 60) dX8_review_53 (by decide) (fun c => ?_) (fun c => ?_)
  · have H := H.1 c
    refine s_iload dX8_review_60 rfl ?_
    refine s_if_ne (tgt := 69) dX8_review_62 (by decide) (fun c => ?_) (fun c => ?_)
    · have H := H.1 c
      refine s_aload_n dX8_review_69 rfl ?_
      refine t_getI fl_8_147 dX8_review_70 ob_405 rfl ?_
      refine s_if_ne (tgt := 99) dX8_review_73 (by decide) (fun c => ?_) (fun c => ?_)
      · have H := H.1 c
        exact t_loc [1, 2, 3, 4, 5, 6] rfl (v_X8_review_99 p1 p2 p3 p4 p5      H)
      · have H := H.2 c
        refine s_aload_n dX8_review_76 rfl ?_
        refine t_getR (r := 407) fl_8_13 dX8_review_77 ob_405 rfl rfl ?_
        refine s_iload_n dX8_review_80 rfl ?_
        refine t_zald dX8_review_81 H.1 ?_
        have H := H.2
        refine s_if_ne (tgt := 99) dX8_review_82 (by decide) (fun c => ?_) (fun c => ?_)
        · have H := H.1 c
          exact t_loc [1, 2, 3, 4, 5, 6] rfl (v_X8_review_99 p1 p2 p3 p4 p5      H)
        · have H := H.2 c
          refine s_aload_n dX8_review_85 rfl ?_
          refine s_iload_n dX8_review_86 rfl ?_
          refine s_iload_n dX8_review_87 rfl ?_
          refine s_iload dX8_review_88 rfl ?_
          refine s_iload dX8_review_90 rfl ?_
          refine t_cV (h := 405) (As := [.int p2, .int p3, .int p4, .int p5]) (st := [.ref 405]) iv_8_207 dX8_review_92 ⟨by decide, by decide⟩ rfl (Nat.le_of_ble_eq_true rfl) (by decide) (by decide) rfl ob_405 H (fun r V1 H => ?_)
          obtain ⟨r1, rfl, H⟩ := H
          refine s_iconst (v := (-1)) dX8_review_95 (by decide) ?_
          refine s_icmp_eq (tgt := 103) dX8_review_96 (by decide) (fun c => ?_) (fun c => ?_)
          · have H := H.1 c
            refine s_iconst (v := 0) dX8_review_103 (by decide) ?_
            exact t_loc [1, 2, 3, 4, 5, 6] rfl (v_X8_review_104 p1 p2 p3 p4 p5    0  H)
          · have H := H.2 c
            exact t_loc [1, 2, 3, 4, 5, 6] rfl (v_X8_review_99 p1 p2 p3 p4 p5      H)
    · have H := H.2 c
      refine s_iconst (v := 2) dX8_review_65 (by decide) ?_
      refine s_goto (tgt := 104) dX8_review_66 (by decide) ?_
      exact t_loc [1, 2, 3, 4, 5, 6] rfl (v_X8_review_104 p1 p2 p3 p4 p5    2  H)
  · have H := H.2 c
    refine s_iconst (v := 1) dX8_review_56 (by decide) ?_
    refine s_goto (tgt := 104) dX8_review_57 (by decide) ?_
    exact t_loc [1, 2, 3, 4, 5, 6] rfl (v_X8_review_104 p1 p2 p3 p4 p5    1  H)
def F_X8_review_47 (J : Nat → Nat → Int64) (p1 : Int32) (p2 : Int32) (p3 : Int32) (p4 : Int32) (p5 : Int32) (x6 : Int32) (V : Nat → Nat → Int32) (Qr : Option Value → (Nat → Nat → Int32) → Prop) (Qx : String → (Nat → Nat → Int32) → Prop) : Prop :=
F_X8_review_48 J p1 p2 p3 p4 p5  x6 0 V Qr Qx
theorem v_X8_review_47 {J : Nat → Nat → Int64} (p1 : Int32) (p2 : Int32) (p3 : Int32) (p4 : Int32) (p5 : Int32) {Qr : Option Value → (Nat → Nat → Int32) → Prop} {Qx : String → (Nat → Nat → Int32) → Prop} (x6 : Int32)  {V : Nat → Nat → Int32} (H : F_X8_review_47 J p1 p2 p3 p4 p5  x6 V Qr Qx) : WPc J mX8_review Qr Qx 47 [(0, .ref 405), (1, .int p1), (2, .int p2), (3, .int p3), (4, .int p4), (5, .int p5), (6, .int x6)] [] V 0 0 := by
  unfold F_X8_review_47 at H
  refine s_iconst (v := 0) dX8_review_47 (by decide) ?_
  exact t_loc [0, 1, 2, 3, 4, 5, 6] rfl (v_X8_review_48 p1 p2 p3 p4 p5    x6 0  H)
def F_X8_review_21 (J : Nat → Nat → Int64) (p1 : Int32) (p2 : Int32) (p3 : Int32) (p4 : Int32) (p5 : Int32) (s0 : Int32) (V : Nat → Nat → Int32) (Qr : Option Value → (Nat → Nat → Int32) → Prop) (Qx : String → (Nat → Nat → Int32) → Prop) : Prop :=
CTc J mX8_in [.int p4, .int 0, .int 5] V (fun r V1 =>
  ∃ b1 : Bool, r = some (.int (bI b1)) ∧
  ((b1 = false) →
    F_X8_review_47 J p1 p2 p3 p4 p5  s0 V1 Qr Qx) ∧
  ((b1 = true) →
    CTc J mX8_isWho [.int p4, .int p5] V1 (fun r V2 =>
      ∃ b2 : Bool, r = some (.int (bI b2)) ∧
      ((b2 = false) →
        F_X8_review_47 J p1 p2 p3 p4 p5  s0 V2 Qr Qx) ∧
      ((b2 = true) →
        F_X8_review_48 J p1 p2 p3 p4 p5  s0 1 V2 Qr Qx)) Qx)) Qx
theorem v_X8_review_21 {J : Nat → Nat → Int64} (p1 : Int32) (p2 : Int32) (p3 : Int32) (p4 : Int32) (p5 : Int32) {Qr : Option Value → (Nat → Nat → Int32) → Prop} {Qx : String → (Nat → Nat → Int32) → Prop} (s0 : Int32)  {V : Nat → Nat → Int32} (H : F_X8_review_21 J p1 p2 p3 p4 p5  s0 V Qr Qx) : WPc J mX8_review Qr Qx 21 [(0, .ref 405), (1, .int p1), (2, .int p2), (3, .int p3), (4, .int p4), (5, .int p5)] [.int s0] V 0 0 := by
  unfold F_X8_review_21 at H
  refine t_istore (L' := [(6, .int s0), (0, .ref 405), (1, .int p1), (2, .int p2), (3, .int p3), (4, .int p4), (5, .int p5)]) dX8_review_21 (by decide) rfl ?_
  refine s_iload dX8_review_23 rfl ?_
  refine s_iconst (v := 0) dX8_review_25 (by decide) ?_
  refine s_iconst (v := 5) dX8_review_26 (by decide) ?_
  refine t_cS (As := [.int p4, .int 0, .int 5]) (st := []) iv_8_81 dX8_review_27 ⟨by decide, by decide⟩ rfl (Nat.le_of_ble_eq_true rfl) (by decide) (by decide) rfl H (fun r V1 H => ?_)
  obtain ⟨b1, rfl, H⟩ := H
  refine s_if_eq (tgt := 47) dX8_review_30 (by decide) (fun c => ?_) (fun c => ?_)
  · have H := H.1 (bI_f c)
    exact t_loc [1, 2, 3, 4, 5, 6, 0] rfl (v_X8_review_47 p1 p2 p3 p4 p5    s0  H)
  · have H := H.2 (bI_t c)
    refine s_iload dX8_review_33 rfl ?_
    refine s_iload dX8_review_35 rfl ?_
    refine t_cS (As := [.int p4, .int p5]) (st := []) iv_8_186 dX8_review_37 ⟨by decide, by decide⟩ rfl (Nat.le_of_ble_eq_true rfl) (by decide) (by decide) rfl H (fun r V2 H => ?_)
    obtain ⟨b2, rfl, H⟩ := H
    refine s_if_eq (tgt := 47) dX8_review_40 (by decide) (fun c => ?_) (fun c => ?_)
    · have H := H.1 (bI_f c)
      exact t_loc [1, 2, 3, 4, 5, 6, 0] rfl (v_X8_review_47 p1 p2 p3 p4 p5    s0  H)
    · have H := H.2 (bI_t c)
      refine s_iconst (v := 1) dX8_review_43 (by decide) ?_
      refine s_goto (tgt := 48) dX8_review_44 (by decide) ?_
      exact t_loc [1, 2, 3, 4, 5, 6, 0] rfl (v_X8_review_48 p1 p2 p3 p4 p5    s0 1  H)
def F_X8_review_20 (J : Nat → Nat → Int64) (p1 : Int32) (p2 : Int32) (p3 : Int32) (p4 : Int32) (p5 : Int32)  (V : Nat → Nat → Int32) (Qr : Option Value → (Nat → Nat → Int32) → Prop) (Qx : String → (Nat → Nat → Int32) → Prop) : Prop :=
F_X8_review_21 J p1 p2 p3 p4 p5  0 V Qr Qx
theorem v_X8_review_20 {J : Nat → Nat → Int64} (p1 : Int32) (p2 : Int32) (p3 : Int32) (p4 : Int32) (p5 : Int32) {Qr : Option Value → (Nat → Nat → Int32) → Prop} {Qx : String → (Nat → Nat → Int32) → Prop}   {V : Nat → Nat → Int32} (H : F_X8_review_20 J p1 p2 p3 p4 p5   V Qr Qx) : WPc J mX8_review Qr Qx 20 [(0, .ref 405), (1, .int p1), (2, .int p2), (3, .int p3), (4, .int p4), (5, .int p5)] [] V 0 0 := by
  unfold F_X8_review_20 at H
  refine s_iconst (v := 0) dX8_review_20 (by decide) ?_
  exact t_loc [0, 1, 2, 3, 4, 5] rfl (v_X8_review_21 p1 p2 p3 p4 p5    0  H)
def F_X8_review (J : Nat → Nat → Int64) (p1 : Int32) (p2 : Int32) (p3 : Int32) (p4 : Int32) (p5 : Int32) (V : Nat → Nat → Int32) (Qr : Option Value → (Nat → Nat → Int32) → Prop) (Qx : String → (Nat → Nat → Int32) → Prop) : Prop :=
CTc J mX8_isSide [.int p1] V (fun r V1 =>
  ∃ b1 : Bool, r = some (.int (bI b1)) ∧
  ((b1 = false) →
    F_X8_review_20 J p1 p2 p3 p4 p5   V1 Qr Qx) ∧
  ((b1 = true) →
    CTc J mX8_isStep [.ref 405, .int p2, .int p3] V1 (fun r V2 =>
      ∃ b2 : Bool, r = some (.int (bI b2)) ∧
      ((b2 = false) →
        F_X8_review_20 J p1 p2 p3 p4 p5   V2 Qr Qx) ∧
      ((b2 = true) →
        F_X8_review_21 J p1 p2 p3 p4 p5  1 V2 Qr Qx)) Qx)) Qx
theorem v_X8_review {J : Nat → Nat → Int64} (p1 : Int32) (p2 : Int32) (p3 : Int32) (p4 : Int32) (p5 : Int32) {V : Nat → Nat → Int32} {Qr : Option Value → (Nat → Nat → Int32) → Prop} {Qx : String → (Nat → Nat → Int32) → Prop} (H : F_X8_review J p1 p2 p3 p4 p5 V Qr Qx) : CTc J mX8_review [.ref 405, .int p1, .int p2, .int p3, .int p4, .int p5] V Qr Qx := by
  refine ctc_of (M := (T0 J, V)) pX8_review (fun _ _ => rfl) (Nat.le_of_ble_eq_true rfl) ?_
  unfold F_X8_review at H
  show WPc J mX8_review Qr Qx 0 [(0, .ref 405), (1, .int p1), (2, .int p2), (3, .int p3), (4, .int p4), (5, .int p5)] [] V 0 0
  refine s_iload_n dX8_review_0 rfl ?_
  refine t_cS (As := [.int p1]) (st := []) iv_8_192 dX8_review_1 ⟨by decide, by decide⟩ rfl (Nat.le_of_ble_eq_true rfl) (by decide) (by decide) rfl H (fun r V1 H => ?_)
  obtain ⟨b1, rfl, H⟩ := H
  refine s_if_eq (tgt := 20) dX8_review_4 (by decide) (fun c => ?_) (fun c => ?_)
  · have H := H.1 (bI_f c)
    exact t_loc [0, 1, 2, 3, 4, 5] rfl (v_X8_review_20 p1 p2 p3 p4 p5      H)
  · have H := H.2 (bI_t c)
    refine s_aload_n dX8_review_7 rfl ?_
    refine s_iload_n dX8_review_8 rfl ?_
    refine s_iload_n dX8_review_9 rfl ?_
    refine t_cV (h := 405) (As := [.int p2, .int p3]) (st := []) iv_8_204 dX8_review_10 ⟨by decide, by decide⟩ rfl (Nat.le_of_ble_eq_true rfl) (by decide) (by decide) rfl ob_405 H (fun r V2 H => ?_)
    obtain ⟨b2, rfl, H⟩ := H
    refine s_if_eq (tgt := 20) dX8_review_13 (by decide) (fun c => ?_) (fun c => ?_)
    · have H := H.1 (bI_f c)
      exact t_loc [0, 1, 2, 3, 4, 5] rfl (v_X8_review_20 p1 p2 p3 p4 p5      H)
    · have H := H.2 (bI_t c)
      refine s_iconst (v := 1) dX8_review_16 (by decide) ?_
      refine s_goto (tgt := 21) dX8_review_17 (by decide) ?_
      exact t_loc [0, 1, 2, 3, 4, 5] rfl (v_X8_review_21 p1 p2 p3 p4 p5    1  H)

def F_X8_wouldFall_49 (J : Nat → Nat → Int64) (p1 : Int32) (p2 : Int32) (p3 : Int32) (p4 : Int32) (s0 : Int32) (V : Nat → Nat → Int32) (Qr : Option Value → (Nat → Nat → Int32) → Prop) (Qx : String → (Nat → Nat → Int32) → Prop) : Prop :=
CTc J mX8_holds [.ref 405, .int s0] V (fun r V1 =>
  ∃ b1 : Bool, r = some (.int (bI b1)) ∧
  ((b1 = true) →
    CTc J mX8_falls [.ref 405, .int p1, .int p2, .int p3, .int p4] V1 (fun r V2 =>
      ∃ r2 : Int32, r = some (.int r2) ∧
      Qr (some (.int r2)) V2) Qx) ∧
  ((b1 = false) →
    Qr (some (.int 0)) V1)) Qx
theorem v_X8_wouldFall_49 {J : Nat → Nat → Int64} (p1 : Int32) (p2 : Int32) (p3 : Int32) (p4 : Int32) {Qr : Option Value → (Nat → Nat → Int32) → Prop} {Qx : String → (Nat → Nat → Int32) → Prop} (s0 : Int32)  {V : Nat → Nat → Int32} (H : F_X8_wouldFall_49 J p1 p2 p3 p4  s0 V Qr Qx) : WPc J mX8_wouldFall Qr Qx 49 [(0, .ref 405), (1, .int p1), (2, .int p2), (3, .int p3), (4, .int p4)] [.int s0, .ref 405] V 0 0 := by
  unfold F_X8_wouldFall_49 at H
  refine t_cV (h := 405) (As := [.int s0]) (st := []) iv_8_169 dX8_wouldFall_49 ⟨by decide, by decide⟩ rfl (Nat.le_of_ble_eq_true rfl) (by decide) (by decide) rfl ob_405 H (fun r V1 H => ?_)
  obtain ⟨b1, rfl, H⟩ := H
  refine s_if_ne (tgt := 57) dX8_wouldFall_52 (by decide) (fun c => ?_) (fun c => ?_)
  · have H := H.1 (bI_t c)
    refine s_aload_n dX8_wouldFall_57 rfl ?_
    refine s_iload_n dX8_wouldFall_58 rfl ?_
    refine s_iload_n dX8_wouldFall_59 rfl ?_
    refine s_iload_n dX8_wouldFall_60 rfl ?_
    refine s_iload dX8_wouldFall_61 rfl ?_
    refine t_cV (h := 405) (As := [.int p1, .int p2, .int p3, .int p4]) (st := []) iv_8_207 dX8_wouldFall_63 ⟨by decide, by decide⟩ rfl (Nat.le_of_ble_eq_true rfl) (by decide) (by decide) rfl ob_405 H (fun r V2 H => ?_)
    obtain ⟨r2, rfl, H⟩ := H
    exact s_iret dX8_wouldFall_66 (Or.inl rfl) ⟨rfl, H⟩
  · have H := H.2 (bI_f c)
    refine s_iconst (v := 0) dX8_wouldFall_55 (by decide) ?_
    exact s_iret dX8_wouldFall_56 (Or.inl rfl) ⟨rfl, H⟩
def F_X8_wouldFall_23 (J : Nat → Nat → Int64) (p1 : Int32) (p2 : Int32) (p3 : Int32) (p4 : Int32) (s0 : Int32) (V : Nat → Nat → Int32) (Qr : Option Value → (Nat → Nat → Int32) → Prop) (Qx : String → (Nat → Nat → Int32) → Prop) : Prop :=
CTc J mX8_isStep [.ref 405, .int p1, .int p2] V (fun r V1 =>
  ∃ b1 : Bool, r = some (.int (bI b1)) ∧
  ((b1 = true) →
    ((s0 = 0) →
      F_X8_wouldFall_49 J p1 p2 p3 p4  2 V1 Qr Qx) ∧
    ((¬ s0 = 0) →
      F_X8_wouldFall_49 J p1 p2 p3 p4  0 V1 Qr Qx)) ∧
  ((b1 = false) →
    F_X8_wouldFall_49 J p1 p2 p3 p4  1 V1 Qr Qx)) Qx
theorem v_X8_wouldFall_23 {J : Nat → Nat → Int64} (p1 : Int32) (p2 : Int32) (p3 : Int32) (p4 : Int32) {Qr : Option Value → (Nat → Nat → Int32) → Prop} {Qx : String → (Nat → Nat → Int32) → Prop} (s0 : Int32)  {V : Nat → Nat → Int32} (H : F_X8_wouldFall_23 J p1 p2 p3 p4  s0 V Qr Qx) : WPc J mX8_wouldFall Qr Qx 23 [(0, .ref 405), (1, .int p1), (2, .int p2), (3, .int p3), (4, .int p4)] [.int s0] V 0 0 := by
  unfold F_X8_wouldFall_23 at H
  refine t_istore (L' := [(5, .int s0), (0, .ref 405), (1, .int p1), (2, .int p2), (3, .int p3), (4, .int p4)]) dX8_wouldFall_23 (by decide) rfl ?_
  refine s_aload_n dX8_wouldFall_25 rfl ?_
  refine s_aload_n dX8_wouldFall_26 rfl ?_
  refine s_iload_n dX8_wouldFall_27 rfl ?_
  refine s_iload_n dX8_wouldFall_28 rfl ?_
  refine t_cV (h := 405) (As := [.int p1, .int p2]) (st := [.ref 405]) iv_8_204 dX8_wouldFall_29 ⟨by decide, by decide⟩ rfl (Nat.le_of_ble_eq_true rfl) (by decide) (by decide) rfl ob_405 H (fun r V1 H => ?_)
  obtain ⟨b1, rfl, H⟩ := H
  refine s_if_ne (tgt := 39) dX8_wouldFall_32 (by decide) (fun c => ?_) (fun c => ?_)
  · have H := H.1 (bI_t c)
    refine s_iload dX8_wouldFall_39 rfl ?_
    refine s_if_eq (tgt := 48) dX8_wouldFall_41 (by decide) (fun c => ?_) (fun c => ?_)
    · have H := H.1 c
      refine s_iconst (v := 2) dX8_wouldFall_48 (by decide) ?_
      exact t_loc [1, 2, 3, 4, 5] rfl (v_X8_wouldFall_49 p1 p2 p3 p4    2  H)
    · have H := H.2 c
      refine s_iconst (v := 0) dX8_wouldFall_44 (by decide) ?_
      refine s_goto (tgt := 49) dX8_wouldFall_45 (by decide) ?_
      exact t_loc [1, 2, 3, 4, 5] rfl (v_X8_wouldFall_49 p1 p2 p3 p4    0  H)
  · have H := H.2 (bI_f c)
    refine s_iconst (v := 1) dX8_wouldFall_35 (by decide) ?_
    refine s_goto (tgt := 49) dX8_wouldFall_36 (by decide) ?_
    exact t_loc [1, 2, 3, 4, 5] rfl (v_X8_wouldFall_49 p1 p2 p3 p4    1  H)
def F_X8_wouldFall_22 (J : Nat → Nat → Int64) (p1 : Int32) (p2 : Int32) (p3 : Int32) (p4 : Int32)  (V : Nat → Nat → Int32) (Qr : Option Value → (Nat → Nat → Int32) → Prop) (Qx : String → (Nat → Nat → Int32) → Prop) : Prop :=
F_X8_wouldFall_23 J p1 p2 p3 p4  0 V Qr Qx
theorem v_X8_wouldFall_22 {J : Nat → Nat → Int64} (p1 : Int32) (p2 : Int32) (p3 : Int32) (p4 : Int32) {Qr : Option Value → (Nat → Nat → Int32) → Prop} {Qx : String → (Nat → Nat → Int32) → Prop}   {V : Nat → Nat → Int32} (H : F_X8_wouldFall_22 J p1 p2 p3 p4   V Qr Qx) : WPc J mX8_wouldFall Qr Qx 22 [(0, .ref 405), (1, .int p1), (2, .int p2), (3, .int p3), (4, .int p4)] [] V 0 0 := by
  unfold F_X8_wouldFall_22 at H
  refine s_iconst (v := 0) dX8_wouldFall_22 (by decide) ?_
  exact t_loc [0, 1, 2, 3, 4] rfl (v_X8_wouldFall_23 p1 p2 p3 p4    0  H)
def F_X8_wouldFall (J : Nat → Nat → Int64) (p1 : Int32) (p2 : Int32) (p3 : Int32) (p4 : Int32) (V : Nat → Nat → Int32) (Qr : Option Value → (Nat → Nat → Int32) → Prop) (Qx : String → (Nat → Nat → Int32) → Prop) : Prop :=
CTc J mX8_in [.int p3, .int 0, .int 5] V (fun r V1 =>
  ∃ b1 : Bool, r = some (.int (bI b1)) ∧
  ((b1 = false) →
    F_X8_wouldFall_22 J p1 p2 p3 p4   V1 Qr Qx) ∧
  ((b1 = true) →
    CTc J mX8_isWho [.int p3, .int p4] V1 (fun r V2 =>
      ∃ b2 : Bool, r = some (.int (bI b2)) ∧
      ((b2 = false) →
        F_X8_wouldFall_22 J p1 p2 p3 p4   V2 Qr Qx) ∧
      ((b2 = true) →
        F_X8_wouldFall_23 J p1 p2 p3 p4  1 V2 Qr Qx)) Qx)) Qx
theorem v_X8_wouldFall {J : Nat → Nat → Int64} (p1 : Int32) (p2 : Int32) (p3 : Int32) (p4 : Int32) {V : Nat → Nat → Int32} {Qr : Option Value → (Nat → Nat → Int32) → Prop} {Qx : String → (Nat → Nat → Int32) → Prop} (H : F_X8_wouldFall J p1 p2 p3 p4 V Qr Qx) : CTc J mX8_wouldFall [.ref 405, .int p1, .int p2, .int p3, .int p4] V Qr Qx := by
  refine ctc_of (M := (T0 J, V)) pX8_wouldFall (fun _ _ => rfl) (Nat.le_of_ble_eq_true rfl) ?_
  unfold F_X8_wouldFall at H
  show WPc J mX8_wouldFall Qr Qx 0 [(0, .ref 405), (1, .int p1), (2, .int p2), (3, .int p3), (4, .int p4)] [] V 0 0
  refine s_iload_n dX8_wouldFall_0 rfl ?_
  refine s_iconst (v := 0) dX8_wouldFall_1 (by decide) ?_
  refine s_iconst (v := 5) dX8_wouldFall_2 (by decide) ?_
  refine t_cS (As := [.int p3, .int 0, .int 5]) (st := []) iv_8_81 dX8_wouldFall_3 ⟨by decide, by decide⟩ rfl (Nat.le_of_ble_eq_true rfl) (by decide) (by decide) rfl H (fun r V1 H => ?_)
  obtain ⟨b1, rfl, H⟩ := H
  refine s_if_eq (tgt := 22) dX8_wouldFall_6 (by decide) (fun c => ?_) (fun c => ?_)
  · have H := H.1 (bI_f c)
    exact t_loc [0, 1, 2, 3, 4] rfl (v_X8_wouldFall_22 p1 p2 p3 p4      H)
  · have H := H.2 (bI_t c)
    refine s_iload_n dX8_wouldFall_9 rfl ?_
    refine s_iload dX8_wouldFall_10 rfl ?_
    refine t_cS (As := [.int p3, .int p4]) (st := []) iv_8_186 dX8_wouldFall_12 ⟨by decide, by decide⟩ rfl (Nat.le_of_ble_eq_true rfl) (by decide) (by decide) rfl H (fun r V2 H => ?_)
    obtain ⟨b2, rfl, H⟩ := H
    refine s_if_eq (tgt := 22) dX8_wouldFall_15 (by decide) (fun c => ?_) (fun c => ?_)
    · have H := H.1 (bI_f c)
      exact t_loc [0, 1, 2, 3, 4] rfl (v_X8_wouldFall_22 p1 p2 p3 p4      H)
    · have H := H.2 (bI_t c)
      refine s_iconst (v := 1) dX8_wouldFall_18 (by decide) ?_
      refine s_goto (tgt := 23) dX8_wouldFall_19 (by decide) ?_
      exact t_loc [0, 1, 2, 3, 4] rfl (v_X8_wouldFall_23 p1 p2 p3 p4    1  H)

def F_X8_takeBack_37 (J : Nat → Nat → Int64) (p1 : Int32) (s0 : Int32) (V : Nat → Nat → Int32) (Qr : Option Value → (Nat → Nat → Int32) → Prop) (Qx : String → (Nat → Nat → Int32) → Prop) : Prop :=
CTc J mX8_holds [.ref 405, .int s0] V (fun r V1 =>
  ∃ b1 : Bool, r = some (.int (bI b1)) ∧
  ((b1 = true) →
    CTc J mX8_plays [.ref 405] (up2 (up2 V1 405 3 0) 405 7 p1) (fun r V2 =>
      ∃ r2 : Int32, r = some (.int r2) ∧
      Qr (some (.int ((V1 405 7) - p1))) V2) Qx) ∧
  ((b1 = false) →
    Qr (some (.int 0)) V1)) Qx
theorem v_X8_takeBack_37 {J : Nat → Nat → Int64} (p1 : Int32) {Qr : Option Value → (Nat → Nat → Int32) → Prop} {Qx : String → (Nat → Nat → Int32) → Prop} (s0 : Int32)  {V : Nat → Nat → Int32} (H : F_X8_takeBack_37 J p1  s0 V Qr Qx) : WPc J mX8_takeBack Qr Qx 37 [(0, .ref 405), (1, .int p1)] [.int s0, .ref 405] V 0 0 := by
  unfold F_X8_takeBack_37 at H
  refine t_cV (h := 405) (As := [.int s0]) (st := []) iv_8_169 dX8_takeBack_37 ⟨by decide, by decide⟩ rfl (Nat.le_of_ble_eq_true rfl) (by decide) (by decide) rfl ob_405 H (fun r V1 H => ?_)
  obtain ⟨b1, rfl, H⟩ := H
  refine s_if_ne (tgt := 45) dX8_takeBack_40 (by decide) (fun c => ?_) (fun c => ?_)
  · have H := H.1 (bI_t c)
    refine s_aload_n dX8_takeBack_45 rfl ?_
    refine t_getI fl_8_151 dX8_takeBack_46 ob_405 rfl ?_
    refine s_iload_n dX8_takeBack_49 rfl ?_
    refine s_isub dX8_takeBack_50 ?_
    refine t_istore_n (L' := [(3, .int ((V1 405 7) - p1)), (0, .ref 405), (1, .int p1)]) dX8_takeBack_51 (by decide) rfl ?_
    refine s_aload_n dX8_takeBack_52 rfl ?_
    refine s_iconst (v := 0) dX8_takeBack_53 (by decide) ?_
    refine t_putI fl_8_147 dX8_takeBack_54 ob_405 (Or.inr ⟨rfl, (Or.inl rfl)⟩) ?_
    refine s_aload_n dX8_takeBack_57 rfl ?_
    refine s_iload_n dX8_takeBack_58 rfl ?_
    refine t_putI fl_8_151 dX8_takeBack_59 ob_405 (Or.inl rfl) ?_
    refine s_aload_n dX8_takeBack_62 rfl ?_
    refine t_cV (h := 405) (As := []) (st := []) iv_8_201 dX8_takeBack_63 ⟨by decide, by decide⟩ rfl (Nat.le_of_ble_eq_true rfl) (by decide) (by decide) rfl ob_405 H (fun r V2 H => ?_)
    obtain ⟨r2, rfl, H⟩ := H
    refine t_istore (L' := [(4, .int r2), (3, .int ((V1 405 7) - p1)), (0, .ref 405), (1, .int p1)]) dX8_takeBack_66 (by decide) rfl ?_
    refine s_iload_n dX8_takeBack_68 rfl ?_
    exact s_iret dX8_takeBack_69 (Or.inl rfl) ⟨rfl, H⟩
  · have H := H.2 (bI_f c)
    refine s_iconst (v := 0) dX8_takeBack_43 (by decide) ?_
    exact s_iret dX8_takeBack_44 (Or.inl rfl) ⟨rfl, H⟩
def F_X8_takeBack_26 (J : Nat → Nat → Int64) (p1 : Int32) (s0 : Int32) (V : Nat → Nat → Int32) (Qr : Option Value → (Nat → Nat → Int32) → Prop) (Qx : String → (Nat → Nat → Int32) → Prop) : Prop :=
((s0 = 0) →
  F_X8_takeBack_37 J p1  1 V Qr Qx) ∧
((¬ s0 = 0) →
  F_X8_takeBack_37 J p1  0 V Qr Qx)
theorem v_X8_takeBack_26 {J : Nat → Nat → Int64} (p1 : Int32) {Qr : Option Value → (Nat → Nat → Int32) → Prop} {Qx : String → (Nat → Nat → Int32) → Prop} (s0 : Int32)  {V : Nat → Nat → Int32} (H : F_X8_takeBack_26 J p1  s0 V Qr Qx) : WPc J mX8_takeBack Qr Qx 26 [(0, .ref 405), (1, .int p1)] [.int s0] V 0 0 := by
  unfold F_X8_takeBack_26 at H
  refine t_istore_n (L' := [(2, .int s0), (0, .ref 405), (1, .int p1)]) dX8_takeBack_26 (by decide) rfl ?_
  refine s_aload_n dX8_takeBack_27 rfl ?_
  refine s_iload_n dX8_takeBack_28 rfl ?_
  refine s_if_eq (tgt := 36) dX8_takeBack_29 (by decide) (fun c => ?_) (fun c => ?_)
  · have H := H.1 c
    refine s_iconst (v := 1) dX8_takeBack_36 (by decide) ?_
    exact t_loc [1, 2] rfl (v_X8_takeBack_37 p1    1  H)
  · have H := H.2 c
    refine s_iconst (v := 0) dX8_takeBack_32 (by decide) ?_
    refine s_goto (tgt := 37) dX8_takeBack_33 (by decide) ?_
    exact t_loc [1, 2] rfl (v_X8_takeBack_37 p1    0  H)
def F_X8_takeBack_25 (J : Nat → Nat → Int64) (p1 : Int32)  (V : Nat → Nat → Int32) (Qr : Option Value → (Nat → Nat → Int32) → Prop) (Qx : String → (Nat → Nat → Int32) → Prop) : Prop :=
F_X8_takeBack_26 J p1  0 V Qr Qx
theorem v_X8_takeBack_25 {J : Nat → Nat → Int64} (p1 : Int32) {Qr : Option Value → (Nat → Nat → Int32) → Prop} {Qx : String → (Nat → Nat → Int32) → Prop}   {V : Nat → Nat → Int32} (H : F_X8_takeBack_25 J p1   V Qr Qx) : WPc J mX8_takeBack Qr Qx 25 [(0, .ref 405), (1, .int p1)] [] V 0 0 := by
  unfold F_X8_takeBack_25 at H
  refine s_iconst (v := 0) dX8_takeBack_25 (by decide) ?_
  exact t_loc [0, 1] rfl (v_X8_takeBack_26 p1    0  H)
def F_X8_takeBack (J : Nat → Nat → Int64) (p1 : Int32) (V : Nat → Nat → Int32) (Qr : Option Value → (Nat → Nat → Int32) → Prop) (Qx : String → (Nat → Nat → Int32) → Prop) : Prop :=
(((V 405 2) = 0) →
  F_X8_takeBack_25 J p1   V Qr Qx) ∧
((¬ (V 405 2) = 0) →
  CTc J mX8_in [.int p1, .int 0, .int ((V 405 7) - 1)] V (fun r V1 =>
    ∃ b1 : Bool, r = some (.int (bI b1)) ∧
    ((b1 = false) →
      F_X8_takeBack_25 J p1   V1 Qr Qx) ∧
    ((b1 = true) →
      F_X8_takeBack_26 J p1  1 V1 Qr Qx)) Qx)
theorem v_X8_takeBack {J : Nat → Nat → Int64} (p1 : Int32) {V : Nat → Nat → Int32} {Qr : Option Value → (Nat → Nat → Int32) → Prop} {Qx : String → (Nat → Nat → Int32) → Prop} (H : F_X8_takeBack J p1 V Qr Qx) : CTc J mX8_takeBack [.ref 405, .int p1] V Qr Qx := by
  refine ctc_of (M := (T0 J, V)) pX8_takeBack (fun _ _ => rfl) (Nat.le_of_ble_eq_true rfl) ?_
  unfold F_X8_takeBack at H
  show WPc J mX8_takeBack Qr Qx 0 [(0, .ref 405), (1, .int p1)] [] V 0 0
  refine s_aload_n dX8_takeBack_0 rfl ?_
  refine t_getI fl_8_166 dX8_takeBack_1 ob_405 rfl ?_
  refine s_if_eq (tgt := 25) dX8_takeBack_4 (by decide) (fun c => ?_) (fun c => ?_)
  · have H := H.1 c
    exact t_loc [0, 1] rfl (v_X8_takeBack_25 p1      H)
  · have H := H.2 c
    refine s_iload_n dX8_takeBack_7 rfl ?_
    refine s_iconst (v := 0) dX8_takeBack_8 (by decide) ?_
    refine s_aload_n dX8_takeBack_9 rfl ?_
    refine t_getI fl_8_151 dX8_takeBack_10 ob_405 rfl ?_
    refine s_iconst (v := 1) dX8_takeBack_13 (by decide) ?_
    refine s_isub dX8_takeBack_14 ?_
    refine t_cS (As := [.int p1, .int 0, .int ((V 405 7) - 1)]) (st := []) iv_8_81 dX8_takeBack_15 ⟨by decide, by decide⟩ rfl (Nat.le_of_ble_eq_true rfl) (by decide) (by decide) rfl H (fun r V1 H => ?_)
    obtain ⟨b1, rfl, H⟩ := H
    refine s_if_eq (tgt := 25) dX8_takeBack_18 (by decide) (fun c => ?_) (fun c => ?_)
    · have H := H.1 (bI_f c)
      exact t_loc [0, 1] rfl (v_X8_takeBack_25 p1      H)
    · have H := H.2 (bI_t c)
      refine s_iconst (v := 1) dX8_takeBack_21 (by decide) ?_
      refine s_goto (tgt := 26) dX8_takeBack_22 (by decide) ?_
      exact t_loc [0, 1] rfl (v_X8_takeBack_26 p1    1  H)

def F_X8_enter_178 (J : Nat → Nat → Int64)  (K60 : Int32 → Int32 → (Nat → Nat → Int32) → Prop) (x1 : Int32) (x2 : Int32) (x3 : Int32) (s0 : Int32) (s1 : Int32) (s2 : Int32) (V : Nat → Nat → Int32) (Qr : Option Value → (Nat → Nat → Int32) → Prop) (Qx : String → (Nat → Nat → Int32) → Prop) : Prop :=
vp_in s2 48 ∧
vp_in (x3 + 4) 48 ∧
vp_in (104 + x2) 110 ∧
vp_in (x3 + 4) 48 ∧
vp_in (x3 + 5) 48 ∧
vp_in (105 - x2) 110 ∧
vp_in (x3 + 5) 48 ∧
K60 x1 (x2 + 1) (up2 (up2 (up2 V 420 s2.toNatClampNeg (s1 + s0)) 420 (x3 + 4).toNatClampNeg (((up2 V 420 s2.toNatClampNeg (s1 + s0)) 420 (x3 + 4).toNatClampNeg) + ((up2 V 420 s2.toNatClampNeg (s1 + s0)) 416 (104 + x2).toNatClampNeg))) 420 (x3 + 5).toNatClampNeg (((up2 (up2 V 420 s2.toNatClampNeg (s1 + s0)) 420 (x3 + 4).toNatClampNeg (((up2 V 420 s2.toNatClampNeg (s1 + s0)) 420 (x3 + 4).toNatClampNeg) + ((up2 V 420 s2.toNatClampNeg (s1 + s0)) 416 (104 + x2).toNatClampNeg))) 420 (x3 + 5).toNatClampNeg) + ((up2 (up2 V 420 s2.toNatClampNeg (s1 + s0)) 420 (x3 + 4).toNatClampNeg (((up2 V 420 s2.toNatClampNeg (s1 + s0)) 420 (x3 + 4).toNatClampNeg) + ((up2 V 420 s2.toNatClampNeg (s1 + s0)) 416 (104 + x2).toNatClampNeg))) 416 (105 - x2).toNatClampNeg)))
theorem v_X8_enter_178 {J : Nat → Nat → Int64}  {Qr : Option Value → (Nat → Nat → Int32) → Prop} {Qx : String → (Nat → Nat → Int32) → Prop} (K60 : Int32 → Int32 → (Nat → Nat → Int32) → Prop) (hK60 : ∀ (x1 : Int32) (x2 : Int32)  (V : Nat → Nat → Int32), K60 x1 x2 V → WPc J mX8_enter Qr Qx 60 [(0, .ref 405), (1, .int x1), (2, .int x2)] [] V 0 0) (x1 : Int32) (x2 : Int32) (x3 : Int32) (s0 : Int32) (s1 : Int32) (s2 : Int32)  {V : Nat → Nat → Int32} (H : F_X8_enter_178 J  K60 x1 x2 x3 s0 s1 s2 V Qr Qx) : WPc J mX8_enter Qr Qx 178 [(0, .ref 405), (1, .int x1), (2, .int x2), (3, .int x3)] [.int s0, .int s1, .int s2, .ref 420] V 0 0 := by
  unfold F_X8_enter_178 at H
  refine s_iadd dX8_enter_178 ?_
  refine t_iast dX8_enter_179 ap_420 H.1 ?_
  have H := H.2
  refine s_aload_n dX8_enter_180 rfl ?_
  refine t_getR (r := 420) fl_8_53 dX8_enter_181 ob_405 rfl rfl ?_
  refine s_iload_n dX8_enter_184 rfl ?_
  refine s_iconst (v := 4) dX8_enter_185 (by decide) ?_
  refine s_iadd dX8_enter_186 ?_
  refine s_dup2 dX8_enter_187 rfl rfl ?_
  refine t_iald dX8_enter_188 ap_420 H.1 ?_
  have H := H.2
  refine s_aload_n dX8_enter_189 rfl ?_
  refine t_getR (r := 416) fl_8_41 dX8_enter_190 ob_405 rfl rfl ?_
  refine s_bipush (v := 104) dX8_enter_193 (by decide) ?_
  refine s_iload_n dX8_enter_195 rfl ?_
  refine s_iadd dX8_enter_196 ?_
  refine t_iald dX8_enter_197 ap_416 H.1 ?_
  have H := H.2
  refine s_iadd dX8_enter_198 ?_
  refine t_iast dX8_enter_199 ap_420 H.1 ?_
  have H := H.2
  refine s_aload_n dX8_enter_200 rfl ?_
  refine t_getR (r := 420) fl_8_53 dX8_enter_201 ob_405 rfl rfl ?_
  refine s_iload_n dX8_enter_204 rfl ?_
  refine s_iconst (v := 5) dX8_enter_205 (by decide) ?_
  refine s_iadd dX8_enter_206 ?_
  refine s_dup2 dX8_enter_207 rfl rfl ?_
  refine t_iald dX8_enter_208 ap_420 H.1 ?_
  have H := H.2
  refine s_aload_n dX8_enter_209 rfl ?_
  refine t_getR (r := 416) fl_8_41 dX8_enter_210 ob_405 rfl rfl ?_
  refine s_bipush (v := 105) dX8_enter_213 (by decide) ?_
  refine s_iload_n dX8_enter_215 rfl ?_
  refine s_isub dX8_enter_216 ?_
  refine t_iald dX8_enter_217 ap_416 H.1 ?_
  have H := H.2
  refine s_iadd dX8_enter_218 ?_
  refine t_iast dX8_enter_219 ap_420 H.1 ?_
  have H := H.2
  refine t_iinc (v := (x2 + 1)) (L' := [(2, .int (x2 + 1)), (0, .ref 405), (1, .int x1), (3, .int x3)]) dX8_enter_220 rfl (by rfl) (by decide) rfl ?_
  refine s_goto (tgt := 60) dX8_enter_223 (by decide) ?_
  exact t_loc [1, 2, 0] rfl (hK60 x1 (x2 + 1)  (up2 (up2 (up2 V 420 s2.toNatClampNeg (s1 + s0)) 420 (x3 + 4).toNatClampNeg (((up2 V 420 s2.toNatClampNeg (s1 + s0)) 420 (x3 + 4).toNatClampNeg) + ((up2 V 420 s2.toNatClampNeg (s1 + s0)) 416 (104 + x2).toNatClampNeg))) 420 (x3 + 5).toNatClampNeg (((up2 (up2 V 420 s2.toNatClampNeg (s1 + s0)) 420 (x3 + 4).toNatClampNeg (((up2 V 420 s2.toNatClampNeg (s1 + s0)) 420 (x3 + 4).toNatClampNeg) + ((up2 V 420 s2.toNatClampNeg (s1 + s0)) 416 (104 + x2).toNatClampNeg))) 420 (x3 + 5).toNatClampNeg) + ((up2 (up2 V 420 s2.toNatClampNeg (s1 + s0)) 420 (x3 + 4).toNatClampNeg (((up2 V 420 s2.toNatClampNeg (s1 + s0)) 420 (x3 + 4).toNatClampNeg) + ((up2 V 420 s2.toNatClampNeg (s1 + s0)) 416 (104 + x2).toNatClampNeg))) 416 (105 - x2).toNatClampNeg))) H)
def F_X8_enter_137 (J : Nat → Nat → Int64)  (K60 : Int32 → Int32 → (Nat → Nat → Int32) → Prop) (x1 : Int32) (x2 : Int32) (x3 : Int32) (x4 : Int32) (s0 : Int32) (s1 : Int32) (s2 : Int32) (V : Nat → Nat → Int32) (Qr : Option Value → (Nat → Nat → Int32) → Prop) (Qx : String → (Nat → Nat → Int32) → Prop) : Prop :=
vp_in s2 48 ∧
vp_in (x3 + 3) 48 ∧
((x4 ≤ 0) →
  ((¬ x4 = 0) →
    ((x4 < (-7)) →
      F_X8_enter_178 J  K60 x1 x2 x3 0 ((up2 V 420 s2.toNatClampNeg (s1 + s0)) 420 (x3 + 3).toNatClampNeg) (x3 + 3) (up2 V 420 s2.toNatClampNeg (s1 + s0)) Qr Qx) ∧
    ((¬ x4 < (-7)) →
      F_X8_enter_178 J  K60 x1 x2 x3 1 ((up2 V 420 s2.toNatClampNeg (s1 + s0)) 420 (x3 + 3).toNatClampNeg) (x3 + 3) (up2 V 420 s2.toNatClampNeg (s1 + s0)) Qr Qx)) ∧
  ((x4 = 0) →
    F_X8_enter_178 J  K60 x1 x2 x3 3 ((up2 V 420 s2.toNatClampNeg (s1 + s0)) 420 (x3 + 3).toNatClampNeg) (x3 + 3) (up2 V 420 s2.toNatClampNeg (s1 + s0)) Qr Qx)) ∧
((¬ x4 ≤ 0) →
  F_X8_enter_178 J  K60 x1 x2 x3 5 ((up2 V 420 s2.toNatClampNeg (s1 + s0)) 420 (x3 + 3).toNatClampNeg) (x3 + 3) (up2 V 420 s2.toNatClampNeg (s1 + s0)) Qr Qx)
theorem v_X8_enter_137 {J : Nat → Nat → Int64}  {Qr : Option Value → (Nat → Nat → Int32) → Prop} {Qx : String → (Nat → Nat → Int32) → Prop} (K60 : Int32 → Int32 → (Nat → Nat → Int32) → Prop) (hK60 : ∀ (x1 : Int32) (x2 : Int32)  (V : Nat → Nat → Int32), K60 x1 x2 V → WPc J mX8_enter Qr Qx 60 [(0, .ref 405), (1, .int x1), (2, .int x2)] [] V 0 0) (x1 : Int32) (x2 : Int32) (x3 : Int32) (x4 : Int32) (s0 : Int32) (s1 : Int32) (s2 : Int32)  {V : Nat → Nat → Int32} (H : F_X8_enter_137 J  K60 x1 x2 x3 x4 s0 s1 s2 V Qr Qx) : WPc J mX8_enter Qr Qx 137 [(0, .ref 405), (1, .int x1), (2, .int x2), (3, .int x3), (4, .int x4)] [.int s0, .int s1, .int s2, .ref 420] V 0 0 := by
  unfold F_X8_enter_137 at H
  refine s_iadd dX8_enter_137 ?_
  refine t_iast dX8_enter_138 ap_420 H.1 ?_
  have H := H.2
  refine s_aload_n dX8_enter_139 rfl ?_
  refine t_getR (r := 420) fl_8_53 dX8_enter_140 ob_405 rfl rfl ?_
  refine s_iload_n dX8_enter_143 rfl ?_
  refine s_iconst (v := 3) dX8_enter_144 (by decide) ?_
  refine s_iadd dX8_enter_145 ?_
  refine s_dup2 dX8_enter_146 rfl rfl ?_
  refine t_iald dX8_enter_147 ap_420 H.1 ?_
  have H := H.2
  refine s_iload dX8_enter_148 rfl ?_
  refine s_if_le (tgt := 157) dX8_enter_150 (by decide) (fun c => ?_) (fun c => ?_)
  · have H := H.1 c
    refine s_iload dX8_enter_157 rfl ?_
    refine s_if_ne (tgt := 166) dX8_enter_159 (by decide) (fun c => ?_) (fun c => ?_)
    · have H := H.1 c
      refine s_iload dX8_enter_166 rfl ?_
      refine s_bipush (v := (-7)) dX8_enter_168 (by decide) ?_
      refine s_icmp_lt (tgt := 177) dX8_enter_170 (by decide) (fun c => ?_) (fun c => ?_)
      · have H := H.1 c
        refine s_iconst (v := 0) dX8_enter_177 (by decide) ?_
        exact t_loc [0, 1, 2, 3] rfl (v_X8_enter_178   K60 hK60 x1 x2 x3 0 ((up2 V 420 s2.toNatClampNeg (s1 + s0)) 420 (x3 + 3).toNatClampNeg) (x3 + 3)  H)
      · have H := H.2 c
        refine s_iconst (v := 1) dX8_enter_173 (by decide) ?_
        refine s_goto (tgt := 178) dX8_enter_174 (by decide) ?_
        exact t_loc [0, 1, 2, 3] rfl (v_X8_enter_178   K60 hK60 x1 x2 x3 1 ((up2 V 420 s2.toNatClampNeg (s1 + s0)) 420 (x3 + 3).toNatClampNeg) (x3 + 3)  H)
    · have H := H.2 c
      refine s_iconst (v := 3) dX8_enter_162 (by decide) ?_
      refine s_goto (tgt := 178) dX8_enter_163 (by decide) ?_
      exact t_loc [0, 1, 2, 3] rfl (v_X8_enter_178   K60 hK60 x1 x2 x3 3 ((up2 V 420 s2.toNatClampNeg (s1 + s0)) 420 (x3 + 3).toNatClampNeg) (x3 + 3)  H)
  · have H := H.2 c
    refine s_iconst (v := 5) dX8_enter_153 (by decide) ?_
    refine s_goto (tgt := 178) dX8_enter_154 (by decide) ?_
    exact t_loc [0, 1, 2, 3] rfl (v_X8_enter_178   K60 hK60 x1 x2 x3 5 ((up2 V 420 s2.toNatClampNeg (s1 + s0)) 420 (x3 + 3).toNatClampNeg) (x3 + 3)  H)
def F_X8_enter_116 (J : Nat → Nat → Int64)  (K60 : Int32 → Int32 → (Nat → Nat → Int32) → Prop) (x1 : Int32) (x2 : Int32) (x3 : Int32) (x4 : Int32) (s0 : Int32) (s1 : Int32) (s2 : Int32) (V : Nat → Nat → Int32) (Qr : Option Value → (Nat → Nat → Int32) → Prop) (Qx : String → (Nat → Nat → Int32) → Prop) : Prop :=
vp_in s2 48 ∧
vp_in (x3 + 2) 48 ∧
((¬ x4 = 0) →
  F_X8_enter_137 J  K60 x1 x2 x3 x4 0 ((up2 V 420 s2.toNatClampNeg (s1 + s0)) 420 (x3 + 2).toNatClampNeg) (x3 + 2) (up2 V 420 s2.toNatClampNeg (s1 + s0)) Qr Qx) ∧
((x4 = 0) →
  F_X8_enter_137 J  K60 x1 x2 x3 x4 1 ((up2 V 420 s2.toNatClampNeg (s1 + s0)) 420 (x3 + 2).toNatClampNeg) (x3 + 2) (up2 V 420 s2.toNatClampNeg (s1 + s0)) Qr Qx)
theorem v_X8_enter_116 {J : Nat → Nat → Int64}  {Qr : Option Value → (Nat → Nat → Int32) → Prop} {Qx : String → (Nat → Nat → Int32) → Prop} (K60 : Int32 → Int32 → (Nat → Nat → Int32) → Prop) (hK60 : ∀ (x1 : Int32) (x2 : Int32)  (V : Nat → Nat → Int32), K60 x1 x2 V → WPc J mX8_enter Qr Qx 60 [(0, .ref 405), (1, .int x1), (2, .int x2)] [] V 0 0) (x1 : Int32) (x2 : Int32) (x3 : Int32) (x4 : Int32) (s0 : Int32) (s1 : Int32) (s2 : Int32)  {V : Nat → Nat → Int32} (H : F_X8_enter_116 J  K60 x1 x2 x3 x4 s0 s1 s2 V Qr Qx) : WPc J mX8_enter Qr Qx 116 [(0, .ref 405), (1, .int x1), (2, .int x2), (3, .int x3), (4, .int x4)] [.int s0, .int s1, .int s2, .ref 420] V 0 0 := by
  unfold F_X8_enter_116 at H
  refine s_iadd dX8_enter_116 ?_
  refine t_iast dX8_enter_117 ap_420 H.1 ?_
  have H := H.2
  refine s_aload_n dX8_enter_118 rfl ?_
  refine t_getR (r := 420) fl_8_53 dX8_enter_119 ob_405 rfl rfl ?_
  refine s_iload_n dX8_enter_122 rfl ?_
  refine s_iconst (v := 2) dX8_enter_123 (by decide) ?_
  refine s_iadd dX8_enter_124 ?_
  refine s_dup2 dX8_enter_125 rfl rfl ?_
  refine t_iald dX8_enter_126 ap_420 H.1 ?_
  have H := H.2
  refine s_iload dX8_enter_127 rfl ?_
  refine s_if_ne (tgt := 136) dX8_enter_129 (by decide) (fun c => ?_) (fun c => ?_)
  · have H := H.1 c
    refine s_iconst (v := 0) dX8_enter_136 (by decide) ?_
    exact t_loc [0, 1, 2, 3, 4] rfl (v_X8_enter_137   K60 hK60 x1 x2 x3 x4 0 ((up2 V 420 s2.toNatClampNeg (s1 + s0)) 420 (x3 + 2).toNatClampNeg) (x3 + 2)  H)
  · have H := H.2 c
    refine s_iconst (v := 1) dX8_enter_132 (by decide) ?_
    refine s_goto (tgt := 137) dX8_enter_133 (by decide) ?_
    exact t_loc [0, 1, 2, 3, 4] rfl (v_X8_enter_137   K60 hK60 x1 x2 x3 x4 1 ((up2 V 420 s2.toNatClampNeg (s1 + s0)) 420 (x3 + 2).toNatClampNeg) (x3 + 2)  H)
def F_X8_enter_85 (J : Nat → Nat → Int64)  (K60 : Int32 → Int32 → (Nat → Nat → Int32) → Prop) (x1 : Int32) (x2 : Int32) (x3 : Int32) (s0 : Int32) (V : Nat → Nat → Int32) (Qr : Option Value → (Nat → Nat → Int32) → Prop) (Qx : String → (Nat → Nat → Int32) → Prop) : Prop :=
vp_in x3 48 ∧
vp_in x3 48 ∧
vp_in (x3 + 1) 48 ∧
((s0 ≤ 0) →
  F_X8_enter_116 J  K60 x1 x2 x3 s0 0 ((up2 V 420 x3.toNatClampNeg ((V 420 x3.toNatClampNeg) + 1)) 420 (x3 + 1).toNatClampNeg) (x3 + 1) (up2 V 420 x3.toNatClampNeg ((V 420 x3.toNatClampNeg) + 1)) Qr Qx) ∧
((¬ s0 ≤ 0) →
  F_X8_enter_116 J  K60 x1 x2 x3 s0 1 ((up2 V 420 x3.toNatClampNeg ((V 420 x3.toNatClampNeg) + 1)) 420 (x3 + 1).toNatClampNeg) (x3 + 1) (up2 V 420 x3.toNatClampNeg ((V 420 x3.toNatClampNeg) + 1)) Qr Qx)
theorem v_X8_enter_85 {J : Nat → Nat → Int64}  {Qr : Option Value → (Nat → Nat → Int32) → Prop} {Qx : String → (Nat → Nat → Int32) → Prop} (K60 : Int32 → Int32 → (Nat → Nat → Int32) → Prop) (hK60 : ∀ (x1 : Int32) (x2 : Int32)  (V : Nat → Nat → Int32), K60 x1 x2 V → WPc J mX8_enter Qr Qx 60 [(0, .ref 405), (1, .int x1), (2, .int x2)] [] V 0 0) (x1 : Int32) (x2 : Int32) (x3 : Int32) (s0 : Int32)  {V : Nat → Nat → Int32} (H : F_X8_enter_85 J  K60 x1 x2 x3 s0 V Qr Qx) : WPc J mX8_enter Qr Qx 85 [(0, .ref 405), (1, .int x1), (2, .int x2), (3, .int x3)] [.int s0] V 0 0 := by
  unfold F_X8_enter_85 at H
  refine t_istore (L' := [(4, .int s0), (0, .ref 405), (1, .int x1), (2, .int x2), (3, .int x3)]) dX8_enter_85 (by decide) rfl ?_
  refine s_aload_n dX8_enter_87 rfl ?_
  refine t_getR (r := 420) fl_8_53 dX8_enter_88 ob_405 rfl rfl ?_
  refine s_iload_n dX8_enter_91 rfl ?_
  refine s_dup2 dX8_enter_92 rfl rfl ?_
  refine t_iald dX8_enter_93 ap_420 H.1 ?_
  have H := H.2
  refine s_iconst (v := 1) dX8_enter_94 (by decide) ?_
  refine s_iadd dX8_enter_95 ?_
  refine t_iast dX8_enter_96 ap_420 H.1 ?_
  have H := H.2
  refine s_aload_n dX8_enter_97 rfl ?_
  refine t_getR (r := 420) fl_8_53 dX8_enter_98 ob_405 rfl rfl ?_
  refine s_iload_n dX8_enter_101 rfl ?_
  refine s_iconst (v := 1) dX8_enter_102 (by decide) ?_
  refine s_iadd dX8_enter_103 ?_
  refine s_dup2 dX8_enter_104 rfl rfl ?_
  refine t_iald dX8_enter_105 ap_420 H.1 ?_
  have H := H.2
  refine s_iload dX8_enter_106 rfl ?_
  refine s_if_le (tgt := 115) dX8_enter_108 (by decide) (fun c => ?_) (fun c => ?_)
  · have H := H.1 c
    refine s_iconst (v := 0) dX8_enter_115 (by decide) ?_
    exact t_loc [1, 2, 3, 4, 0] rfl (v_X8_enter_116   K60 hK60 x1 x2 x3 s0 0 ((up2 V 420 x3.toNatClampNeg ((V 420 x3.toNatClampNeg) + 1)) 420 (x3 + 1).toNatClampNeg) (x3 + 1)  H)
  · have H := H.2 c
    refine s_iconst (v := 1) dX8_enter_111 (by decide) ?_
    refine s_goto (tgt := 116) dX8_enter_112 (by decide) ?_
    exact t_loc [1, 2, 3, 4, 0] rfl (v_X8_enter_116   K60 hK60 x1 x2 x3 s0 1 ((up2 V 420 x3.toNatClampNeg ((V 420 x3.toNatClampNeg) + 1)) 420 (x3 + 1).toNatClampNeg) (x3 + 1)  H)
def B_X8_enter_60 (J : Nat → Nat → Int64)  (K60 : Int32 → Int32 → (Nat → Nat → Int32) → Prop) (x1 : Int32) (x2 : Int32) (V : Nat → Nat → Int32) (Qr : Option Value → (Nat → Nat → Int32) → Prop) (Qx : String → (Nat → Nat → Int32) → Prop) : Prop :=
((2 ≤ x2) →
  ((x1 ≤ 0) →
    ((0 ≤ x1) →
      Qr (some (.int (-1))) (up2 V 405 2 0)) ∧
    ((¬ 0 ≤ x1) →
      Qr (some (.int ((up2 V 405 2 0) 406 1))) (up2 V 405 2 0))) ∧
  ((¬ x1 ≤ 0) →
    Qr (some (.int ((up2 V 405 2 0) 406 0))) (up2 V 405 2 0))) ∧
((¬ 2 ≤ x2) →
  vp_in x2 2 ∧
  ((¬ x2 = 0) →
    F_X8_enter_85 J  K60 x1 x2 (6 * (V 406 x2.toNatClampNeg)) (-x1) V Qr Qx) ∧
  ((x2 = 0) →
    F_X8_enter_85 J  K60 x1 x2 (6 * (V 406 x2.toNatClampNeg)) x1 V Qr Qx))
def F_X8_enter_60 (J : Nat → Nat → Int64)  (x1 : Int32) (x2 : Int32) (V : Nat → Nat → Int32) (Qr : Option Value → (Nat → Nat → Int32) → Prop) (Qx : String → (Nat → Nat → Int32) → Prop) : Prop :=
  ∃ I : Nat → Int32 → Int32 → (Nat → Nat → Int32) → Prop, (∃ n, I n x1 x2 V) ∧ ∀ n (x1 : Int32) (x2 : Int32) (V : Nat → Nat → Int32), I n x1 x2 V → B_X8_enter_60 J   (fun x1 x2 V => ∃ n', n' < n ∧ I n' x1 x2 V) x1 x2 V Qr Qx
theorem v_X8_enter_60 {J : Nat → Nat → Int64}  {Qr : Option Value → (Nat → Nat → Int32) → Prop} {Qx : String → (Nat → Nat → Int32) → Prop} (x1 : Int32) (x2 : Int32)  {V : Nat → Nat → Int32} (H : F_X8_enter_60 J   x1 x2 V Qr Qx) : WPc J mX8_enter Qr Qx 60 [(0, .ref 405), (1, .int x1), (2, .int x2)] [] V 0 0 := by
  obtain ⟨I, ⟨n0, h0⟩, hs⟩ := H
  have step : ∀ (K60 : Int32 → Int32 → (Nat → Nat → Int32) → Prop), (∀ (x1 : Int32) (x2 : Int32)  (V : Nat → Nat → Int32), K60 x1 x2 V → WPc J mX8_enter Qr Qx 60 [(0, .ref 405), (1, .int x1), (2, .int x2)] [] V 0 0) → ∀ (x1 : Int32) (x2 : Int32)  (V : Nat → Nat → Int32), B_X8_enter_60 J   K60 x1 x2 V Qr Qx → WPc J mX8_enter Qr Qx 60 [(0, .ref 405), (1, .int x1), (2, .int x2)] [] V 0 0 := by
    intro K60 hK60 x1 x2  V H
    unfold B_X8_enter_60 at H
    refine s_iload_n dX8_enter_60 rfl ?_
    refine s_iconst (v := 2) dX8_enter_61 (by decide) ?_
    refine s_icmp_ge (tgt := 226) dX8_enter_62 (by decide) (fun c => ?_) (fun c => ?_)
    · have H := H.1 c
      refine s_aload_n dX8_enter_226 rfl ?_
      refine s_iconst (v := 0) dX8_enter_227 (by decide) ?_
      refine t_putI fl_8_166 dX8_enter_228 ob_405 (Or.inr ⟨rfl, (Or.inl rfl)⟩) ?_
      refine s_iload_n dX8_enter_231 rfl ?_
      refine s_if_le (tgt := 244) dX8_enter_232 (by decide) (fun c => ?_) (fun c => ?_)
      · have H := H.1 c
        refine s_iload_n dX8_enter_244 rfl ?_
        refine s_if_ge (tgt := 257) dX8_enter_245 (by decide) (fun c => ?_) (fun c => ?_)
        · have H := H.1 c
          refine s_iconst (v := (-1)) dX8_enter_257 (by decide) ?_
          exact s_iret dX8_enter_258 (Or.inl rfl) ⟨rfl, H⟩
        · have H := H.2 c
          refine s_aload_n dX8_enter_248 rfl ?_
          refine t_getR (r := 406) fl_8_7 dX8_enter_249 ob_405 rfl rfl ?_
          refine s_iconst (v := 1) dX8_enter_252 (by decide) ?_
          refine t_iald dX8_enter_253 ap_406 (vp_of (by decide)) ?_
          refine s_goto (tgt := 258) dX8_enter_254 (by decide) ?_
          exact s_iret dX8_enter_258 (Or.inl rfl) ⟨rfl, H⟩
      · have H := H.2 c
        refine s_aload_n dX8_enter_235 rfl ?_
        refine t_getR (r := 406) fl_8_7 dX8_enter_236 ob_405 rfl rfl ?_
        refine s_iconst (v := 0) dX8_enter_239 (by decide) ?_
        refine t_iald dX8_enter_240 ap_406 (vp_of (by decide)) ?_
        refine s_goto (tgt := 258) dX8_enter_241 (by decide) ?_
        exact s_iret dX8_enter_258 (Or.inl rfl) ⟨rfl, H⟩
    · have H := H.2 c
      refine s_bipush (v := 6) dX8_enter_65 (by decide) ?_
      refine s_aload_n dX8_enter_67 rfl ?_
      refine t_getR (r := 406) fl_8_7 dX8_enter_68 ob_405 rfl rfl ?_
      refine s_iload_n dX8_enter_71 rfl ?_
      refine t_iald dX8_enter_72 ap_406 H.1 ?_
      have H := H.2
      refine s_imul dX8_enter_73 ?_
      refine t_istore_n (L' := [(3, .int (6 * (V 406 x2.toNatClampNeg))), (0, .ref 405), (1, .int x1), (2, .int x2)]) dX8_enter_74 (by decide) rfl ?_
      refine s_iload_n dX8_enter_75 rfl ?_
      refine s_if_ne (tgt := 83) dX8_enter_76 (by decide) (fun c => ?_) (fun c => ?_)
      · have H := H.1 c
        refine s_iload_n dX8_enter_83 rfl ?_
        refine s_ineg dX8_enter_84 ?_
        exact t_loc [1, 2, 3, 0] rfl (v_X8_enter_85   K60 hK60 x1 x2 (6 * (V 406 x2.toNatClampNeg)) (-x1)  H)
      · have H := H.2 c
        refine s_iload_n dX8_enter_79 rfl ?_
        refine s_goto (tgt := 85) dX8_enter_80 (by decide) ?_
        exact t_loc [1, 2, 3, 0] rfl (v_X8_enter_85   K60 hK60 x1 x2 (6 * (V 406 x2.toNatClampNeg)) x1  H)
  have key : ∀ n, ∀ (x1 : Int32) (x2 : Int32)  (V : Nat → Nat → Int32), I n x1 x2 V → WPc J mX8_enter Qr Qx 60 [(0, .ref 405), (1, .int x1), (2, .int x2)] [] V 0 0 := by
    refine strong (fun n ih => ?_)
    intro x1 x2  V hI
    exact step _ (fun x1 x2  V hz => Exists.elim hz (fun n1 hz => ih n1 hz.1 x1 x2  V hz.2)) x1 x2  V (hs n x1 x2 V hI)
  exact key n0 x1 x2  V h0
def F_X8_enter_34 (J : Nat → Nat → Int64)  (s0 : Int32) (V : Nat → Nat → Int32) (Qr : Option Value → (Nat → Nat → Int32) → Prop) (Qx : String → (Nat → Nat → Int32) → Prop) : Prop :=
CTc J mX8_holds [.ref 405, .int s0] V (fun r V1 =>
  ∃ b1 : Bool, r = some (.int (bI b1)) ∧
  ((b1 = true) →
    F_X8_enter_60 J   ((V1 416 104) - (V1 416 105)) 0 V1 Qr Qx) ∧
  ((b1 = false) →
    Qr (some (.int 0)) V1)) Qx
theorem v_X8_enter_34 {J : Nat → Nat → Int64}  {Qr : Option Value → (Nat → Nat → Int32) → Prop} {Qx : String → (Nat → Nat → Int32) → Prop} (s0 : Int32)  {V : Nat → Nat → Int32} (H : F_X8_enter_34 J   s0 V Qr Qx) : WPc J mX8_enter Qr Qx 34 [(0, .ref 405)] [.int s0, .ref 405] V 0 0 := by
  unfold F_X8_enter_34 at H
  refine t_cV (h := 405) (As := [.int s0]) (st := []) iv_8_169 dX8_enter_34 ⟨by decide, by decide⟩ rfl (Nat.le_of_ble_eq_true rfl) (by decide) (by decide) rfl ob_405 H (fun r V1 H => ?_)
  obtain ⟨b1, rfl, H⟩ := H
  refine s_if_ne (tgt := 42) dX8_enter_37 (by decide) (fun c => ?_) (fun c => ?_)
  · have H := H.1 (bI_t c)
    refine s_aload_n dX8_enter_42 rfl ?_
    refine t_getR (r := 416) fl_8_41 dX8_enter_43 ob_405 rfl rfl ?_
    refine s_bipush (v := 104) dX8_enter_46 (by decide) ?_
    refine t_iald dX8_enter_48 ap_416 (vp_of (by decide)) ?_
    refine s_aload_n dX8_enter_49 rfl ?_
    refine t_getR (r := 416) fl_8_41 dX8_enter_50 ob_405 rfl rfl ?_
    refine s_bipush (v := 105) dX8_enter_53 (by decide) ?_
    refine t_iald dX8_enter_55 ap_416 (vp_of (by decide)) ?_
    refine s_isub dX8_enter_56 ?_
    refine t_istore_n (L' := [(1, .int ((V1 416 104) - (V1 416 105))), (0, .ref 405)]) dX8_enter_57 (by decide) rfl ?_
    refine s_iconst (v := 0) dX8_enter_58 (by decide) ?_
    refine t_istore_n (L' := [(2, .int 0), (1, .int ((V1 416 104) - (V1 416 105))), (0, .ref 405)]) dX8_enter_59 (by decide) rfl ?_
    exact t_loc [2, 1, 0] rfl (v_X8_enter_60     ((V1 416 104) - (V1 416 105)) 0  H)
  · have H := H.2 (bI_f c)
    refine s_iconst (v := 0) dX8_enter_40 (by decide) ?_
    exact s_iret dX8_enter_41 (Or.inl rfl) ⟨rfl, H⟩
def F_X8_enter_33 (J : Nat → Nat → Int64)   (V : Nat → Nat → Int32) (Qr : Option Value → (Nat → Nat → Int32) → Prop) (Qx : String → (Nat → Nat → Int32) → Prop) : Prop :=
F_X8_enter_34 J   1 V Qr Qx
theorem v_X8_enter_33 {J : Nat → Nat → Int64}  {Qr : Option Value → (Nat → Nat → Int32) → Prop} {Qx : String → (Nat → Nat → Int32) → Prop}   {V : Nat → Nat → Int32} (H : F_X8_enter_33 J    V Qr Qx) : WPc J mX8_enter Qr Qx 33 [(0, .ref 405)] [.ref 405] V 0 0 := by
  unfold F_X8_enter_33 at H
  refine s_iconst (v := 1) dX8_enter_33 (by decide) ?_
  exact t_loc [0] rfl (v_X8_enter_34     1  H)
def F_X8_enter (J : Nat → Nat → Int64)  (V : Nat → Nat → Int32) (Qr : Option Value → (Nat → Nat → Int32) → Prop) (Qx : String → (Nat → Nat → Int32) → Prop) : Prop :=
(((V 405 2) = 0) →
  F_X8_enter_33 J    V Qr Qx) ∧
((¬ (V 405 2) = 0) →
  ((¬ (V 405 3) = 0) →
    F_X8_enter_33 J    V Qr Qx) ∧
  (((V 405 3) = 0) →
    (((V 416 108) < (V 405 5)) →
      F_X8_enter_33 J    V Qr Qx) ∧
    ((¬ (V 416 108) < (V 405 5)) →
      F_X8_enter_34 J   0 V Qr Qx)))
theorem v_X8_enter {J : Nat → Nat → Int64}  {V : Nat → Nat → Int32} {Qr : Option Value → (Nat → Nat → Int32) → Prop} {Qx : String → (Nat → Nat → Int32) → Prop} (H : F_X8_enter J  V Qr Qx) : CTc J mX8_enter [.ref 405] V Qr Qx := by
  refine ctc_of (M := (T0 J, V)) pX8_enter (fun _ _ => rfl) (Nat.le_of_ble_eq_true rfl) ?_
  unfold F_X8_enter at H
  show WPc J mX8_enter Qr Qx 0 [(0, .ref 405)] [] V 0 0
  refine s_aload_n dX8_enter_0 rfl ?_
  refine s_aload_n dX8_enter_1 rfl ?_
  refine t_getI fl_8_166 dX8_enter_2 ob_405 rfl ?_
  refine s_if_eq (tgt := 33) dX8_enter_5 (by decide) (fun c => ?_) (fun c => ?_)
  · have H := H.1 c
    exact t_loc [0] rfl (v_X8_enter_33       H)
  · have H := H.2 c
    refine s_aload_n dX8_enter_8 rfl ?_
    refine t_getI fl_8_147 dX8_enter_9 ob_405 rfl ?_
    refine s_if_ne (tgt := 33) dX8_enter_12 (by decide) (fun c => ?_) (fun c => ?_)
    · have H := H.1 c
      exact t_loc [0] rfl (v_X8_enter_33       H)
    · have H := H.2 c
      refine s_aload_n dX8_enter_15 rfl ?_
      refine t_getR (r := 416) fl_8_41 dX8_enter_16 ob_405 rfl rfl ?_
      refine s_bipush (v := 108) dX8_enter_19 (by decide) ?_
      refine t_iald dX8_enter_21 ap_416 (vp_of (by decide)) ?_
      refine s_aload_n dX8_enter_22 rfl ?_
      refine t_getI fl_8_118 dX8_enter_23 ob_405 rfl ?_
      refine s_icmp_lt (tgt := 33) dX8_enter_26 (by decide) (fun c => ?_) (fun c => ?_)
      · have H := H.1 c
        exact t_loc [0] rfl (v_X8_enter_33       H)
      · have H := H.2 c
        refine s_iconst (v := 0) dX8_enter_29 (by decide) ?_
        refine s_goto (tgt := 34) dX8_enter_30 (by decide) ?_
        exact t_loc [0] rfl (v_X8_enter_34     0  H)

def F_X8_type_30 (J : Nat → Nat → Int64) (p1 : Int32) (s0 : Int32) (V : Nat → Nat → Int32) (Qr : Option Value → (Nat → Nat → Int32) → Prop) (Qx : String → (Nat → Nat → Int32) → Prop) : Prop :=
CTc J mX8_holds [.ref 405, .int s0] V (fun r V1 =>
  ∃ b1 : Bool, r = some (.int (bI b1)) ∧
  ((b1 = true) →
    vp_in (V1 405 20) 60 ∧
    Qr (some (.int ((up2 (up2 V1 419 (V1 405 20).toNatClampNeg p1) 405 20 (((up2 V1 419 (V1 405 20).toNatClampNeg p1) 405 20) + 1)) 405 20))) (up2 (up2 V1 419 (V1 405 20).toNatClampNeg p1) 405 20 (((up2 V1 419 (V1 405 20).toNatClampNeg p1) 405 20) + 1))) ∧
  ((b1 = false) →
    Qr (some (.int 0)) V1)) Qx
theorem v_X8_type_30 {J : Nat → Nat → Int64} (p1 : Int32) {Qr : Option Value → (Nat → Nat → Int32) → Prop} {Qx : String → (Nat → Nat → Int32) → Prop} (s0 : Int32)  {V : Nat → Nat → Int32} (H : F_X8_type_30 J p1  s0 V Qr Qx) : WPc J mX8_type Qr Qx 30 [(0, .ref 405), (1, .int p1)] [.int s0, .ref 405] V 0 0 := by
  unfold F_X8_type_30 at H
  refine t_cV (h := 405) (As := [.int s0]) (st := []) iv_8_169 dX8_type_30 ⟨by decide, by decide⟩ rfl (Nat.le_of_ble_eq_true rfl) (by decide) (by decide) rfl ob_405 H (fun r V1 H => ?_)
  obtain ⟨b1, rfl, H⟩ := H
  refine s_if_ne (tgt := 38) dX8_type_33 (by decide) (fun c => ?_) (fun c => ?_)
  · have H := H.1 (bI_t c)
    refine s_aload_n dX8_type_38 rfl ?_
    refine t_getR (r := 419) fl_8_50 dX8_type_39 ob_405 rfl rfl ?_
    refine s_aload_n dX8_type_42 rfl ?_
    refine t_getI fl_8_210 dX8_type_43 ob_405 rfl ?_
    refine s_iload_n dX8_type_46 rfl ?_
    refine t_iast dX8_type_47 ap_419 H.1 ?_
    have H := H.2
    refine s_aload_n dX8_type_48 rfl ?_
    refine s_dup dX8_type_49 rfl ?_
    refine t_getI fl_8_210 dX8_type_50 ob_405 rfl ?_
    refine s_iconst (v := 1) dX8_type_53 (by decide) ?_
    refine s_iadd dX8_type_54 ?_
    refine t_putI fl_8_210 dX8_type_55 ob_405 (Or.inl rfl) ?_
    refine s_aload_n dX8_type_58 rfl ?_
    refine t_getI fl_8_210 dX8_type_59 ob_405 rfl ?_
    exact s_iret dX8_type_62 (Or.inl rfl) ⟨rfl, H⟩
  · have H := H.2 (bI_f c)
    refine s_iconst (v := 0) dX8_type_36 (by decide) ?_
    exact s_iret dX8_type_37 (Or.inl rfl) ⟨rfl, H⟩
def F_X8_type (J : Nat → Nat → Int64) (p1 : Int32) (V : Nat → Nat → Int32) (Qr : Option Value → (Nat → Nat → Int32) → Prop) (Qx : String → (Nat → Nat → Int32) → Prop) : Prop :=
CTc J mX8_in [.int p1, .int 32, .int 126] V (fun r V1 =>
  ∃ b1 : Bool, r = some (.int (bI b1)) ∧
  ((b1 = true) →
    ((¬ (V1 405 20) = 60) →
      F_X8_type_30 J p1  0 V1 Qr Qx) ∧
    (((V1 405 20) = 60) →
      F_X8_type_30 J p1  2 V1 Qr Qx)) ∧
  ((b1 = false) →
    F_X8_type_30 J p1  1 V1 Qr Qx)) Qx
theorem v_X8_type {J : Nat → Nat → Int64} (p1 : Int32) {V : Nat → Nat → Int32} {Qr : Option Value → (Nat → Nat → Int32) → Prop} {Qx : String → (Nat → Nat → Int32) → Prop} (H : F_X8_type J p1 V Qr Qx) : CTc J mX8_type [.ref 405, .int p1] V Qr Qx := by
  refine ctc_of (M := (T0 J, V)) pX8_type (fun _ _ => rfl) (Nat.le_of_ble_eq_true rfl) ?_
  unfold F_X8_type at H
  show WPc J mX8_type Qr Qx 0 [(0, .ref 405), (1, .int p1)] [] V 0 0
  refine s_aload_n dX8_type_0 rfl ?_
  refine s_iload_n dX8_type_1 rfl ?_
  refine s_bipush (v := 32) dX8_type_2 (by decide) ?_
  refine s_bipush (v := 126) dX8_type_4 (by decide) ?_
  refine t_cS (As := [.int p1, .int 32, .int 126]) (st := [.ref 405]) iv_8_81 dX8_type_6 ⟨by decide, by decide⟩ rfl (Nat.le_of_ble_eq_true rfl) (by decide) (by decide) rfl H (fun r V1 H => ?_)
  obtain ⟨b1, rfl, H⟩ := H
  refine s_if_ne (tgt := 16) dX8_type_9 (by decide) (fun c => ?_) (fun c => ?_)
  · have H := H.1 (bI_t c)
    refine s_aload_n dX8_type_16 rfl ?_
    refine t_getI fl_8_210 dX8_type_17 ob_405 rfl ?_
    refine s_bipush (v := 60) dX8_type_20 (by decide) ?_
    refine s_icmp_ne (tgt := 29) dX8_type_22 (by decide) (fun c => ?_) (fun c => ?_)
    · have H := H.1 c
      refine s_iconst (v := 0) dX8_type_29 (by decide) ?_
      exact t_loc [0, 1] rfl (v_X8_type_30 p1    0  H)
    · have H := H.2 c
      refine s_iconst (v := 2) dX8_type_25 (by decide) ?_
      refine s_goto (tgt := 30) dX8_type_26 (by decide) ?_
      exact t_loc [0, 1] rfl (v_X8_type_30 p1    2  H)
  · have H := H.2 (bI_f c)
    refine s_iconst (v := 1) dX8_type_12 (by decide) ?_
    refine s_goto (tgt := 30) dX8_type_13 (by decide) ?_
    exact t_loc [0, 1] rfl (v_X8_type_30 p1    1  H)

def F_X8_clear (J : Nat → Nat → Int64)  (V : Nat → Nat → Int32) (Qr : Option Value → (Nat → Nat → Int32) → Prop) (Qx : String → (Nat → Nat → Int32) → Prop) : Prop :=
Qr (some (.int ((up2 V 405 0 0) 405 20))) (up2 (up2 V 405 0 0) 405 20 0)
theorem v_X8_clear {J : Nat → Nat → Int64}  {V : Nat → Nat → Int32} {Qr : Option Value → (Nat → Nat → Int32) → Prop} {Qx : String → (Nat → Nat → Int32) → Prop} (H : F_X8_clear J  V Qr Qx) : CTc J mX8_clear [.ref 405] V Qr Qx := by
  refine ctc_of (M := (T0 J, V)) pX8_clear (fun _ _ => rfl) (Nat.le_of_ble_eq_true rfl) ?_
  unfold F_X8_clear at H
  show WPc J mX8_clear Qr Qx 0 [(0, .ref 405)] [] V 0 0
  refine s_aload_n dX8_clear_0 rfl ?_
  refine s_iconst (v := 0) dX8_clear_1 (by decide) ?_
  refine t_putI fl_8_78 dX8_clear_2 ob_405 (Or.inl rfl) ?_
  refine s_aload_n dX8_clear_5 rfl ?_
  refine t_getI fl_8_210 dX8_clear_6 ob_405 rfl ?_
  refine t_istore_n (L' := [(1, .int ((up2 V 405 0 0) 405 20)), (0, .ref 405)]) dX8_clear_9 (by decide) rfl ?_
  refine s_aload_n dX8_clear_10 rfl ?_
  refine s_iconst (v := 0) dX8_clear_11 (by decide) ?_
  refine t_putI fl_8_210 dX8_clear_12 ob_405 (Or.inl rfl) ?_
  refine s_iload_n dX8_clear_15 rfl ?_
  exact s_iret dX8_clear_16 (Or.inl rfl) ⟨rfl, H⟩

def F_X8_isNext (J : Nat → Nat → Int64) (p1 : Int32) (p2 : Int32) (V : Nat → Nat → Int32) (Qr : Option Value → (Nat → Nat → Int32) → Prop) (Qx : String → (Nat → Nat → Int32) → Prop) : Prop :=
((¬ (V 405 22) = 0) →
  Qr (some (.int 0)) V) ∧
(((V 405 22) = 0) →
  (((V 405 20) ≤ (V 405 21)) →
    Qr (some (.int 0)) V) ∧
  ((¬ (V 405 20) ≤ (V 405 21)) →
    vp_in (V 405 21) 60 ∧
    CTc J mX8_in [.int (V 419 (V 405 21).toNatClampNeg), .int p1, .int p2] V (fun r V1 =>
      ∃ b1 : Bool, r = some (.int (bI b1)) ∧
      ((b1 = false) →
        Qr (some (.int 0)) V1) ∧
      ((b1 = true) →
        Qr (some (.int 1)) V1)) Qx))
theorem v_X8_isNext {J : Nat → Nat → Int64} (p1 : Int32) (p2 : Int32) {V : Nat → Nat → Int32} {Qr : Option Value → (Nat → Nat → Int32) → Prop} {Qx : String → (Nat → Nat → Int32) → Prop} (H : F_X8_isNext J p1 p2 V Qr Qx) : CTc J mX8_isNext [.ref 405, .int p1, .int p2] V Qr Qx := by
  refine ctc_of (M := (T0 J, V)) pX8_isNext (fun _ _ => rfl) (Nat.le_of_ble_eq_true rfl) ?_
  unfold F_X8_isNext at H
  show WPc J mX8_isNext Qr Qx 0 [(0, .ref 405), (1, .int p1), (2, .int p2)] [] V 0 0
  refine s_aload_n dX8_isNext_0 rfl ?_
  refine t_getI fl_8_213 dX8_isNext_1 ob_405 rfl ?_
  refine s_if_ne (tgt := 39) dX8_isNext_4 (by decide) (fun c => ?_) (fun c => ?_)
  · have H := H.1 c
    refine s_iconst (v := 0) dX8_isNext_39 (by decide) ?_
    exact s_iret dX8_isNext_40 (Or.inr ⟨rfl, (Or.inl rfl)⟩) ⟨rfl, H⟩
  · have H := H.2 c
    refine s_aload_n dX8_isNext_7 rfl ?_
    refine t_getI fl_8_216 dX8_isNext_8 ob_405 rfl ?_
    refine s_aload_n dX8_isNext_11 rfl ?_
    refine t_getI fl_8_210 dX8_isNext_12 ob_405 rfl ?_
    refine s_icmp_ge (tgt := 39) dX8_isNext_15 (by decide) (fun c => ?_) (fun c => ?_)
    · have H := H.1 c
      refine s_iconst (v := 0) dX8_isNext_39 (by decide) ?_
      exact s_iret dX8_isNext_40 (Or.inr ⟨rfl, (Or.inl rfl)⟩) ⟨rfl, H⟩
    · have H := H.2 c
      refine s_aload_n dX8_isNext_18 rfl ?_
      refine t_getR (r := 419) fl_8_50 dX8_isNext_19 ob_405 rfl rfl ?_
      refine s_aload_n dX8_isNext_22 rfl ?_
      refine t_getI fl_8_216 dX8_isNext_23 ob_405 rfl ?_
      refine t_iald dX8_isNext_26 ap_419 H.1 ?_
      have H := H.2
      refine s_iload_n dX8_isNext_27 rfl ?_
      refine s_iload_n dX8_isNext_28 rfl ?_
      refine t_cS (As := [.int (V 419 (V 405 21).toNatClampNeg), .int p1, .int p2]) (st := []) iv_8_81 dX8_isNext_29 ⟨by decide, by decide⟩ rfl (Nat.le_of_ble_eq_true rfl) (by decide) (by decide) rfl H (fun r V1 H => ?_)
      obtain ⟨b1, rfl, H⟩ := H
      refine s_if_eq (tgt := 39) dX8_isNext_32 (by decide) (fun c => ?_) (fun c => ?_)
      · have H := H.1 (bI_f c)
        refine s_iconst (v := 0) dX8_isNext_39 (by decide) ?_
        exact s_iret dX8_isNext_40 (Or.inr ⟨rfl, (Or.inl rfl)⟩) ⟨rfl, H⟩
      · have H := H.2 (bI_t c)
        refine s_iconst (v := 1) dX8_isNext_35 (by decide) ?_
        refine s_goto (tgt := 40) dX8_isNext_36 (by decide) ?_
        exact s_iret dX8_isNext_40 (Or.inr ⟨rfl, (Or.inr rfl)⟩) ⟨rfl, H⟩

def F_X8_takes_42 (J : Nat → Nat → Int64) (p1 : Int32) (p2 : Int32) (x3 : Int32) (x4 : Int32) (s0 : Int32) (s1 : Int32) (V : Nat → Nat → Int32) (Qr : Option Value → (Nat → Nat → Int32) → Prop) (Qx : String → (Nat → Nat → Int32) → Prop) : Prop :=
((¬ ((up2 V 405 21 (s1 + s0)) 405 22) = 0) →
  Qr (some (.int x4)) (up2 (up2 V 405 21 (s1 + s0)) 405 22 1)) ∧
((((up2 V 405 21 (s1 + s0)) 405 22) = 0) →
  ((¬ x3 = 0) →
    Qr (some (.int x4)) (up2 (up2 V 405 21 (s1 + s0)) 405 22 0)) ∧
  ((x3 = 0) →
    Qr (some (.int x4)) (up2 (up2 V 405 21 (s1 + s0)) 405 22 1)))
theorem v_X8_takes_42 {J : Nat → Nat → Int64} (p1 : Int32) (p2 : Int32) {Qr : Option Value → (Nat → Nat → Int32) → Prop} {Qx : String → (Nat → Nat → Int32) → Prop} (x3 : Int32) (x4 : Int32) (s0 : Int32) (s1 : Int32)  {V : Nat → Nat → Int32} (H : F_X8_takes_42 J p1 p2  x3 x4 s0 s1 V Qr Qx) : WPc J mX8_takes Qr Qx 42 [(0, .ref 405), (3, .int x3), (4, .int x4)] [.int s0, .int s1, .ref 405] V 0 0 := by
  unfold F_X8_takes_42 at H
  refine s_iadd dX8_takes_42 ?_
  refine t_putI fl_8_216 dX8_takes_43 ob_405 (Or.inl rfl) ?_
  refine s_aload_n dX8_takes_46 rfl ?_
  refine s_aload_n dX8_takes_47 rfl ?_
  refine t_getI fl_8_213 dX8_takes_48 ob_405 rfl ?_
  refine s_if_ne (tgt := 58) dX8_takes_51 (by decide) (fun c => ?_) (fun c => ?_)
  · have H := H.1 c
    refine s_iconst (v := 1) dX8_takes_58 (by decide) ?_
    refine s_goto (tgt := 63) dX8_takes_59 (by decide) ?_
    refine t_putI fl_8_213 dX8_takes_63 ob_405 (Or.inr ⟨rfl, (Or.inr rfl)⟩) ?_
    refine s_iload dX8_takes_66 rfl ?_
    exact s_iret dX8_takes_68 (Or.inl rfl) ⟨rfl, H⟩
  · have H := H.2 c
    refine s_iload_n dX8_takes_54 rfl ?_
    refine s_if_ne (tgt := 62) dX8_takes_55 (by decide) (fun c => ?_) (fun c => ?_)
    · have H := H.1 c
      refine s_iconst (v := 0) dX8_takes_62 (by decide) ?_
      refine t_putI fl_8_213 dX8_takes_63 ob_405 (Or.inr ⟨rfl, (Or.inl rfl)⟩) ?_
      refine s_iload dX8_takes_66 rfl ?_
      exact s_iret dX8_takes_68 (Or.inl rfl) ⟨rfl, H⟩
    · have H := H.2 c
      refine s_iconst (v := 1) dX8_takes_58 (by decide) ?_
      refine s_goto (tgt := 63) dX8_takes_59 (by decide) ?_
      refine t_putI fl_8_213 dX8_takes_63 ob_405 (Or.inr ⟨rfl, (Or.inr rfl)⟩) ?_
      refine s_iload dX8_takes_66 rfl ?_
      exact s_iret dX8_takes_68 (Or.inl rfl) ⟨rfl, H⟩
def F_X8_takes_26 (J : Nat → Nat → Int64) (p1 : Int32) (p2 : Int32) (x3 : Int32) (s0 : Int32) (V : Nat → Nat → Int32) (Qr : Option Value → (Nat → Nat → Int32) → Prop) (Qx : String → (Nat → Nat → Int32) → Prop) : Prop :=
((x3 = 0) →
  F_X8_takes_42 J p1 p2  x3 s0 0 (V 405 21) V Qr Qx) ∧
((¬ x3 = 0) →
  F_X8_takes_42 J p1 p2  x3 s0 1 (V 405 21) V Qr Qx)
theorem v_X8_takes_26 {J : Nat → Nat → Int64} (p1 : Int32) (p2 : Int32) {Qr : Option Value → (Nat → Nat → Int32) → Prop} {Qx : String → (Nat → Nat → Int32) → Prop} (x3 : Int32) (s0 : Int32)  {V : Nat → Nat → Int32} (H : F_X8_takes_26 J p1 p2  x3 s0 V Qr Qx) : WPc J mX8_takes Qr Qx 26 [(0, .ref 405), (3, .int x3)] [.int s0] V 0 0 := by
  unfold F_X8_takes_26 at H
  refine t_istore (L' := [(4, .int s0), (0, .ref 405), (3, .int x3)]) dX8_takes_26 (by decide) rfl ?_
  refine s_aload_n dX8_takes_28 rfl ?_
  refine s_dup dX8_takes_29 rfl ?_
  refine t_getI fl_8_216 dX8_takes_30 ob_405 rfl ?_
  refine s_iload_n dX8_takes_33 rfl ?_
  refine s_if_eq (tgt := 41) dX8_takes_34 (by decide) (fun c => ?_) (fun c => ?_)
  · have H := H.1 c
    refine s_iconst (v := 0) dX8_takes_41 (by decide) ?_
    exact t_loc [1, 2, 0] rfl (v_X8_takes_42 p1 p2    x3 s0 0 (V 405 21)  H)
  · have H := H.2 c
    refine s_iconst (v := 1) dX8_takes_37 (by decide) ?_
    refine s_goto (tgt := 42) dX8_takes_38 (by decide) ?_
    exact t_loc [1, 2, 0] rfl (v_X8_takes_42 p1 p2    x3 s0 1 (V 405 21)  H)
def F_X8_takes (J : Nat → Nat → Int64) (p1 : Int32) (p2 : Int32) (V : Nat → Nat → Int32) (Qr : Option Value → (Nat → Nat → Int32) → Prop) (Qx : String → (Nat → Nat → Int32) → Prop) : Prop :=
CTc J mX8_isNext [.ref 405, .int p1, .int p2] V (fun r V1 =>
  ∃ b1 : Bool, r = some (.int (bI b1)) ∧
  ((b1 = false) →
    F_X8_takes_26 J p1 p2  (bI b1) 0 V1 Qr Qx) ∧
  ((b1 = true) →
    vp_in (V1 405 21) 60 ∧
    F_X8_takes_26 J p1 p2  (bI b1) ((V1 419 (V1 405 21).toNatClampNeg) - p1) V1 Qr Qx)) Qx
theorem v_X8_takes {J : Nat → Nat → Int64} (p1 : Int32) (p2 : Int32) {V : Nat → Nat → Int32} {Qr : Option Value → (Nat → Nat → Int32) → Prop} {Qx : String → (Nat → Nat → Int32) → Prop} (H : F_X8_takes J p1 p2 V Qr Qx) : CTc J mX8_takes [.ref 405, .int p1, .int p2] V Qr Qx := by
  refine ctc_of (M := (T0 J, V)) pX8_takes (fun _ _ => rfl) (Nat.le_of_ble_eq_true rfl) ?_
  unfold F_X8_takes at H
  show WPc J mX8_takes Qr Qx 0 [(0, .ref 405), (1, .int p1), (2, .int p2)] [] V 0 0
  refine s_aload_n dX8_takes_0 rfl ?_
  refine s_iload_n dX8_takes_1 rfl ?_
  refine s_iload_n dX8_takes_2 rfl ?_
  refine t_cV (h := 405) (As := [.int p1, .int p2]) (st := []) iv_8_219 dX8_takes_3 ⟨by decide, by decide⟩ rfl (Nat.le_of_ble_eq_true rfl) (by decide) (by decide) rfl ob_405 H (fun r V1 H => ?_)
  obtain ⟨b1, rfl, H⟩ := H
  refine t_istore_n (L' := [(3, .int (bI b1)), (0, .ref 405), (1, .int p1), (2, .int p2)]) dX8_takes_6 (by decide) rfl ?_
  refine s_iload_n dX8_takes_7 rfl ?_
  refine s_if_eq (tgt := 25) dX8_takes_8 (by decide) (fun c => ?_) (fun c => ?_)
  · have H := H.1 (bI_f c)
    refine s_iconst (v := 0) dX8_takes_25 (by decide) ?_
    exact t_loc [1, 0] rfl (v_X8_takes_26 p1 p2    (bI b1) 0  H)
  · have H := H.2 (bI_t c)
    refine s_aload_n dX8_takes_11 rfl ?_
    refine t_getR (r := 419) fl_8_50 dX8_takes_12 ob_405 rfl rfl ?_
    refine s_aload_n dX8_takes_15 rfl ?_
    refine t_getI fl_8_216 dX8_takes_16 ob_405 rfl ?_
    refine t_iald dX8_takes_19 ap_419 H.1 ?_
    have H := H.2
    refine s_iload_n dX8_takes_20 rfl ?_
    refine s_isub dX8_takes_21 ?_
    refine s_goto (tgt := 26) dX8_takes_22 (by decide) ?_
    exact t_loc [1, 0] rfl (v_X8_takes_26 p1 p2    (bI b1) ((V1 419 (V1 405 21).toNatClampNeg) - p1)  H)

def F_X8_takesAll_38 (J : Nat → Nat → Int64) (p1 : Int32) (p2 : Int32) (p3 : Int32) (p4 : Int32) (s0 : Int32) (V : Nat → Nat → Int32) (Qr : Option Value → (Nat → Nat → Int32) → Prop) (Qx : String → (Nat → Nat → Int32) → Prop) : Prop :=
((¬ p4 = 0) →
  CTc J mX8_takes [.ref 405, .int p4, .int p4] V (fun r V1 =>
    ∃ r1 : Int32, r = some (.int r1) ∧
    Qr none V1) Qx) ∧
((p4 = 0) →
  Qr none V)
theorem v_X8_takesAll_38 {J : Nat → Nat → Int64} (p1 : Int32) (p2 : Int32) (p3 : Int32) (p4 : Int32) {Qr : Option Value → (Nat → Nat → Int32) → Prop} {Qx : String → (Nat → Nat → Int32) → Prop} (s0 : Int32)  {V : Nat → Nat → Int32} (H : F_X8_takesAll_38 J p1 p2 p3 p4  s0 V Qr Qx) : WPc J mX8_takesAll Qr Qx 38 [(0, .ref 405), (4, .int p4)] [.int s0] V 0 0 := by
  unfold F_X8_takesAll_38 at H
  refine t_istore (L' := [(5, .int s0), (0, .ref 405), (4, .int p4)]) dX8_takesAll_38 (by decide) rfl ?_
  refine s_iload dX8_takesAll_40 rfl ?_
  refine s_if_ne (tgt := 49) dX8_takesAll_42 (by decide) (fun c => ?_) (fun c => ?_)
  · have H := H.1 c
    refine s_aload_n dX8_takesAll_49 rfl ?_
    refine s_iload dX8_takesAll_50 rfl ?_
    refine s_iload dX8_takesAll_52 rfl ?_
    refine t_cV (h := 405) (As := [.int p4, .int p4]) (st := []) iv_8_222 dX8_takesAll_54 ⟨by decide, by decide⟩ rfl (Nat.le_of_ble_eq_true rfl) (by decide) (by decide) rfl ob_405 H (fun r V1 H => ?_)
    obtain ⟨r1, rfl, H⟩ := H
    refine t_istore (L' := [(5, .int r1), (0, .ref 405), (4, .int p4)]) dX8_takesAll_57 (by decide) rfl ?_
    exact s_vret dX8_takesAll_59 rfl ⟨rfl, H⟩
  · have H := H.2 c
    refine s_iconst (v := 0) dX8_takesAll_45 (by decide) ?_
    refine s_goto (tgt := 57) dX8_takesAll_46 (by decide) ?_
    refine t_istore (L' := [(5, .int 0), (0, .ref 405), (4, .int p4)]) dX8_takesAll_57 (by decide) rfl ?_
    exact s_vret dX8_takesAll_59 rfl ⟨rfl, H⟩
def F_X8_takesAll_22 (J : Nat → Nat → Int64) (p1 : Int32) (p2 : Int32) (p3 : Int32) (p4 : Int32) (s0 : Int32) (V : Nat → Nat → Int32) (Qr : Option Value → (Nat → Nat → Int32) → Prop) (Qx : String → (Nat → Nat → Int32) → Prop) : Prop :=
((¬ p3 = 0) →
  CTc J mX8_takes [.ref 405, .int p3, .int p3] V (fun r V1 =>
    ∃ r1 : Int32, r = some (.int r1) ∧
    F_X8_takesAll_38 J p1 p2 p3 p4  r1 V1 Qr Qx) Qx) ∧
((p3 = 0) →
  F_X8_takesAll_38 J p1 p2 p3 p4  0 V Qr Qx)
theorem v_X8_takesAll_22 {J : Nat → Nat → Int64} (p1 : Int32) (p2 : Int32) (p3 : Int32) (p4 : Int32) {Qr : Option Value → (Nat → Nat → Int32) → Prop} {Qx : String → (Nat → Nat → Int32) → Prop} (s0 : Int32)  {V : Nat → Nat → Int32} (H : F_X8_takesAll_22 J p1 p2 p3 p4  s0 V Qr Qx) : WPc J mX8_takesAll Qr Qx 22 [(0, .ref 405), (3, .int p3), (4, .int p4)] [.int s0] V 0 0 := by
  unfold F_X8_takesAll_22 at H
  refine t_istore (L' := [(5, .int s0), (0, .ref 405), (3, .int p3), (4, .int p4)]) dX8_takesAll_22 (by decide) rfl ?_
  refine s_iload_n dX8_takesAll_24 rfl ?_
  refine s_if_ne (tgt := 32) dX8_takesAll_25 (by decide) (fun c => ?_) (fun c => ?_)
  · have H := H.1 c
    refine s_aload_n dX8_takesAll_32 rfl ?_
    refine s_iload_n dX8_takesAll_33 rfl ?_
    refine s_iload_n dX8_takesAll_34 rfl ?_
    refine t_cV (h := 405) (As := [.int p3, .int p3]) (st := []) iv_8_222 dX8_takesAll_35 ⟨by decide, by decide⟩ rfl (Nat.le_of_ble_eq_true rfl) (by decide) (by decide) rfl ob_405 H (fun r V1 H => ?_)
    obtain ⟨r1, rfl, H⟩ := H
    exact t_loc [1, 3] rfl (v_X8_takesAll_38 p1 p2 p3 p4    r1  H)
  · have H := H.2 c
    refine s_iconst (v := 0) dX8_takesAll_28 (by decide) ?_
    refine s_goto (tgt := 38) dX8_takesAll_29 (by decide) ?_
    exact t_loc [1, 3] rfl (v_X8_takesAll_38 p1 p2 p3 p4    0  H)
def F_X8_takesAll (J : Nat → Nat → Int64) (p1 : Int32) (p2 : Int32) (p3 : Int32) (p4 : Int32) (V : Nat → Nat → Int32) (Qr : Option Value → (Nat → Nat → Int32) → Prop) (Qx : String → (Nat → Nat → Int32) → Prop) : Prop :=
CTc J mX8_takes [.ref 405, .int p1, .int p1] V (fun r V1 =>
  ∃ r1 : Int32, r = some (.int r1) ∧
  ((¬ p2 = 0) →
    CTc J mX8_takes [.ref 405, .int p2, .int p2] V1 (fun r V2 =>
      ∃ r2 : Int32, r = some (.int r2) ∧
      F_X8_takesAll_22 J p1 p2 p3 p4  r2 V2 Qr Qx) Qx) ∧
  ((p2 = 0) →
    F_X8_takesAll_22 J p1 p2 p3 p4  0 V1 Qr Qx)) Qx
theorem v_X8_takesAll {J : Nat → Nat → Int64} (p1 : Int32) (p2 : Int32) (p3 : Int32) (p4 : Int32) {V : Nat → Nat → Int32} {Qr : Option Value → (Nat → Nat → Int32) → Prop} {Qx : String → (Nat → Nat → Int32) → Prop} (H : F_X8_takesAll J p1 p2 p3 p4 V Qr Qx) : CTc J mX8_takesAll [.ref 405, .int p1, .int p2, .int p3, .int p4] V Qr Qx := by
  refine ctc_of (M := (T0 J, V)) pX8_takesAll (fun _ _ => rfl) (Nat.le_of_ble_eq_true rfl) ?_
  unfold F_X8_takesAll at H
  show WPc J mX8_takesAll Qr Qx 0 [(0, .ref 405), (1, .int p1), (2, .int p2), (3, .int p3), (4, .int p4)] [] V 0 0
  refine s_aload_n dX8_takesAll_0 rfl ?_
  refine s_iload_n dX8_takesAll_1 rfl ?_
  refine s_iload_n dX8_takesAll_2 rfl ?_
  refine t_cV (h := 405) (As := [.int p1, .int p1]) (st := []) iv_8_222 dX8_takesAll_3 ⟨by decide, by decide⟩ rfl (Nat.le_of_ble_eq_true rfl) (by decide) (by decide) rfl ob_405 H (fun r V1 H => ?_)
  obtain ⟨r1, rfl, H⟩ := H
  refine t_istore (L' := [(5, .int r1), (0, .ref 405), (1, .int p1), (2, .int p2), (3, .int p3), (4, .int p4)]) dX8_takesAll_6 (by decide) rfl ?_
  refine s_iload_n dX8_takesAll_8 rfl ?_
  refine s_if_ne (tgt := 16) dX8_takesAll_9 (by decide) (fun c => ?_) (fun c => ?_)
  · have H := H.1 c
    refine s_aload_n dX8_takesAll_16 rfl ?_
    refine s_iload_n dX8_takesAll_17 rfl ?_
    refine s_iload_n dX8_takesAll_18 rfl ?_
    refine t_cV (h := 405) (As := [.int p2, .int p2]) (st := []) iv_8_222 dX8_takesAll_19 ⟨by decide, by decide⟩ rfl (Nat.le_of_ble_eq_true rfl) (by decide) (by decide) rfl ob_405 H (fun r V2 H => ?_)
    obtain ⟨r2, rfl, H⟩ := H
    exact t_loc [1, 4, 5] rfl (v_X8_takesAll_22 p1 p2 p3 p4    r2  H)
  · have H := H.2 c
    refine s_iconst (v := 0) dX8_takesAll_12 (by decide) ?_
    refine s_goto (tgt := 22) dX8_takesAll_13 (by decide) ?_
    exact t_loc [1, 4, 5] rfl (v_X8_takesAll_22 p1 p2 p3 p4    0  H)

def F_X8_readWord_291 (J : Nat → Nat → Int64)  (s0 : Int32) (s1 : Int32) (V : Nat → Nat → Int32) (Qr : Option Value → (Nat → Nat → Int32) → Prop) (Qx : String → (Nat → Nat → Int32) → Prop) : Prop :=
((¬ (V 405 23) = 2) →
  CTc J mX8_takesAll [.ref 405, .int s1, .int s0, .int 0, .int 0] V (fun r V1 =>
    r = none ∧
    Qr none V1) Qx) ∧
(((V 405 23) = 2) →
  CTc J mX8_takesAll [.ref 405, .int s1, .int s0, .int 107, .int 0] V (fun r V1 =>
    r = none ∧
    Qr none V1) Qx)
theorem v_X8_readWord_291 {J : Nat → Nat → Int64}  {Qr : Option Value → (Nat → Nat → Int32) → Prop} {Qx : String → (Nat → Nat → Int32) → Prop} (s0 : Int32) (s1 : Int32)  {V : Nat → Nat → Int32} (H : F_X8_readWord_291 J   s0 s1 V Qr Qx) : WPc J mX8_readWord Qr Qx 291 [(0, .ref 405)] [.int s0, .int s1, .ref 405] V 0 0 := by
  unfold F_X8_readWord_291 at H
  refine s_aload_n dX8_readWord_291 rfl ?_
  refine t_getI fl_8_225 dX8_readWord_292 ob_405 rfl ?_
  refine s_iconst (v := 2) dX8_readWord_295 (by decide) ?_
  refine s_icmp_ne (tgt := 304) dX8_readWord_296 (by decide) (fun c => ?_) (fun c => ?_)
  · have H := H.1 c
    refine s_iconst (v := 0) dX8_readWord_304 (by decide) ?_
    refine s_iconst (v := 0) dX8_readWord_305 (by decide) ?_
    refine t_cV (h := 405) (As := [.int s1, .int s0, .int 0, .int 0]) (st := []) iv_8_228 dX8_readWord_306 ⟨by decide, by decide⟩ rfl (Nat.le_of_ble_eq_true rfl) (by decide) (by decide) rfl ob_405 H (fun r V1 H => ?_)
    obtain ⟨rfl, H⟩ := H
    refine s_goto (tgt := 327) dX8_readWord_309 (by decide) ?_
    exact s_vret dX8_readWord_327 rfl ⟨rfl, H⟩
  · have H := H.2 c
    refine s_bipush (v := 107) dX8_readWord_299 (by decide) ?_
    refine s_goto (tgt := 305) dX8_readWord_301 (by decide) ?_
    refine s_iconst (v := 0) dX8_readWord_305 (by decide) ?_
    refine t_cV (h := 405) (As := [.int s1, .int s0, .int 107, .int 0]) (st := []) iv_8_228 dX8_readWord_306 ⟨by decide, by decide⟩ rfl (Nat.le_of_ble_eq_true rfl) (by decide) (by decide) rfl ob_405 H (fun r V1 H => ?_)
    obtain ⟨rfl, H⟩ := H
    refine s_goto (tgt := 327) dX8_readWord_309 (by decide) ?_
    exact s_vret dX8_readWord_327 rfl ⟨rfl, H⟩
def F_X8_readWord_276 (J : Nat → Nat → Int64)  (s0 : Int32) (V : Nat → Nat → Int32) (Qr : Option Value → (Nat → Nat → Int32) → Prop) (Qx : String → (Nat → Nat → Int32) → Prop) : Prop :=
((¬ (V 405 23) = 2) →
  F_X8_readWord_291 J   107 s0 V Qr Qx) ∧
(((V 405 23) = 2) →
  F_X8_readWord_291 J   108 s0 V Qr Qx)
theorem v_X8_readWord_276 {J : Nat → Nat → Int64}  {Qr : Option Value → (Nat → Nat → Int32) → Prop} {Qx : String → (Nat → Nat → Int32) → Prop} (s0 : Int32)  {V : Nat → Nat → Int32} (H : F_X8_readWord_276 J   s0 V Qr Qx) : WPc J mX8_readWord Qr Qx 276 [(0, .ref 405)] [.int s0, .ref 405] V 0 0 := by
  unfold F_X8_readWord_276 at H
  refine s_aload_n dX8_readWord_276 rfl ?_
  refine t_getI fl_8_225 dX8_readWord_277 ob_405 rfl ?_
  refine s_iconst (v := 2) dX8_readWord_280 (by decide) ?_
  refine s_icmp_ne (tgt := 289) dX8_readWord_281 (by decide) (fun c => ?_) (fun c => ?_)
  · have H := H.1 c
    refine s_bipush (v := 107) dX8_readWord_289 (by decide) ?_
    exact t_loc [0] rfl (v_X8_readWord_291     107 s0  H)
  · have H := H.2 c
    refine s_bipush (v := 108) dX8_readWord_284 (by decide) ?_
    refine s_goto (tgt := 291) dX8_readWord_286 (by decide) ?_
    exact t_loc [0] rfl (v_X8_readWord_291     108 s0  H)
def F_X8_readWord_257 (J : Nat → Nat → Int64)  (s0 : Int32) (V : Nat → Nat → Int32) (Qr : Option Value → (Nat → Nat → Int32) → Prop) (Qx : String → (Nat → Nat → Int32) → Prop) : Prop :=
((¬ ((up2 V 405 23 s0) 405 23) = 2) →
  F_X8_readWord_276 J   99 (up2 V 405 23 s0) Qr Qx) ∧
((((up2 V 405 23 s0) 405 23) = 2) →
  F_X8_readWord_276 J   117 (up2 V 405 23 s0) Qr Qx)
theorem v_X8_readWord_257 {J : Nat → Nat → Int64}  {Qr : Option Value → (Nat → Nat → Int32) → Prop} {Qx : String → (Nat → Nat → Int32) → Prop} (s0 : Int32)  {V : Nat → Nat → Int32} (H : F_X8_readWord_257 J   s0 V Qr Qx) : WPc J mX8_readWord Qr Qx 257 [(0, .ref 405)] [.int s0, .ref 405] V 0 0 := by
  unfold F_X8_readWord_257 at H
  refine t_putI fl_8_225 dX8_readWord_257 ob_405 (Or.inl rfl) ?_
  refine s_aload_n dX8_readWord_260 rfl ?_
  refine s_aload_n dX8_readWord_261 rfl ?_
  refine t_getI fl_8_225 dX8_readWord_262 ob_405 rfl ?_
  refine s_iconst (v := 2) dX8_readWord_265 (by decide) ?_
  refine s_icmp_ne (tgt := 274) dX8_readWord_266 (by decide) (fun c => ?_) (fun c => ?_)
  · have H := H.1 c
    refine s_bipush (v := 99) dX8_readWord_274 (by decide) ?_
    exact t_loc [0] rfl (v_X8_readWord_276     99  H)
  · have H := H.2 c
    refine s_bipush (v := 117) dX8_readWord_269 (by decide) ?_
    refine s_goto (tgt := 276) dX8_readWord_271 (by decide) ?_
    exact t_loc [0] rfl (v_X8_readWord_276     117  H)
def F_X8_readWord_225 (J : Nat → Nat → Int64)  (x1 : Int32) (V : Nat → Nat → Int32) (Qr : Option Value → (Nat → Nat → Int32) → Prop) (Qx : String → (Nat → Nat → Int32) → Prop) : Prop :=
((¬ x1 = 98) →
  Qr none (up2 (up2 V 405 22 1) 405 21 (((up2 V 405 22 1) 405 21) - 1))) ∧
((x1 = 98) →
  CTc J mX8_takes [.ref 405, .int 97, .int 97] V (fun r V1 =>
    ∃ r1 : Int32, r = some (.int r1) ∧
    CTc J mX8_isNext [.ref 405, .int 117, .int 117] V1 (fun r V2 =>
      ∃ b2 : Bool, r = some (.int (bI b2)) ∧
      ((b2 = false) →
        F_X8_readWord_257 J   3 V2 Qr Qx) ∧
      ((b2 = true) →
        F_X8_readWord_257 J   2 V2 Qr Qx)) Qx) Qx)
theorem v_X8_readWord_225 {J : Nat → Nat → Int64}  {Qr : Option Value → (Nat → Nat → Int32) → Prop} {Qx : String → (Nat → Nat → Int32) → Prop} (x1 : Int32)  {V : Nat → Nat → Int32} (H : F_X8_readWord_225 J   x1 V Qr Qx) : WPc J mX8_readWord Qr Qx 225 [(0, .ref 405), (1, .int x1)] [] V 0 0 := by
  unfold F_X8_readWord_225 at H
  refine s_iload_n dX8_readWord_225 rfl ?_
  refine s_bipush (v := 98) dX8_readWord_226 (by decide) ?_
  refine s_icmp_ne (tgt := 312) dX8_readWord_228 (by decide) (fun c => ?_) (fun c => ?_)
  · have H := H.1 c
    refine s_aload_n dX8_readWord_312 rfl ?_
    refine s_iconst (v := 1) dX8_readWord_313 (by decide) ?_
    refine t_putI fl_8_213 dX8_readWord_314 ob_405 (Or.inr ⟨rfl, (Or.inr rfl)⟩) ?_
    refine s_aload_n dX8_readWord_317 rfl ?_
    refine s_dup dX8_readWord_318 rfl ?_
    refine t_getI fl_8_216 dX8_readWord_319 ob_405 rfl ?_
    refine s_iconst (v := 1) dX8_readWord_322 (by decide) ?_
    refine s_isub dX8_readWord_323 ?_
    refine t_putI fl_8_216 dX8_readWord_324 ob_405 (Or.inl rfl) ?_
    exact s_vret dX8_readWord_327 rfl ⟨rfl, H⟩
  · have H := H.2 c
    refine s_aload_n dX8_readWord_231 rfl ?_
    refine s_bipush (v := 97) dX8_readWord_232 (by decide) ?_
    refine s_bipush (v := 97) dX8_readWord_234 (by decide) ?_
    refine t_cV (h := 405) (As := [.int 97, .int 97]) (st := []) iv_8_222 dX8_readWord_236 ⟨by decide, by decide⟩ rfl (Nat.le_of_ble_eq_true rfl) (by decide) (by decide) rfl ob_405 H (fun r V1 H => ?_)
    obtain ⟨r1, rfl, H⟩ := H
    refine t_istore_n (L' := [(3, .int r1), (0, .ref 405), (1, .int x1)]) dX8_readWord_239 (by decide) rfl ?_
    refine s_aload_n dX8_readWord_240 rfl ?_
    refine s_aload_n dX8_readWord_241 rfl ?_
    refine s_bipush (v := 117) dX8_readWord_242 (by decide) ?_
    refine s_bipush (v := 117) dX8_readWord_244 (by decide) ?_
    refine t_cV (h := 405) (As := [.int 117, .int 117]) (st := [.ref 405]) iv_8_219 dX8_readWord_246 ⟨by decide, by decide⟩ rfl (Nat.le_of_ble_eq_true rfl) (by decide) (by decide) rfl ob_405 H (fun r V2 H => ?_)
    obtain ⟨b2, rfl, H⟩ := H
    refine s_if_eq (tgt := 256) dX8_readWord_249 (by decide) (fun c => ?_) (fun c => ?_)
    · have H := H.1 (bI_f c)
      refine s_iconst (v := 3) dX8_readWord_256 (by decide) ?_
      exact t_loc [1] rfl (v_X8_readWord_257     3  H)
    · have H := H.2 (bI_t c)
      refine s_iconst (v := 2) dX8_readWord_252 (by decide) ?_
      refine s_goto (tgt := 257) dX8_readWord_253 (by decide) ?_
      exact t_loc [1] rfl (v_X8_readWord_257     2  H)
def F_X8_readWord_167 (J : Nat → Nat → Int64)  (x1 : Int32) (x2 : Int32) (V : Nat → Nat → Int32) (Qr : Option Value → (Nat → Nat → Int32) → Prop) (Qx : String → (Nat → Nat → Int32) → Prop) : Prop :=
((¬ x1 = 116) →
  ((¬ x1 = 98) →
    F_X8_readWord_225 J   x1 V Qr Qx) ∧
  ((x1 = 98) →
    ((¬ x2 = 111) →
      F_X8_readWord_225 J   x1 V Qr Qx) ∧
    ((x2 = 111) →
      CTc J mX8_takesAll [.ref 405, .int 111, .int 110, .int 117, .int 115] (up2 V 405 23 1) (fun r V1 =>
        r = none ∧
        Qr none V1) Qx))) ∧
((x1 = 116) →
  CTc J mX8_takesAll [.ref 405, .int 111, .int 117, .int 99, .int 104] (up2 V 405 23 0) (fun r V1 =>
    r = none ∧
    Qr none V1) Qx)
theorem v_X8_readWord_167 {J : Nat → Nat → Int64}  {Qr : Option Value → (Nat → Nat → Int32) → Prop} {Qx : String → (Nat → Nat → Int32) → Prop} (x1 : Int32) (x2 : Int32)  {V : Nat → Nat → Int32} (H : F_X8_readWord_167 J   x1 x2 V Qr Qx) : WPc J mX8_readWord Qr Qx 167 [(0, .ref 405), (1, .int x1), (2, .int x2)] [] V 0 0 := by
  unfold F_X8_readWord_167 at H
  refine s_iload_n dX8_readWord_167 rfl ?_
  refine s_bipush (v := 116) dX8_readWord_168 (by decide) ?_
  refine s_icmp_ne (tgt := 193) dX8_readWord_170 (by decide) (fun c => ?_) (fun c => ?_)
  · have H := H.1 c
    refine s_iload_n dX8_readWord_193 rfl ?_
    refine s_bipush (v := 98) dX8_readWord_194 (by decide) ?_
    refine s_icmp_ne (tgt := 225) dX8_readWord_196 (by decide) (fun c => ?_) (fun c => ?_)
    · have H := H.1 c
      exact t_loc [0, 1] rfl (v_X8_readWord_225     x1  H)
    · have H := H.2 c
      refine s_iload_n dX8_readWord_199 rfl ?_
      refine s_bipush (v := 111) dX8_readWord_200 (by decide) ?_
      refine s_icmp_ne (tgt := 225) dX8_readWord_202 (by decide) (fun c => ?_) (fun c => ?_)
      · have H := H.1 c
        exact t_loc [0, 1] rfl (v_X8_readWord_225     x1  H)
      · have H := H.2 c
        refine s_aload_n dX8_readWord_205 rfl ?_
        refine s_iconst (v := 1) dX8_readWord_206 (by decide) ?_
        refine t_putI fl_8_225 dX8_readWord_207 ob_405 (Or.inl rfl) ?_
        refine s_aload_n dX8_readWord_210 rfl ?_
        refine s_bipush (v := 111) dX8_readWord_211 (by decide) ?_
        refine s_bipush (v := 110) dX8_readWord_213 (by decide) ?_
        refine s_bipush (v := 117) dX8_readWord_215 (by decide) ?_
        refine s_bipush (v := 115) dX8_readWord_217 (by decide) ?_
        refine t_cV (h := 405) (As := [.int 111, .int 110, .int 117, .int 115]) (st := []) iv_8_228 dX8_readWord_219 ⟨by decide, by decide⟩ rfl (Nat.le_of_ble_eq_true rfl) (by decide) (by decide) rfl ob_405 H (fun r V1 H => ?_)
        obtain ⟨rfl, H⟩ := H
        refine s_goto (tgt := 327) dX8_readWord_222 (by decide) ?_
        exact s_vret dX8_readWord_327 rfl ⟨rfl, H⟩
  · have H := H.2 c
    refine s_aload_n dX8_readWord_173 rfl ?_
    refine s_iconst (v := 0) dX8_readWord_174 (by decide) ?_
    refine t_putI fl_8_225 dX8_readWord_175 ob_405 (Or.inl rfl) ?_
    refine s_aload_n dX8_readWord_178 rfl ?_
    refine s_bipush (v := 111) dX8_readWord_179 (by decide) ?_
    refine s_bipush (v := 117) dX8_readWord_181 (by decide) ?_
    refine s_bipush (v := 99) dX8_readWord_183 (by decide) ?_
    refine s_bipush (v := 104) dX8_readWord_185 (by decide) ?_
    refine t_cV (h := 405) (As := [.int 111, .int 117, .int 99, .int 104]) (st := []) iv_8_228 dX8_readWord_187 ⟨by decide, by decide⟩ rfl (Nat.le_of_ble_eq_true rfl) (by decide) (by decide) rfl ob_405 H (fun r V1 H => ?_)
    obtain ⟨rfl, H⟩ := H
    refine s_goto (tgt := 327) dX8_readWord_190 (by decide) ?_
    exact s_vret dX8_readWord_327 rfl ⟨rfl, H⟩
def F_X8_readWord_59 (J : Nat → Nat → Int64)  (x1 : Int32) (s0 : Int32) (V : Nat → Nat → Int32) (Qr : Option Value → (Nat → Nat → Int32) → Prop) (Qx : String → (Nat → Nat → Int32) → Prop) : Prop :=
((¬ x1 = 114) →
  ((¬ x1 = 102) →
    ((¬ x1 = 108) →
      ((¬ x1 = 116) →
        F_X8_readWord_167 J   x1 s0 (up2 V 405 23 (-1)) Qr Qx) ∧
      ((x1 = 116) →
        ((¬ s0 = 105) →
          F_X8_readWord_167 J   x1 s0 (up2 V 405 23 (-1)) Qr Qx) ∧
        ((s0 = 105) →
          CTc J mX8_takesAll [.ref 405, .int 105, .int 109, .int 101, .int 0] (up2 (up2 V 405 23 (-1)) 405 23 6) (fun r V1 =>
            r = none ∧
            Qr none V1) Qx))) ∧
    ((x1 = 108) →
      CTc J mX8_takesAll [.ref 405, .int 105, .int 110, .int 101, .int 0] (up2 (up2 V 405 23 (-1)) 405 23 5) (fun r V1 =>
        r = none ∧
        Qr none V1) Qx)) ∧
  ((x1 = 102) →
    CTc J mX8_takesAll [.ref 405, .int 97, .int 108, .int 108, .int 0] (up2 (up2 V 405 23 (-1)) 405 23 4) (fun r V1 =>
      r = none ∧
      Qr none V1) Qx)) ∧
((x1 = 114) →
  CTc J mX8_takesAll [.ref 405, .int 97, .int 105, .int 100, .int 0] (up2 V 405 23 (-1)) (fun r V1 =>
    r = none ∧
    Qr none V1) Qx)
theorem v_X8_readWord_59 {J : Nat → Nat → Int64}  {Qr : Option Value → (Nat → Nat → Int32) → Prop} {Qx : String → (Nat → Nat → Int32) → Prop} (x1 : Int32) (s0 : Int32)  {V : Nat → Nat → Int32} (H : F_X8_readWord_59 J   x1 s0 V Qr Qx) : WPc J mX8_readWord Qr Qx 59 [(0, .ref 405), (1, .int x1)] [.int s0] V 0 0 := by
  unfold F_X8_readWord_59 at H
  refine t_istore_n (L' := [(2, .int s0), (0, .ref 405), (1, .int x1)]) dX8_readWord_59 (by decide) rfl ?_
  refine s_aload_n dX8_readWord_60 rfl ?_
  refine s_iconst (v := (-1)) dX8_readWord_61 (by decide) ?_
  refine t_putI fl_8_225 dX8_readWord_62 ob_405 (Or.inl rfl) ?_
  refine s_iload_n dX8_readWord_65 rfl ?_
  refine s_bipush (v := 114) dX8_readWord_66 (by decide) ?_
  refine s_icmp_ne (tgt := 85) dX8_readWord_68 (by decide) (fun c => ?_) (fun c => ?_)
  · have H := H.1 c
    refine s_iload_n dX8_readWord_85 rfl ?_
    refine s_bipush (v := 102) dX8_readWord_86 (by decide) ?_
    refine s_icmp_ne (tgt := 110) dX8_readWord_88 (by decide) (fun c => ?_) (fun c => ?_)
    · have H := H.1 c
      refine s_iload_n dX8_readWord_110 rfl ?_
      refine s_bipush (v := 108) dX8_readWord_111 (by decide) ?_
      refine s_icmp_ne (tgt := 135) dX8_readWord_113 (by decide) (fun c => ?_) (fun c => ?_)
      · have H := H.1 c
        refine s_iload_n dX8_readWord_135 rfl ?_
        refine s_bipush (v := 116) dX8_readWord_136 (by decide) ?_
        refine s_icmp_ne (tgt := 167) dX8_readWord_138 (by decide) (fun c => ?_) (fun c => ?_)
        · have H := H.1 c
          exact t_loc [1, 2, 0] rfl (v_X8_readWord_167     x1 s0  H)
        · have H := H.2 c
          refine s_iload_n dX8_readWord_141 rfl ?_
          refine s_bipush (v := 105) dX8_readWord_142 (by decide) ?_
          refine s_icmp_ne (tgt := 167) dX8_readWord_144 (by decide) (fun c => ?_) (fun c => ?_)
          · have H := H.1 c
            exact t_loc [1, 2, 0] rfl (v_X8_readWord_167     x1 s0  H)
          · have H := H.2 c
            refine s_aload_n dX8_readWord_147 rfl ?_
            refine s_bipush (v := 6) dX8_readWord_148 (by decide) ?_
            refine t_putI fl_8_225 dX8_readWord_150 ob_405 (Or.inl rfl) ?_
            refine s_aload_n dX8_readWord_153 rfl ?_
            refine s_bipush (v := 105) dX8_readWord_154 (by decide) ?_
            refine s_bipush (v := 109) dX8_readWord_156 (by decide) ?_
            refine s_bipush (v := 101) dX8_readWord_158 (by decide) ?_
            refine s_iconst (v := 0) dX8_readWord_160 (by decide) ?_
            refine t_cV (h := 405) (As := [.int 105, .int 109, .int 101, .int 0]) (st := []) iv_8_228 dX8_readWord_161 ⟨by decide, by decide⟩ rfl (Nat.le_of_ble_eq_true rfl) (by decide) (by decide) rfl ob_405 H (fun r V1 H => ?_)
            obtain ⟨rfl, H⟩ := H
            refine s_goto (tgt := 327) dX8_readWord_164 (by decide) ?_
            exact s_vret dX8_readWord_327 rfl ⟨rfl, H⟩
      · have H := H.2 c
        refine s_aload_n dX8_readWord_116 rfl ?_
        refine s_iconst (v := 5) dX8_readWord_117 (by decide) ?_
        refine t_putI fl_8_225 dX8_readWord_118 ob_405 (Or.inl rfl) ?_
        refine s_aload_n dX8_readWord_121 rfl ?_
        refine s_bipush (v := 105) dX8_readWord_122 (by decide) ?_
        refine s_bipush (v := 110) dX8_readWord_124 (by decide) ?_
        refine s_bipush (v := 101) dX8_readWord_126 (by decide) ?_
        refine s_iconst (v := 0) dX8_readWord_128 (by decide) ?_
        refine t_cV (h := 405) (As := [.int 105, .int 110, .int 101, .int 0]) (st := []) iv_8_228 dX8_readWord_129 ⟨by decide, by decide⟩ rfl (Nat.le_of_ble_eq_true rfl) (by decide) (by decide) rfl ob_405 H (fun r V1 H => ?_)
        obtain ⟨rfl, H⟩ := H
        refine s_goto (tgt := 327) dX8_readWord_132 (by decide) ?_
        exact s_vret dX8_readWord_327 rfl ⟨rfl, H⟩
    · have H := H.2 c
      refine s_aload_n dX8_readWord_91 rfl ?_
      refine s_iconst (v := 4) dX8_readWord_92 (by decide) ?_
      refine t_putI fl_8_225 dX8_readWord_93 ob_405 (Or.inl rfl) ?_
      refine s_aload_n dX8_readWord_96 rfl ?_
      refine s_bipush (v := 97) dX8_readWord_97 (by decide) ?_
      refine s_bipush (v := 108) dX8_readWord_99 (by decide) ?_
      refine s_bipush (v := 108) dX8_readWord_101 (by decide) ?_
      refine s_iconst (v := 0) dX8_readWord_103 (by decide) ?_
      refine t_cV (h := 405) (As := [.int 97, .int 108, .int 108, .int 0]) (st := []) iv_8_228 dX8_readWord_104 ⟨by decide, by decide⟩ rfl (Nat.le_of_ble_eq_true rfl) (by decide) (by decide) rfl ob_405 H (fun r V1 H => ?_)
      obtain ⟨rfl, H⟩ := H
      refine s_goto (tgt := 327) dX8_readWord_107 (by decide) ?_
      exact s_vret dX8_readWord_327 rfl ⟨rfl, H⟩
  · have H := H.2 c
    refine s_aload_n dX8_readWord_71 rfl ?_
    refine s_bipush (v := 97) dX8_readWord_72 (by decide) ?_
    refine s_bipush (v := 105) dX8_readWord_74 (by decide) ?_
    refine s_bipush (v := 100) dX8_readWord_76 (by decide) ?_
    refine s_iconst (v := 0) dX8_readWord_78 (by decide) ?_
    refine t_cV (h := 405) (As := [.int 97, .int 105, .int 100, .int 0]) (st := []) iv_8_228 dX8_readWord_79 ⟨by decide, by decide⟩ rfl (Nat.le_of_ble_eq_true rfl) (by decide) (by decide) rfl ob_405 H (fun r V1 H => ?_)
    obtain ⟨rfl, H⟩ := H
    refine s_goto (tgt := 327) dX8_readWord_82 (by decide) ?_
    exact s_vret dX8_readWord_327 rfl ⟨rfl, H⟩
def F_X8_readWord_24 (J : Nat → Nat → Int64)  (s0 : Int32) (V : Nat → Nat → Int32) (Qr : Option Value → (Nat → Nat → Int32) → Prop) (Qx : String → (Nat → Nat → Int32) → Prop) : Prop :=
((((up2 V 405 21 ((V 405 21) + 1)) 405 20) ≤ ((up2 V 405 21 ((V 405 21) + 1)) 405 21)) →
  F_X8_readWord_59 J   s0 0 (up2 V 405 21 ((V 405 21) + 1)) Qr Qx) ∧
((¬ ((up2 V 405 21 ((V 405 21) + 1)) 405 20) ≤ ((up2 V 405 21 ((V 405 21) + 1)) 405 21)) →
  vp_in ((up2 V 405 21 ((V 405 21) + 1)) 405 21) 60 ∧
  F_X8_readWord_59 J   s0 ((up2 V 405 21 ((V 405 21) + 1)) 419 ((up2 V 405 21 ((V 405 21) + 1)) 405 21).toNatClampNeg) (up2 V 405 21 ((V 405 21) + 1)) Qr Qx)
theorem v_X8_readWord_24 {J : Nat → Nat → Int64}  {Qr : Option Value → (Nat → Nat → Int32) → Prop} {Qx : String → (Nat → Nat → Int32) → Prop} (s0 : Int32)  {V : Nat → Nat → Int32} (H : F_X8_readWord_24 J   s0 V Qr Qx) : WPc J mX8_readWord Qr Qx 24 [(0, .ref 405)] [.int s0] V 0 0 := by
  unfold F_X8_readWord_24 at H
  refine t_istore_n (L' := [(1, .int s0), (0, .ref 405)]) dX8_readWord_24 (by decide) rfl ?_
  refine s_aload_n dX8_readWord_25 rfl ?_
  refine s_dup dX8_readWord_26 rfl ?_
  refine t_getI fl_8_216 dX8_readWord_27 ob_405 rfl ?_
  refine s_iconst (v := 1) dX8_readWord_30 (by decide) ?_
  refine s_iadd dX8_readWord_31 ?_
  refine t_putI fl_8_216 dX8_readWord_32 ob_405 (Or.inl rfl) ?_
  refine s_aload_n dX8_readWord_35 rfl ?_
  refine t_getI fl_8_216 dX8_readWord_36 ob_405 rfl ?_
  refine s_aload_n dX8_readWord_39 rfl ?_
  refine t_getI fl_8_210 dX8_readWord_40 ob_405 rfl ?_
  refine s_icmp_ge (tgt := 58) dX8_readWord_43 (by decide) (fun c => ?_) (fun c => ?_)
  · have H := H.1 c
    refine s_iconst (v := 0) dX8_readWord_58 (by decide) ?_
    exact t_loc [1, 0] rfl (v_X8_readWord_59     s0 0  H)
  · have H := H.2 c
    refine s_aload_n dX8_readWord_46 rfl ?_
    refine t_getR (r := 419) fl_8_50 dX8_readWord_47 ob_405 rfl rfl ?_
    refine s_aload_n dX8_readWord_50 rfl ?_
    refine t_getI fl_8_216 dX8_readWord_51 ob_405 rfl ?_
    refine t_iald dX8_readWord_54 ap_419 H.1 ?_
    have H := H.2
    refine s_goto (tgt := 59) dX8_readWord_55 (by decide) ?_
    exact t_loc [1, 0] rfl (v_X8_readWord_59     s0 ((up2 V 405 21 ((V 405 21) + 1)) 419 ((up2 V 405 21 ((V 405 21) + 1)) 405 21).toNatClampNeg)  H)
def F_X8_readWord (J : Nat → Nat → Int64)  (V : Nat → Nat → Int32) (Qr : Option Value → (Nat → Nat → Int32) → Prop) (Qx : String → (Nat → Nat → Int32) → Prop) : Prop :=
(((V 405 20) ≤ (V 405 21)) →
  F_X8_readWord_24 J   0 V Qr Qx) ∧
((¬ (V 405 20) ≤ (V 405 21)) →
  vp_in (V 405 21) 60 ∧
  F_X8_readWord_24 J   (V 419 (V 405 21).toNatClampNeg) V Qr Qx)
theorem v_X8_readWord {J : Nat → Nat → Int64}  {V : Nat → Nat → Int32} {Qr : Option Value → (Nat → Nat → Int32) → Prop} {Qx : String → (Nat → Nat → Int32) → Prop} (H : F_X8_readWord J  V Qr Qx) : CTc J mX8_readWord [.ref 405] V Qr Qx := by
  refine ctc_of (M := (T0 J, V)) pX8_readWord (fun _ _ => rfl) (Nat.le_of_ble_eq_true rfl) ?_
  unfold F_X8_readWord at H
  show WPc J mX8_readWord Qr Qx 0 [(0, .ref 405)] [] V 0 0
  refine s_aload_n dX8_readWord_0 rfl ?_
  refine t_getI fl_8_216 dX8_readWord_1 ob_405 rfl ?_
  refine s_aload_n dX8_readWord_4 rfl ?_
  refine t_getI fl_8_210 dX8_readWord_5 ob_405 rfl ?_
  refine s_icmp_ge (tgt := 23) dX8_readWord_8 (by decide) (fun c => ?_) (fun c => ?_)
  · have H := H.1 c
    refine s_iconst (v := 0) dX8_readWord_23 (by decide) ?_
    exact t_loc [0] rfl (v_X8_readWord_24     0  H)
  · have H := H.2 c
    refine s_aload_n dX8_readWord_11 rfl ?_
    refine t_getR (r := 419) fl_8_50 dX8_readWord_12 ob_405 rfl rfl ?_
    refine s_aload_n dX8_readWord_15 rfl ?_
    refine t_getI fl_8_216 dX8_readWord_16 ob_405 rfl ?_
    refine t_iald dX8_readWord_19 ap_419 H.1 ?_
    have H := H.2
    refine s_goto (tgt := 24) dX8_readWord_20 (by decide) ?_
    exact t_loc [0] rfl (v_X8_readWord_24     (V 419 (V 405 21).toNatClampNeg)  H)

def F_X8_readOrder_174 (J : Nat → Nat → Int64)   (V : Nat → Nat → Int32) (Qr : Option Value → (Nat → Nat → Int32) → Prop) (Qx : String → (Nat → Nat → Int32) → Prop) : Prop :=
CTc J mX8_takes [.ref 405, .int 59, .int 59] V (fun r V1 =>
  ∃ r1 : Int32, r = some (.int r1) ∧
  Qr none V1) Qx
theorem v_X8_readOrder_174 {J : Nat → Nat → Int64}  {Qr : Option Value → (Nat → Nat → Int32) → Prop} {Qx : String → (Nat → Nat → Int32) → Prop}   {V : Nat → Nat → Int32} (H : F_X8_readOrder_174 J    V Qr Qx) : WPc J mX8_readOrder Qr Qx 174 [(0, .ref 405)] [] V 0 0 := by
  unfold F_X8_readOrder_174 at H
  refine s_aload_n dX8_readOrder_174 rfl ?_
  refine s_bipush (v := 59) dX8_readOrder_175 (by decide) ?_
  refine s_bipush (v := 59) dX8_readOrder_177 (by decide) ?_
  refine t_cV (h := 405) (As := [.int 59, .int 59]) (st := []) iv_8_222 dX8_readOrder_179 ⟨by decide, by decide⟩ rfl (Nat.le_of_ble_eq_true rfl) (by decide) (by decide) rfl ob_405 H (fun r V1 H => ?_)
  obtain ⟨r1, rfl, H⟩ := H
  refine t_istore_n (L' := [(1, .int r1), (0, .ref 405)]) dX8_readOrder_182 (by decide) rfl ?_
  exact s_vret dX8_readOrder_183 rfl ⟨rfl, H⟩
def F_X8_readOrder_171 (J : Nat → Nat → Int64)  (s0 : Int32) (V : Nat → Nat → Int32) (Qr : Option Value → (Nat → Nat → Int32) → Prop) (Qx : String → (Nat → Nat → Int32) → Prop) : Prop :=
F_X8_readOrder_174 J    (up2 V 405 25 s0) Qr Qx
theorem v_X8_readOrder_171 {J : Nat → Nat → Int64}  {Qr : Option Value → (Nat → Nat → Int32) → Prop} {Qx : String → (Nat → Nat → Int32) → Prop} (s0 : Int32)  {V : Nat → Nat → Int32} (H : F_X8_readOrder_171 J   s0 V Qr Qx) : WPc J mX8_readOrder Qr Qx 171 [(0, .ref 405)] [.int s0, .ref 405] V 0 0 := by
  unfold F_X8_readOrder_171 at H
  refine t_putI fl_8_238 dX8_readOrder_171 ob_405 (Or.inl rfl) ?_
  exact t_loc [0] rfl (v_X8_readOrder_174       H)
def F_X8_readOrder_167 (J : Nat → Nat → Int64)   (V : Nat → Nat → Int32) (Qr : Option Value → (Nat → Nat → Int32) → Prop) (Qx : String → (Nat → Nat → Int32) → Prop) : Prop :=
F_X8_readOrder_171 J   (V 405 25) V Qr Qx
theorem v_X8_readOrder_167 {J : Nat → Nat → Int64}  {Qr : Option Value → (Nat → Nat → Int32) → Prop} {Qx : String → (Nat → Nat → Int32) → Prop}   {V : Nat → Nat → Int32} (H : F_X8_readOrder_167 J    V Qr Qx) : WPc J mX8_readOrder Qr Qx 167 [(0, .ref 405)] [.ref 405] V 0 0 := by
  unfold F_X8_readOrder_167 at H
  refine s_aload_n dX8_readOrder_167 rfl ?_
  refine t_getI fl_8_238 dX8_readOrder_168 ob_405 rfl ?_
  exact t_loc [0] rfl (v_X8_readOrder_171     (V 405 25)  H)
def F_X8_readOrder_104 (J : Nat → Nat → Int64)  (s0 : Int32) (V : Nat → Nat → Int32) (Qr : Option Value → (Nat → Nat → Int32) → Prop) (Qx : String → (Nat → Nat → Int32) → Prop) : Prop :=
CTc J mX8_isNext [.ref 405, .int 48, .int 57] (up2 V 405 25 s0) (fun r V1 =>
  ∃ b1 : Bool, r = some (.int (bI b1)) ∧
  ((b1 = false) →
    F_X8_readOrder_167 J    V1 Qr Qx) ∧
  ((b1 = true) →
    (((V1 405 21) ≤ 1) →
      F_X8_readOrder_167 J    V1 Qr Qx) ∧
    ((¬ (V1 405 21) ≤ 1) →
      vp_in ((V1 405 21) - 2) 60 ∧
      CTc J mX8_in [.int (V1 419 ((V1 405 21) - 2).toNatClampNeg), .int 48, .int 57] V1 (fun r V2 =>
        ∃ b2 : Bool, r = some (.int (bI b2)) ∧
        ((b2 = false) →
          F_X8_readOrder_167 J    V2 Qr Qx) ∧
        ((b2 = true) →
          CTc J mX8_takes [.ref 405, .int 48, .int 57] V2 (fun r V3 =>
            ∃ r3 : Int32, r = some (.int r3) ∧
            F_X8_readOrder_171 J   ((10 * (V2 405 25)) + r3) V3 Qr Qx) Qx)) Qx))) Qx
theorem v_X8_readOrder_104 {J : Nat → Nat → Int64}  {Qr : Option Value → (Nat → Nat → Int32) → Prop} {Qx : String → (Nat → Nat → Int32) → Prop} (s0 : Int32)  {V : Nat → Nat → Int32} (H : F_X8_readOrder_104 J   s0 V Qr Qx) : WPc J mX8_readOrder Qr Qx 104 [(0, .ref 405)] [.int s0, .ref 405] V 0 0 := by
  unfold F_X8_readOrder_104 at H
  refine t_putI fl_8_238 dX8_readOrder_104 ob_405 (Or.inl rfl) ?_
  refine s_aload_n dX8_readOrder_107 rfl ?_
  refine s_aload_n dX8_readOrder_108 rfl ?_
  refine s_bipush (v := 48) dX8_readOrder_109 (by decide) ?_
  refine s_bipush (v := 57) dX8_readOrder_111 (by decide) ?_
  refine t_cV (h := 405) (As := [.int 48, .int 57]) (st := [.ref 405]) iv_8_219 dX8_readOrder_113 ⟨by decide, by decide⟩ rfl (Nat.le_of_ble_eq_true rfl) (by decide) (by decide) rfl ob_405 H (fun r V1 H => ?_)
  obtain ⟨b1, rfl, H⟩ := H
  refine s_if_eq (tgt := 167) dX8_readOrder_116 (by decide) (fun c => ?_) (fun c => ?_)
  · have H := H.1 (bI_f c)
    exact t_loc [0] rfl (v_X8_readOrder_167       H)
  · have H := H.2 (bI_t c)
    refine s_aload_n dX8_readOrder_119 rfl ?_
    refine t_getI fl_8_216 dX8_readOrder_120 ob_405 rfl ?_
    refine s_iconst (v := 1) dX8_readOrder_123 (by decide) ?_
    refine s_icmp_le (tgt := 167) dX8_readOrder_124 (by decide) (fun c => ?_) (fun c => ?_)
    · have H := H.1 c
      exact t_loc [0] rfl (v_X8_readOrder_167       H)
    · have H := H.2 c
      refine s_aload_n dX8_readOrder_127 rfl ?_
      refine t_getR (r := 419) fl_8_50 dX8_readOrder_128 ob_405 rfl rfl ?_
      refine s_aload_n dX8_readOrder_131 rfl ?_
      refine t_getI fl_8_216 dX8_readOrder_132 ob_405 rfl ?_
      refine s_iconst (v := 2) dX8_readOrder_135 (by decide) ?_
      refine s_isub dX8_readOrder_136 ?_
      refine t_iald dX8_readOrder_137 ap_419 H.1 ?_
      have H := H.2
      refine s_bipush (v := 48) dX8_readOrder_138 (by decide) ?_
      refine s_bipush (v := 57) dX8_readOrder_140 (by decide) ?_
      refine t_cS (As := [.int (V1 419 ((V1 405 21) - 2).toNatClampNeg), .int 48, .int 57]) (st := [.ref 405]) iv_8_81 dX8_readOrder_142 ⟨by decide, by decide⟩ rfl (Nat.le_of_ble_eq_true rfl) (by decide) (by decide) rfl H (fun r V2 H => ?_)
      obtain ⟨b2, rfl, H⟩ := H
      refine s_if_eq (tgt := 167) dX8_readOrder_145 (by decide) (fun c => ?_) (fun c => ?_)
      · have H := H.1 (bI_f c)
        exact t_loc [0] rfl (v_X8_readOrder_167       H)
      · have H := H.2 (bI_t c)
        refine s_bipush (v := 10) dX8_readOrder_148 (by decide) ?_
        refine s_aload_n dX8_readOrder_150 rfl ?_
        refine t_getI fl_8_238 dX8_readOrder_151 ob_405 rfl ?_
        refine s_imul dX8_readOrder_154 ?_
        refine s_aload_n dX8_readOrder_155 rfl ?_
        refine s_bipush (v := 48) dX8_readOrder_156 (by decide) ?_
        refine s_bipush (v := 57) dX8_readOrder_158 (by decide) ?_
        refine t_cV (h := 405) (As := [.int 48, .int 57]) (st := [.int (10 * (V2 405 25)), .ref 405]) iv_8_222 dX8_readOrder_160 ⟨by decide, by decide⟩ rfl (Nat.le_of_ble_eq_true rfl) (by decide) (by decide) rfl ob_405 H (fun r V3 H => ?_)
        obtain ⟨r3, rfl, H⟩ := H
        refine s_iadd dX8_readOrder_163 ?_
        refine s_goto (tgt := 171) dX8_readOrder_164 (by decide) ?_
        exact t_loc [0] rfl (v_X8_readOrder_171     ((10 * (V2 405 25)) + r3)  H)
def F_X8_readOrder_32 (J : Nat → Nat → Int64)  (s0 : Int32) (V : Nat → Nat → Int32) (Qr : Option Value → (Nat → Nat → Int32) → Prop) (Qx : String → (Nat → Nat → Int32) → Prop) : Prop :=
((((up2 (up2 V 405 24 s0) 405 25 0) 405 23) = (-1)) →
  F_X8_readOrder_174 J    (up2 (up2 V 405 24 s0) 405 25 0) Qr Qx) ∧
((¬ ((up2 (up2 V 405 24 s0) 405 25 0) 405 23) = (-1)) →
  CTc J mX8_takes [.ref 405, .int 64, .int 64] (up2 (up2 V 405 24 s0) 405 25 0) (fun r V1 =>
    ∃ r1 : Int32, r = some (.int r1) ∧
    CTc J mX8_takes [.ref 405, .int 48, .int 57] V1 (fun r V2 =>
      ∃ r2 : Int32, r = some (.int r2) ∧
      CTc J mX8_isNext [.ref 405, .int 48, .int 57] (up2 V2 405 25 r2) (fun r V3 =>
        ∃ b3 : Bool, r = some (.int (bI b3)) ∧
        ((b3 = false) →
          F_X8_readOrder_104 J   (V3 405 25) V3 Qr Qx) ∧
        ((b3 = true) →
          CTc J mX8_takes [.ref 405, .int 48, .int 57] V3 (fun r V4 =>
            ∃ r4 : Int32, r = some (.int r4) ∧
            F_X8_readOrder_104 J   ((10 * (V3 405 25)) + r4) V4 Qr Qx) Qx)) Qx) Qx) Qx)
theorem v_X8_readOrder_32 {J : Nat → Nat → Int64}  {Qr : Option Value → (Nat → Nat → Int32) → Prop} {Qx : String → (Nat → Nat → Int32) → Prop} (s0 : Int32)  {V : Nat → Nat → Int32} (H : F_X8_readOrder_32 J   s0 V Qr Qx) : WPc J mX8_readOrder Qr Qx 32 [(0, .ref 405)] [.int s0, .ref 405] V 0 0 := by
  unfold F_X8_readOrder_32 at H
  refine t_putI fl_8_235 dX8_readOrder_32 ob_405 (Or.inl rfl) ?_
  refine s_aload_n dX8_readOrder_35 rfl ?_
  refine s_iconst (v := 0) dX8_readOrder_36 (by decide) ?_
  refine t_putI fl_8_238 dX8_readOrder_37 ob_405 (Or.inl rfl) ?_
  refine s_aload_n dX8_readOrder_40 rfl ?_
  refine t_getI fl_8_225 dX8_readOrder_41 ob_405 rfl ?_
  refine s_iconst (v := (-1)) dX8_readOrder_44 (by decide) ?_
  refine s_icmp_eq (tgt := 174) dX8_readOrder_45 (by decide) (fun c => ?_) (fun c => ?_)
  · have H := H.1 c
    exact t_loc [0] rfl (v_X8_readOrder_174       H)
  · have H := H.2 c
    refine s_aload_n dX8_readOrder_48 rfl ?_
    refine s_bipush (v := 64) dX8_readOrder_49 (by decide) ?_
    refine s_bipush (v := 64) dX8_readOrder_51 (by decide) ?_
    refine t_cV (h := 405) (As := [.int 64, .int 64]) (st := []) iv_8_222 dX8_readOrder_53 ⟨by decide, by decide⟩ rfl (Nat.le_of_ble_eq_true rfl) (by decide) (by decide) rfl ob_405 H (fun r V1 H => ?_)
    obtain ⟨r1, rfl, H⟩ := H
    refine t_istore_n (L' := [(1, .int r1), (0, .ref 405)]) dX8_readOrder_56 (by decide) rfl ?_
    refine s_aload_n dX8_readOrder_57 rfl ?_
    refine s_aload_n dX8_readOrder_58 rfl ?_
    refine s_bipush (v := 48) dX8_readOrder_59 (by decide) ?_
    refine s_bipush (v := 57) dX8_readOrder_61 (by decide) ?_
    refine t_cV (h := 405) (As := [.int 48, .int 57]) (st := [.ref 405]) iv_8_222 dX8_readOrder_63 ⟨by decide, by decide⟩ rfl (Nat.le_of_ble_eq_true rfl) (by decide) (by decide) rfl ob_405 H (fun r V2 H => ?_)
    obtain ⟨r2, rfl, H⟩ := H
    refine t_putI fl_8_238 dX8_readOrder_66 ob_405 (Or.inl rfl) ?_
    refine s_aload_n dX8_readOrder_69 rfl ?_
    refine s_aload_n dX8_readOrder_70 rfl ?_
    refine s_bipush (v := 48) dX8_readOrder_71 (by decide) ?_
    refine s_bipush (v := 57) dX8_readOrder_73 (by decide) ?_
    refine t_cV (h := 405) (As := [.int 48, .int 57]) (st := [.ref 405]) iv_8_219 dX8_readOrder_75 ⟨by decide, by decide⟩ rfl (Nat.le_of_ble_eq_true rfl) (by decide) (by decide) rfl ob_405 H (fun r V3 H => ?_)
    obtain ⟨b3, rfl, H⟩ := H
    refine s_if_eq (tgt := 100) dX8_readOrder_78 (by decide) (fun c => ?_) (fun c => ?_)
    · have H := H.1 (bI_f c)
      refine s_aload_n dX8_readOrder_100 rfl ?_
      refine t_getI fl_8_238 dX8_readOrder_101 ob_405 rfl ?_
      exact t_loc [1] rfl (v_X8_readOrder_104     (V3 405 25)  H)
    · have H := H.2 (bI_t c)
      refine s_bipush (v := 10) dX8_readOrder_81 (by decide) ?_
      refine s_aload_n dX8_readOrder_83 rfl ?_
      refine t_getI fl_8_238 dX8_readOrder_84 ob_405 rfl ?_
      refine s_imul dX8_readOrder_87 ?_
      refine s_aload_n dX8_readOrder_88 rfl ?_
      refine s_bipush (v := 48) dX8_readOrder_89 (by decide) ?_
      refine s_bipush (v := 57) dX8_readOrder_91 (by decide) ?_
      refine t_cV (h := 405) (As := [.int 48, .int 57]) (st := [.int (10 * (V3 405 25)), .ref 405]) iv_8_222 dX8_readOrder_93 ⟨by decide, by decide⟩ rfl (Nat.le_of_ble_eq_true rfl) (by decide) (by decide) rfl ob_405 H (fun r V4 H => ?_)
      obtain ⟨r4, rfl, H⟩ := H
      refine s_iadd dX8_readOrder_96 ?_
      refine s_goto (tgt := 104) dX8_readOrder_97 (by decide) ?_
      exact t_loc [1] rfl (v_X8_readOrder_104     ((10 * (V3 405 25)) + r4)  H)
def F_X8_readOrder_20 (J : Nat → Nat → Int64)   (V : Nat → Nat → Int32) (Qr : Option Value → (Nat → Nat → Int32) → Prop) (Qx : String → (Nat → Nat → Int32) → Prop) : Prop :=
CTc J mX8_takes [.ref 405, .int 48, .int 57] V (fun r V1 =>
  ∃ r1 : Int32, r = some (.int r1) ∧
  F_X8_readOrder_32 J   r1 V1 Qr Qx) Qx
theorem v_X8_readOrder_20 {J : Nat → Nat → Int64}  {Qr : Option Value → (Nat → Nat → Int32) → Prop} {Qx : String → (Nat → Nat → Int32) → Prop}   {V : Nat → Nat → Int32} (H : F_X8_readOrder_20 J    V Qr Qx) : WPc J mX8_readOrder Qr Qx 20 [(0, .ref 405)] [.ref 405] V 0 0 := by
  unfold F_X8_readOrder_20 at H
  refine s_aload_n dX8_readOrder_20 rfl ?_
  refine s_bipush (v := 48) dX8_readOrder_21 (by decide) ?_
  refine s_bipush (v := 57) dX8_readOrder_23 (by decide) ?_
  refine t_cV (h := 405) (As := [.int 48, .int 57]) (st := [.ref 405]) iv_8_222 dX8_readOrder_25 ⟨by decide, by decide⟩ rfl (Nat.le_of_ble_eq_true rfl) (by decide) (by decide) rfl ob_405 H (fun r V1 H => ?_)
  obtain ⟨r1, rfl, H⟩ := H
  refine s_goto (tgt := 32) dX8_readOrder_28 (by decide) ?_
  exact t_loc [0] rfl (v_X8_readOrder_32     r1  H)
def F_X8_readOrder (J : Nat → Nat → Int64)  (V : Nat → Nat → Int32) (Qr : Option Value → (Nat → Nat → Int32) → Prop) (Qx : String → (Nat → Nat → Int32) → Prop) : Prop :=
CTc J mX8_readWord [.ref 405] V (fun r V1 =>
  r = none ∧
  (((V1 405 23) = (-1)) →
    F_X8_readOrder_20 J    V1 Qr Qx) ∧
  ((¬ (V1 405 23) = (-1)) →
    ((¬ (V1 405 23) = 0) →
      F_X8_readOrder_32 J   (-1) V1 Qr Qx) ∧
    (((V1 405 23) = 0) →
      F_X8_readOrder_20 J    V1 Qr Qx))) Qx
theorem v_X8_readOrder {J : Nat → Nat → Int64}  {V : Nat → Nat → Int32} {Qr : Option Value → (Nat → Nat → Int32) → Prop} {Qx : String → (Nat → Nat → Int32) → Prop} (H : F_X8_readOrder J  V Qr Qx) : CTc J mX8_readOrder [.ref 405] V Qr Qx := by
  refine ctc_of (M := (T0 J, V)) pX8_readOrder (fun _ _ => rfl) (Nat.le_of_ble_eq_true rfl) ?_
  unfold F_X8_readOrder at H
  show WPc J mX8_readOrder Qr Qx 0 [(0, .ref 405)] [] V 0 0
  refine s_aload_n dX8_readOrder_0 rfl ?_
  refine t_cV (h := 405) (As := []) (st := []) iv_8_232 dX8_readOrder_1 ⟨by decide, by decide⟩ rfl (Nat.le_of_ble_eq_true rfl) (by decide) (by decide) rfl ob_405 H (fun r V1 H => ?_)
  obtain ⟨rfl, H⟩ := H
  refine s_aload_n dX8_readOrder_4 rfl ?_
  refine s_aload_n dX8_readOrder_5 rfl ?_
  refine t_getI fl_8_225 dX8_readOrder_6 ob_405 rfl ?_
  refine s_iconst (v := (-1)) dX8_readOrder_9 (by decide) ?_
  refine s_icmp_eq (tgt := 20) dX8_readOrder_10 (by decide) (fun c => ?_) (fun c => ?_)
  · have H := H.1 c
    exact t_loc [0] rfl (v_X8_readOrder_20       H)
  · have H := H.2 c
    refine s_aload_n dX8_readOrder_13 rfl ?_
    refine t_getI fl_8_225 dX8_readOrder_14 ob_405 rfl ?_
    refine s_if_ne (tgt := 31) dX8_readOrder_17 (by decide) (fun c => ?_) (fun c => ?_)
    · have H := H.1 c
      refine s_iconst (v := (-1)) dX8_readOrder_31 (by decide) ?_
      exact t_loc [0] rfl (v_X8_readOrder_32     (-1)  H)
    · have H := H.2 c
      exact t_loc [0] rfl (v_X8_readOrder_20       H)

def F_X8_faultOf_35 (J : Nat → Nat → Int64)   (V : Nat → Nat → Int32) (Qr : Option Value → (Nat → Nat → Int32) → Prop) (Qx : String → (Nat → Nat → Int32) → Prop) : Prop :=
(((V 405 22) = 0) →
  Qr (some (.int (-1))) V) ∧
((¬ (V 405 22) = 0) →
  Qr (some (.int (V 405 21))) V)
theorem v_X8_faultOf_35 {J : Nat → Nat → Int64}  {Qr : Option Value → (Nat → Nat → Int32) → Prop} {Qx : String → (Nat → Nat → Int32) → Prop}   {V : Nat → Nat → Int32} (H : F_X8_faultOf_35 J    V Qr Qx) : WPc J mX8_faultOf Qr Qx 35 [(0, .ref 405)] [] V 0 0 := by
  unfold F_X8_faultOf_35 at H
  refine s_aload_n dX8_faultOf_35 rfl ?_
  refine t_getI fl_8_213 dX8_faultOf_36 ob_405 rfl ?_
  refine s_if_eq (tgt := 49) dX8_faultOf_39 (by decide) (fun c => ?_) (fun c => ?_)
  · have H := H.1 c
    refine s_iconst (v := (-1)) dX8_faultOf_49 (by decide) ?_
    exact s_iret dX8_faultOf_50 (Or.inl rfl) ⟨rfl, H⟩
  · have H := H.2 c
    refine s_aload_n dX8_faultOf_42 rfl ?_
    refine t_getI fl_8_216 dX8_faultOf_43 ob_405 rfl ?_
    refine s_goto (tgt := 50) dX8_faultOf_46 (by decide) ?_
    exact s_iret dX8_faultOf_50 (Or.inl rfl) ⟨rfl, H⟩
def B_X8_faultOf_10 (J : Nat → Nat → Int64)  (K10 : (Nat → Nat → Int32) → Prop)  (V : Nat → Nat → Int32) (Qr : Option Value → (Nat → Nat → Int32) → Prop) (Qx : String → (Nat → Nat → Int32) → Prop) : Prop :=
((¬ (V 405 22) = 0) →
  F_X8_faultOf_35 J    V Qr Qx) ∧
(((V 405 22) = 0) →
  (((V 405 20) ≤ (V 405 21)) →
    F_X8_faultOf_35 J    V Qr Qx) ∧
  ((¬ (V 405 20) ≤ (V 405 21)) →
    CTc J mX8_readOrder [.ref 405] V (fun r V1 =>
      r = none ∧
      K10  V1) Qx))
def F_X8_faultOf_10 (J : Nat → Nat → Int64)   (V : Nat → Nat → Int32) (Qr : Option Value → (Nat → Nat → Int32) → Prop) (Qx : String → (Nat → Nat → Int32) → Prop) : Prop :=
  ∃ I : Nat → (Nat → Nat → Int32) → Prop, (∃ n, I n  V) ∧ ∀ n  (V : Nat → Nat → Int32), I n  V → B_X8_faultOf_10 J   (fun  V => ∃ n', n' < n ∧ I n'  V)  V Qr Qx
theorem v_X8_faultOf_10 {J : Nat → Nat → Int64}  {Qr : Option Value → (Nat → Nat → Int32) → Prop} {Qx : String → (Nat → Nat → Int32) → Prop}   {V : Nat → Nat → Int32} (H : F_X8_faultOf_10 J    V Qr Qx) : WPc J mX8_faultOf Qr Qx 10 [(0, .ref 405)] [] V 0 0 := by
  obtain ⟨I, ⟨n0, h0⟩, hs⟩ := H
  have step : ∀ (K10 : (Nat → Nat → Int32) → Prop), (∀   (V : Nat → Nat → Int32), K10  V → WPc J mX8_faultOf Qr Qx 10 [(0, .ref 405)] [] V 0 0) → ∀   (V : Nat → Nat → Int32), B_X8_faultOf_10 J   K10  V Qr Qx → WPc J mX8_faultOf Qr Qx 10 [(0, .ref 405)] [] V 0 0 := by
    intro K10 hK10   V H
    unfold B_X8_faultOf_10 at H
    refine s_aload_n dX8_faultOf_10 rfl ?_
    refine t_getI fl_8_213 dX8_faultOf_11 ob_405 rfl ?_
    refine s_if_ne (tgt := 35) dX8_faultOf_14 (by decide) (fun c => ?_) (fun c => ?_)
    · have H := H.1 c
      exact t_loc [0] rfl (v_X8_faultOf_35       H)
    · have H := H.2 c
      refine s_aload_n dX8_faultOf_17 rfl ?_
      refine t_getI fl_8_216 dX8_faultOf_18 ob_405 rfl ?_
      refine s_aload_n dX8_faultOf_21 rfl ?_
      refine t_getI fl_8_210 dX8_faultOf_22 ob_405 rfl ?_
      refine s_icmp_ge (tgt := 35) dX8_faultOf_25 (by decide) (fun c => ?_) (fun c => ?_)
      · have H := H.1 c
        exact t_loc [0] rfl (v_X8_faultOf_35       H)
      · have H := H.2 c
        refine s_aload_n dX8_faultOf_28 rfl ?_
        refine t_cV (h := 405) (As := []) (st := []) iv_8_241 dX8_faultOf_29 ⟨by decide, by decide⟩ rfl (Nat.le_of_ble_eq_true rfl) (by decide) (by decide) rfl ob_405 H (fun r V1 H => ?_)
        obtain ⟨rfl, H⟩ := H
        refine s_goto (tgt := 10) dX8_faultOf_32 (by decide) ?_
        exact t_loc [0] rfl (hK10   V1 H)
  have key : ∀ n, ∀   (V : Nat → Nat → Int32), I n  V → WPc J mX8_faultOf Qr Qx 10 [(0, .ref 405)] [] V 0 0 := by
    refine strong (fun n ih => ?_)
    intro   V hI
    exact step _ (fun   V hz => Exists.elim hz (fun n1 hz => ih n1 hz.1   V hz.2))   V (hs n  V hI)
  exact key n0   V h0
def F_X8_faultOf (J : Nat → Nat → Int64)  (V : Nat → Nat → Int32) (Qr : Option Value → (Nat → Nat → Int32) → Prop) (Qx : String → (Nat → Nat → Int32) → Prop) : Prop :=
F_X8_faultOf_10 J    (up2 (up2 V 405 21 0) 405 22 0) Qr Qx
theorem v_X8_faultOf {J : Nat → Nat → Int64}  {V : Nat → Nat → Int32} {Qr : Option Value → (Nat → Nat → Int32) → Prop} {Qx : String → (Nat → Nat → Int32) → Prop} (H : F_X8_faultOf J  V Qr Qx) : CTc J mX8_faultOf [.ref 405] V Qr Qx := by
  refine ctc_of (M := (T0 J, V)) pX8_faultOf (fun _ _ => rfl) (Nat.le_of_ble_eq_true rfl) ?_
  unfold F_X8_faultOf at H
  show WPc J mX8_faultOf Qr Qx 0 [(0, .ref 405)] [] V 0 0
  refine s_aload_n dX8_faultOf_0 rfl ?_
  refine s_iconst (v := 0) dX8_faultOf_1 (by decide) ?_
  refine t_putI fl_8_216 dX8_faultOf_2 ob_405 (Or.inl rfl) ?_
  refine s_aload_n dX8_faultOf_5 rfl ?_
  refine s_iconst (v := 0) dX8_faultOf_6 (by decide) ?_
  refine t_putI fl_8_213 dX8_faultOf_7 ob_405 (Or.inr ⟨rfl, (Or.inl rfl)⟩) ?_
  exact t_loc [0] rfl (v_X8_faultOf_10       H)

def F_X8_fault (J : Nat → Nat → Int64)  (V : Nat → Nat → Int32) (Qr : Option Value → (Nat → Nat → Int32) → Prop) (Qx : String → (Nat → Nat → Int32) → Prop) : Prop :=
CTc J mX8_faultOf [.ref 405] (up2 V 405 0 0) (fun r V1 =>
  ∃ r1 : Int32, r = some (.int r1) ∧
  Qr (some (.int r1)) V1) Qx
theorem v_X8_fault {J : Nat → Nat → Int64}  {V : Nat → Nat → Int32} {Qr : Option Value → (Nat → Nat → Int32) → Prop} {Qx : String → (Nat → Nat → Int32) → Prop} (H : F_X8_fault J  V Qr Qx) : CTc J mX8_fault [.ref 405] V Qr Qx := by
  refine ctc_of (M := (T0 J, V)) pX8_fault (fun _ _ => rfl) (Nat.le_of_ble_eq_true rfl) ?_
  unfold F_X8_fault at H
  show WPc J mX8_fault Qr Qx 0 [(0, .ref 405)] [] V 0 0
  refine s_aload_n dX8_fault_0 rfl ?_
  refine s_iconst (v := 0) dX8_fault_1 (by decide) ?_
  refine t_putI fl_8_78 dX8_fault_2 ob_405 (Or.inl rfl) ?_
  refine s_aload_n dX8_fault_5 rfl ?_
  refine t_cV (h := 405) (As := []) (st := []) iv_8_244 dX8_fault_6 ⟨by decide, by decide⟩ rfl (Nat.le_of_ble_eq_true rfl) (by decide) (by decide) rfl ob_405 H (fun r V1 H => ?_)
  obtain ⟨r1, rfl, H⟩ := H
  exact s_iret dX8_fault_9 (Or.inl rfl) ⟨rfl, H⟩

def F_X8_run_114 (J : Nat → Nat → Int64)  (K36 : Int32 → Int32 → (Nat → Nat → Int32) → Prop) (x2 : Int32) (s0 : Int32) (s1 : Int32) (V : Nat → Nat → Int32) (Qr : Option Value → (Nat → Nat → Int32) → Prop) (Qx : String → (Nat → Nat → Int32) → Prop) : Prop :=
K36 (s1 + s0) x2 V
theorem v_X8_run_114 {J : Nat → Nat → Int64}  {Qr : Option Value → (Nat → Nat → Int32) → Prop} {Qx : String → (Nat → Nat → Int32) → Prop} (K36 : Int32 → Int32 → (Nat → Nat → Int32) → Prop) (hK36 : ∀ (x1 : Int32) (x2 : Int32)  (V : Nat → Nat → Int32), K36 x1 x2 V → WPc J mX8_run Qr Qx 36 [(0, .ref 405), (1, .int x1), (2, .int x2)] [] V 0 0) (x2 : Int32) (s0 : Int32) (s1 : Int32)  {V : Nat → Nat → Int32} (H : F_X8_run_114 J  K36 x2 s0 s1 V Qr Qx) : WPc J mX8_run Qr Qx 114 [(0, .ref 405), (2, .int x2)] [.int s0, .int s1] V 0 0 := by
  unfold F_X8_run_114 at H
  refine s_iadd dX8_run_114 ?_
  refine t_istore_n (L' := [(1, .int (s1 + s0)), (0, .ref 405), (2, .int x2)]) dX8_run_115 (by decide) rfl ?_
  refine s_goto (tgt := 36) dX8_run_116 (by decide) ?_
  exact t_loc [1, 0, 2] rfl (hK36 (s1 + s0) x2  V H)
def F_X8_run_103 (J : Nat → Nat → Int64)  (K36 : Int32 → Int32 → (Nat → Nat → Int32) → Prop) (x1 : Int32) (s0 : Int32) (V : Nat → Nat → Int32) (Qr : Option Value → (Nat → Nat → Int32) → Prop) (Qx : String → (Nat → Nat → Int32) → Prop) : Prop :=
((s0 = 0) →
  F_X8_run_114 J  K36 s0 0 x1 V Qr Qx) ∧
((¬ s0 = 0) →
  F_X8_run_114 J  K36 s0 1 x1 V Qr Qx)
theorem v_X8_run_103 {J : Nat → Nat → Int64}  {Qr : Option Value → (Nat → Nat → Int32) → Prop} {Qx : String → (Nat → Nat → Int32) → Prop} (K36 : Int32 → Int32 → (Nat → Nat → Int32) → Prop) (hK36 : ∀ (x1 : Int32) (x2 : Int32)  (V : Nat → Nat → Int32), K36 x1 x2 V → WPc J mX8_run Qr Qx 36 [(0, .ref 405), (1, .int x1), (2, .int x2)] [] V 0 0) (x1 : Int32) (s0 : Int32)  {V : Nat → Nat → Int32} (H : F_X8_run_103 J  K36 x1 s0 V Qr Qx) : WPc J mX8_run Qr Qx 103 [(0, .ref 405), (1, .int x1)] [.int s0] V 0 0 := by
  unfold F_X8_run_103 at H
  refine t_istore_n (L' := [(2, .int s0), (0, .ref 405), (1, .int x1)]) dX8_run_103 (by decide) rfl ?_
  refine s_iload_n dX8_run_104 rfl ?_
  refine s_iload_n dX8_run_105 rfl ?_
  refine s_if_eq (tgt := 113) dX8_run_106 (by decide) (fun c => ?_) (fun c => ?_)
  · have H := H.1 c
    refine s_iconst (v := 0) dX8_run_113 (by decide) ?_
    exact t_loc [1, 0] rfl (v_X8_run_114   K36 hK36 s0 0 x1  H)
  · have H := H.2 c
    refine s_iconst (v := 1) dX8_run_109 (by decide) ?_
    refine s_goto (tgt := 114) dX8_run_110 (by decide) ?_
    exact t_loc [1, 0] rfl (v_X8_run_114   K36 hK36 s0 1 x1  H)
def F_X8_run_90 (J : Nat → Nat → Int64)  (K36 : Int32 → Int32 → (Nat → Nat → Int32) → Prop) (x1 : Int32) (s0 : Int32) (V : Nat → Nat → Int32) (Qr : Option Value → (Nat → Nat → Int32) → Prop) (Qx : String → (Nat → Nat → Int32) → Prop) : Prop :=
((¬ (V 405 0) = 0) →
  F_X8_run_103 J  K36 x1 0 V Qr Qx) ∧
(((V 405 0) = 0) →
  F_X8_run_103 J  K36 x1 1 V Qr Qx)
theorem v_X8_run_90 {J : Nat → Nat → Int64}  {Qr : Option Value → (Nat → Nat → Int32) → Prop} {Qx : String → (Nat → Nat → Int32) → Prop} (K36 : Int32 → Int32 → (Nat → Nat → Int32) → Prop) (hK36 : ∀ (x1 : Int32) (x2 : Int32)  (V : Nat → Nat → Int32), K36 x1 x2 V → WPc J mX8_run Qr Qx 36 [(0, .ref 405), (1, .int x1), (2, .int x2)] [] V 0 0) (x1 : Int32) (s0 : Int32)  {V : Nat → Nat → Int32} (H : F_X8_run_90 J  K36 x1 s0 V Qr Qx) : WPc J mX8_run Qr Qx 90 [(0, .ref 405), (1, .int x1)] [.int s0] V 0 0 := by
  unfold F_X8_run_90 at H
  refine t_istore_n (L' := [(3, .int s0), (0, .ref 405), (1, .int x1)]) dX8_run_90 (by decide) rfl ?_
  refine s_aload_n dX8_run_91 rfl ?_
  refine t_getI fl_8_78 dX8_run_92 ob_405 rfl ?_
  refine s_if_ne (tgt := 102) dX8_run_95 (by decide) (fun c => ?_) (fun c => ?_)
  · have H := H.1 c
    refine s_iconst (v := 0) dX8_run_102 (by decide) ?_
    exact t_loc [1, 2] rfl (v_X8_run_103   K36 hK36 x1 0  H)
  · have H := H.2 c
    refine s_iconst (v := 1) dX8_run_98 (by decide) ?_
    refine s_goto (tgt := 103) dX8_run_99 (by decide) ?_
    exact t_loc [1, 2] rfl (v_X8_run_103   K36 hK36 x1 1  H)
def B_X8_run_36 (J : Nat → Nat → Int64)  (K36 : Int32 → Int32 → (Nat → Nat → Int32) → Prop) (x1 : Int32) (x2 : Int32) (V : Nat → Nat → Int32) (Qr : Option Value → (Nat → Nat → Int32) → Prop) (Qx : String → (Nat → Nat → Int32) → Prop) : Prop :=
((x2 = 0) →
  Qr (some (.int x1)) (up2 V 405 0 0)) ∧
((¬ x2 = 0) →
  (((V 405 20) ≤ (V 405 21)) →
    Qr (some (.int x1)) (up2 V 405 0 0)) ∧
  ((¬ (V 405 20) ≤ (V 405 21)) →
    CTc J mX8_readOrder [.ref 405] V (fun r V1 =>
      r = none ∧
      ((¬ (V1 405 23) = (-1)) →
        CTc J mX8_step [.ref 405, .int (V1 405 23), .int (V1 405 24), .int (V1 405 25)] V1 (fun r V2 =>
          ∃ r2 : Int32, r = some (.int r2) ∧
          F_X8_run_90 J  K36 x1 r2 V2 Qr Qx) Qx) ∧
      (((V1 405 23) = (-1)) →
        CTc J mX8_raid [.ref 405, .int (V1 405 24)] V1 (fun r V2 =>
          ∃ r2 : Int32, r = some (.int r2) ∧
          F_X8_run_90 J  K36 x1 r2 V2 Qr Qx) Qx)) Qx))
def F_X8_run_36 (J : Nat → Nat → Int64)  (x1 : Int32) (x2 : Int32) (V : Nat → Nat → Int32) (Qr : Option Value → (Nat → Nat → Int32) → Prop) (Qx : String → (Nat → Nat → Int32) → Prop) : Prop :=
  ∃ I : Nat → Int32 → Int32 → (Nat → Nat → Int32) → Prop, (∃ n, I n x1 x2 V) ∧ ∀ n (x1 : Int32) (x2 : Int32) (V : Nat → Nat → Int32), I n x1 x2 V → B_X8_run_36 J   (fun x1 x2 V => ∃ n', n' < n ∧ I n' x1 x2 V) x1 x2 V Qr Qx
theorem v_X8_run_36 {J : Nat → Nat → Int64}  {Qr : Option Value → (Nat → Nat → Int32) → Prop} {Qx : String → (Nat → Nat → Int32) → Prop} (x1 : Int32) (x2 : Int32)  {V : Nat → Nat → Int32} (H : F_X8_run_36 J   x1 x2 V Qr Qx) : WPc J mX8_run Qr Qx 36 [(0, .ref 405), (1, .int x1), (2, .int x2)] [] V 0 0 := by
  obtain ⟨I, ⟨n0, h0⟩, hs⟩ := H
  have step : ∀ (K36 : Int32 → Int32 → (Nat → Nat → Int32) → Prop), (∀ (x1 : Int32) (x2 : Int32)  (V : Nat → Nat → Int32), K36 x1 x2 V → WPc J mX8_run Qr Qx 36 [(0, .ref 405), (1, .int x1), (2, .int x2)] [] V 0 0) → ∀ (x1 : Int32) (x2 : Int32)  (V : Nat → Nat → Int32), B_X8_run_36 J   K36 x1 x2 V Qr Qx → WPc J mX8_run Qr Qx 36 [(0, .ref 405), (1, .int x1), (2, .int x2)] [] V 0 0 := by
    intro K36 hK36 x1 x2  V H
    unfold B_X8_run_36 at H
    refine s_iload_n dX8_run_36 rfl ?_
    refine s_if_eq (tgt := 119) dX8_run_37 (by decide) (fun c => ?_) (fun c => ?_)
    · have H := H.1 c
      refine s_aload_n dX8_run_119 rfl ?_
      refine s_iconst (v := 0) dX8_run_120 (by decide) ?_
      refine t_putI fl_8_78 dX8_run_121 ob_405 (Or.inl rfl) ?_
      refine s_iload_n dX8_run_124 rfl ?_
      exact s_iret dX8_run_125 (Or.inl rfl) ⟨rfl, H⟩
    · have H := H.2 c
      refine s_aload_n dX8_run_40 rfl ?_
      refine t_getI fl_8_216 dX8_run_41 ob_405 rfl ?_
      refine s_aload_n dX8_run_44 rfl ?_
      refine t_getI fl_8_210 dX8_run_45 ob_405 rfl ?_
      refine s_icmp_ge (tgt := 119) dX8_run_48 (by decide) (fun c => ?_) (fun c => ?_)
      · have H := H.1 c
        refine s_aload_n dX8_run_119 rfl ?_
        refine s_iconst (v := 0) dX8_run_120 (by decide) ?_
        refine t_putI fl_8_78 dX8_run_121 ob_405 (Or.inl rfl) ?_
        refine s_iload_n dX8_run_124 rfl ?_
        exact s_iret dX8_run_125 (Or.inl rfl) ⟨rfl, H⟩
      · have H := H.2 c
        refine s_aload_n dX8_run_51 rfl ?_
        refine t_cV (h := 405) (As := []) (st := []) iv_8_241 dX8_run_52 ⟨by decide, by decide⟩ rfl (Nat.le_of_ble_eq_true rfl) (by decide) (by decide) rfl ob_405 H (fun r V1 H => ?_)
        obtain ⟨rfl, H⟩ := H
        refine s_aload_n dX8_run_55 rfl ?_
        refine t_getI fl_8_225 dX8_run_56 ob_405 rfl ?_
        refine s_iconst (v := (-1)) dX8_run_59 (by decide) ?_
        refine s_icmp_ne (tgt := 74) dX8_run_60 (by decide) (fun c => ?_) (fun c => ?_)
        · have H := H.1 c
          refine s_aload_n dX8_run_74 rfl ?_
          refine s_aload_n dX8_run_75 rfl ?_
          refine t_getI fl_8_225 dX8_run_76 ob_405 rfl ?_
          refine s_aload_n dX8_run_79 rfl ?_
          refine t_getI fl_8_235 dX8_run_80 ob_405 rfl ?_
          refine s_aload_n dX8_run_83 rfl ?_
          refine t_getI fl_8_238 dX8_run_84 ob_405 rfl ?_
          refine t_cV (h := 405) (As := [.int (V1 405 23), .int (V1 405 24), .int (V1 405 25)]) (st := []) iv_8_251 dX8_run_87 ⟨by decide, by decide⟩ rfl (Nat.le_of_ble_eq_true rfl) (by decide) (by decide) rfl ob_405 H (fun r V2 H => ?_)
          obtain ⟨r2, rfl, H⟩ := H
          exact t_loc [0, 1] rfl (v_X8_run_90   K36 hK36 x1 r2  H)
        · have H := H.2 c
          refine s_aload_n dX8_run_63 rfl ?_
          refine s_aload_n dX8_run_64 rfl ?_
          refine t_getI fl_8_235 dX8_run_65 ob_405 rfl ?_
          refine t_cV (h := 405) (As := [.int (V1 405 24)]) (st := []) iv_8_247 dX8_run_68 ⟨by decide, by decide⟩ rfl (Nat.le_of_ble_eq_true rfl) (by decide) (by decide) rfl ob_405 H (fun r V2 H => ?_)
          obtain ⟨r2, rfl, H⟩ := H
          refine s_goto (tgt := 90) dX8_run_71 (by decide) ?_
          exact t_loc [0, 1] rfl (v_X8_run_90   K36 hK36 x1 r2  H)
  have key : ∀ n, ∀ (x1 : Int32) (x2 : Int32)  (V : Nat → Nat → Int32), I n x1 x2 V → WPc J mX8_run Qr Qx 36 [(0, .ref 405), (1, .int x1), (2, .int x2)] [] V 0 0 := by
    refine strong (fun n ih => ?_)
    intro x1 x2  V hI
    exact step _ (fun x1 x2  V hz => Exists.elim hz (fun n1 hz => ih n1 hz.1 x1 x2  V hz.2)) x1 x2  V (hs n x1 x2 V hI)
  exact key n0 x1 x2  V h0
def F_X8_run_14 (J : Nat → Nat → Int64)  (s0 : Int32) (V : Nat → Nat → Int32) (Qr : Option Value → (Nat → Nat → Int32) → Prop) (Qx : String → (Nat → Nat → Int32) → Prop) : Prop :=
CTc J mX8_holds [.ref 405, .int s0] V (fun r V1 =>
  ∃ b1 : Bool, r = some (.int (bI b1)) ∧
  ((b1 = true) →
    F_X8_run_36 J   0 1 (up2 (up2 V1 405 21 0) 405 22 0) Qr Qx) ∧
  ((b1 = false) →
    Qr (some (.int 0)) V1)) Qx
theorem v_X8_run_14 {J : Nat → Nat → Int64}  {Qr : Option Value → (Nat → Nat → Int32) → Prop} {Qx : String → (Nat → Nat → Int32) → Prop} (s0 : Int32)  {V : Nat → Nat → Int32} (H : F_X8_run_14 J   s0 V Qr Qx) : WPc J mX8_run Qr Qx 14 [(0, .ref 405)] [.int s0, .ref 405] V 0 0 := by
  unfold F_X8_run_14 at H
  refine t_cV (h := 405) (As := [.int s0]) (st := []) iv_8_169 dX8_run_14 ⟨by decide, by decide⟩ rfl (Nat.le_of_ble_eq_true rfl) (by decide) (by decide) rfl ob_405 H (fun r V1 H => ?_)
  obtain ⟨b1, rfl, H⟩ := H
  refine s_if_ne (tgt := 22) dX8_run_17 (by decide) (fun c => ?_) (fun c => ?_)
  · have H := H.1 (bI_t c)
    refine s_aload_n dX8_run_22 rfl ?_
    refine s_iconst (v := 0) dX8_run_23 (by decide) ?_
    refine t_putI fl_8_216 dX8_run_24 ob_405 (Or.inl rfl) ?_
    refine s_aload_n dX8_run_27 rfl ?_
    refine s_iconst (v := 0) dX8_run_28 (by decide) ?_
    refine t_putI fl_8_213 dX8_run_29 ob_405 (Or.inr ⟨rfl, (Or.inl rfl)⟩) ?_
    refine s_iconst (v := 0) dX8_run_32 (by decide) ?_
    refine t_istore_n (L' := [(1, .int 0), (0, .ref 405)]) dX8_run_33 (by decide) rfl ?_
    refine s_iconst (v := 1) dX8_run_34 (by decide) ?_
    refine t_istore_n (L' := [(2, .int 1), (1, .int 0), (0, .ref 405)]) dX8_run_35 (by decide) rfl ?_
    exact t_loc [2, 1, 0] rfl (v_X8_run_36     0 1  H)
  · have H := H.2 (bI_f c)
    refine s_iconst (v := 0) dX8_run_20 (by decide) ?_
    exact s_iret dX8_run_21 (Or.inl rfl) ⟨rfl, H⟩
def F_X8_run (J : Nat → Nat → Int64)  (V : Nat → Nat → Int32) (Qr : Option Value → (Nat → Nat → Int32) → Prop) (Qx : String → (Nat → Nat → Int32) → Prop) : Prop :=
CTc J mX8_faultOf [.ref 405] V (fun r V1 =>
  ∃ r1 : Int32, r = some (.int r1) ∧
  ((¬ r1 = (-1)) →
    F_X8_run_14 J   1 V1 Qr Qx) ∧
  ((r1 = (-1)) →
    F_X8_run_14 J   0 V1 Qr Qx)) Qx
theorem v_X8_run {J : Nat → Nat → Int64}  {V : Nat → Nat → Int32} {Qr : Option Value → (Nat → Nat → Int32) → Prop} {Qx : String → (Nat → Nat → Int32) → Prop} (H : F_X8_run J  V Qr Qx) : CTc J mX8_run [.ref 405] V Qr Qx := by
  refine ctc_of (M := (T0 J, V)) pX8_run (fun _ _ => rfl) (Nat.le_of_ble_eq_true rfl) ?_
  unfold F_X8_run at H
  show WPc J mX8_run Qr Qx 0 [(0, .ref 405)] [] V 0 0
  refine s_aload_n dX8_run_0 rfl ?_
  refine s_aload_n dX8_run_1 rfl ?_
  refine t_cV (h := 405) (As := []) (st := [.ref 405]) iv_8_244 dX8_run_2 ⟨by decide, by decide⟩ rfl (Nat.le_of_ble_eq_true rfl) (by decide) (by decide) rfl ob_405 H (fun r V1 H => ?_)
  obtain ⟨r1, rfl, H⟩ := H
  refine s_iconst (v := (-1)) dX8_run_5 (by decide) ?_
  refine s_icmp_ne (tgt := 13) dX8_run_6 (by decide) (fun c => ?_) (fun c => ?_)
  · have H := H.1 c
    refine s_iconst (v := 1) dX8_run_13 (by decide) ?_
    exact t_loc [0] rfl (v_X8_run_14     1  H)
  · have H := H.2 c
    refine s_iconst (v := 0) dX8_run_9 (by decide) ?_
    refine s_goto (tgt := 14) dX8_run_10 (by decide) ?_
    exact t_loc [0] rfl (v_X8_run_14     0  H)

def F_X8_errorOfMatch (J : Nat → Nat → Int64) (p1 : Int32) (V : Nat → Nat → Int32) (Qr : Option Value → (Nat → Nat → Int32) → Prop) (Qx : String → (Nat → Nat → Int32) → Prop) : Prop :=
((¬ p1 = 0) →
  (((V 405 2) = 0) →
    Qr (some (.int 2)) V) ∧
  ((¬ (V 405 2) = 0) →
    Qr (some (.int 0)) V)) ∧
((p1 = 0) →
  Qr (some (.int 1)) V)
theorem v_X8_errorOfMatch {J : Nat → Nat → Int64} (p1 : Int32) {V : Nat → Nat → Int32} {Qr : Option Value → (Nat → Nat → Int32) → Prop} {Qx : String → (Nat → Nat → Int32) → Prop} (H : F_X8_errorOfMatch J p1 V Qr Qx) : CTc J mX8_errorOfMatch [.ref 405, .int p1] V Qr Qx := by
  refine ctc_of (M := (T0 J, V)) pX8_errorOfMatch (fun _ _ => rfl) (Nat.le_of_ble_eq_true rfl) ?_
  unfold F_X8_errorOfMatch at H
  show WPc J mX8_errorOfMatch Qr Qx 0 [(0, .ref 405), (1, .int p1)] [] V 0 0
  refine s_iload_n dX8_errorOfMatch_0 rfl ?_
  refine s_if_ne (tgt := 8) dX8_errorOfMatch_1 (by decide) (fun c => ?_) (fun c => ?_)
  · have H := H.1 c
    refine s_aload_n dX8_errorOfMatch_8 rfl ?_
    refine t_getI fl_8_166 dX8_errorOfMatch_9 ob_405 rfl ?_
    refine s_if_eq (tgt := 19) dX8_errorOfMatch_12 (by decide) (fun c => ?_) (fun c => ?_)
    · have H := H.1 c
      refine s_iconst (v := 2) dX8_errorOfMatch_19 (by decide) ?_
      exact s_iret dX8_errorOfMatch_20 (Or.inl rfl) ⟨rfl, H⟩
    · have H := H.2 c
      refine s_iconst (v := 0) dX8_errorOfMatch_15 (by decide) ?_
      refine s_goto (tgt := 20) dX8_errorOfMatch_16 (by decide) ?_
      exact s_iret dX8_errorOfMatch_20 (Or.inl rfl) ⟨rfl, H⟩
  · have H := H.2 c
    refine s_iconst (v := 1) dX8_errorOfMatch_4 (by decide) ?_
    refine s_goto (tgt := 20) dX8_errorOfMatch_5 (by decide) ?_
    exact s_iret dX8_errorOfMatch_20 (Or.inl rfl) ⟨rfl, H⟩

def F_X8_player_21 (J : Nat → Nat → Int64) (p1 : Int32) (p2 : Int32) (s0 : Int32) (V : Nat → Nat → Int32) (Qr : Option Value → (Nat → Nat → Int32) → Prop) (Qx : String → (Nat → Nat → Int32) → Prop) : Prop :=
CTc J mX8_errorOfMatch [.ref 405, .int s0] V (fun r V1 =>
  ∃ r1 : Int32, r = some (.int r1) ∧
  CTc J mX8_holds [.ref 405, .int r1] V1 (fun r V2 =>
    ∃ b2 : Bool, r = some (.int (bI b2)) ∧
    ((b2 = false) →
      Qr (some (.int 0)) V2) ∧
    ((b2 = true) →
      vp_in ((10 * p1) + p2) 110 ∧
      Qr (some (.int (V2 416 ((10 * p1) + p2).toNatClampNeg))) V2)) Qx) Qx
theorem v_X8_player_21 {J : Nat → Nat → Int64} (p1 : Int32) (p2 : Int32) {Qr : Option Value → (Nat → Nat → Int32) → Prop} {Qx : String → (Nat → Nat → Int32) → Prop} (s0 : Int32)  {V : Nat → Nat → Int32} (H : F_X8_player_21 J p1 p2  s0 V Qr Qx) : WPc J mX8_player Qr Qx 21 [(0, .ref 405), (1, .int p1), (2, .int p2)] [.int s0, .ref 405, .ref 405] V 0 0 := by
  unfold F_X8_player_21 at H
  refine t_cV (h := 405) (As := [.int s0]) (st := [.ref 405]) iv_8_254 dX8_player_21 ⟨by decide, by decide⟩ rfl (Nat.le_of_ble_eq_true rfl) (by decide) (by decide) rfl ob_405 H (fun r V1 H => ?_)
  obtain ⟨r1, rfl, H⟩ := H
  refine t_cV (h := 405) (As := [.int r1]) (st := []) iv_8_169 dX8_player_24 ⟨by decide, by decide⟩ rfl (Nat.le_of_ble_eq_true rfl) (by decide) (by decide) rfl ob_405 H (fun r V2 H => ?_)
  obtain ⟨b2, rfl, H⟩ := H
  refine s_if_eq (tgt := 44) dX8_player_27 (by decide) (fun c => ?_) (fun c => ?_)
  · have H := H.1 (bI_f c)
    refine s_iconst (v := 0) dX8_player_44 (by decide) ?_
    exact s_iret dX8_player_45 (Or.inl rfl) ⟨rfl, H⟩
  · have H := H.2 (bI_t c)
    refine s_aload_n dX8_player_30 rfl ?_
    refine t_getR (r := 416) fl_8_41 dX8_player_31 ob_405 rfl rfl ?_
    refine s_bipush (v := 10) dX8_player_34 (by decide) ?_
    refine s_iload_n dX8_player_36 rfl ?_
    refine s_imul dX8_player_37 ?_
    refine s_iload_n dX8_player_38 rfl ?_
    refine s_iadd dX8_player_39 ?_
    refine t_iald dX8_player_40 ap_416 H.1 ?_
    have H := H.2
    refine s_goto (tgt := 45) dX8_player_41 (by decide) ?_
    exact s_iret dX8_player_45 (Or.inl rfl) ⟨rfl, H⟩
def F_X8_player_20 (J : Nat → Nat → Int64) (p1 : Int32) (p2 : Int32)  (V : Nat → Nat → Int32) (Qr : Option Value → (Nat → Nat → Int32) → Prop) (Qx : String → (Nat → Nat → Int32) → Prop) : Prop :=
F_X8_player_21 J p1 p2  0 V Qr Qx
theorem v_X8_player_20 {J : Nat → Nat → Int64} (p1 : Int32) (p2 : Int32) {Qr : Option Value → (Nat → Nat → Int32) → Prop} {Qx : String → (Nat → Nat → Int32) → Prop}   {V : Nat → Nat → Int32} (H : F_X8_player_20 J p1 p2   V Qr Qx) : WPc J mX8_player Qr Qx 20 [(0, .ref 405), (1, .int p1), (2, .int p2)] [.ref 405, .ref 405] V 0 0 := by
  unfold F_X8_player_20 at H
  refine s_iconst (v := 0) dX8_player_20 (by decide) ?_
  exact t_loc [0, 1, 2] rfl (v_X8_player_21 p1 p2    0  H)
def F_X8_player (J : Nat → Nat → Int64) (p1 : Int32) (p2 : Int32) (V : Nat → Nat → Int32) (Qr : Option Value → (Nat → Nat → Int32) → Prop) (Qx : String → (Nat → Nat → Int32) → Prop) : Prop :=
CTc J mX8_isSide [.int p1] V (fun r V1 =>
  ∃ b1 : Bool, r = some (.int (bI b1)) ∧
  ((b1 = false) →
    F_X8_player_20 J p1 p2   V1 Qr Qx) ∧
  ((b1 = true) →
    CTc J mX8_isPlayer [.int p2] V1 (fun r V2 =>
      ∃ b2 : Bool, r = some (.int (bI b2)) ∧
      ((b2 = false) →
        F_X8_player_20 J p1 p2   V2 Qr Qx) ∧
      ((b2 = true) →
        F_X8_player_21 J p1 p2  1 V2 Qr Qx)) Qx)) Qx
theorem v_X8_player {J : Nat → Nat → Int64} (p1 : Int32) (p2 : Int32) {V : Nat → Nat → Int32} {Qr : Option Value → (Nat → Nat → Int32) → Prop} {Qx : String → (Nat → Nat → Int32) → Prop} (H : F_X8_player J p1 p2 V Qr Qx) : CTc J mX8_player [.ref 405, .int p1, .int p2] V Qr Qx := by
  refine ctc_of (M := (T0 J, V)) pX8_player (fun _ _ => rfl) (Nat.le_of_ble_eq_true rfl) ?_
  unfold F_X8_player at H
  show WPc J mX8_player Qr Qx 0 [(0, .ref 405), (1, .int p1), (2, .int p2)] [] V 0 0
  refine s_aload_n dX8_player_0 rfl ?_
  refine s_aload_n dX8_player_1 rfl ?_
  refine s_iload_n dX8_player_2 rfl ?_
  refine t_cS (As := [.int p1]) (st := [.ref 405, .ref 405]) iv_8_192 dX8_player_3 ⟨by decide, by decide⟩ rfl (Nat.le_of_ble_eq_true rfl) (by decide) (by decide) rfl H (fun r V1 H => ?_)
  obtain ⟨b1, rfl, H⟩ := H
  refine s_if_eq (tgt := 20) dX8_player_6 (by decide) (fun c => ?_) (fun c => ?_)
  · have H := H.1 (bI_f c)
    exact t_loc [0, 1, 2] rfl (v_X8_player_20 p1 p2      H)
  · have H := H.2 (bI_t c)
    refine s_iload_n dX8_player_9 rfl ?_
    refine t_cS (As := [.int p2]) (st := [.ref 405, .ref 405]) iv_8_175 dX8_player_10 ⟨by decide, by decide⟩ rfl (Nat.le_of_ble_eq_true rfl) (by decide) (by decide) rfl H (fun r V2 H => ?_)
    obtain ⟨b2, rfl, H⟩ := H
    refine s_if_eq (tgt := 20) dX8_player_13 (by decide) (fun c => ?_) (fun c => ?_)
    · have H := H.1 (bI_f c)
      exact t_loc [0, 1, 2] rfl (v_X8_player_20 p1 p2      H)
    · have H := H.2 (bI_t c)
      refine s_iconst (v := 1) dX8_player_16 (by decide) ?_
      refine s_goto (tgt := 21) dX8_player_17 (by decide) ?_
      exact t_loc [0, 1, 2] rfl (v_X8_player_21 p1 p2    1  H)
