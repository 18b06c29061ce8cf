def F_X0_isCalled (J : Nat → Nat → Int64) (p1 : Int32) (V : Nat → Nat → Int32) (Qr : Option Value → (Nat → Nat → Int32) → Prop) (Qx : String → (Nat → Nat → Int32) → Prop) : Prop :=
((¬ (V 398 6) = p1) →
  Qr (some (.int 0)) V) ∧
(((V 398 6) = p1) →
  Qr (some (.int 1)) V)
theorem v_X0_isCalled {J : Nat → Nat → Int64} (p1 : Int32) {V : Nat → Nat → Int32} {Qr : Option Value → (Nat → Nat → Int32) → Prop} {Qx : String → (Nat → Nat → Int32) → Prop} (H : F_X0_isCalled J p1 V Qr Qx) : CTc J mX0_isCalled [.ref 398, .int p1] V Qr Qx := by
  refine ctc_of (M := (T0 J, V)) pX0_isCalled (fun _ _ => rfl) (Nat.le_of_ble_eq_true rfl) ?_
  unfold F_X0_isCalled at H
  show WPc J mX0_isCalled Qr Qx 0 [(0, .ref 398), (1, .int p1)] [] V 0 0
  refine s_aload_n dX0_isCalled_0 rfl ?_
  refine t_getI fl_0_30 dX0_isCalled_1 ob_398 rfl ?_
  refine s_iload_n dX0_isCalled_4 rfl ?_
  refine s_icmp_ne (tgt := 12) dX0_isCalled_5 (by decide) (fun c => ?_) (fun c => ?_)
  · have H := H.1 c
    refine s_iconst (v := 0) dX0_isCalled_12 (by decide) ?_
    exact s_iret dX0_isCalled_13 (Or.inr ⟨rfl, (Or.inl rfl)⟩) ⟨rfl, H⟩
  · have H := H.2 c
    refine s_iconst (v := 1) dX0_isCalled_8 (by decide) ?_
    refine s_goto (tgt := 13) dX0_isCalled_9 (by decide) ?_
    exact s_iret dX0_isCalled_13 (Or.inr ⟨rfl, (Or.inr rfl)⟩) ⟨rfl, H⟩

def F_X0_isBusy (J : Nat → Nat → Int64)  (V : Nat → Nat → Int32) (Qr : Option Value → (Nat → Nat → Int32) → Prop) (Qx : String → (Nat → Nat → Int32) → Prop) : Prop :=
(((V 398 6) = (-1)) →
  Qr (some (.int 0)) V) ∧
((¬ (V 398 6) = (-1)) →
  Qr (some (.int 1)) V)
theorem v_X0_isBusy {J : Nat → Nat → Int64}  {V : Nat → Nat → Int32} {Qr : Option Value → (Nat → Nat → Int32) → Prop} {Qx : String → (Nat → Nat → Int32) → Prop} (H : F_X0_isBusy J  V Qr Qx) : CTc J mX0_isBusy [.ref 398] V Qr Qx := by
  refine ctc_of (M := (T0 J, V)) pX0_isBusy (fun _ _ => rfl) (Nat.le_of_ble_eq_true rfl) ?_
  unfold F_X0_isBusy at H
  show WPc J mX0_isBusy Qr Qx 0 [(0, .ref 398)] [] V 0 0
  refine s_aload_n dX0_isBusy_0 rfl ?_
  refine t_getI fl_0_30 dX0_isBusy_1 ob_398 rfl ?_
  refine s_iconst (v := (-1)) dX0_isBusy_4 (by decide) ?_
  refine s_icmp_eq (tgt := 12) dX0_isBusy_5 (by decide) (fun c => ?_) (fun c => ?_)
  · have H := H.1 c
    refine s_iconst (v := 0) dX0_isBusy_12 (by decide) ?_
    exact s_iret dX0_isBusy_13 (Or.inr ⟨rfl, (Or.inl rfl)⟩) ⟨rfl, H⟩
  · have H := H.2 c
    refine s_iconst (v := 1) dX0_isBusy_8 (by decide) ?_
    refine s_goto (tgt := 13) dX0_isBusy_9 (by decide) ?_
    exact s_iret dX0_isBusy_13 (Or.inr ⟨rfl, (Or.inr rfl)⟩) ⟨rfl, H⟩

def F_X0_isOpen (J : Nat → Nat → Int64)  (V : Nat → Nat → Int32) (Qr : Option Value → (Nat → Nat → Int32) → Prop) (Qx : String → (Nat → Nat → Int32) → Prop) : Prop :=
CTc J mX0_isBusy [.ref 398] V (fun r V1 =>
  ∃ b1 : Bool, r = some (.int (bI b1)) ∧
  ((b1 = false) →
    Qr (some (.int 0)) V1) ∧
  ((b1 = true) →
    ((¬ (V1 398 10) = 0) →
      Qr (some (.int 0)) V1) ∧
    (((V1 398 10) = 0) →
      Qr (some (.int 1)) V1))) Qx
theorem v_X0_isOpen {J : Nat → Nat → Int64}  {V : Nat → Nat → Int32} {Qr : Option Value → (Nat → Nat → Int32) → Prop} {Qx : String → (Nat → Nat → Int32) → Prop} (H : F_X0_isOpen J  V Qr Qx) : CTc J mX0_isOpen [.ref 398] V Qr Qx := by
  refine ctc_of (M := (T0 J, V)) pX0_isOpen (fun _ _ => rfl) (Nat.le_of_ble_eq_true rfl) ?_
  unfold F_X0_isOpen at H
  show WPc J mX0_isOpen Qr Qx 0 [(0, .ref 398)] [] V 0 0
  refine s_aload_n dX0_isOpen_0 rfl ?_
  refine t_cV (h := 398) (As := []) (st := []) iv_0_34 dX0_isOpen_1 ⟨by decide, by decide⟩ rfl (Nat.le_of_ble_eq_true rfl) (by decide) (by decide) rfl ob_398 H (fun r V1 H => ?_)
  obtain ⟨b1, rfl, H⟩ := H
  refine s_if_eq (tgt := 18) dX0_isOpen_4 (by decide) (fun c => ?_) (fun c => ?_)
  · have H := H.1 (bI_f c)
    refine s_iconst (v := 0) dX0_isOpen_18 (by decide) ?_
    exact s_iret dX0_isOpen_19 (Or.inr ⟨rfl, (Or.inl rfl)⟩) ⟨rfl, H⟩
  · have H := H.2 (bI_t c)
    refine s_aload_n dX0_isOpen_7 rfl ?_
    refine t_getI fl_0_38 dX0_isOpen_8 ob_398 rfl ?_
    refine s_if_ne (tgt := 18) dX0_isOpen_11 (by decide) (fun c => ?_) (fun c => ?_)
    · have H := H.1 c
      refine s_iconst (v := 0) dX0_isOpen_18 (by decide) ?_
      exact s_iret dX0_isOpen_19 (Or.inr ⟨rfl, (Or.inl rfl)⟩) ⟨rfl, H⟩
    · have H := H.2 c
      refine s_iconst (v := 1) dX0_isOpen_14 (by decide) ?_
      refine s_goto (tgt := 19) dX0_isOpen_15 (by decide) ?_
      exact s_iret dX0_isOpen_19 (Or.inr ⟨rfl, (Or.inr rfl)⟩) ⟨rfl, H⟩

def F_X0_isAsking (J : Nat → Nat → Int64)  (V : Nat → Nat → Int32) (Qr : Option Value → (Nat → Nat → Int32) → Prop) (Qx : String → (Nat → Nat → Int32) → Prop) : Prop :=
((V 398 10) = 0 ∨ (V 398 10) = 1) ∧ Qr (some (.int (V 398 10))) V
theorem v_X0_isAsking {J : Nat → Nat → Int64}  {V : Nat → Nat → Int32} {Qr : Option Value → (Nat → Nat → Int32) → Prop} {Qx : String → (Nat → Nat → Int32) → Prop} (H : F_X0_isAsking J  V Qr Qx) : CTc J mX0_isAsking [.ref 398] V Qr Qx := by
  refine ctc_of (M := (T0 J, V)) pX0_isAsking (fun _ _ => rfl) (Nat.le_of_ble_eq_true rfl) ?_
  unfold F_X0_isAsking at H
  show WPc J mX0_isAsking Qr Qx 0 [(0, .ref 398)] [] V 0 0
  refine s_aload_n dX0_isAsking_0 rfl ?_
  refine t_getI fl_0_38 dX0_isAsking_1 ob_398 rfl ?_
  exact s_iret dX0_isAsking_4 (Or.inr ⟨rfl, H.1⟩) ⟨rfl, H.2⟩

def F_X0_isSold (J : Nat → Nat → Int64) (p1 : Int32) (V : Nat → Nat → Int32) (Qr : Option Value → (Nat → Nat → Int32) → Prop) (Qx : String → (Nat → Nat → Int32) → Prop) : Prop :=
CTc J mX7_isLot [.int p1] V (fun r V1 =>
  ∃ b1 : Bool, r = some (.int (bI b1)) ∧
  ((b1 = false) →
    Qr (some (.int 0)) V1) ∧
  ((b1 = true) →
    vp_in p1 24 ∧
    (((V1 402 p1.toNatClampNeg) = (-1)) →
      Qr (some (.int 0)) V1) ∧
    ((¬ (V1 402 p1.toNatClampNeg) = (-1)) →
      Qr (some (.int 1)) V1))) Qx
theorem v_X0_isSold {J : Nat → Nat → Int64} (p1 : Int32) {V : Nat → Nat → Int32} {Qr : Option Value → (Nat → Nat → Int32) → Prop} {Qx : String → (Nat → Nat → Int32) → Prop} (H : F_X0_isSold J p1 V Qr Qx) : CTc J mX0_isSold [.ref 398, .int p1] V Qr Qx := by
  refine ctc_of (M := (T0 J, V)) pX0_isSold (fun _ _ => rfl) (Nat.le_of_ble_eq_true rfl) ?_
  unfold F_X0_isSold at H
  show WPc J mX0_isSold Qr Qx 0 [(0, .ref 398), (1, .int p1)] [] V 0 0
  refine s_iload_n dX0_isSold_0 rfl ?_
  refine t_cN (As := [.int p1]) (st := []) iv_0_42 dX0_isSold_1 ⟨by decide, by decide⟩ rfl (Nat.le_of_ble_eq_true rfl) (by decide) (by decide) rfl H (fun r V1 H => ?_)
  obtain ⟨b1, rfl, H⟩ := H
  refine s_if_eq (tgt := 21) dX0_isSold_4 (by decide) (fun c => ?_) (fun c => ?_)
  · have H := H.1 (bI_f c)
    refine s_iconst (v := 0) dX0_isSold_21 (by decide) ?_
    exact s_iret dX0_isSold_22 (Or.inr ⟨rfl, (Or.inl rfl)⟩) ⟨rfl, H⟩
  · have H := H.2 (bI_t c)
    refine s_aload_n dX0_isSold_7 rfl ?_
    refine t_getR (r := 402) fl_0_21 dX0_isSold_8 ob_398 rfl rfl ?_
    refine s_iload_n dX0_isSold_11 rfl ?_
    refine t_iald dX0_isSold_12 ap_402 H.1 ?_
    have H := H.2
    refine s_iconst (v := (-1)) dX0_isSold_13 (by decide) ?_
    refine s_icmp_eq (tgt := 21) dX0_isSold_14 (by decide) (fun c => ?_) (fun c => ?_)
    · have H := H.1 c
      refine s_iconst (v := 0) dX0_isSold_21 (by decide) ?_
      exact s_iret dX0_isSold_22 (Or.inr ⟨rfl, (Or.inl rfl)⟩) ⟨rfl, H⟩
    · have H := H.2 c
      refine s_iconst (v := 1) dX0_isSold_17 (by decide) ?_
      refine s_goto (tgt := 22) dX0_isSold_18 (by decide) ?_
      exact s_iret dX0_isSold_22 (Or.inr ⟨rfl, (Or.inr rfl)⟩) ⟨rfl, H⟩

def F_X0_basePrice (J : Nat → Nat → Int64) (p1 : Int32) (V : Nat → Nat → Int32) (Qr : Option Value → (Nat → Nat → Int32) → Prop) (Qx : String → (Nat → Nat → Int32) → Prop) : Prop :=
((¬ (p1 - p1 / 3 * 3) = 0) →
  ((¬ (p1 - p1 / 3 * 3) = 1) →
    Qr (some (.int 10)) V) ∧
  (((p1 - p1 / 3 * 3) = 1) →
    Qr (some (.int 30)) V)) ∧
(((p1 - p1 / 3 * 3) = 0) →
  Qr (some (.int 50)) V)
theorem v_X0_basePrice {J : Nat → Nat → Int64} (p1 : Int32) {V : Nat → Nat → Int32} {Qr : Option Value → (Nat → Nat → Int32) → Prop} {Qx : String → (Nat → Nat → Int32) → Prop} (H : F_X0_basePrice J p1 V Qr Qx) : CTc J mX0_basePrice [.int p1] V Qr Qx := by
  refine ctc_of (M := (T0 J, V)) pX0_basePrice (fun _ _ => rfl) (Nat.le_of_ble_eq_true rfl) ?_
  unfold F_X0_basePrice at H
  show WPc J mX0_basePrice Qr Qx 0 [(0, .int p1)] [] V 0 0
  refine s_iload_n dX0_basePrice_0 rfl ?_
  refine s_iconst (v := 3) dX0_basePrice_1 (by decide) ?_
  refine s_irem dX0_basePrice_2 (by decide) ?_
  refine t_istore_n (L' := [(1, .int (p1 - p1 / 3 * 3)), (0, .int p1)]) dX0_basePrice_3 (by decide) rfl ?_
  refine s_iload_n dX0_basePrice_4 rfl ?_
  refine s_if_ne (tgt := 13) dX0_basePrice_5 (by decide) (fun c => ?_) (fun c => ?_)
  · have H := H.1 c
    refine s_iload_n dX0_basePrice_13 rfl ?_
    refine s_iconst (v := 1) dX0_basePrice_14 (by decide) ?_
    refine s_icmp_ne (tgt := 23) dX0_basePrice_15 (by decide) (fun c => ?_) (fun c => ?_)
    · have H := H.1 c
      refine s_bipush (v := 10) dX0_basePrice_23 (by decide) ?_
      exact s_iret dX0_basePrice_25 (Or.inl rfl) ⟨rfl, H⟩
    · have H := H.2 c
      refine s_bipush (v := 30) dX0_basePrice_18 (by decide) ?_
      refine s_goto (tgt := 25) dX0_basePrice_20 (by decide) ?_
      exact s_iret dX0_basePrice_25 (Or.inl rfl) ⟨rfl, H⟩
  · have H := H.2 c
    refine s_bipush (v := 50) dX0_basePrice_8 (by decide) ?_
    refine s_goto (tgt := 25) dX0_basePrice_10 (by decide) ?_
    exact s_iret dX0_basePrice_25 (Or.inl rfl) ⟨rfl, H⟩

def F_X0_isForeign (J : Nat → Nat → Int64) (p1 : Int32) (V : Nat → Nat → Int32) (Qr : Option Value → (Nat → Nat → Int32) → Prop) (Qx : String → (Nat → Nat → Int32) → Prop) : Prop :=
((¬ (p1 - p1 / 4 * 4) = 0) →
  Qr (some (.int 0)) V) ∧
(((p1 - p1 / 4 * 4) = 0) →
  Qr (some (.int 1)) V)
theorem v_X0_isForeign {J : Nat → Nat → Int64} (p1 : Int32) {V : Nat → Nat → Int32} {Qr : Option Value → (Nat → Nat → Int32) → Prop} {Qx : String → (Nat → Nat → Int32) → Prop} (H : F_X0_isForeign J p1 V Qr Qx) : CTc J mX0_isForeign [.int p1] V Qr Qx := by
  refine ctc_of (M := (T0 J, V)) pX0_isForeign (fun _ _ => rfl) (Nat.le_of_ble_eq_true rfl) ?_
  unfold F_X0_isForeign at H
  show WPc J mX0_isForeign Qr Qx 0 [(0, .int p1)] [] V 0 0
  refine s_iload_n dX0_isForeign_0 rfl ?_
  refine s_iconst (v := 4) dX0_isForeign_1 (by decide) ?_
  refine s_irem dX0_isForeign_2 (by decide) ?_
  refine s_if_ne (tgt := 10) dX0_isForeign_3 (by decide) (fun c => ?_) (fun c => ?_)
  · have H := H.1 c
    refine s_iconst (v := 0) dX0_isForeign_10 (by decide) ?_
    exact s_iret dX0_isForeign_11 (Or.inr ⟨rfl, (Or.inl rfl)⟩) ⟨rfl, H⟩
  · have H := H.2 c
    refine s_iconst (v := 1) dX0_isForeign_6 (by decide) ?_
    refine s_goto (tgt := 11) dX0_isForeign_7 (by decide) ?_
    exact s_iret dX0_isForeign_11 (Or.inr ⟨rfl, (Or.inr rfl)⟩) ⟨rfl, H⟩

def F_X0_rightOn (J : Nat → Nat → Int64) (p1 : Int32) (V : Nat → Nat → Int32) (Qr : Option Value → (Nat → Nat → Int32) → Prop) (Qx : String → (Nat → Nat → Int32) → Prop) : Prop :=
CTc J mX7_isLot [.int p1] V (fun r V1 =>
  ∃ b1 : Bool, r = some (.int (bI b1)) ∧
  ((b1 = false) →
    Qr (some (.int (-1))) V1) ∧
  ((b1 = true) →
    vp_in p1 24 ∧
    Qr (some (.int (V1 404 p1.toNatClampNeg))) V1)) Qx
theorem v_X0_rightOn {J : Nat → Nat → Int64} (p1 : Int32) {V : Nat → Nat → Int32} {Qr : Option Value → (Nat → Nat → Int32) → Prop} {Qx : String → (Nat → Nat → Int32) → Prop} (H : F_X0_rightOn J p1 V Qr Qx) : CTc J mX0_rightOn [.ref 398, .int p1] V Qr Qx := by
  refine ctc_of (M := (T0 J, V)) pX0_rightOn (fun _ _ => rfl) (Nat.le_of_ble_eq_true rfl) ?_
  unfold F_X0_rightOn at H
  show WPc J mX0_rightOn Qr Qx 0 [(0, .ref 398), (1, .int p1)] [] V 0 0
  refine s_iload_n dX0_rightOn_0 rfl ?_
  refine t_cN (As := [.int p1]) (st := []) iv_0_42 dX0_rightOn_1 ⟨by decide, by decide⟩ rfl (Nat.le_of_ble_eq_true rfl) (by decide) (by decide) rfl H (fun r V1 H => ?_)
  obtain ⟨b1, rfl, H⟩ := H
  refine s_if_eq (tgt := 16) dX0_rightOn_4 (by decide) (fun c => ?_) (fun c => ?_)
  · have H := H.1 (bI_f c)
    refine s_iconst (v := (-1)) dX0_rightOn_16 (by decide) ?_
    exact s_iret dX0_rightOn_17 (Or.inl rfl) ⟨rfl, H⟩
  · have H := H.2 (bI_t c)
    refine s_aload_n dX0_rightOn_7 rfl ?_
    refine t_getR (r := 404) fl_0_27 dX0_rightOn_8 ob_398 rfl rfl ?_
    refine s_iload_n dX0_rightOn_11 rfl ?_
    refine t_iald dX0_rightOn_12 ap_404 H.1 ?_
    have H := H.2
    refine s_goto (tgt := 17) dX0_rightOn_13 (by decide) ?_
    exact s_iret dX0_rightOn_17 (Or.inl rfl) ⟨rfl, H⟩

def F_X0_giveRight (J : Nat → Nat → Int64) (p1 : Int32) (p2 : Int32) (V : Nat → Nat → Int32) (Qr : Option Value → (Nat → Nat → Int32) → Prop) (Qx : String → (Nat → Nat → Int32) → Prop) : Prop :=
CTc J mX0_rightOn [.ref 398, .int p2] V (fun r V1 =>
  ∃ r1 : Int32, r = some (.int r1) ∧
  CTc J mX7_isLot [.int p2] V1 (fun r V2 =>
    ∃ b2 : Bool, r = some (.int (bI b2)) ∧
    ((b2 = false) →
      Qr (some (.int r1)) V2) ∧
    ((b2 = true) →
      vp_in p2 24 ∧
      Qr (some (.int r1)) (up2 V2 404 p2.toNatClampNeg p1))) Qx) Qx
theorem v_X0_giveRight {J : Nat → Nat → Int64} (p1 : Int32) (p2 : Int32) {V : Nat → Nat → Int32} {Qr : Option Value → (Nat → Nat → Int32) → Prop} {Qx : String → (Nat → Nat → Int32) → Prop} (H : F_X0_giveRight J p1 p2 V Qr Qx) : CTc J mX0_giveRight [.ref 398, .int p1, .int p2] V Qr Qx := by
  refine ctc_of (M := (T0 J, V)) pX0_giveRight (fun _ _ => rfl) (Nat.le_of_ble_eq_true rfl) ?_
  unfold F_X0_giveRight at H
  show WPc J mX0_giveRight Qr Qx 0 [(0, .ref 398), (1, .int p1), (2, .int p2)] [] V 0 0
  refine s_aload_n dX0_giveRight_0 rfl ?_
  refine s_iload_n dX0_giveRight_1 rfl ?_
  refine t_cV (h := 398) (As := [.int p2]) (st := []) iv_0_46 dX0_giveRight_2 ⟨by decide, by decide⟩ rfl (Nat.le_of_ble_eq_true rfl) (by decide) (by decide) rfl ob_398 H (fun r V1 H => ?_)
  obtain ⟨r1, rfl, H⟩ := H
  refine t_istore_n (L' := [(3, .int r1), (0, .ref 398), (1, .int p1), (2, .int p2)]) dX0_giveRight_5 (by decide) rfl ?_
  refine s_iload_n dX0_giveRight_6 rfl ?_
  refine t_cN (As := [.int p2]) (st := []) iv_0_42 dX0_giveRight_7 ⟨by decide, by decide⟩ rfl (Nat.le_of_ble_eq_true rfl) (by decide) (by decide) rfl H (fun r V2 H => ?_)
  obtain ⟨b2, rfl, H⟩ := H
  refine s_if_eq (tgt := 20) dX0_giveRight_10 (by decide) (fun c => ?_) (fun c => ?_)
  · have H := H.1 (bI_f c)
    refine s_iload_n dX0_giveRight_20 rfl ?_
    exact s_iret dX0_giveRight_21 (Or.inl rfl) ⟨rfl, H⟩
  · have H := H.2 (bI_t c)
    refine s_aload_n dX0_giveRight_13 rfl ?_
    refine t_getR (r := 404) fl_0_27 dX0_giveRight_14 ob_398 rfl rfl ?_
    refine s_iload_n dX0_giveRight_17 rfl ?_
    refine s_iload_n dX0_giveRight_18 rfl ?_
    refine t_iast dX0_giveRight_19 ap_404 H.1 ?_
    have H := H.2
    refine s_iload_n dX0_giveRight_20 rfl ?_
    exact s_iret dX0_giveRight_21 (Or.inl rfl) ⟨rfl, H⟩

def F_X0_callUp (J : Nat → Nat → Int64) (p1 : Int32) (V : Nat → Nat → Int32) (Qr : Option Value → (Nat → Nat → Int32) → Prop) (Qx : String → (Nat → Nat → Int32) → Prop) : Prop :=
CTc J mX0_basePrice [.int p1] (up2 (up2 (up2 (up2 V 398 6 p1) 398 7 0) 398 8 (-1)) 398 9 (-1)) (fun r V1 =>
  ∃ r1 : Int32, r = some (.int r1) ∧
  Qr (some (.int r1)) V1) Qx
theorem v_X0_callUp {J : Nat → Nat → Int64} (p1 : Int32) {V : Nat → Nat → Int32} {Qr : Option Value → (Nat → Nat → Int32) → Prop} {Qx : String → (Nat → Nat → Int32) → Prop} (H : F_X0_callUp J p1 V Qr Qx) : CTc J mX0_callUp [.ref 398, .int p1] V Qr Qx := by
  refine ctc_of (M := (T0 J, V)) pX0_callUp (fun _ _ => rfl) (Nat.le_of_ble_eq_true rfl) ?_
  unfold F_X0_callUp at H
  show WPc J mX0_callUp Qr Qx 0 [(0, .ref 398), (1, .int p1)] [] V 0 0
  refine s_aload_n dX0_callUp_0 rfl ?_
  refine s_iload_n dX0_callUp_1 rfl ?_
  refine t_putI fl_0_30 dX0_callUp_2 ob_398 (Or.inl rfl) ?_
  refine s_aload_n dX0_callUp_5 rfl ?_
  refine s_iconst (v := 0) dX0_callUp_6 (by decide) ?_
  refine t_putI fl_0_50 dX0_callUp_7 ob_398 (Or.inl rfl) ?_
  refine s_aload_n dX0_callUp_10 rfl ?_
  refine s_iconst (v := (-1)) dX0_callUp_11 (by decide) ?_
  refine t_putI fl_0_53 dX0_callUp_12 ob_398 (Or.inl rfl) ?_
  refine s_aload_n dX0_callUp_15 rfl ?_
  refine s_iconst (v := (-1)) dX0_callUp_16 (by decide) ?_
  refine t_putI fl_0_56 dX0_callUp_17 ob_398 (Or.inl rfl) ?_
  refine s_iload_n dX0_callUp_20 rfl ?_
  refine t_cS (As := [.int p1]) (st := []) iv_0_59 dX0_callUp_21 ⟨by decide, by decide⟩ rfl (Nat.le_of_ble_eq_true rfl) (by decide) (by decide) rfl H (fun r V1 H => ?_)
  obtain ⟨r1, rfl, H⟩ := H
  exact s_iret dX0_callUp_24 (Or.inl rfl) ⟨rfl, H⟩

def F_X0_leastBid (J : Nat → Nat → Int64)  (V : Nat → Nat → Int32) (Qr : Option Value → (Nat → Nat → Int32) → Prop) (Qx : String → (Nat → Nat → Int32) → Prop) : Prop :=
((¬ (V 398 7) = 0) →
  Qr (some (.int ((V 398 8) + 5))) V) ∧
(((V 398 7) = 0) →
  CTc J mX0_basePrice [.int (V 398 6)] V (fun r V1 =>
    ∃ r1 : Int32, r = some (.int r1) ∧
    Qr (some (.int r1)) V1) Qx)
theorem v_X0_leastBid {J : Nat → Nat → Int64}  {V : Nat → Nat → Int32} {Qr : Option Value → (Nat → Nat → Int32) → Prop} {Qx : String → (Nat → Nat → Int32) → Prop} (H : F_X0_leastBid J  V Qr Qx) : CTc J mX0_leastBid [.ref 398] V Qr Qx := by
  refine ctc_of (M := (T0 J, V)) pX0_leastBid (fun _ _ => rfl) (Nat.le_of_ble_eq_true rfl) ?_
  unfold F_X0_leastBid at H
  show WPc J mX0_leastBid Qr Qx 0 [(0, .ref 398)] [] V 0 0
  refine s_aload_n dX0_leastBid_0 rfl ?_
  refine t_getI fl_0_50 dX0_leastBid_1 ob_398 rfl ?_
  refine s_if_ne (tgt := 17) dX0_leastBid_4 (by decide) (fun c => ?_) (fun c => ?_)
  · have H := H.1 c
    refine s_aload_n dX0_leastBid_17 rfl ?_
    refine t_getI fl_0_53 dX0_leastBid_18 ob_398 rfl ?_
    refine s_iconst (v := 5) dX0_leastBid_21 (by decide) ?_
    refine s_iadd dX0_leastBid_22 ?_
    exact s_iret dX0_leastBid_23 (Or.inl rfl) ⟨rfl, H⟩
  · have H := H.2 c
    refine s_aload_n dX0_leastBid_7 rfl ?_
    refine t_getI fl_0_30 dX0_leastBid_8 ob_398 rfl ?_
    refine t_cS (As := [.int (V 398 6)]) (st := []) iv_0_59 dX0_leastBid_11 ⟨by decide, by decide⟩ rfl (Nat.le_of_ble_eq_true rfl) (by decide) (by decide) rfl H (fun r V1 H => ?_)
    obtain ⟨r1, rfl, H⟩ := H
    refine s_goto (tgt := 23) dX0_leastBid_14 (by decide) ?_
    exact s_iret dX0_leastBid_23 (Or.inl rfl) ⟨rfl, H⟩

def F_X0_canPay (J : Nat → Nat → Int64) (p1 : Int32) (p2 : Int32) (V : Nat → Nat → Int32) (Qr : Option Value → (Nat → Nat → Int32) → Prop) (Qx : String → (Nat → Nat → Int32) → Prop) : Prop :=
CTc J mX7_isClub [.int p1] V (fun r V1 =>
  ∃ b1 : Bool, r = some (.int (bI b1)) ∧
  ((b1 = false) →
    Qr (some (.int 0)) V1) ∧
  ((b1 = true) →
    vp_in p1 8 ∧
    (((V1 399 p1.toNatClampNeg) < p2) →
      Qr (some (.int 0)) V1) ∧
    ((¬ (V1 399 p1.toNatClampNeg) < p2) →
      vp_in p1 8 ∧
      ((6 ≤ (V1 400 p1.toNatClampNeg)) →
        Qr (some (.int 0)) V1) ∧
      ((¬ 6 ≤ (V1 400 p1.toNatClampNeg)) →
        CTc J mX0_isForeign [.int (V1 398 6)] V1 (fun r V2 =>
          ∃ b2 : Bool, r = some (.int (bI b2)) ∧
          ((b2 = false) →
            Qr (some (.int 1)) V2) ∧
          ((b2 = true) →
            vp_in p1 8 ∧
            ((2 ≤ (V2 401 p1.toNatClampNeg)) →
              Qr (some (.int 0)) V2) ∧
            ((¬ 2 ≤ (V2 401 p1.toNatClampNeg)) →
              Qr (some (.int 1)) V2))) Qx)))) Qx
theorem v_X0_canPay {J : Nat → Nat → Int64} (p1 : Int32) (p2 : Int32) {V : Nat → Nat → Int32} {Qr : Option Value → (Nat → Nat → Int32) → Prop} {Qx : String → (Nat → Nat → Int32) → Prop} (H : F_X0_canPay J p1 p2 V Qr Qx) : CTc J mX0_canPay [.ref 398, .int p1, .int p2] V Qr Qx := by
  refine ctc_of (M := (T0 J, V)) pX0_canPay (fun _ _ => rfl) (Nat.le_of_ble_eq_true rfl) ?_
  unfold F_X0_canPay at H
  show WPc J mX0_canPay Qr Qx 0 [(0, .ref 398), (1, .int p1), (2, .int p2)] [] V 0 0
  refine s_iload_n dX0_canPay_0 rfl ?_
  refine t_cN (As := [.int p1]) (st := []) iv_0_62 dX0_canPay_1 ⟨by decide, by decide⟩ rfl (Nat.le_of_ble_eq_true rfl) (by decide) (by decide) rfl H (fun r V1 H => ?_)
  obtain ⟨b1, rfl, H⟩ := H
  refine s_if_eq (tgt := 52) dX0_canPay_4 (by decide) (fun c => ?_) (fun c => ?_)
  · have H := H.1 (bI_f c)
    refine s_iconst (v := 0) dX0_canPay_52 (by decide) ?_
    exact s_iret dX0_canPay_53 (Or.inr ⟨rfl, (Or.inl rfl)⟩) ⟨rfl, H⟩
  · have H := H.2 (bI_t c)
    refine s_aload_n dX0_canPay_7 rfl ?_
    refine t_getR (r := 399) fl_0_9 dX0_canPay_8 ob_398 rfl rfl ?_
    refine s_iload_n dX0_canPay_11 rfl ?_
    refine t_iald dX0_canPay_12 ap_399 H.1 ?_
    have H := H.2
    refine s_iload_n dX0_canPay_13 rfl ?_
    refine s_icmp_lt (tgt := 52) dX0_canPay_14 (by decide) (fun c => ?_) (fun c => ?_)
    · have H := H.1 c
      refine s_iconst (v := 0) dX0_canPay_52 (by decide) ?_
      exact s_iret dX0_canPay_53 (Or.inr ⟨rfl, (Or.inl rfl)⟩) ⟨rfl, H⟩
    · have H := H.2 c
      refine s_aload_n dX0_canPay_17 rfl ?_
      refine t_getR (r := 400) fl_0_15 dX0_canPay_18 ob_398 rfl rfl ?_
      refine s_iload_n dX0_canPay_21 rfl ?_
      refine t_iald dX0_canPay_22 ap_400 H.1 ?_
      have H := H.2
      refine s_bipush (v := 6) dX0_canPay_23 (by decide) ?_
      refine s_icmp_ge (tgt := 52) dX0_canPay_25 (by decide) (fun c => ?_) (fun c => ?_)
      · have H := H.1 c
        refine s_iconst (v := 0) dX0_canPay_52 (by decide) ?_
        exact s_iret dX0_canPay_53 (Or.inr ⟨rfl, (Or.inl rfl)⟩) ⟨rfl, H⟩
      · have H := H.2 c
        refine s_aload_n dX0_canPay_28 rfl ?_
        refine t_getI fl_0_30 dX0_canPay_29 ob_398 rfl ?_
        refine t_cS (As := [.int (V1 398 6)]) (st := []) iv_0_65 dX0_canPay_32 ⟨by decide, by decide⟩ rfl (Nat.le_of_ble_eq_true rfl) (by decide) (by decide) rfl H (fun r V2 H => ?_)
        obtain ⟨b2, rfl, H⟩ := H
        refine s_if_eq (tgt := 48) dX0_canPay_35 (by decide) (fun c => ?_) (fun c => ?_)
        · have H := H.1 (bI_f c)
          refine s_iconst (v := 1) dX0_canPay_48 (by decide) ?_
          refine s_goto (tgt := 53) dX0_canPay_49 (by decide) ?_
          exact s_iret dX0_canPay_53 (Or.inr ⟨rfl, (Or.inr rfl)⟩) ⟨rfl, H⟩
        · have H := H.2 (bI_t c)
          refine s_aload_n dX0_canPay_38 rfl ?_
          refine t_getR (r := 401) fl_0_18 dX0_canPay_39 ob_398 rfl rfl ?_
          refine s_iload_n dX0_canPay_42 rfl ?_
          refine t_iald dX0_canPay_43 ap_401 H.1 ?_
          have H := H.2
          refine s_iconst (v := 2) dX0_canPay_44 (by decide) ?_
          refine s_icmp_ge (tgt := 52) dX0_canPay_45 (by decide) (fun c => ?_) (fun c => ?_)
          · have H := H.1 c
            refine s_iconst (v := 0) dX0_canPay_52 (by decide) ?_
            exact s_iret dX0_canPay_53 (Or.inr ⟨rfl, (Or.inl rfl)⟩) ⟨rfl, H⟩
          · have H := H.2 c
            refine s_iconst (v := 1) dX0_canPay_48 (by decide) ?_
            refine s_goto (tgt := 53) dX0_canPay_49 (by decide) ?_
            exact s_iret dX0_canPay_53 (Or.inr ⟨rfl, (Or.inr rfl)⟩) ⟨rfl, H⟩

def F_X0_takeBid (J : Nat → Nat → Int64) (p1 : Int32) (p2 : Int32) (V : Nat → Nat → Int32) (Qr : Option Value → (Nat → Nat → Int32) → Prop) (Qx : String → (Nat → Nat → Int32) → Prop) : Prop :=
Qr (some (.int ((up2 (up2 (up2 V 398 8 p2) 398 9 p1) 398 7 (((up2 (up2 V 398 8 p2) 398 9 p1) 398 7) + 1)) 398 7))) (up2 (up2 (up2 V 398 8 p2) 398 9 p1) 398 7 (((up2 (up2 V 398 8 p2) 398 9 p1) 398 7) + 1))
theorem v_X0_takeBid {J : Nat → Nat → Int64} (p1 : Int32) (p2 : Int32) {V : Nat → Nat → Int32} {Qr : Option Value → (Nat → Nat → Int32) → Prop} {Qx : String → (Nat → Nat → Int32) → Prop} (H : F_X0_takeBid J p1 p2 V Qr Qx) : CTc J mX0_takeBid [.ref 398, .int p1, .int p2] V Qr Qx := by
  refine ctc_of (M := (T0 J, V)) pX0_takeBid (fun _ _ => rfl) (Nat.le_of_ble_eq_true rfl) ?_
  unfold F_X0_takeBid at H
  show WPc J mX0_takeBid Qr Qx 0 [(0, .ref 398), (1, .int p1), (2, .int p2)] [] V 0 0
  refine s_aload_n dX0_takeBid_0 rfl ?_
  refine s_iload_n dX0_takeBid_1 rfl ?_
  refine t_putI fl_0_53 dX0_takeBid_2 ob_398 (Or.inl rfl) ?_
  refine s_aload_n dX0_takeBid_5 rfl ?_
  refine s_iload_n dX0_takeBid_6 rfl ?_
  refine t_putI fl_0_56 dX0_takeBid_7 ob_398 (Or.inl rfl) ?_
  refine s_aload_n dX0_takeBid_10 rfl ?_
  refine s_dup dX0_takeBid_11 rfl ?_
  refine t_getI fl_0_50 dX0_takeBid_12 ob_398 rfl ?_
  refine s_iconst (v := 1) dX0_takeBid_15 (by decide) ?_
  refine s_iadd dX0_takeBid_16 ?_
  refine t_putI fl_0_50 dX0_takeBid_17 ob_398 (Or.inl rfl) ?_
  refine s_aload_n dX0_takeBid_20 rfl ?_
  refine t_getI fl_0_50 dX0_takeBid_21 ob_398 rfl ?_
  exact s_iret dX0_takeBid_24 (Or.inl rfl) ⟨rfl, H⟩

def F_X0_strike (J : Nat → Nat → Int64)  (V : Nat → Nat → Int32) (Qr : Option Value → (Nat → Nat → Int32) → Prop) (Qx : String → (Nat → Nat → Int32) → Prop) : Prop :=
((¬ (V 398 7) = 0) →
  CTc J mX0_rightOn [.ref 398, .int (V 398 6)] V (fun r V1 =>
    ∃ r1 : Int32, r = some (.int r1) ∧
    ((r1 = (-1)) →
      CTc J mX0_sellTo [.ref 398, .int (V1 398 9)] V1 (fun r V2 =>
        ∃ r2 : Int32, r = some (.int r2) ∧
        Qr (some (.int r2)) V2) Qx) ∧
    ((¬ r1 = (-1)) →
      ((r1 = (V1 398 9)) →
        CTc J mX0_sellTo [.ref 398, .int (V1 398 9)] V1 (fun r V2 =>
          ∃ r2 : Int32, r = some (.int r2) ∧
          Qr (some (.int r2)) V2) Qx) ∧
      ((¬ r1 = (V1 398 9)) →
        CTc J mX0_canPay [.ref 398, .int r1, .int (V1 398 8)] V1 (fun r V2 =>
          ∃ b2 : Bool, r = some (.int (bI b2)) ∧
          ((b2 = false) →
            CTc J mX0_sellTo [.ref 398, .int (V2 398 9)] V2 (fun r V3 =>
              ∃ r3 : Int32, r = some (.int r3) ∧
              Qr (some (.int r3)) V3) Qx) ∧
          ((b2 = true) →
            Qr (some (.int (-1))) (up2 V2 398 10 1))) Qx))) Qx) ∧
(((V 398 7) = 0) →
  Qr (some (.int (-1))) (up2 V 398 6 (-1)))
theorem v_X0_strike {J : Nat → Nat → Int64}  {V : Nat → Nat → Int32} {Qr : Option Value → (Nat → Nat → Int32) → Prop} {Qx : String → (Nat → Nat → Int32) → Prop} (H : F_X0_strike J  V Qr Qx) : CTc J mX0_strike [.ref 398] V Qr Qx := by
  refine ctc_of (M := (T0 J, V)) pX0_strike (fun _ _ => rfl) (Nat.le_of_ble_eq_true rfl) ?_
  unfold F_X0_strike at H
  show WPc J mX0_strike Qr Qx 0 [(0, .ref 398)] [] V 0 0
  refine s_aload_n dX0_strike_0 rfl ?_
  refine t_getI fl_0_50 dX0_strike_1 ob_398 rfl ?_
  refine s_if_ne (tgt := 14) dX0_strike_4 (by decide) (fun c => ?_) (fun c => ?_)
  · have H := H.1 c
    refine s_aload_n dX0_strike_14 rfl ?_
    refine s_aload_n dX0_strike_15 rfl ?_
    refine t_getI fl_0_30 dX0_strike_16 ob_398 rfl ?_
    refine t_cV (h := 398) (As := [.int (V 398 6)]) (st := []) iv_0_46 dX0_strike_19 ⟨by decide, by decide⟩ rfl (Nat.le_of_ble_eq_true rfl) (by decide) (by decide) rfl ob_398 H (fun r V1 H => ?_)
    obtain ⟨r1, rfl, H⟩ := H
    refine t_istore_n (L' := [(1, .int r1), (0, .ref 398)]) dX0_strike_22 (by decide) rfl ?_
    refine s_iload_n dX0_strike_23 rfl ?_
    refine s_iconst (v := (-1)) dX0_strike_24 (by decide) ?_
    refine s_icmp_eq (tgt := 55) dX0_strike_25 (by decide) (fun c => ?_) (fun c => ?_)
    · have H := H.1 c
      refine s_aload_n dX0_strike_55 rfl ?_
      refine s_aload_n dX0_strike_56 rfl ?_
      refine t_getI fl_0_56 dX0_strike_57 ob_398 rfl ?_
      refine t_cV (h := 398) (As := [.int (V1 398 9)]) (st := []) iv_0_72 dX0_strike_60 ⟨by decide, by decide⟩ rfl (Nat.le_of_ble_eq_true rfl) (by decide) (by decide) rfl ob_398 H (fun r V2 H => ?_)
      obtain ⟨r2, rfl, H⟩ := H
      exact s_iret dX0_strike_63 (Or.inl rfl) ⟨rfl, H⟩
    · have H := H.2 c
      refine s_iload_n dX0_strike_28 rfl ?_
      refine s_aload_n dX0_strike_29 rfl ?_
      refine t_getI fl_0_56 dX0_strike_30 ob_398 rfl ?_
      refine s_icmp_eq (tgt := 55) dX0_strike_33 (by decide) (fun c => ?_) (fun c => ?_)
      · have H := H.1 c
        refine s_aload_n dX0_strike_55 rfl ?_
        refine s_aload_n dX0_strike_56 rfl ?_
        refine t_getI fl_0_56 dX0_strike_57 ob_398 rfl ?_
        refine t_cV (h := 398) (As := [.int (V1 398 9)]) (st := []) iv_0_72 dX0_strike_60 ⟨by decide, by decide⟩ rfl (Nat.le_of_ble_eq_true rfl) (by decide) (by decide) rfl ob_398 H (fun r V2 H => ?_)
        obtain ⟨r2, rfl, H⟩ := H
        exact s_iret dX0_strike_63 (Or.inl rfl) ⟨rfl, H⟩
      · have H := H.2 c
        refine s_aload_n dX0_strike_36 rfl ?_
        refine s_iload_n dX0_strike_37 rfl ?_
        refine s_aload_n dX0_strike_38 rfl ?_
        refine t_getI fl_0_53 dX0_strike_39 ob_398 rfl ?_
        refine t_cV (h := 398) (As := [.int r1, .int (V1 398 8)]) (st := []) iv_0_68 dX0_strike_42 ⟨by decide, by decide⟩ rfl (Nat.le_of_ble_eq_true rfl) (by decide) (by decide) rfl ob_398 H (fun r V2 H => ?_)
        obtain ⟨b2, rfl, H⟩ := H
        refine s_if_eq (tgt := 55) dX0_strike_45 (by decide) (fun c => ?_) (fun c => ?_)
        · have H := H.1 (bI_f c)
          refine s_aload_n dX0_strike_55 rfl ?_
          refine s_aload_n dX0_strike_56 rfl ?_
          refine t_getI fl_0_56 dX0_strike_57 ob_398 rfl ?_
          refine t_cV (h := 398) (As := [.int (V2 398 9)]) (st := []) iv_0_72 dX0_strike_60 ⟨by decide, by decide⟩ rfl (Nat.le_of_ble_eq_true rfl) (by decide) (by decide) rfl ob_398 H (fun r V3 H => ?_)
          obtain ⟨r3, rfl, H⟩ := H
          exact s_iret dX0_strike_63 (Or.inl rfl) ⟨rfl, H⟩
        · have H := H.2 (bI_t c)
          refine s_aload_n dX0_strike_48 rfl ?_
          refine s_iconst (v := 1) dX0_strike_49 (by decide) ?_
          refine t_putI fl_0_38 dX0_strike_50 ob_398 (Or.inr ⟨rfl, (Or.inr rfl)⟩) ?_
          refine s_iconst (v := (-1)) dX0_strike_53 (by decide) ?_
          exact s_iret dX0_strike_54 (Or.inl rfl) ⟨rfl, H⟩
  · have H := H.2 c
    refine s_aload_n dX0_strike_7 rfl ?_
    refine s_iconst (v := (-1)) dX0_strike_8 (by decide) ?_
    refine t_putI fl_0_30 dX0_strike_9 ob_398 (Or.inl rfl) ?_
    refine s_iconst (v := (-1)) dX0_strike_12 (by decide) ?_
    exact s_iret dX0_strike_13 (Or.inl rfl) ⟨rfl, H⟩

def F_X0_settle_40 (J : Nat → Nat → Int64) (p1 : Int32) (x2 : Int32) (V : Nat → Nat → Int32) (Qr : Option Value → (Nat → Nat → Int32) → Prop) (Qx : String → (Nat → Nat → Int32) → Prop) : Prop :=
CTc J mX0_sellTo [.ref 398, .int x2] (up2 V 398 10 0) (fun r V1 =>
  ∃ r1 : Int32, r = some (.int r1) ∧
  Qr (some (.int r1)) V1) Qx
theorem v_X0_settle_40 {J : Nat → Nat → Int64} (p1 : Int32) {Qr : Option Value → (Nat → Nat → Int32) → Prop} {Qx : String → (Nat → Nat → Int32) → Prop} (x2 : Int32)  {V : Nat → Nat → Int32} (H : F_X0_settle_40 J p1  x2 V Qr Qx) : WPc J mX0_settle Qr Qx 40 [(0, .ref 398), (2, .int x2)] [] V 0 0 := by
  unfold F_X0_settle_40 at H
  refine s_aload_n dX0_settle_40 rfl ?_
  refine s_iconst (v := 0) dX0_settle_41 (by decide) ?_
  refine t_putI fl_0_38 dX0_settle_42 ob_398 (Or.inr ⟨rfl, (Or.inl rfl)⟩) ?_
  refine s_aload_n dX0_settle_45 rfl ?_
  refine s_iload_n dX0_settle_46 rfl ?_
  refine t_cV (h := 398) (As := [.int x2]) (st := []) iv_0_72 dX0_settle_47 ⟨by decide, by decide⟩ rfl (Nat.le_of_ble_eq_true rfl) (by decide) (by decide) rfl ob_398 H (fun r V1 H => ?_)
  obtain ⟨r1, rfl, H⟩ := H
  exact s_iret dX0_settle_50 (Or.inl rfl) ⟨rfl, H⟩
def F_X0_settle_19 (J : Nat → Nat → Int64) (p1 : Int32) (s0 : Int32) (V : Nat → Nat → Int32) (Qr : Option Value → (Nat → Nat → Int32) → Prop) (Qx : String → (Nat → Nat → Int32) → Prop) : Prop :=
CTc J mX7_isLot [.int (V 398 6)] V (fun r V1 =>
  ∃ b1 : Bool, r = some (.int (bI b1)) ∧
  ((b1 = false) →
    F_X0_settle_40 J p1  s0 V1 Qr Qx) ∧
  ((b1 = true) →
    vp_in (V1 398 6) 24 ∧
    F_X0_settle_40 J p1  s0 (up2 V1 404 (V1 398 6).toNatClampNeg (-1)) Qr Qx)) Qx
theorem v_X0_settle_19 {J : Nat → Nat → Int64} (p1 : Int32) {Qr : Option Value → (Nat → Nat → Int32) → Prop} {Qx : String → (Nat → Nat → Int32) → Prop} (s0 : Int32)  {V : Nat → Nat → Int32} (H : F_X0_settle_19 J p1  s0 V Qr Qx) : WPc J mX0_settle Qr Qx 19 [(0, .ref 398)] [.int s0] V 0 0 := by
  unfold F_X0_settle_19 at H
  refine t_istore_n (L' := [(2, .int s0), (0, .ref 398)]) dX0_settle_19 (by decide) rfl ?_
  refine s_aload_n dX0_settle_20 rfl ?_
  refine t_getI fl_0_30 dX0_settle_21 ob_398 rfl ?_
  refine t_cN (As := [.int (V 398 6)]) (st := []) iv_0_42 dX0_settle_24 ⟨by decide, by decide⟩ rfl (Nat.le_of_ble_eq_true rfl) (by decide) (by decide) rfl H (fun r V1 H => ?_)
  obtain ⟨b1, rfl, H⟩ := H
  refine s_if_eq (tgt := 40) dX0_settle_27 (by decide) (fun c => ?_) (fun c => ?_)
  · have H := H.1 (bI_f c)
    exact t_loc [1, 0] rfl (v_X0_settle_40 p1    s0  H)
  · have H := H.2 (bI_t c)
    refine s_aload_n dX0_settle_30 rfl ?_
    refine t_getR (r := 404) fl_0_27 dX0_settle_31 ob_398 rfl rfl ?_
    refine s_aload_n dX0_settle_34 rfl ?_
    refine t_getI fl_0_30 dX0_settle_35 ob_398 rfl ?_
    refine s_iconst (v := (-1)) dX0_settle_38 (by decide) ?_
    refine t_iast dX0_settle_39 ap_404 H.1 ?_
    have H := H.2
    exact t_loc [1, 0] rfl (v_X0_settle_40 p1    s0  H)
def F_X0_settle (J : Nat → Nat → Int64) (p1 : Int32) (V : Nat → Nat → Int32) (Qr : Option Value → (Nat → Nat → Int32) → Prop) (Qx : String → (Nat → Nat → Int32) → Prop) : Prop :=
((p1 = 0) →
  F_X0_settle_19 J p1  (V 398 9) V Qr Qx) ∧
((¬ p1 = 0) →
  CTc J mX0_rightOn [.ref 398, .int (V 398 6)] V (fun r V1 =>
    ∃ r1 : Int32, r = some (.int r1) ∧
    F_X0_settle_19 J p1  r1 V1 Qr Qx) Qx)
theorem v_X0_settle {J : Nat → Nat → Int64} (p1 : Int32) {V : Nat → Nat → Int32} {Qr : Option Value → (Nat → Nat → Int32) → Prop} {Qx : String → (Nat → Nat → Int32) → Prop} (H : F_X0_settle J p1 V Qr Qx) : CTc J mX0_settle [.ref 398, .int p1] V Qr Qx := by
  refine ctc_of (M := (T0 J, V)) pX0_settle (fun _ _ => rfl) (Nat.le_of_ble_eq_true rfl) ?_
  unfold F_X0_settle at H
  show WPc J mX0_settle Qr Qx 0 [(0, .ref 398), (1, .int p1)] [] V 0 0
  refine s_iload_n dX0_settle_0 rfl ?_
  refine s_if_eq (tgt := 15) dX0_settle_1 (by decide) (fun c => ?_) (fun c => ?_)
  · have H := H.1 c
    refine s_aload_n dX0_settle_15 rfl ?_
    refine t_getI fl_0_56 dX0_settle_16 ob_398 rfl ?_
    exact t_loc [0] rfl (v_X0_settle_19 p1    (V 398 9)  H)
  · have H := H.2 c
    refine s_aload_n dX0_settle_4 rfl ?_
    refine s_aload_n dX0_settle_5 rfl ?_
    refine t_getI fl_0_30 dX0_settle_6 ob_398 rfl ?_
    refine t_cV (h := 398) (As := [.int (V 398 6)]) (st := []) iv_0_46 dX0_settle_9 ⟨by decide, by decide⟩ rfl (Nat.le_of_ble_eq_true rfl) (by decide) (by decide) rfl ob_398 H (fun r V1 H => ?_)
    obtain ⟨r1, rfl, H⟩ := H
    refine s_goto (tgt := 19) dX0_settle_12 (by decide) ?_
    exact t_loc [0] rfl (v_X0_settle_19 p1    r1  H)

def F_X0_sellTo (J : Nat → Nat → Int64) (p1 : Int32) (V : Nat → Nat → Int32) (Qr : Option Value → (Nat → Nat → Int32) → Prop) (Qx : String → (Nat → Nat → Int32) → Prop) : Prop :=
CTc J mX7_isClub [.int p1] V (fun r V1 =>
  ∃ b1 : Bool, r = some (.int (bI b1)) ∧
  ((b1 = false) →
    Qr (some (.int p1)) (up2 V1 398 6 (-1))) ∧
  ((b1 = true) →
    CTc J mX7_isLot [.int (V1 398 6)] V1 (fun r V2 =>
      ∃ b2 : Bool, r = some (.int (bI b2)) ∧
      ((b2 = false) →
        Qr (some (.int p1)) (up2 V2 398 6 (-1))) ∧
      ((b2 = true) →
        vp_in (V2 398 6) 24 ∧
        vp_in ((up2 V2 402 (V2 398 6).toNatClampNeg p1) 398 6) 24 ∧
        vp_in p1 8 ∧
        vp_in p1 8 ∧
        vp_in p1 8 ∧
        vp_in p1 8 ∧
        CTc J mX0_isForeign [.int ((up2 (up2 (up2 (up2 V2 402 (V2 398 6).toNatClampNeg p1) 403 ((up2 V2 402 (V2 398 6).toNatClampNeg p1) 398 6).toNatClampNeg ((up2 V2 402 (V2 398 6).toNatClampNeg p1) 398 8)) 399 p1.toNatClampNeg (((up2 (up2 V2 402 (V2 398 6).toNatClampNeg p1) 403 ((up2 V2 402 (V2 398 6).toNatClampNeg p1) 398 6).toNatClampNeg ((up2 V2 402 (V2 398 6).toNatClampNeg p1) 398 8)) 399 p1.toNatClampNeg) - ((up2 (up2 V2 402 (V2 398 6).toNatClampNeg p1) 403 ((up2 V2 402 (V2 398 6).toNatClampNeg p1) 398 6).toNatClampNeg ((up2 V2 402 (V2 398 6).toNatClampNeg p1) 398 8)) 398 8))) 400 p1.toNatClampNeg (((up2 (up2 (up2 V2 402 (V2 398 6).toNatClampNeg p1) 403 ((up2 V2 402 (V2 398 6).toNatClampNeg p1) 398 6).toNatClampNeg ((up2 V2 402 (V2 398 6).toNatClampNeg p1) 398 8)) 399 p1.toNatClampNeg (((up2 (up2 V2 402 (V2 398 6).toNatClampNeg p1) 403 ((up2 V2 402 (V2 398 6).toNatClampNeg p1) 398 6).toNatClampNeg ((up2 V2 402 (V2 398 6).toNatClampNeg p1) 398 8)) 399 p1.toNatClampNeg) - ((up2 (up2 V2 402 (V2 398 6).toNatClampNeg p1) 403 ((up2 V2 402 (V2 398 6).toNatClampNeg p1) 398 6).toNatClampNeg ((up2 V2 402 (V2 398 6).toNatClampNeg p1) 398 8)) 398 8))) 400 p1.toNatClampNeg) + 1)) 398 6)] (up2 (up2 (up2 (up2 V2 402 (V2 398 6).toNatClampNeg p1) 403 ((up2 V2 402 (V2 398 6).toNatClampNeg p1) 398 6).toNatClampNeg ((up2 V2 402 (V2 398 6).toNatClampNeg p1) 398 8)) 399 p1.toNatClampNeg (((up2 (up2 V2 402 (V2 398 6).toNatClampNeg p1) 403 ((up2 V2 402 (V2 398 6).toNatClampNeg p1) 398 6).toNatClampNeg ((up2 V2 402 (V2 398 6).toNatClampNeg p1) 398 8)) 399 p1.toNatClampNeg) - ((up2 (up2 V2 402 (V2 398 6).toNatClampNeg p1) 403 ((up2 V2 402 (V2 398 6).toNatClampNeg p1) 398 6).toNatClampNeg ((up2 V2 402 (V2 398 6).toNatClampNeg p1) 398 8)) 398 8))) 400 p1.toNatClampNeg (((up2 (up2 (up2 V2 402 (V2 398 6).toNatClampNeg p1) 403 ((up2 V2 402 (V2 398 6).toNatClampNeg p1) 398 6).toNatClampNeg ((up2 V2 402 (V2 398 6).toNatClampNeg p1) 398 8)) 399 p1.toNatClampNeg (((up2 (up2 V2 402 (V2 398 6).toNatClampNeg p1) 403 ((up2 V2 402 (V2 398 6).toNatClampNeg p1) 398 6).toNatClampNeg ((up2 V2 402 (V2 398 6).toNatClampNeg p1) 398 8)) 399 p1.toNatClampNeg) - ((up2 (up2 V2 402 (V2 398 6).toNatClampNeg p1) 403 ((up2 V2 402 (V2 398 6).toNatClampNeg p1) 398 6).toNatClampNeg ((up2 V2 402 (V2 398 6).toNatClampNeg p1) 398 8)) 398 8))) 400 p1.toNatClampNeg) + 1)) (fun r V3 =>
          ∃ b3 : Bool, r = some (.int (bI b3)) ∧
          ((b3 = false) →
            Qr (some (.int p1)) (up2 V3 398 6 (-1))) ∧
          ((b3 = true) →
            vp_in p1 8 ∧
            vp_in p1 8 ∧
            Qr (some (.int p1)) (up2 (up2 V3 401 p1.toNatClampNeg ((V3 401 p1.toNatClampNeg) + 1)) 398 6 (-1)))) Qx)) Qx)) Qx
theorem v_X0_sellTo {J : Nat → Nat → Int64} (p1 : Int32) {V : Nat → Nat → Int32} {Qr : Option Value → (Nat → Nat → Int32) → Prop} {Qx : String → (Nat → Nat → Int32) → Prop} (H : F_X0_sellTo J p1 V Qr Qx) : CTc J mX0_sellTo [.ref 398, .int p1] V Qr Qx := by
  refine ctc_of (M := (T0 J, V)) pX0_sellTo (fun _ _ => rfl) (Nat.le_of_ble_eq_true rfl) ?_
  unfold F_X0_sellTo at H
  show WPc J mX0_sellTo Qr Qx 0 [(0, .ref 398), (1, .int p1)] [] V 0 0
  refine s_iload_n dX0_sellTo_0 rfl ?_
  refine t_cN (As := [.int p1]) (st := []) iv_0_62 dX0_sellTo_1 ⟨by decide, by decide⟩ rfl (Nat.le_of_ble_eq_true rfl) (by decide) (by decide) rfl H (fun r V1 H => ?_)
  obtain ⟨b1, rfl, H⟩ := H
  refine s_if_eq (tgt := 83) dX0_sellTo_4 (by decide) (fun c => ?_) (fun c => ?_)
  · have H := H.1 (bI_f c)
    refine s_aload_n dX0_sellTo_83 rfl ?_
    refine s_iconst (v := (-1)) dX0_sellTo_84 (by decide) ?_
    refine t_putI fl_0_30 dX0_sellTo_85 ob_398 (Or.inl rfl) ?_
    refine s_iload_n dX0_sellTo_88 rfl ?_
    exact s_iret dX0_sellTo_89 (Or.inl rfl) ⟨rfl, H⟩
  · have H := H.2 (bI_t c)
    refine s_aload_n dX0_sellTo_7 rfl ?_
    refine t_getI fl_0_30 dX0_sellTo_8 ob_398 rfl ?_
    refine t_cN (As := [.int (V1 398 6)]) (st := []) iv_0_42 dX0_sellTo_11 ⟨by decide, by decide⟩ rfl (Nat.le_of_ble_eq_true rfl) (by decide) (by decide) rfl H (fun r V2 H => ?_)
    obtain ⟨b2, rfl, H⟩ := H
    refine s_if_eq (tgt := 83) dX0_sellTo_14 (by decide) (fun c => ?_) (fun c => ?_)
    · have H := H.1 (bI_f c)
      refine s_aload_n dX0_sellTo_83 rfl ?_
      refine s_iconst (v := (-1)) dX0_sellTo_84 (by decide) ?_
      refine t_putI fl_0_30 dX0_sellTo_85 ob_398 (Or.inl rfl) ?_
      refine s_iload_n dX0_sellTo_88 rfl ?_
      exact s_iret dX0_sellTo_89 (Or.inl rfl) ⟨rfl, H⟩
    · have H := H.2 (bI_t c)
      refine s_aload_n dX0_sellTo_17 rfl ?_
      refine t_getR (r := 402) fl_0_21 dX0_sellTo_18 ob_398 rfl rfl ?_
      refine s_aload_n dX0_sellTo_21 rfl ?_
      refine t_getI fl_0_30 dX0_sellTo_22 ob_398 rfl ?_
      refine s_iload_n dX0_sellTo_25 rfl ?_
      refine t_iast dX0_sellTo_26 ap_402 H.1 ?_
      have H := H.2
      refine s_aload_n dX0_sellTo_27 rfl ?_
      refine t_getR (r := 403) fl_0_24 dX0_sellTo_28 ob_398 rfl rfl ?_
      refine s_aload_n dX0_sellTo_31 rfl ?_
      refine t_getI fl_0_30 dX0_sellTo_32 ob_398 rfl ?_
      refine s_aload_n dX0_sellTo_35 rfl ?_
      refine t_getI fl_0_53 dX0_sellTo_36 ob_398 rfl ?_
      refine t_iast dX0_sellTo_39 ap_403 H.1 ?_
      have H := H.2
      refine s_aload_n dX0_sellTo_40 rfl ?_
      refine t_getR (r := 399) fl_0_9 dX0_sellTo_41 ob_398 rfl rfl ?_
      refine s_iload_n dX0_sellTo_44 rfl ?_
      refine s_dup2 dX0_sellTo_45 rfl rfl ?_
      refine t_iald dX0_sellTo_46 ap_399 H.1 ?_
      have H := H.2
      refine s_aload_n dX0_sellTo_47 rfl ?_
      refine t_getI fl_0_53 dX0_sellTo_48 ob_398 rfl ?_
      refine s_isub dX0_sellTo_51 ?_
      refine t_iast dX0_sellTo_52 ap_399 H.1 ?_
      have H := H.2
      refine s_aload_n dX0_sellTo_53 rfl ?_
      refine t_getR (r := 400) fl_0_15 dX0_sellTo_54 ob_398 rfl rfl ?_
      refine s_iload_n dX0_sellTo_57 rfl ?_
      refine s_dup2 dX0_sellTo_58 rfl rfl ?_
      refine t_iald dX0_sellTo_59 ap_400 H.1 ?_
      have H := H.2
      refine s_iconst (v := 1) dX0_sellTo_60 (by decide) ?_
      refine s_iadd dX0_sellTo_61 ?_
      refine t_iast dX0_sellTo_62 ap_400 H.1 ?_
      have H := H.2
      refine s_aload_n dX0_sellTo_63 rfl ?_
      refine t_getI fl_0_30 dX0_sellTo_64 ob_398 rfl ?_
      refine t_cS (As := [.int ((up2 (up2 (up2 (up2 V2 402 (V2 398 6).toNatClampNeg p1) 403 ((up2 V2 402 (V2 398 6).toNatClampNeg p1) 398 6).toNatClampNeg ((up2 V2 402 (V2 398 6).toNatClampNeg p1) 398 8)) 399 p1.toNatClampNeg (((up2 (up2 V2 402 (V2 398 6).toNatClampNeg p1) 403 ((up2 V2 402 (V2 398 6).toNatClampNeg p1) 398 6).toNatClampNeg ((up2 V2 402 (V2 398 6).toNatClampNeg p1) 398 8)) 399 p1.toNatClampNeg) - ((up2 (up2 V2 402 (V2 398 6).toNatClampNeg p1) 403 ((up2 V2 402 (V2 398 6).toNatClampNeg p1) 398 6).toNatClampNeg ((up2 V2 402 (V2 398 6).toNatClampNeg p1) 398 8)) 398 8))) 400 p1.toNatClampNeg (((up2 (up2 (up2 V2 402 (V2 398 6).toNatClampNeg p1) 403 ((up2 V2 402 (V2 398 6).toNatClampNeg p1) 398 6).toNatClampNeg ((up2 V2 402 (V2 398 6).toNatClampNeg p1) 398 8)) 399 p1.toNatClampNeg (((up2 (up2 V2 402 (V2 398 6).toNatClampNeg p1) 403 ((up2 V2 402 (V2 398 6).toNatClampNeg p1) 398 6).toNatClampNeg ((up2 V2 402 (V2 398 6).toNatClampNeg p1) 398 8)) 399 p1.toNatClampNeg) - ((up2 (up2 V2 402 (V2 398 6).toNatClampNeg p1) 403 ((up2 V2 402 (V2 398 6).toNatClampNeg p1) 398 6).toNatClampNeg ((up2 V2 402 (V2 398 6).toNatClampNeg p1) 398 8)) 398 8))) 400 p1.toNatClampNeg) + 1)) 398 6)]) (st := []) iv_0_65 dX0_sellTo_67 ⟨by decide, by decide⟩ rfl (Nat.le_of_ble_eq_true rfl) (by decide) (by decide) rfl H (fun r V3 H => ?_)
      obtain ⟨b3, rfl, H⟩ := H
      refine s_if_eq (tgt := 83) dX0_sellTo_70 (by decide) (fun c => ?_) (fun c => ?_)
      · have H := H.1 (bI_f c)
        refine s_aload_n dX0_sellTo_83 rfl ?_
        refine s_iconst (v := (-1)) dX0_sellTo_84 (by decide) ?_
        refine t_putI fl_0_30 dX0_sellTo_85 ob_398 (Or.inl rfl) ?_
        refine s_iload_n dX0_sellTo_88 rfl ?_
        exact s_iret dX0_sellTo_89 (Or.inl rfl) ⟨rfl, H⟩
      · have H := H.2 (bI_t c)
        refine s_aload_n dX0_sellTo_73 rfl ?_
        refine t_getR (r := 401) fl_0_18 dX0_sellTo_74 ob_398 rfl rfl ?_
        refine s_iload_n dX0_sellTo_77 rfl ?_
        refine s_dup2 dX0_sellTo_78 rfl rfl ?_
        refine t_iald dX0_sellTo_79 ap_401 H.1 ?_
        have H := H.2
        refine s_iconst (v := 1) dX0_sellTo_80 (by decide) ?_
        refine s_iadd dX0_sellTo_81 ?_
        refine t_iast dX0_sellTo_82 ap_401 H.1 ?_
        have H := H.2
        refine s_aload_n dX0_sellTo_83 rfl ?_
        refine s_iconst (v := (-1)) dX0_sellTo_84 (by decide) ?_
        refine t_putI fl_0_30 dX0_sellTo_85 ob_398 (Or.inl rfl) ?_
        refine s_iload_n dX0_sellTo_88 rfl ?_
        exact s_iret dX0_sellTo_89 (Or.inl rfl) ⟨rfl, H⟩

def F_X0_tellOfLot (J : Nat → Nat → Int64) (p1 : Int32) (p2 : Int32) (V : Nat → Nat → Int32) (Qr : Option Value → (Nat → Nat → Int32) → Prop) (Qx : String → (Nat → Nat → Int32) → Prop) : Prop :=
CTc J mX7_isLot [.int p1] V (fun r V1 =>
  ∃ b1 : Bool, r = some (.int (bI b1)) ∧
  ((b1 = true) →
    ((p2 = 0) →
      vp_in p1 24 ∧
      Qr (some (.int (V1 402 p1.toNatClampNeg))) V1) ∧
    ((p2 = 1) →
      vp_in p1 24 ∧
      Qr (some (.int (V1 403 p1.toNatClampNeg))) V1) ∧
    ((p2 = 2) →
      vp_in p1 24 ∧
      Qr (some (.int (V1 404 p1.toNatClampNeg))) V1) ∧
    (((p2).toInt < 0 ∨ 2 < (p2).toInt) →
      CTc J mX0_isCalled [.ref 398, .int p1] V1 (fun r V2 =>
        ∃ b2 : Bool, r = some (.int (bI b2)) ∧
        ((b2 = false) →
          Qr (some (.int (-1))) V2) ∧
        ((b2 = true) →
          Qr (some (.int (V2 398 8))) V2)) Qx)) ∧
  ((b1 = false) →
    Qr (some (.int (-1))) V1)) Qx
theorem v_X0_tellOfLot {J : Nat → Nat → Int64} (p1 : Int32) (p2 : Int32) {V : Nat → Nat → Int32} {Qr : Option Value → (Nat → Nat → Int32) → Prop} {Qx : String → (Nat → Nat → Int32) → Prop} (H : F_X0_tellOfLot J p1 p2 V Qr Qx) : CTc J mX0_tellOfLot [.ref 398, .int p1, .int p2] V Qr Qx := by
  refine ctc_of (M := (T0 J, V)) pX0_tellOfLot (fun _ _ => rfl) (Nat.le_of_ble_eq_true rfl) ?_
  unfold F_X0_tellOfLot at H
  show WPc J mX0_tellOfLot Qr Qx 0 [(0, .ref 398), (1, .int p1), (2, .int p2)] [] V 0 0
  refine s_iload_n dX0_tellOfLot_0 rfl ?_
  refine t_cN (As := [.int p1]) (st := []) iv_0_42 dX0_tellOfLot_1 ⟨by decide, by decide⟩ rfl (Nat.le_of_ble_eq_true rfl) (by decide) (by decide) rfl H (fun r V1 H => ?_)
  obtain ⟨b1, rfl, H⟩ := H
  refine s_if_ne (tgt := 9) dX0_tellOfLot_4 (by decide) (fun c => ?_) (fun c => ?_)
  · have H := H.1 (bI_t c)
    refine s_iload_n dX0_tellOfLot_9 rfl ?_
    by_cases c0 : p2 = 0
    · have H := H.1 c0
      rw [c0]
      refine s_tabI (tgt := 36) dX0_tellOfLot_10 (by decide) (by decide) rfl (by decide) ?_
      refine s_aload_n dX0_tellOfLot_36 rfl ?_
      refine t_getR (r := 402) fl_0_21 dX0_tellOfLot_37 ob_398 rfl rfl ?_
      refine s_iload_n dX0_tellOfLot_40 rfl ?_
      refine t_iald dX0_tellOfLot_41 ap_402 H.1 ?_
      have H := H.2
      exact s_iret dX0_tellOfLot_42 (Or.inl rfl) ⟨rfl, H⟩
    by_cases c1 : p2 = 1
    · have H := H.2.1 c1
      rw [c1]
      refine s_tabI (tgt := 43) dX0_tellOfLot_10 (by decide) (by decide) rfl (by decide) ?_
      refine s_aload_n dX0_tellOfLot_43 rfl ?_
      refine t_getR (r := 403) fl_0_24 dX0_tellOfLot_44 ob_398 rfl rfl ?_
      refine s_iload_n dX0_tellOfLot_47 rfl ?_
      refine t_iald dX0_tellOfLot_48 ap_403 H.1 ?_
      have H := H.2
      exact s_iret dX0_tellOfLot_49 (Or.inl rfl) ⟨rfl, H⟩
    by_cases c2 : p2 = 2
    · have H := H.2.2.1 c2
      rw [c2]
      refine s_tabI (tgt := 50) dX0_tellOfLot_10 (by decide) (by decide) rfl (by decide) ?_
      refine s_aload_n dX0_tellOfLot_50 rfl ?_
      refine t_getR (r := 404) fl_0_27 dX0_tellOfLot_51 ob_398 rfl rfl ?_
      refine s_iload_n dX0_tellOfLot_54 rfl ?_
      refine t_iald dX0_tellOfLot_55 ap_404 H.1 ?_
      have H := H.2
      exact s_iret dX0_tellOfLot_56 (Or.inl rfl) ⟨rfl, H⟩
    have hout : (p2).toInt < 0 ∨ 2 < (p2).toInt := sw_out (x := p2) (lo := 0) (n := 3) (by intro k hk; exact match k, hk with | 0, _ => c0 | 1, _ => c1 | 2, _ => c2 | n + 3, h => absurd h (by omega)) (by decide) (by decide)
    have H := H.2.2.2 hout
    refine s_tabO (tgt := 57) dX0_tellOfLot_10 hout (by decide) ?_
    refine s_aload_n dX0_tellOfLot_57 rfl ?_
    refine s_iload_n dX0_tellOfLot_58 rfl ?_
    refine t_cV (h := 398) (As := [.int p1]) (st := []) iv_0_75 dX0_tellOfLot_59 ⟨by decide, by decide⟩ rfl (Nat.le_of_ble_eq_true rfl) (by decide) (by decide) rfl ob_398 H (fun r V2 H => ?_)
    obtain ⟨b2, rfl, H⟩ := H
    refine s_if_eq (tgt := 72) dX0_tellOfLot_62 (by decide) (fun c => ?_) (fun c => ?_)
    · have H := H.1 (bI_f c)
      refine s_iconst (v := (-1)) dX0_tellOfLot_72 (by decide) ?_
      exact s_iret dX0_tellOfLot_73 (Or.inl rfl) ⟨rfl, H⟩
    · have H := H.2 (bI_t c)
      refine s_aload_n dX0_tellOfLot_65 rfl ?_
      refine t_getI fl_0_53 dX0_tellOfLot_66 ob_398 rfl ?_
      refine s_goto (tgt := 73) dX0_tellOfLot_69 (by decide) ?_
      exact s_iret dX0_tellOfLot_73 (Or.inl rfl) ⟨rfl, H⟩
  · have H := H.2 (bI_f c)
    refine s_iconst (v := (-1)) dX0_tellOfLot_7 (by decide) ?_
    exact s_iret dX0_tellOfLot_8 (Or.inl rfl) ⟨rfl, H⟩

def F_X0_tellOfClub (J : Nat → Nat → Int64) (p1 : Int32) (p2 : Int32) (V : Nat → Nat → Int32) (Qr : Option Value → (Nat → Nat → Int32) → Prop) (Qx : String → (Nat → Nat → Int32) → Prop) : Prop :=
CTc J mX7_isClub [.int p1] V (fun r V1 =>
  ∃ b1 : Bool, r = some (.int (bI b1)) ∧
  ((b1 = true) →
    ((p2 = 0) →
      vp_in p1 8 ∧
      Qr (some (.int (V1 399 p1.toNatClampNeg))) V1) ∧
    ((p2 = 1) →
      vp_in p1 8 ∧
      Qr (some (.int (V1 400 p1.toNatClampNeg))) V1) ∧
    (¬ p2 = 0 → ¬ p2 = 1 →
      vp_in p1 8 ∧
      Qr (some (.int (V1 401 p1.toNatClampNeg))) V1)) ∧
  ((b1 = false) →
    Qr (some (.int (-1))) V1)) Qx
theorem v_X0_tellOfClub {J : Nat → Nat → Int64} (p1 : Int32) (p2 : Int32) {V : Nat → Nat → Int32} {Qr : Option Value → (Nat → Nat → Int32) → Prop} {Qx : String → (Nat → Nat → Int32) → Prop} (H : F_X0_tellOfClub J p1 p2 V Qr Qx) : CTc J mX0_tellOfClub [.ref 398, .int p1, .int p2] V Qr Qx := by
  refine ctc_of (M := (T0 J, V)) pX0_tellOfClub (fun _ _ => rfl) (Nat.le_of_ble_eq_true rfl) ?_
  unfold F_X0_tellOfClub at H
  show WPc J mX0_tellOfClub Qr Qx 0 [(0, .ref 398), (1, .int p1), (2, .int p2)] [] V 0 0
  refine s_iload_n dX0_tellOfClub_0 rfl ?_
  refine t_cN (As := [.int p1]) (st := []) iv_0_62 dX0_tellOfClub_1 ⟨by decide, by decide⟩ rfl (Nat.le_of_ble_eq_true rfl) (by decide) (by decide) rfl H (fun r V1 H => ?_)
  obtain ⟨b1, rfl, H⟩ := H
  refine s_if_ne (tgt := 9) dX0_tellOfClub_4 (by decide) (fun c => ?_) (fun c => ?_)
  · have H := H.1 (bI_t c)
    refine s_iload_n dX0_tellOfClub_9 rfl ?_
    by_cases c0 : p2 = 0
    · have H := H.1 c0
      rw [c0]
      refine s_look (off := 26) (tgt := 36) dX0_tellOfClub_10 (by decide) (by decide) (by decide) ?_
      refine s_aload_n dX0_tellOfClub_36 rfl ?_
      refine t_getR (r := 399) fl_0_9 dX0_tellOfClub_37 ob_398 rfl rfl ?_
      refine s_iload_n dX0_tellOfClub_40 rfl ?_
      refine t_iald dX0_tellOfClub_41 ap_399 H.1 ?_
      have H := H.2
      exact s_iret dX0_tellOfClub_42 (Or.inl rfl) ⟨rfl, H⟩
    by_cases c1 : p2 = 1
    · have H := H.2.1 c1
      rw [c1]
      refine s_look (off := 33) (tgt := 43) dX0_tellOfClub_10 (by decide) (by decide) (by decide) ?_
      refine s_aload_n dX0_tellOfClub_43 rfl ?_
      refine t_getR (r := 400) fl_0_15 dX0_tellOfClub_44 ob_398 rfl rfl ?_
      refine s_iload_n dX0_tellOfClub_47 rfl ?_
      refine t_iald dX0_tellOfClub_48 ap_400 H.1 ?_
      have H := H.2
      exact s_iret dX0_tellOfClub_49 (Or.inl rfl) ⟨rfl, H⟩
    have H := H.2.2 c0 c1
    have hlk : Op.lookupswitch.offset [(0, 26), (1, 33)] 40 (p2).toInt = 40 := by
      rw [Op.lookupswitch.offset_cons, if_neg (i32_ne c0), Op.lookupswitch.offset_cons, if_neg (i32_ne c1), Op.lookupswitch.offset_nil]
    refine s_look (off := 40) (tgt := 50) dX0_tellOfClub_10 (by decide) hlk (by decide) ?_
    refine s_aload_n dX0_tellOfClub_50 rfl ?_
    refine t_getR (r := 401) fl_0_18 dX0_tellOfClub_51 ob_398 rfl rfl ?_
    refine s_iload_n dX0_tellOfClub_54 rfl ?_
    refine t_iald dX0_tellOfClub_55 ap_401 H.1 ?_
    have H := H.2
    exact s_iret dX0_tellOfClub_56 (Or.inl rfl) ⟨rfl, H⟩
  · have H := H.2 (bI_f c)
    refine s_iconst (v := (-1)) dX0_tellOfClub_7 (by decide) ?_
    exact s_iret dX0_tellOfClub_8 (Or.inl rfl) ⟨rfl, H⟩

def F_X3_note (J : Nat → Nat → Int64) (p1 : Int32) (p2 : Int32) (p3 : Int32) (p4 : Int32) (V : Nat → Nat → Int32) (Qr : Option Value → (Nat → Nat → Int32) → Prop) (Qx : String → (Nat → Nat → Int32) → Prop) : Prop :=
CTc J mX3_noteFor [.ref 391, .int p1, .int p2, .int p4] V (fun r V1 =>
  r = none ∧
  CTc J mX3_noteFor [.ref 391, .int p3, .int p4, .int p2] V1 (fun r V2 =>
    r = none ∧
    ((¬ p2 = p4) →
      ((p2 ≤ p4) →
        Qr (some (.int p3)) V2) ∧
      ((¬ p2 ≤ p4) →
        Qr (some (.int p1)) V2)) ∧
    ((p2 = p4) →
      Qr (some (.int (-1))) V2)) Qx) Qx
theorem v_X3_note {J : Nat → Nat → Int64} (p1 : Int32) (p2 : Int32) (p3 : Int32) (p4 : Int32) {V : Nat → Nat → Int32} {Qr : Option Value → (Nat → Nat → Int32) → Prop} {Qx : String → (Nat → Nat → Int32) → Prop} (H : F_X3_note J p1 p2 p3 p4 V Qr Qx) : CTc J mX3_note [.ref 391, .int p1, .int p2, .int p3, .int p4] V Qr Qx := by
  refine ctc_of (M := (T0 J, V)) pX3_note (fun _ _ => rfl) (Nat.le_of_ble_eq_true rfl) ?_
  unfold F_X3_note at H
  show WPc J mX3_note Qr Qx 0 [(0, .ref 391), (1, .int p1), (2, .int p2), (3, .int p3), (4, .int p4)] [] V 0 0
  refine s_aload_n dX3_note_0 rfl ?_
  refine s_iload_n dX3_note_1 rfl ?_
  refine s_iload_n dX3_note_2 rfl ?_
  refine s_iload dX3_note_3 rfl ?_
  refine t_cV (h := 391) (As := [.int p1, .int p2, .int p4]) (st := []) iv_3_30 dX3_note_5 ⟨by decide, by decide⟩ rfl (Nat.le_of_ble_eq_true rfl) (by decide) (by decide) rfl ob_391 H (fun r V1 H => ?_)
  obtain ⟨rfl, H⟩ := H
  refine s_aload_n dX3_note_8 rfl ?_
  refine s_iload_n dX3_note_9 rfl ?_
  refine s_iload dX3_note_10 rfl ?_
  refine s_iload_n dX3_note_12 rfl ?_
  refine t_cV (h := 391) (As := [.int p3, .int p4, .int p2]) (st := []) iv_3_30 dX3_note_13 ⟨by decide, by decide⟩ rfl (Nat.le_of_ble_eq_true rfl) (by decide) (by decide) rfl ob_391 H (fun r V2 H => ?_)
  obtain ⟨rfl, H⟩ := H
  refine s_iload_n dX3_note_16 rfl ?_
  refine s_iload dX3_note_17 rfl ?_
  refine s_icmp_ne (tgt := 24) dX3_note_19 (by decide) (fun c => ?_) (fun c => ?_)
  · have H := H.1 c
    refine s_iload_n dX3_note_24 rfl ?_
    refine s_iload dX3_note_25 rfl ?_
    refine s_icmp_le (tgt := 34) dX3_note_27 (by decide) (fun c => ?_) (fun c => ?_)
    · have H := H.1 c
      refine s_iload_n dX3_note_34 rfl ?_
      exact s_iret dX3_note_35 (Or.inl rfl) ⟨rfl, H⟩
    · have H := H.2 c
      refine s_iload_n dX3_note_30 rfl ?_
      refine s_goto (tgt := 35) dX3_note_31 (by decide) ?_
      exact s_iret dX3_note_35 (Or.inl rfl) ⟨rfl, H⟩
  · have H := H.2 c
    refine s_iconst (v := (-1)) dX3_note_22 (by decide) ?_
    exact s_iret dX3_note_23 (Or.inl rfl) ⟨rfl, H⟩

def F_X3_noteFor (J : Nat → Nat → Int64) (p1 : Int32) (p2 : Int32) (p3 : Int32) (V : Nat → Nat → Int32) (Qr : Option Value → (Nat → Nat → Int32) → Prop) (Qx : String → (Nat → Nat → Int32) → Prop) : Prop :=
CTc J mX7_isClub [.int p1] V (fun r V1 =>
  ∃ b1 : Bool, r = some (.int (bI b1)) ∧
  ((b1 = true) →
    vp_in p1 8 ∧
    vp_in p1 8 ∧
    vp_in p1 8 ∧
    vp_in p1 8 ∧
    vp_in p1 8 ∧
    vp_in p1 8 ∧
    ((p2 ≤ p3) →
      ((¬ p2 = p3) →
        ((7 < (p3 - p2)) →
          Qr none (up2 (up2 (up2 V1 392 p1.toNatClampNeg ((V1 392 p1.toNatClampNeg) + 1)) 396 p1.toNatClampNeg (((up2 V1 392 p1.toNatClampNeg ((V1 392 p1.toNatClampNeg) + 1)) 396 p1.toNatClampNeg) + p2)) 397 p1.toNatClampNeg (((up2 (up2 V1 392 p1.toNatClampNeg ((V1 392 p1.toNatClampNeg) + 1)) 396 p1.toNatClampNeg (((up2 V1 392 p1.toNatClampNeg ((V1 392 p1.toNatClampNeg) + 1)) 396 p1.toNatClampNeg) + p2)) 397 p1.toNatClampNeg) + p3))) ∧
        ((¬ 7 < (p3 - p2)) →
          vp_in p1 8 ∧
          vp_in p1 8 ∧
          Qr none (up2 (up2 (up2 (up2 V1 392 p1.toNatClampNeg ((V1 392 p1.toNatClampNeg) + 1)) 396 p1.toNatClampNeg (((up2 V1 392 p1.toNatClampNeg ((V1 392 p1.toNatClampNeg) + 1)) 396 p1.toNatClampNeg) + p2)) 397 p1.toNatClampNeg (((up2 (up2 V1 392 p1.toNatClampNeg ((V1 392 p1.toNatClampNeg) + 1)) 396 p1.toNatClampNeg (((up2 V1 392 p1.toNatClampNeg ((V1 392 p1.toNatClampNeg) + 1)) 396 p1.toNatClampNeg) + p2)) 397 p1.toNatClampNeg) + p3)) 395 p1.toNatClampNeg (((up2 (up2 (up2 V1 392 p1.toNatClampNeg ((V1 392 p1.toNatClampNeg) + 1)) 396 p1.toNatClampNeg (((up2 V1 392 p1.toNatClampNeg ((V1 392 p1.toNatClampNeg) + 1)) 396 p1.toNatClampNeg) + p2)) 397 p1.toNatClampNeg (((up2 (up2 V1 392 p1.toNatClampNeg ((V1 392 p1.toNatClampNeg) + 1)) 396 p1.toNatClampNeg (((up2 V1 392 p1.toNatClampNeg ((V1 392 p1.toNatClampNeg) + 1)) 396 p1.toNatClampNeg) + p2)) 397 p1.toNatClampNeg) + p3)) 395 p1.toNatClampNeg) + 1)))) ∧
      ((p2 = p3) →
        vp_in p1 8 ∧
        vp_in p1 8 ∧
        vp_in p1 8 ∧
        vp_in p1 8 ∧
        Qr none (up2 (up2 (up2 (up2 (up2 V1 392 p1.toNatClampNeg ((V1 392 p1.toNatClampNeg) + 1)) 396 p1.toNatClampNeg (((up2 V1 392 p1.toNatClampNeg ((V1 392 p1.toNatClampNeg) + 1)) 396 p1.toNatClampNeg) + p2)) 397 p1.toNatClampNeg (((up2 (up2 V1 392 p1.toNatClampNeg ((V1 392 p1.toNatClampNeg) + 1)) 396 p1.toNatClampNeg (((up2 V1 392 p1.toNatClampNeg ((V1 392 p1.toNatClampNeg) + 1)) 396 p1.toNatClampNeg) + p2)) 397 p1.toNatClampNeg) + p3)) 394 p1.toNatClampNeg (((up2 (up2 (up2 V1 392 p1.toNatClampNeg ((V1 392 p1.toNatClampNeg) + 1)) 396 p1.toNatClampNeg (((up2 V1 392 p1.toNatClampNeg ((V1 392 p1.toNatClampNeg) + 1)) 396 p1.toNatClampNeg) + p2)) 397 p1.toNatClampNeg (((up2 (up2 V1 392 p1.toNatClampNeg ((V1 392 p1.toNatClampNeg) + 1)) 396 p1.toNatClampNeg (((up2 V1 392 p1.toNatClampNeg ((V1 392 p1.toNatClampNeg) + 1)) 396 p1.toNatClampNeg) + p2)) 397 p1.toNatClampNeg) + p3)) 394 p1.toNatClampNeg) + 1)) 395 p1.toNatClampNeg (((up2 (up2 (up2 (up2 V1 392 p1.toNatClampNeg ((V1 392 p1.toNatClampNeg) + 1)) 396 p1.toNatClampNeg (((up2 V1 392 p1.toNatClampNeg ((V1 392 p1.toNatClampNeg) + 1)) 396 p1.toNatClampNeg) + p2)) 397 p1.toNatClampNeg (((up2 (up2 V1 392 p1.toNatClampNeg ((V1 392 p1.toNatClampNeg) + 1)) 396 p1.toNatClampNeg (((up2 V1 392 p1.toNatClampNeg ((V1 392 p1.toNatClampNeg) + 1)) 396 p1.toNatClampNeg) + p2)) 397 p1.toNatClampNeg) + p3)) 394 p1.toNatClampNeg (((up2 (up2 (up2 V1 392 p1.toNatClampNeg ((V1 392 p1.toNatClampNeg) + 1)) 396 p1.toNatClampNeg (((up2 V1 392 p1.toNatClampNeg ((V1 392 p1.toNatClampNeg) + 1)) 396 p1.toNatClampNeg) + p2)) 397 p1.toNatClampNeg (((up2 (up2 V1 392 p1.toNatClampNeg ((V1 392 p1.toNatClampNeg) + 1)) 396 p1.toNatClampNeg (((up2 V1 392 p1.toNatClampNeg ((V1 392 p1.toNatClampNeg) + 1)) 396 p1.toNatClampNeg) + p2)) 397 p1.toNatClampNeg) + p3)) 394 p1.toNatClampNeg) + 1)) 395 p1.toNatClampNeg) + 3)))) ∧
    ((¬ p2 ≤ p3) →
      vp_in p1 8 ∧
      vp_in p1 8 ∧
      vp_in p1 8 ∧
      vp_in p1 8 ∧
      Qr none (up2 (up2 (up2 (up2 (up2 V1 392 p1.toNatClampNeg ((V1 392 p1.toNatClampNeg) + 1)) 396 p1.toNatClampNeg (((up2 V1 392 p1.toNatClampNeg ((V1 392 p1.toNatClampNeg) + 1)) 396 p1.toNatClampNeg) + p2)) 397 p1.toNatClampNeg (((up2 (up2 V1 392 p1.toNatClampNeg ((V1 392 p1.toNatClampNeg) + 1)) 396 p1.toNatClampNeg (((up2 V1 392 p1.toNatClampNeg ((V1 392 p1.toNatClampNeg) + 1)) 396 p1.toNatClampNeg) + p2)) 397 p1.toNatClampNeg) + p3)) 393 p1.toNatClampNeg (((up2 (up2 (up2 V1 392 p1.toNatClampNeg ((V1 392 p1.toNatClampNeg) + 1)) 396 p1.toNatClampNeg (((up2 V1 392 p1.toNatClampNeg ((V1 392 p1.toNatClampNeg) + 1)) 396 p1.toNatClampNeg) + p2)) 397 p1.toNatClampNeg (((up2 (up2 V1 392 p1.toNatClampNeg ((V1 392 p1.toNatClampNeg) + 1)) 396 p1.toNatClampNeg (((up2 V1 392 p1.toNatClampNeg ((V1 392 p1.toNatClampNeg) + 1)) 396 p1.toNatClampNeg) + p2)) 397 p1.toNatClampNeg) + p3)) 393 p1.toNatClampNeg) + 1)) 395 p1.toNatClampNeg (((up2 (up2 (up2 (up2 V1 392 p1.toNatClampNeg ((V1 392 p1.toNatClampNeg) + 1)) 396 p1.toNatClampNeg (((up2 V1 392 p1.toNatClampNeg ((V1 392 p1.toNatClampNeg) + 1)) 396 p1.toNatClampNeg) + p2)) 397 p1.toNatClampNeg (((up2 (up2 V1 392 p1.toNatClampNeg ((V1 392 p1.toNatClampNeg) + 1)) 396 p1.toNatClampNeg (((up2 V1 392 p1.toNatClampNeg ((V1 392 p1.toNatClampNeg) + 1)) 396 p1.toNatClampNeg) + p2)) 397 p1.toNatClampNeg) + p3)) 393 p1.toNatClampNeg (((up2 (up2 (up2 V1 392 p1.toNatClampNeg ((V1 392 p1.toNatClampNeg) + 1)) 396 p1.toNatClampNeg (((up2 V1 392 p1.toNatClampNeg ((V1 392 p1.toNatClampNeg) + 1)) 396 p1.toNatClampNeg) + p2)) 397 p1.toNatClampNeg (((up2 (up2 V1 392 p1.toNatClampNeg ((V1 392 p1.toNatClampNeg) + 1)) 396 p1.toNatClampNeg (((up2 V1 392 p1.toNatClampNeg ((V1 392 p1.toNatClampNeg) + 1)) 396 p1.toNatClampNeg) + p2)) 397 p1.toNatClampNeg) + p3)) 393 p1.toNatClampNeg) + 1)) 395 p1.toNatClampNeg) + 5)))) ∧
  ((b1 = false) →
    Qr none V1)) Qx
theorem v_X3_noteFor {J : Nat → Nat → Int64} (p1 : Int32) (p2 : Int32) (p3 : Int32) {V : Nat → Nat → Int32} {Qr : Option Value → (Nat → Nat → Int32) → Prop} {Qx : String → (Nat → Nat → Int32) → Prop} (H : F_X3_noteFor J p1 p2 p3 V Qr Qx) : CTc J mX3_noteFor [.ref 391, .int p1, .int p2, .int p3] V Qr Qx := by
  refine ctc_of (M := (T0 J, V)) pX3_noteFor (fun _ _ => rfl) (Nat.le_of_ble_eq_true rfl) ?_
  unfold F_X3_noteFor at H
  show WPc J mX3_noteFor Qr Qx 0 [(0, .ref 391), (1, .int p1), (2, .int p2), (3, .int p3)] [] V 0 0
  refine s_iload_n dX3_noteFor_0 rfl ?_
  refine t_cN (As := [.int p1]) (st := []) iv_3_34 dX3_noteFor_1 ⟨by decide, by decide⟩ rfl (Nat.le_of_ble_eq_true rfl) (by decide) (by decide) rfl H (fun r V1 H => ?_)
  obtain ⟨b1, rfl, H⟩ := H
  refine s_if_ne (tgt := 8) dX3_noteFor_4 (by decide) (fun c => ?_) (fun c => ?_)
  · have H := H.1 (bI_t c)
    refine s_aload_n dX3_noteFor_8 rfl ?_
    refine t_getR (r := 392) fl_3_9 dX3_noteFor_9 ob_391 rfl rfl ?_
    refine s_iload_n dX3_noteFor_12 rfl ?_
    refine s_dup2 dX3_noteFor_13 rfl rfl ?_
    refine t_iald dX3_noteFor_14 ap_392 H.1 ?_
    have H := H.2
    refine s_iconst (v := 1) dX3_noteFor_15 (by decide) ?_
    refine s_iadd dX3_noteFor_16 ?_
    refine t_iast dX3_noteFor_17 ap_392 H.1 ?_
    have H := H.2
    refine s_aload_n dX3_noteFor_18 rfl ?_
    refine t_getR (r := 396) fl_3_24 dX3_noteFor_19 ob_391 rfl rfl ?_
    refine s_iload_n dX3_noteFor_22 rfl ?_
    refine s_dup2 dX3_noteFor_23 rfl rfl ?_
    refine t_iald dX3_noteFor_24 ap_396 H.1 ?_
    have H := H.2
    refine s_iload_n dX3_noteFor_25 rfl ?_
    refine s_iadd dX3_noteFor_26 ?_
    refine t_iast dX3_noteFor_27 ap_396 H.1 ?_
    have H := H.2
    refine s_aload_n dX3_noteFor_28 rfl ?_
    refine t_getR (r := 397) fl_3_27 dX3_noteFor_29 ob_391 rfl rfl ?_
    refine s_iload_n dX3_noteFor_32 rfl ?_
    refine s_dup2 dX3_noteFor_33 rfl rfl ?_
    refine t_iald dX3_noteFor_34 ap_397 H.1 ?_
    have H := H.2
    refine s_iload_n dX3_noteFor_35 rfl ?_
    refine s_iadd dX3_noteFor_36 ?_
    refine t_iast dX3_noteFor_37 ap_397 H.1 ?_
    have H := H.2
    refine s_iload_n dX3_noteFor_38 rfl ?_
    refine s_iload_n dX3_noteFor_39 rfl ?_
    refine s_icmp_le (tgt := 66) dX3_noteFor_40 (by decide) (fun c => ?_) (fun c => ?_)
    · have H := H.1 c
      refine s_iload_n dX3_noteFor_66 rfl ?_
      refine s_iload_n dX3_noteFor_67 rfl ?_
      refine s_icmp_ne (tgt := 94) dX3_noteFor_68 (by decide) (fun c => ?_) (fun c => ?_)
      · have H := H.1 c
        refine s_iload_n dX3_noteFor_94 rfl ?_
        refine s_iload_n dX3_noteFor_95 rfl ?_
        refine s_isub dX3_noteFor_96 ?_
        refine s_bipush (v := 7) dX3_noteFor_97 (by decide) ?_
        refine s_icmp_gt (tgt := 112) dX3_noteFor_99 (by decide) (fun c => ?_) (fun c => ?_)
        · have H := H.1 c
          exact s_vret dX3_noteFor_112 rfl ⟨rfl, H⟩
        · have H := H.2 c
          refine s_aload_n dX3_noteFor_102 rfl ?_
          refine t_getR (r := 395) fl_3_21 dX3_noteFor_103 ob_391 rfl rfl ?_
          refine s_iload_n dX3_noteFor_106 rfl ?_
          refine s_dup2 dX3_noteFor_107 rfl rfl ?_
          refine t_iald dX3_noteFor_108 ap_395 H.1 ?_
          have H := H.2
          refine s_iconst (v := 1) dX3_noteFor_109 (by decide) ?_
          refine s_iadd dX3_noteFor_110 ?_
          refine t_iast dX3_noteFor_111 ap_395 H.1 ?_
          have H := H.2
          exact s_vret dX3_noteFor_112 rfl ⟨rfl, H⟩
      · have H := H.2 c
        refine s_aload_n dX3_noteFor_71 rfl ?_
        refine t_getR (r := 394) fl_3_18 dX3_noteFor_72 ob_391 rfl rfl ?_
        refine s_iload_n dX3_noteFor_75 rfl ?_
        refine s_dup2 dX3_noteFor_76 rfl rfl ?_
        refine t_iald dX3_noteFor_77 ap_394 H.1 ?_
        have H := H.2
        refine s_iconst (v := 1) dX3_noteFor_78 (by decide) ?_
        refine s_iadd dX3_noteFor_79 ?_
        refine t_iast dX3_noteFor_80 ap_394 H.1 ?_
        have H := H.2
        refine s_aload_n dX3_noteFor_81 rfl ?_
        refine t_getR (r := 395) fl_3_21 dX3_noteFor_82 ob_391 rfl rfl ?_
        refine s_iload_n dX3_noteFor_85 rfl ?_
        refine s_dup2 dX3_noteFor_86 rfl rfl ?_
        refine t_iald dX3_noteFor_87 ap_395 H.1 ?_
        have H := H.2
        refine s_iconst (v := 3) dX3_noteFor_88 (by decide) ?_
        refine s_iadd dX3_noteFor_89 ?_
        refine t_iast dX3_noteFor_90 ap_395 H.1 ?_
        have H := H.2
        refine s_goto (tgt := 112) dX3_noteFor_91 (by decide) ?_
        exact s_vret dX3_noteFor_112 rfl ⟨rfl, H⟩
    · have H := H.2 c
      refine s_aload_n dX3_noteFor_43 rfl ?_
      refine t_getR (r := 393) fl_3_15 dX3_noteFor_44 ob_391 rfl rfl ?_
      refine s_iload_n dX3_noteFor_47 rfl ?_
      refine s_dup2 dX3_noteFor_48 rfl rfl ?_
      refine t_iald dX3_noteFor_49 ap_393 H.1 ?_
      have H := H.2
      refine s_iconst (v := 1) dX3_noteFor_50 (by decide) ?_
      refine s_iadd dX3_noteFor_51 ?_
      refine t_iast dX3_noteFor_52 ap_393 H.1 ?_
      have H := H.2
      refine s_aload_n dX3_noteFor_53 rfl ?_
      refine t_getR (r := 395) fl_3_21 dX3_noteFor_54 ob_391 rfl rfl ?_
      refine s_iload_n dX3_noteFor_57 rfl ?_
      refine s_dup2 dX3_noteFor_58 rfl rfl ?_
      refine t_iald dX3_noteFor_59 ap_395 H.1 ?_
      have H := H.2
      refine s_iconst (v := 5) dX3_noteFor_60 (by decide) ?_
      refine s_iadd dX3_noteFor_61 ?_
      refine t_iast dX3_noteFor_62 ap_395 H.1 ?_
      have H := H.2
      refine s_goto (tgt := 112) dX3_noteFor_63 (by decide) ?_
      exact s_vret dX3_noteFor_112 rfl ⟨rfl, H⟩
  · have H := H.2 (bI_f c)
    exact s_vret dX3_noteFor_7 rfl ⟨rfl, H⟩

def F_X3_tellOf (J : Nat → Nat → Int64) (p1 : Int32) (p2 : Int32) (V : Nat → Nat → Int32) (Qr : Option Value → (Nat → Nat → Int32) → Prop) (Qx : String → (Nat → Nat → Int32) → Prop) : Prop :=
CTc J mX7_isClub [.int p1] V (fun r V1 =>
  ∃ b1 : Bool, r = some (.int (bI b1)) ∧
  ((b1 = true) →
    ((p2 = 0) →
      vp_in p1 8 ∧
      Qr (some (.int (V1 392 p1.toNatClampNeg))) V1) ∧
    ((p2 = 1) →
      vp_in p1 8 ∧
      Qr (some (.int (V1 393 p1.toNatClampNeg))) V1) ∧
    ((p2 = 2) →
      vp_in p1 8 ∧
      Qr (some (.int (V1 394 p1.toNatClampNeg))) V1) ∧
    ((p2 = 3) →
      vp_in p1 8 ∧
      Qr (some (.int (V1 395 p1.toNatClampNeg))) V1) ∧
    ((p2 = 4) →
      vp_in p1 8 ∧
      Qr (some (.int (V1 396 p1.toNatClampNeg))) V1) ∧
    ((p2 = 5) →
      vp_in p1 8 ∧
      Qr (some (.int (V1 397 p1.toNatClampNeg))) V1) ∧
    (((p2).toInt < 0 ∨ 5 < (p2).toInt) →
      CTc J mX3_rankOf [.ref 391, .int p1] V1 (fun r V2 =>
        ∃ r2 : Int32, r = some (.int r2) ∧
        Qr (some (.int r2)) V2) Qx)) ∧
  ((b1 = false) →
    Qr (some (.int (-1))) V1)) Qx
theorem v_X3_tellOf {J : Nat → Nat → Int64} (p1 : Int32) (p2 : Int32) {V : Nat → Nat → Int32} {Qr : Option Value → (Nat → Nat → Int32) → Prop} {Qx : String → (Nat → Nat → Int32) → Prop} (H : F_X3_tellOf J p1 p2 V Qr Qx) : CTc J mX3_tellOf [.ref 391, .int p1, .int p2] V Qr Qx := by
  refine ctc_of (M := (T0 J, V)) pX3_tellOf (fun _ _ => rfl) (Nat.le_of_ble_eq_true rfl) ?_
  unfold F_X3_tellOf at H
  show WPc J mX3_tellOf Qr Qx 0 [(0, .ref 391), (1, .int p1), (2, .int p2)] [] V 0 0
  refine s_iload_n dX3_tellOf_0 rfl ?_
  refine t_cN (As := [.int p1]) (st := []) iv_3_34 dX3_tellOf_1 ⟨by decide, by decide⟩ rfl (Nat.le_of_ble_eq_true rfl) (by decide) (by decide) rfl H (fun r V1 H => ?_)
  obtain ⟨b1, rfl, H⟩ := H
  refine s_if_ne (tgt := 9) dX3_tellOf_4 (by decide) (fun c => ?_) (fun c => ?_)
  · have H := H.1 (bI_t c)
    refine s_iload_n dX3_tellOf_9 rfl ?_
    by_cases c0 : p2 = 0
    · have H := H.1 c0
      rw [c0]
      refine s_tabI (tgt := 48) dX3_tellOf_10 (by decide) (by decide) rfl (by decide) ?_
      refine s_aload_n dX3_tellOf_48 rfl ?_
      refine t_getR (r := 392) fl_3_9 dX3_tellOf_49 ob_391 rfl rfl ?_
      refine s_iload_n dX3_tellOf_52 rfl ?_
      refine t_iald dX3_tellOf_53 ap_392 H.1 ?_
      have H := H.2
      exact s_iret dX3_tellOf_54 (Or.inl rfl) ⟨rfl, H⟩
    by_cases c1 : p2 = 1
    · have H := H.2.1 c1
      rw [c1]
      refine s_tabI (tgt := 55) dX3_tellOf_10 (by decide) (by decide) rfl (by decide) ?_
      refine s_aload_n dX3_tellOf_55 rfl ?_
      refine t_getR (r := 393) fl_3_15 dX3_tellOf_56 ob_391 rfl rfl ?_
      refine s_iload_n dX3_tellOf_59 rfl ?_
      refine t_iald dX3_tellOf_60 ap_393 H.1 ?_
      have H := H.2
      exact s_iret dX3_tellOf_61 (Or.inl rfl) ⟨rfl, H⟩
    by_cases c2 : p2 = 2
    · have H := H.2.2.1 c2
      rw [c2]
      refine s_tabI (tgt := 62) dX3_tellOf_10 (by decide) (by decide) rfl (by decide) ?_
      refine s_aload_n dX3_tellOf_62 rfl ?_
      refine t_getR (r := 394) fl_3_18 dX3_tellOf_63 ob_391 rfl rfl ?_
      refine s_iload_n dX3_tellOf_66 rfl ?_
      refine t_iald dX3_tellOf_67 ap_394 H.1 ?_
      have H := H.2
      exact s_iret dX3_tellOf_68 (Or.inl rfl) ⟨rfl, H⟩
    by_cases c3 : p2 = 3
    · have H := H.2.2.2.1 c3
      rw [c3]
      refine s_tabI (tgt := 69) dX3_tellOf_10 (by decide) (by decide) rfl (by decide) ?_
      refine s_aload_n dX3_tellOf_69 rfl ?_
      refine t_getR (r := 395) fl_3_21 dX3_tellOf_70 ob_391 rfl rfl ?_
      refine s_iload_n dX3_tellOf_73 rfl ?_
      refine t_iald dX3_tellOf_74 ap_395 H.1 ?_
      have H := H.2
      exact s_iret dX3_tellOf_75 (Or.inl rfl) ⟨rfl, H⟩
    by_cases c4 : p2 = 4
    · have H := H.2.2.2.2.1 c4
      rw [c4]
      refine s_tabI (tgt := 76) dX3_tellOf_10 (by decide) (by decide) rfl (by decide) ?_
      refine s_aload_n dX3_tellOf_76 rfl ?_
      refine t_getR (r := 396) fl_3_24 dX3_tellOf_77 ob_391 rfl rfl ?_
      refine s_iload_n dX3_tellOf_80 rfl ?_
      refine t_iald dX3_tellOf_81 ap_396 H.1 ?_
      have H := H.2
      exact s_iret dX3_tellOf_82 (Or.inl rfl) ⟨rfl, H⟩
    by_cases c5 : p2 = 5
    · have H := H.2.2.2.2.2.1 c5
      rw [c5]
      refine s_tabI (tgt := 83) dX3_tellOf_10 (by decide) (by decide) rfl (by decide) ?_
      refine s_aload_n dX3_tellOf_83 rfl ?_
      refine t_getR (r := 397) fl_3_27 dX3_tellOf_84 ob_391 rfl rfl ?_
      refine s_iload_n dX3_tellOf_87 rfl ?_
      refine t_iald dX3_tellOf_88 ap_397 H.1 ?_
      have H := H.2
      exact s_iret dX3_tellOf_89 (Or.inl rfl) ⟨rfl, H⟩
    have hout : (p2).toInt < 0 ∨ 5 < (p2).toInt := sw_out (x := p2) (lo := 0) (n := 6) (by intro k hk; exact match k, hk with | 0, _ => c0 | 1, _ => c1 | 2, _ => c2 | 3, _ => c3 | 4, _ => c4 | 5, _ => c5 | n + 6, h => absurd h (by omega)) (by decide) (by decide)
    have H := H.2.2.2.2.2.2 hout
    refine s_tabO (tgt := 90) dX3_tellOf_10 hout (by decide) ?_
    refine s_aload_n dX3_tellOf_90 rfl ?_
    refine s_iload_n dX3_tellOf_91 rfl ?_
    refine t_cV (h := 391) (As := [.int p1]) (st := []) iv_3_38 dX3_tellOf_92 ⟨by decide, by decide⟩ rfl (Nat.le_of_ble_eq_true rfl) (by decide) (by decide) rfl ob_391 H (fun r V2 H => ?_)
    obtain ⟨r2, rfl, H⟩ := H
    exact s_iret dX3_tellOf_95 (Or.inl rfl) ⟨rfl, H⟩
  · have H := H.2 (bI_f c)
    refine s_iconst (v := (-1)) dX3_tellOf_7 (by decide) ?_
    exact s_iret dX3_tellOf_8 (Or.inl rfl) ⟨rfl, H⟩

def F_X3_rankOf_27 (J : Nat → Nat → Int64) (p1 : Int32) (K4 : Int32 → Int32 → (Nat → Nat → Int32) → Prop) (x2 : Int32) (x3 : Int32) (V : Nat → Nat → Int32) (Qr : Option Value → (Nat → Nat → Int32) → Prop) (Qx : String → (Nat → Nat → Int32) → Prop) : Prop :=
K4 x2 (x3 + 1) V
theorem v_X3_rankOf_27 {J : Nat → Nat → Int64} (p1 : Int32) {Qr : Option Value → (Nat → Nat → Int32) → Prop} {Qx : String → (Nat → Nat → Int32) → Prop} (K4 : Int32 → Int32 → (Nat → Nat → Int32) → Prop) (hK4 : ∀ (x2 : Int32) (x3 : Int32)  (V : Nat → Nat → Int32), K4 x2 x3 V → WPc J mX3_rankOf Qr Qx 4 [(0, .ref 391), (1, .int p1), (2, .int x2), (3, .int x3)] [] V 0 0) (x2 : Int32) (x3 : Int32)  {V : Nat → Nat → Int32} (H : F_X3_rankOf_27 J p1 K4 x2 x3 V Qr Qx) : WPc J mX3_rankOf Qr Qx 27 [(0, .ref 391), (1, .int p1), (2, .int x2), (3, .int x3)] [] V 0 0 := by
  unfold F_X3_rankOf_27 at H
  refine t_iinc (v := (x3 + 1)) (L' := [(3, .int (x3 + 1)), (0, .ref 391), (1, .int p1), (2, .int x2)]) dX3_rankOf_27 rfl (by rfl) (by decide) rfl ?_
  refine s_goto (tgt := 4) dX3_rankOf_30 (by decide) ?_
  exact t_loc [1, 2, 3, 0] rfl (hK4 x2 (x3 + 1)  V H)
def B_X3_rankOf_4 (J : Nat → Nat → Int64) (p1 : Int32) (K4 : Int32 → Int32 → (Nat → Nat → Int32) → Prop) (x2 : Int32) (x3 : Int32) (V : Nat → Nat → Int32) (Qr : Option Value → (Nat → Nat → Int32) → Prop) (Qx : String → (Nat → Nat → Int32) → Prop) : Prop :=
((8 ≤ x3) →
  Qr (some (.int x2)) V) ∧
((¬ 8 ≤ x3) →
  ((x3 = p1) →
    F_X3_rankOf_27 J p1 K4 x2 x3 V Qr Qx) ∧
  ((¬ x3 = p1) →
    CTc J mX3_isAhead [.ref 391, .int x3, .int p1] V (fun r V1 =>
      ∃ b1 : Bool, r = some (.int (bI b1)) ∧
      ((b1 = false) →
        F_X3_rankOf_27 J p1 K4 x2 x3 V1 Qr Qx) ∧
      ((b1 = true) →
        F_X3_rankOf_27 J p1 K4 (x2 + 1) x3 V1 Qr Qx)) Qx))
def F_X3_rankOf_4 (J : Nat → Nat → Int64) (p1 : Int32) (x2 : Int32) (x3 : Int32) (V : Nat → Nat → Int32) (Qr : Option Value → (Nat → Nat → Int32) → Prop) (Qx : String → (Nat → Nat → Int32) → Prop) : Prop :=
  ∃ I : Nat → Int32 → Int32 → (Nat → Nat → Int32) → Prop, (∃ n, I n x2 x3 V) ∧ ∀ n (x2 : Int32) (x3 : Int32) (V : Nat → Nat → Int32), I n x2 x3 V → B_X3_rankOf_4 J p1  (fun x2 x3 V => ∃ n', n' < n ∧ I n' x2 x3 V) x2 x3 V Qr Qx
theorem v_X3_rankOf_4 {J : Nat → Nat → Int64} (p1 : Int32) {Qr : Option Value → (Nat → Nat → Int32) → Prop} {Qx : String → (Nat → Nat → Int32) → Prop} (x2 : Int32) (x3 : Int32)  {V : Nat → Nat → Int32} (H : F_X3_rankOf_4 J p1  x2 x3 V Qr Qx) : WPc J mX3_rankOf Qr Qx 4 [(0, .ref 391), (1, .int p1), (2, .int x2), (3, .int x3)] [] V 0 0 := by
  obtain ⟨I, ⟨n0, h0⟩, hs⟩ := H
  have step : ∀ (K4 : Int32 → Int32 → (Nat → Nat → Int32) → Prop), (∀ (x2 : Int32) (x3 : Int32)  (V : Nat → Nat → Int32), K4 x2 x3 V → WPc J mX3_rankOf Qr Qx 4 [(0, .ref 391), (1, .int p1), (2, .int x2), (3, .int x3)] [] V 0 0) → ∀ (x2 : Int32) (x3 : Int32)  (V : Nat → Nat → Int32), B_X3_rankOf_4 J p1  K4 x2 x3 V Qr Qx → WPc J mX3_rankOf Qr Qx 4 [(0, .ref 391), (1, .int p1), (2, .int x2), (3, .int x3)] [] V 0 0 := by
    intro K4 hK4 x2 x3  V H
    unfold B_X3_rankOf_4 at H
    refine s_iload_n dX3_rankOf_4 rfl ?_
    refine s_bipush (v := 8) dX3_rankOf_5 (by decide) ?_
    refine s_icmp_ge (tgt := 33) dX3_rankOf_7 (by decide) (fun c => ?_) (fun c => ?_)
    · have H := H.1 c
      refine s_iload_n dX3_rankOf_33 rfl ?_
      exact s_iret dX3_rankOf_34 (Or.inl rfl) ⟨rfl, H⟩
    · have H := H.2 c
      refine s_iload_n dX3_rankOf_10 rfl ?_
      refine s_iload_n dX3_rankOf_11 rfl ?_
      refine s_icmp_eq (tgt := 27) dX3_rankOf_12 (by decide) (fun c => ?_) (fun c => ?_)
      · have H := H.1 c
        exact t_loc [0, 1, 2, 3] rfl (v_X3_rankOf_27 p1  K4 hK4 x2 x3  H)
      · have H := H.2 c
        refine s_aload_n dX3_rankOf_15 rfl ?_
        refine s_iload_n dX3_rankOf_16 rfl ?_
        refine s_iload_n dX3_rankOf_17 rfl ?_
        refine t_cV (h := 391) (As := [.int x3, .int p1]) (st := []) iv_3_42 dX3_rankOf_18 ⟨by decide, by decide⟩ rfl (Nat.le_of_ble_eq_true rfl) (by decide) (by decide) rfl ob_391 H (fun r V1 H => ?_)
        obtain ⟨b1, rfl, H⟩ := H
        refine s_if_eq (tgt := 27) dX3_rankOf_21 (by decide) (fun c => ?_) (fun c => ?_)
        · have H := H.1 (bI_f c)
          exact t_loc [0, 1, 2, 3] rfl (v_X3_rankOf_27 p1  K4 hK4 x2 x3  H)
        · have H := H.2 (bI_t c)
          refine t_iinc (v := (x2 + 1)) (L' := [(2, .int (x2 + 1)), (0, .ref 391), (1, .int p1), (3, .int x3)]) dX3_rankOf_24 rfl (by rfl) (by decide) rfl ?_
          exact t_loc [1, 2, 0, 3] rfl (v_X3_rankOf_27 p1  K4 hK4 (x2 + 1) x3  H)
  have key : ∀ n, ∀ (x2 : Int32) (x3 : Int32)  (V : Nat → Nat → Int32), I n x2 x3 V → WPc J mX3_rankOf Qr Qx 4 [(0, .ref 391), (1, .int p1), (2, .int x2), (3, .int x3)] [] V 0 0 := by
    refine strong (fun n ih => ?_)
    intro x2 x3  V hI
    exact step _ (fun x2 x3  V hz => Exists.elim hz (fun n1 hz => ih n1 hz.1 x2 x3  V hz.2)) x2 x3  V (hs n x2 x3 V hI)
  exact key n0 x2 x3  V h0
def F_X3_rankOf (J : Nat → Nat → Int64) (p1 : Int32) (V : Nat → Nat → Int32) (Qr : Option Value → (Nat → Nat → Int32) → Prop) (Qx : String → (Nat → Nat → Int32) → Prop) : Prop :=
F_X3_rankOf_4 J p1  0 0 V Qr Qx
theorem v_X3_rankOf {J : Nat → Nat → Int64} (p1 : Int32) {V : Nat → Nat → Int32} {Qr : Option Value → (Nat → Nat → Int32) → Prop} {Qx : String → (Nat → Nat → Int32) → Prop} (H : F_X3_rankOf J p1 V Qr Qx) : CTc J mX3_rankOf [.ref 391, .int p1] V Qr Qx := by
  refine ctc_of (M := (T0 J, V)) pX3_rankOf (fun _ _ => rfl) (Nat.le_of_ble_eq_true rfl) ?_
  unfold F_X3_rankOf at H
  show WPc J mX3_rankOf Qr Qx 0 [(0, .ref 391), (1, .int p1)] [] V 0 0
  refine s_iconst (v := 0) dX3_rankOf_0 (by decide) ?_
  refine t_istore_n (L' := [(2, .int 0), (0, .ref 391), (1, .int p1)]) dX3_rankOf_1 (by decide) rfl ?_
  refine s_iconst (v := 0) dX3_rankOf_2 (by decide) ?_
  refine t_istore_n (L' := [(3, .int 0), (2, .int 0), (0, .ref 391), (1, .int p1)]) dX3_rankOf_3 (by decide) rfl ?_
  exact t_loc [2, 3, 1, 0] rfl (v_X3_rankOf_4 p1    0 0  H)

def F_X3_isAhead (J : Nat → Nat → Int64) (p1 : Int32) (p2 : Int32) (V : Nat → Nat → Int32) (Qr : Option Value → (Nat → Nat → Int32) → Prop) (Qx : String → (Nat → Nat → Int32) → Prop) : Prop :=
CTc J mX7_isClub [.int p1] V (fun r V1 =>
  ∃ b1 : Bool, r = some (.int (bI b1)) ∧
  ((b1 = false) →
    Qr (some (.int 0)) V1) ∧
  ((b1 = true) →
    CTc J mX7_isClub [.int p2] V1 (fun r V2 =>
      ∃ b2 : Bool, r = some (.int (bI b2)) ∧
      ((b2 = true) →
        vp_in p1 8 ∧
        vp_in p2 8 ∧
        (((V2 395 p1.toNatClampNeg) = (V2 395 p2.toNatClampNeg)) →
          CTc J mX3_upper [.ref 391, .int p1] V2 (fun r V3 =>
            ∃ r3 : Int64, r = some (.long r3) ∧
            CTc J mX3_lower [.ref 391, .int p2] V3 (fun r V4 =>
              ∃ r4 : Int64, r = some (.long r4) ∧
              CTc J mX3_upper [.ref 391, .int p2] V4 (fun r V5 =>
                ∃ r5 : Int64, r = some (.long r5) ∧
                CTc J mX3_lower [.ref 391, .int p1] V5 (fun r V6 =>
                  ∃ r6 : Int64, r = some (.long r6) ∧
                  ((¬ (lg_cmp (r3 * r4) (r5 * r6)) = 0) →
                    (((lg_cmp (r3 * r4) (r5 * r6)) ≤ 0) →
                      Qr (some (.int 0)) V6) ∧
                    ((¬ (lg_cmp (r3 * r4) (r5 * r6)) ≤ 0) →
                      Qr (some (.int 1)) V6)) ∧
                  (((lg_cmp (r3 * r4) (r5 * r6)) = 0) →
                    ((p2 ≤ p1) →
                      Qr (some (.int 0)) V6) ∧
                    ((¬ p2 ≤ p1) →
                      Qr (some (.int 1)) V6))) Qx) Qx) Qx) Qx) ∧
        ((¬ (V2 395 p1.toNatClampNeg) = (V2 395 p2.toNatClampNeg)) →
          vp_in p1 8 ∧
          vp_in p2 8 ∧
          (((V2 395 p1.toNatClampNeg) ≤ (V2 395 p2.toNatClampNeg)) →
            Qr (some (.int 0)) V2) ∧
          ((¬ (V2 395 p1.toNatClampNeg) ≤ (V2 395 p2.toNatClampNeg)) →
            Qr (some (.int 1)) V2))) ∧
      ((b2 = false) →
        Qr (some (.int 0)) V2)) Qx)) Qx
theorem v_X3_isAhead {J : Nat → Nat → Int64} (p1 : Int32) (p2 : Int32) {V : Nat → Nat → Int32} {Qr : Option Value → (Nat → Nat → Int32) → Prop} {Qx : String → (Nat → Nat → Int32) → Prop} (H : F_X3_isAhead J p1 p2 V Qr Qx) : CTc J mX3_isAhead [.ref 391, .int p1, .int p2] V Qr Qx := by
  refine ctc_of (M := (T0 J, V)) pX3_isAhead (fun _ _ => rfl) (Nat.le_of_ble_eq_true rfl) ?_
  unfold F_X3_isAhead at H
  show WPc J mX3_isAhead Qr Qx 0 [(0, .ref 391), (1, .int p1), (2, .int p2)] [] V 0 0
  refine s_iload_n dX3_isAhead_0 rfl ?_
  refine t_cN (As := [.int p1]) (st := []) iv_3_34 dX3_isAhead_1 ⟨by decide, by decide⟩ rfl (Nat.le_of_ble_eq_true rfl) (by decide) (by decide) rfl H (fun r V1 H => ?_)
  obtain ⟨b1, rfl, H⟩ := H
  refine s_if_eq (tgt := 14) dX3_isAhead_4 (by decide) (fun c => ?_) (fun c => ?_)
  · have H := H.1 (bI_f c)
    refine s_iconst (v := 0) dX3_isAhead_14 (by decide) ?_
    exact s_iret dX3_isAhead_15 (Or.inr ⟨rfl, (Or.inl rfl)⟩) ⟨rfl, H⟩
  · have H := H.2 (bI_t c)
    refine s_iload_n dX3_isAhead_7 rfl ?_
    refine t_cN (As := [.int p2]) (st := []) iv_3_34 dX3_isAhead_8 ⟨by decide, by decide⟩ rfl (Nat.le_of_ble_eq_true rfl) (by decide) (by decide) rfl H (fun r V2 H => ?_)
    obtain ⟨b2, rfl, H⟩ := H
    refine s_if_ne (tgt := 16) dX3_isAhead_11 (by decide) (fun c => ?_) (fun c => ?_)
    · have H := H.1 (bI_t c)
      refine s_aload_n dX3_isAhead_16 rfl ?_
      refine t_getR (r := 395) fl_3_21 dX3_isAhead_17 ob_391 rfl rfl ?_
      refine s_iload_n dX3_isAhead_20 rfl ?_
      refine t_iald dX3_isAhead_21 ap_395 H.1 ?_
      have H := H.2
      refine s_aload_n dX3_isAhead_22 rfl ?_
      refine t_getR (r := 395) fl_3_21 dX3_isAhead_23 ob_391 rfl rfl ?_
      refine s_iload_n dX3_isAhead_26 rfl ?_
      refine t_iald dX3_isAhead_27 ap_395 H.1 ?_
      have H := H.2
      refine s_icmp_eq (tgt := 52) dX3_isAhead_28 (by decide) (fun c => ?_) (fun c => ?_)
      · have H := H.1 c
        refine s_aload_n dX3_isAhead_52 rfl ?_
        refine s_iload_n dX3_isAhead_53 rfl ?_
        refine t_cV (h := 391) (As := [.int p1]) (st := []) iv_3_46 dX3_isAhead_54 ⟨by decide, by decide⟩ rfl (Nat.le_of_ble_eq_true rfl) (by decide) (by decide) rfl ob_391 H (fun r V3 H => ?_)
        obtain ⟨r3, rfl, H⟩ := H
        refine s_aload_n dX3_isAhead_57 rfl ?_
        refine s_iload_n dX3_isAhead_58 rfl ?_
        refine t_cV (h := 391) (As := [.int p2]) (st := [.long r3]) iv_3_50 dX3_isAhead_59 ⟨by decide, by decide⟩ rfl (Nat.le_of_ble_eq_true rfl) (by decide) (by decide) rfl ob_391 H (fun r V4 H => ?_)
        obtain ⟨r4, rfl, H⟩ := H
        refine s_lmul dX3_isAhead_62 ?_
        refine t_lstore_n (L' := [(3, .long (r3 * r4)), (0, .ref 391), (1, .int p1), (2, .int p2)]) dX3_isAhead_63 (by decide) rfl ?_
        refine s_aload_n dX3_isAhead_64 rfl ?_
        refine s_iload_n dX3_isAhead_65 rfl ?_
        refine t_cV (h := 391) (As := [.int p2]) (st := []) iv_3_46 dX3_isAhead_66 ⟨by decide, by decide⟩ rfl (Nat.le_of_ble_eq_true rfl) (by decide) (by decide) rfl ob_391 H (fun r V5 H => ?_)
        obtain ⟨r5, rfl, H⟩ := H
        refine s_aload_n dX3_isAhead_69 rfl ?_
        refine s_iload_n dX3_isAhead_70 rfl ?_
        refine t_cV (h := 391) (As := [.int p1]) (st := [.long r5]) iv_3_50 dX3_isAhead_71 ⟨by decide, by decide⟩ rfl (Nat.le_of_ble_eq_true rfl) (by decide) (by decide) rfl ob_391 H (fun r V6 H => ?_)
        obtain ⟨r6, rfl, H⟩ := H
        refine s_lmul dX3_isAhead_74 ?_
        refine t_lstore (L' := [(5, .long (r5 * r6)), (3, .long (r3 * r4)), (0, .ref 391), (1, .int p1), (2, .int p2)]) dX3_isAhead_75 (by decide) rfl ?_
        refine s_lload_n dX3_isAhead_77 rfl ?_
        refine s_lload dX3_isAhead_78 rfl ?_
        refine s_lcmp dX3_isAhead_80 ?_
        refine s_if_ne (tgt := 97) dX3_isAhead_81 (by decide) (fun c => ?_) (fun c => ?_)
        · have H := H.1 c
          refine s_lload_n dX3_isAhead_97 rfl ?_
          refine s_lload dX3_isAhead_98 rfl ?_
          refine s_lcmp dX3_isAhead_100 ?_
          refine s_if_le (tgt := 108) dX3_isAhead_101 (by decide) (fun c => ?_) (fun c => ?_)
          · have H := H.1 c
            refine s_iconst (v := 0) dX3_isAhead_108 (by decide) ?_
            exact s_iret dX3_isAhead_109 (Or.inr ⟨rfl, (Or.inl rfl)⟩) ⟨rfl, H⟩
          · have H := H.2 c
            refine s_iconst (v := 1) dX3_isAhead_104 (by decide) ?_
            refine s_goto (tgt := 109) dX3_isAhead_105 (by decide) ?_
            exact s_iret dX3_isAhead_109 (Or.inr ⟨rfl, (Or.inr rfl)⟩) ⟨rfl, H⟩
        · have H := H.2 c
          refine s_iload_n dX3_isAhead_84 rfl ?_
          refine s_iload_n dX3_isAhead_85 rfl ?_
          refine s_icmp_ge (tgt := 93) dX3_isAhead_86 (by decide) (fun c => ?_) (fun c => ?_)
          · have H := H.1 c
            refine s_iconst (v := 0) dX3_isAhead_93 (by decide) ?_
            refine s_goto (tgt := 109) dX3_isAhead_94 (by decide) ?_
            exact s_iret dX3_isAhead_109 (Or.inr ⟨rfl, (Or.inl rfl)⟩) ⟨rfl, H⟩
          · have H := H.2 c
            refine s_iconst (v := 1) dX3_isAhead_89 (by decide) ?_
            refine s_goto (tgt := 109) dX3_isAhead_90 (by decide) ?_
            exact s_iret dX3_isAhead_109 (Or.inr ⟨rfl, (Or.inr rfl)⟩) ⟨rfl, H⟩
      · have H := H.2 c
        refine s_aload_n dX3_isAhead_31 rfl ?_
        refine t_getR (r := 395) fl_3_21 dX3_isAhead_32 ob_391 rfl rfl ?_
        refine s_iload_n dX3_isAhead_35 rfl ?_
        refine t_iald dX3_isAhead_36 ap_395 H.1 ?_
        have H := H.2
        refine s_aload_n dX3_isAhead_37 rfl ?_
        refine t_getR (r := 395) fl_3_21 dX3_isAhead_38 ob_391 rfl rfl ?_
        refine s_iload_n dX3_isAhead_41 rfl ?_
        refine t_iald dX3_isAhead_42 ap_395 H.1 ?_
        have H := H.2
        refine s_icmp_le (tgt := 50) dX3_isAhead_43 (by decide) (fun c => ?_) (fun c => ?_)
        · have H := H.1 c
          refine s_iconst (v := 0) dX3_isAhead_50 (by decide) ?_
          exact s_iret dX3_isAhead_51 (Or.inr ⟨rfl, (Or.inl rfl)⟩) ⟨rfl, H⟩
        · have H := H.2 c
          refine s_iconst (v := 1) dX3_isAhead_46 (by decide) ?_
          refine s_goto (tgt := 51) dX3_isAhead_47 (by decide) ?_
          exact s_iret dX3_isAhead_51 (Or.inr ⟨rfl, (Or.inr rfl)⟩) ⟨rfl, H⟩
    · have H := H.2 (bI_f c)
      refine s_iconst (v := 0) dX3_isAhead_14 (by decide) ?_
      exact s_iret dX3_isAhead_15 (Or.inr ⟨rfl, (Or.inl rfl)⟩) ⟨rfl, H⟩

def F_X3_upper (J : Nat → Nat → Int64) (p1 : Int32) (V : Nat → Nat → Int32) (Qr : Option Value → (Nat → Nat → Int32) → Prop) (Qx : String → (Nat → Nat → Int32) → Prop) : Prop :=
vp_in p1 8 ∧
((¬ (V 397 p1.toNatClampNeg) = 0) →
  vp_in p1 8 ∧
  Qr (some (.long ((V 396 p1.toNatClampNeg).toInt64))) V) ∧
(((V 397 p1.toNatClampNeg) = 0) →
  Qr (some (.long 1)) V)
theorem v_X3_upper {J : Nat → Nat → Int64} (p1 : Int32) {V : Nat → Nat → Int32} {Qr : Option Value → (Nat → Nat → Int32) → Prop} {Qx : String → (Nat → Nat → Int32) → Prop} (H : F_X3_upper J p1 V Qr Qx) : CTc J mX3_upper [.ref 391, .int p1] V Qr Qx := by
  refine ctc_of (M := (T0 J, V)) pX3_upper (fun _ _ => rfl) (Nat.le_of_ble_eq_true rfl) ?_
  unfold F_X3_upper at H
  show WPc J mX3_upper Qr Qx 0 [(0, .ref 391), (1, .int p1)] [] V 0 0
  refine s_aload_n dX3_upper_0 rfl ?_
  refine t_getR (r := 397) fl_3_27 dX3_upper_1 ob_391 rfl rfl ?_
  refine s_iload_n dX3_upper_4 rfl ?_
  refine t_iald dX3_upper_5 ap_397 H.1 ?_
  have H := H.2
  refine s_if_ne (tgt := 13) dX3_upper_6 (by decide) (fun c => ?_) (fun c => ?_)
  · have H := H.1 c
    refine s_aload_n dX3_upper_13 rfl ?_
    refine t_getR (r := 396) fl_3_24 dX3_upper_14 ob_391 rfl rfl ?_
    refine s_iload_n dX3_upper_17 rfl ?_
    refine t_iald dX3_upper_18 ap_396 H.1 ?_
    have H := H.2
    refine s_i2l dX3_upper_19 ?_
    exact s_lret dX3_upper_20 rfl ⟨rfl, H⟩
  · have H := H.2 c
    refine s_lconst (v := 1) dX3_upper_9 (by decide) ?_
    refine s_goto (tgt := 20) dX3_upper_10 (by decide) ?_
    exact s_lret dX3_upper_20 rfl ⟨rfl, H⟩

def F_X3_lower_22 (J : Nat → Nat → Int64) (p1 : Int32)  (V : Nat → Nat → Int32) (Qr : Option Value → (Nat → Nat → Int32) → Prop) (Qx : String → (Nat → Nat → Int32) → Prop) : Prop :=
vp_in p1 8 ∧
Qr (some (.long ((V 397 p1.toNatClampNeg).toInt64))) V
theorem v_X3_lower_22 {J : Nat → Nat → Int64} (p1 : Int32) {Qr : Option Value → (Nat → Nat → Int32) → Prop} {Qx : String → (Nat → Nat → Int32) → Prop}   {V : Nat → Nat → Int32} (H : F_X3_lower_22 J p1   V Qr Qx) : WPc J mX3_lower Qr Qx 22 [(0, .ref 391), (1, .int p1)] [] V 0 0 := by
  unfold F_X3_lower_22 at H
  refine s_aload_n dX3_lower_22 rfl ?_
  refine t_getR (r := 397) fl_3_27 dX3_lower_23 ob_391 rfl rfl ?_
  refine s_iload_n dX3_lower_26 rfl ?_
  refine t_iald dX3_lower_27 ap_397 H.1 ?_
  have H := H.2
  refine s_i2l dX3_lower_28 ?_
  exact s_lret dX3_lower_29 rfl ⟨rfl, H⟩
def F_X3_lower (J : Nat → Nat → Int64) (p1 : Int32) (V : Nat → Nat → Int32) (Qr : Option Value → (Nat → Nat → Int32) → Prop) (Qx : String → (Nat → Nat → Int32) → Prop) : Prop :=
vp_in p1 8 ∧
((¬ (V 397 p1.toNatClampNeg) = 0) →
  F_X3_lower_22 J p1   V Qr Qx) ∧
(((V 397 p1.toNatClampNeg) = 0) →
  vp_in p1 8 ∧
  ((¬ (V 396 p1.toNatClampNeg) = 0) →
    F_X3_lower_22 J p1   V Qr Qx) ∧
  (((V 396 p1.toNatClampNeg) = 0) →
    Qr (some (.long 1)) V))
theorem v_X3_lower {J : Nat → Nat → Int64} (p1 : Int32) {V : Nat → Nat → Int32} {Qr : Option Value → (Nat → Nat → Int32) → Prop} {Qx : String → (Nat → Nat → Int32) → Prop} (H : F_X3_lower J p1 V Qr Qx) : CTc J mX3_lower [.ref 391, .int p1] V Qr Qx := by
  refine ctc_of (M := (T0 J, V)) pX3_lower (fun _ _ => rfl) (Nat.le_of_ble_eq_true rfl) ?_
  unfold F_X3_lower at H
  show WPc J mX3_lower Qr Qx 0 [(0, .ref 391), (1, .int p1)] [] V 0 0
  refine s_aload_n dX3_lower_0 rfl ?_
  refine t_getR (r := 397) fl_3_27 dX3_lower_1 ob_391 rfl rfl ?_
  refine s_iload_n dX3_lower_4 rfl ?_
  refine t_iald dX3_lower_5 ap_397 H.1 ?_
  have H := H.2
  refine s_if_ne (tgt := 22) dX3_lower_6 (by decide) (fun c => ?_) (fun c => ?_)
  · have H := H.1 c
    exact t_loc [0, 1] rfl (v_X3_lower_22 p1      H)
  · have H := H.2 c
    refine s_aload_n dX3_lower_9 rfl ?_
    refine t_getR (r := 396) fl_3_24 dX3_lower_10 ob_391 rfl rfl ?_
    refine s_iload_n dX3_lower_13 rfl ?_
    refine t_iald dX3_lower_14 ap_396 H.1 ?_
    have H := H.2
    refine s_if_ne (tgt := 22) dX3_lower_15 (by decide) (fun c => ?_) (fun c => ?_)
    · have H := H.1 c
      exact t_loc [0, 1] rfl (v_X3_lower_22 p1      H)
    · have H := H.2 c
      refine s_lconst (v := 1) dX3_lower_18 (by decide) ?_
      refine s_goto (tgt := 29) dX3_lower_19 (by decide) ?_
      exact s_lret dX3_lower_29 rfl ⟨rfl, H⟩
