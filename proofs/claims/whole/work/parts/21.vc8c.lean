def F_X8_outAt (J : Nat → Nat → Int64) (p1 : Int32) (p2 : Int32) (V : Nat → Nat → Int32) (Qr : Option Value → (Nat → Nat → Int32) → Prop) (Qx : String → (Nat → Nat → Int32) → Prop) : Prop :=
vp_in (100 + p1) 110 ∧
(((V 416 (100 + p1).toNatClampNeg) ≤ p2) →
  Qr (some (.int (-1))) V) ∧
((¬ (V 416 (100 + p1).toNatClampNeg) ≤ p2) →
  vp_in ((80 + (10 * p1)) + p2) 110 ∧
  Qr (some (.int (V 416 ((80 + (10 * p1)) + p2).toNatClampNeg))) V)
theorem v_X8_outAt {J : Nat → Nat → Int64} (p1 : Int32) (p2 : Int32) {V : Nat → Nat → Int32} {Qr : Option Value → (Nat → Nat → Int32) → Prop} {Qx : String → (Nat → Nat → Int32) → Prop} (H : F_X8_outAt J p1 p2 V Qr Qx) : CTc J mX8_outAt [.ref 405, .int p1, .int p2] V Qr Qx := by
  refine ctc_of (M := (T0 J, V)) pX8_outAt (fun _ _ => rfl) (Nat.le_of_ble_eq_true rfl) ?_
  unfold F_X8_outAt at H
  show WPc J mX8_outAt Qr Qx 0 [(0, .ref 405), (1, .int p1), (2, .int p2)] [] V 0 0
  refine s_iload_n dX8_outAt_0 rfl ?_
  refine s_aload_n dX8_outAt_1 rfl ?_
  refine t_getR (r := 416) fl_8_41 dX8_outAt_2 ob_405 rfl rfl ?_
  refine s_bipush (v := 100) dX8_outAt_5 (by decide) ?_
  refine s_iload_n dX8_outAt_7 rfl ?_
  refine s_iadd dX8_outAt_8 ?_
  refine t_iald dX8_outAt_9 ap_416 H.1 ?_
  have H := H.2
  refine s_icmp_ge (tgt := 30) dX8_outAt_10 (by decide) (fun c => ?_) (fun c => ?_)
  · have H := H.1 c
    refine s_iconst (v := (-1)) dX8_outAt_30 (by decide) ?_
    exact s_iret dX8_outAt_31 (Or.inl rfl) ⟨rfl, H⟩
  · have H := H.2 c
    refine s_aload_n dX8_outAt_13 rfl ?_
    refine t_getR (r := 416) fl_8_41 dX8_outAt_14 ob_405 rfl rfl ?_
    refine s_bipush (v := 80) dX8_outAt_17 (by decide) ?_
    refine s_bipush (v := 10) dX8_outAt_19 (by decide) ?_
    refine s_iload_n dX8_outAt_21 rfl ?_
    refine s_imul dX8_outAt_22 ?_
    refine s_iadd dX8_outAt_23 ?_
    refine s_iload_n dX8_outAt_24 rfl ?_
    refine s_iadd dX8_outAt_25 ?_
    refine t_iald dX8_outAt_26 ap_416 H.1 ?_
    have H := H.2
    refine s_goto (tgt := 31) dX8_outAt_27 (by decide) ?_
    exact s_iret dX8_outAt_31 (Or.inl rfl) ⟨rfl, H⟩

def F_X8_out_18 (J : Nat → Nat → Int64) (p1 : Int32) (p2 : Int32) (s0 : Int32) (V : Nat → Nat → Int32) (Qr : Option Value → (Nat → Nat → Int32) → Prop) (Qx : String → (Nat → Nat → Int32) → Prop) : Prop :=
CTc J mX8_errorOfMatch [.ref 405, .int s0] V (fun r V1 =>
  ∃ r1 : Int32, r = some (.int r1) ∧
  CTc J mX8_holds [.ref 405, .int r1] V1 (fun r V2 =>
    ∃ b2 : Bool, r = some (.int (bI b2)) ∧
    ((b2 = false) →
      Qr (some (.int 0)) V2) ∧
    ((b2 = true) →
      CTc J mX8_outAt [.ref 405, .int p1, .int p2] V2 (fun r V3 =>
        ∃ r3 : Int32, r = some (.int r3) ∧
        Qr (some (.int r3)) V3) Qx)) Qx) Qx
theorem v_X8_out_18 {J : Nat → Nat → Int64} (p1 : Int32) (p2 : Int32) {Qr : Option Value → (Nat → Nat → Int32) → Prop} {Qx : String → (Nat → Nat → Int32) → Prop} (s0 : Int32)  {V : Nat → Nat → Int32} (H : F_X8_out_18 J p1 p2  s0 V Qr Qx) : WPc J mX8_out Qr Qx 18 [(0, .ref 405), (1, .int p1), (2, .int p2)] [.int s0, .ref 405, .ref 405] V 0 0 := by
  unfold F_X8_out_18 at H
  refine t_cV (h := 405) (As := [.int s0]) (st := [.ref 405]) iv_8_254 dX8_out_18 ⟨by decide, by decide⟩ rfl (Nat.le_of_ble_eq_true rfl) (by decide) (by decide) rfl ob_405 H (fun r V1 H => ?_)
  obtain ⟨r1, rfl, H⟩ := H
  refine t_cV (h := 405) (As := [.int r1]) (st := []) iv_8_169 dX8_out_21 ⟨by decide, by decide⟩ rfl (Nat.le_of_ble_eq_true rfl) (by decide) (by decide) rfl ob_405 H (fun r V2 H => ?_)
  obtain ⟨b2, rfl, H⟩ := H
  refine s_if_eq (tgt := 36) dX8_out_24 (by decide) (fun c => ?_) (fun c => ?_)
  · have H := H.1 (bI_f c)
    refine s_iconst (v := 0) dX8_out_36 (by decide) ?_
    exact s_iret dX8_out_37 (Or.inl rfl) ⟨rfl, H⟩
  · have H := H.2 (bI_t c)
    refine s_aload_n dX8_out_27 rfl ?_
    refine s_iload_n dX8_out_28 rfl ?_
    refine s_iload_n dX8_out_29 rfl ?_
    refine t_cV (h := 405) (As := [.int p1, .int p2]) (st := []) iv_8_258 dX8_out_30 ⟨by decide, by decide⟩ rfl (Nat.le_of_ble_eq_true rfl) (by decide) (by decide) rfl ob_405 H (fun r V3 H => ?_)
    obtain ⟨r3, rfl, H⟩ := H
    refine s_goto (tgt := 37) dX8_out_33 (by decide) ?_
    exact s_iret dX8_out_37 (Or.inl rfl) ⟨rfl, H⟩
def F_X8_out_17 (J : Nat → Nat → Int64) (p1 : Int32) (p2 : Int32)  (V : Nat → Nat → Int32) (Qr : Option Value → (Nat → Nat → Int32) → Prop) (Qx : String → (Nat → Nat → Int32) → Prop) : Prop :=
F_X8_out_18 J p1 p2  0 V Qr Qx
theorem v_X8_out_17 {J : Nat → Nat → Int64} (p1 : Int32) (p2 : Int32) {Qr : Option Value → (Nat → Nat → Int32) → Prop} {Qx : String → (Nat → Nat → Int32) → Prop}   {V : Nat → Nat → Int32} (H : F_X8_out_17 J p1 p2   V Qr Qx) : WPc J mX8_out Qr Qx 17 [(0, .ref 405), (1, .int p1), (2, .int p2)] [.ref 405, .ref 405] V 0 0 := by
  unfold F_X8_out_17 at H
  refine s_iconst (v := 0) dX8_out_17 (by decide) ?_
  exact t_loc [0, 1, 2] rfl (v_X8_out_18 p1 p2    0  H)
def F_X8_out (J : Nat → Nat → Int64) (p1 : Int32) (p2 : Int32) (V : Nat → Nat → Int32) (Qr : Option Value → (Nat → Nat → Int32) → Prop) (Qx : String → (Nat → Nat → Int32) → Prop) : Prop :=
CTc J mX8_isSide [.int p1] V (fun r V1 =>
  ∃ b1 : Bool, r = some (.int (bI b1)) ∧
  ((b1 = false) →
    F_X8_out_17 J p1 p2   V1 Qr Qx) ∧
  ((b1 = true) →
    ((p2 < 0) →
      F_X8_out_17 J p1 p2   V1 Qr Qx) ∧
    ((¬ p2 < 0) →
      F_X8_out_18 J p1 p2  1 V1 Qr Qx))) Qx
theorem v_X8_out {J : Nat → Nat → Int64} (p1 : Int32) (p2 : Int32) {V : Nat → Nat → Int32} {Qr : Option Value → (Nat → Nat → Int32) → Prop} {Qx : String → (Nat → Nat → Int32) → Prop} (H : F_X8_out J p1 p2 V Qr Qx) : CTc J mX8_out [.ref 405, .int p1, .int p2] V Qr Qx := by
  refine ctc_of (M := (T0 J, V)) pX8_out (fun _ _ => rfl) (Nat.le_of_ble_eq_true rfl) ?_
  unfold F_X8_out at H
  show WPc J mX8_out Qr Qx 0 [(0, .ref 405), (1, .int p1), (2, .int p2)] [] V 0 0
  refine s_aload_n dX8_out_0 rfl ?_
  refine s_aload_n dX8_out_1 rfl ?_
  refine s_iload_n dX8_out_2 rfl ?_
  refine t_cS (As := [.int p1]) (st := [.ref 405, .ref 405]) iv_8_192 dX8_out_3 ⟨by decide, by decide⟩ rfl (Nat.le_of_ble_eq_true rfl) (by decide) (by decide) rfl H (fun r V1 H => ?_)
  obtain ⟨b1, rfl, H⟩ := H
  refine s_if_eq (tgt := 17) dX8_out_6 (by decide) (fun c => ?_) (fun c => ?_)
  · have H := H.1 (bI_f c)
    exact t_loc [0, 1, 2] rfl (v_X8_out_17 p1 p2      H)
  · have H := H.2 (bI_t c)
    refine s_iload_n dX8_out_9 rfl ?_
    refine s_if_lt (tgt := 17) dX8_out_10 (by decide) (fun c => ?_) (fun c => ?_)
    · have H := H.1 c
      exact t_loc [0, 1, 2] rfl (v_X8_out_17 p1 p2      H)
    · have H := H.2 c
      refine s_iconst (v := 1) dX8_out_13 (by decide) ?_
      refine s_goto (tgt := 18) dX8_out_14 (by decide) ?_
      exact t_loc [0, 1, 2] rfl (v_X8_out_18 p1 p2    1  H)

def F_X8_next (J : Nat → Nat → Int64) (p1 : Int32) (V : Nat → Nat → Int32) (Qr : Option Value → (Nat → Nat → Int32) → Prop) (Qx : String → (Nat → Nat → Int32) → Prop) : Prop :=
CTc J mX8_isSide [.int p1] V (fun r V1 =>
  ∃ b1 : Bool, r = some (.int (bI b1)) ∧
  CTc J mX8_errorOfMatch [.ref 405, .int (bI b1)] V1 (fun r V2 =>
    ∃ r2 : Int32, r = some (.int r2) ∧
    CTc J mX8_holds [.ref 405, .int r2] V2 (fun r V3 =>
      ∃ b3 : Bool, r = some (.int (bI b3)) ∧
      ((b3 = false) →
        Qr (some (.int 0)) V3) ∧
      ((b3 = true) →
        CTc J mX8_outAt [.ref 405, .int p1, .int 0] V3 (fun r V4 =>
          ∃ r4 : Int32, r = some (.int r4) ∧
          Qr (some (.int r4)) V4) Qx)) Qx) Qx) Qx
theorem v_X8_next {J : Nat → Nat → Int64} (p1 : Int32) {V : Nat → Nat → Int32} {Qr : Option Value → (Nat → Nat → Int32) → Prop} {Qx : String → (Nat → Nat → Int32) → Prop} (H : F_X8_next J p1 V Qr Qx) : CTc J mX8_next [.ref 405, .int p1] V Qr Qx := by
  refine ctc_of (M := (T0 J, V)) pX8_next (fun _ _ => rfl) (Nat.le_of_ble_eq_true rfl) ?_
  unfold F_X8_next at H
  show WPc J mX8_next Qr Qx 0 [(0, .ref 405), (1, .int p1)] [] V 0 0
  refine s_aload_n dX8_next_0 rfl ?_
  refine s_aload_n dX8_next_1 rfl ?_
  refine s_iload_n dX8_next_2 rfl ?_
  refine t_cS (As := [.int p1]) (st := [.ref 405, .ref 405]) iv_8_192 dX8_next_3 ⟨by decide, by decide⟩ rfl (Nat.le_of_ble_eq_true rfl) (by decide) (by decide) rfl H (fun r V1 H => ?_)
  obtain ⟨b1, rfl, H⟩ := H
  refine t_cV (h := 405) (As := [.int (bI b1)]) (st := [.ref 405]) iv_8_254 dX8_next_6 ⟨by decide, by decide⟩ rfl (Nat.le_of_ble_eq_true rfl) (by decide) (by decide) rfl ob_405 H (fun r V2 H => ?_)
  obtain ⟨r2, rfl, H⟩ := H
  refine t_cV (h := 405) (As := [.int r2]) (st := []) iv_8_169 dX8_next_9 ⟨by decide, by decide⟩ rfl (Nat.le_of_ble_eq_true rfl) (by decide) (by decide) rfl ob_405 H (fun r V3 H => ?_)
  obtain ⟨b3, rfl, H⟩ := H
  refine s_if_eq (tgt := 24) dX8_next_12 (by decide) (fun c => ?_) (fun c => ?_)
  · have H := H.1 (bI_f c)
    refine s_iconst (v := 0) dX8_next_24 (by decide) ?_
    exact s_iret dX8_next_25 (Or.inl rfl) ⟨rfl, H⟩
  · have H := H.2 (bI_t c)
    refine s_aload_n dX8_next_15 rfl ?_
    refine s_iload_n dX8_next_16 rfl ?_
    refine s_iconst (v := 0) dX8_next_17 (by decide) ?_
    refine t_cV (h := 405) (As := [.int p1, .int 0]) (st := []) iv_8_258 dX8_next_18 ⟨by decide, by decide⟩ rfl (Nat.le_of_ble_eq_true rfl) (by decide) (by decide) rfl ob_405 H (fun r V4 H => ?_)
    obtain ⟨r4, rfl, H⟩ := H
    refine s_goto (tgt := 25) dX8_next_21 (by decide) ?_
    exact s_iret dX8_next_25 (Or.inl rfl) ⟨rfl, H⟩

def F_X8_points (J : Nat → Nat → Int64) (p1 : Int32) (V : Nat → Nat → Int32) (Qr : Option Value → (Nat → Nat → Int32) → Prop) (Qx : String → (Nat → Nat → Int32) → Prop) : Prop :=
CTc J mX8_isSide [.int p1] V (fun r V1 =>
  ∃ b1 : Bool, r = some (.int (bI b1)) ∧
  CTc J mX8_errorOfMatch [.ref 405, .int (bI b1)] V1 (fun r V2 =>
    ∃ r2 : Int32, r = some (.int r2) ∧
    CTc J mX8_holds [.ref 405, .int r2] V2 (fun r V3 =>
      ∃ b3 : Bool, r = some (.int (bI b3)) ∧
      ((b3 = false) →
        Qr (some (.int 0)) V3) ∧
      ((b3 = true) →
        vp_in (104 + p1) 110 ∧
        Qr (some (.int (V3 416 (104 + p1).toNatClampNeg))) V3)) Qx) Qx) Qx
theorem v_X8_points {J : Nat → Nat → Int64} (p1 : Int32) {V : Nat → Nat → Int32} {Qr : Option Value → (Nat → Nat → Int32) → Prop} {Qx : String → (Nat → Nat → Int32) → Prop} (H : F_X8_points J p1 V Qr Qx) : CTc J mX8_points [.ref 405, .int p1] V Qr Qx := by
  refine ctc_of (M := (T0 J, V)) pX8_points (fun _ _ => rfl) (Nat.le_of_ble_eq_true rfl) ?_
  unfold F_X8_points at H
  show WPc J mX8_points Qr Qx 0 [(0, .ref 405), (1, .int p1)] [] V 0 0
  refine s_aload_n dX8_points_0 rfl ?_
  refine s_aload_n dX8_points_1 rfl ?_
  refine s_iload_n dX8_points_2 rfl ?_
  refine t_cS (As := [.int p1]) (st := [.ref 405, .ref 405]) iv_8_192 dX8_points_3 ⟨by decide, by decide⟩ rfl (Nat.le_of_ble_eq_true rfl) (by decide) (by decide) rfl H (fun r V1 H => ?_)
  obtain ⟨b1, rfl, H⟩ := H
  refine t_cV (h := 405) (As := [.int (bI b1)]) (st := [.ref 405]) iv_8_254 dX8_points_6 ⟨by decide, by decide⟩ rfl (Nat.le_of_ble_eq_true rfl) (by decide) (by decide) rfl ob_405 H (fun r V2 H => ?_)
  obtain ⟨r2, rfl, H⟩ := H
  refine t_cV (h := 405) (As := [.int r2]) (st := []) iv_8_169 dX8_points_9 ⟨by decide, by decide⟩ rfl (Nat.le_of_ble_eq_true rfl) (by decide) (by decide) rfl ob_405 H (fun r V3 H => ?_)
  obtain ⟨b3, rfl, H⟩ := H
  refine s_if_eq (tgt := 27) dX8_points_12 (by decide) (fun c => ?_) (fun c => ?_)
  · have H := H.1 (bI_f c)
    refine s_iconst (v := 0) dX8_points_27 (by decide) ?_
    exact s_iret dX8_points_28 (Or.inl rfl) ⟨rfl, H⟩
  · have H := H.2 (bI_t c)
    refine s_aload_n dX8_points_15 rfl ?_
    refine t_getR (r := 416) fl_8_41 dX8_points_16 ob_405 rfl rfl ?_
    refine s_bipush (v := 104) dX8_points_19 (by decide) ?_
    refine s_iload_n dX8_points_21 rfl ?_
    refine s_iadd dX8_points_22 ?_
    refine t_iald dX8_points_23 ap_416 H.1 ?_
    have H := H.2
    refine s_goto (tgt := 28) dX8_points_24 (by decide) ?_
    exact s_iret dX8_points_28 (Or.inl rfl) ⟨rfl, H⟩

def F_X8_match (J : Nat → Nat → Int64) (p1 : Int32) (V : Nat → Nat → Int32) (Qr : Option Value → (Nat → Nat → Int32) → Prop) (Qx : String → (Nat → Nat → Int32) → Prop) : Prop :=
CTc J mX8_in [.int p1, .int 0, .int 7] V (fun r V1 =>
  ∃ b1 : Bool, r = some (.int (bI b1)) ∧
  CTc J mX8_errorOfMatch [.ref 405, .int (bI b1)] V1 (fun r V2 =>
    ∃ r2 : Int32, r = some (.int r2) ∧
    CTc J mX8_holds [.ref 405, .int r2] V2 (fun r V3 =>
      ∃ b3 : Bool, r = some (.int (bI b3)) ∧
      ((b3 = true) →
        ((p1 = 0) →
          Qr (some (.int (V3 416 108))) V3) ∧
        ((p1 = 1) →
          CTc J mX8_turn [.ref 405] V3 (fun r V4 =>
            ∃ r4 : Int32, r = some (.int r4) ∧
            Qr (some (.int r4)) V4) Qx) ∧
        ((p1 = 2) →
          Qr (some (.int (V3 405 7))) V3) ∧
        ((p1 = 3) →
          (((V3 405 3) = 0) →
            Qr (some (.int 0)) V3) ∧
          ((¬ (V3 405 3) = 0) →
            Qr (some (.int 1)) V3)) ∧
        ((p1 = 4) →
          CTc J mX8_turn [.ref 405] V3 (fun r V4 =>
            ∃ r4 : Int32, r = some (.int r4) ∧
            vp_in (106 + r4) 110 ∧
            ((¬ (V4 416 (106 + r4).toNatClampNeg) = 2) →
              Qr (some (.int 0)) V4) ∧
            (((V4 416 (106 + r4).toNatClampNeg) = 2) →
              Qr (some (.int 1)) V4)) Qx) ∧
        ((p1 = 5) →
          ((¬ (V3 405 3) = 0) →
            Qr (some (.int 0)) V3) ∧
          (((V3 405 3) = 0) →
            (((V3 416 108) < (V3 405 5)) →
              Qr (some (.int 0)) V3) ∧
            ((¬ (V3 416 108) < (V3 405 5)) →
              Qr (some (.int 1)) V3))) ∧
        (((p1).toInt < 0 ∨ 5 < (p1).toInt) →
          vp_in (p1 - 6) 2 ∧
          Qr (some (.int (V3 406 (p1 - 6).toNatClampNeg))) V3)) ∧
      ((b3 = false) →
        Qr (some (.int 0)) V3)) Qx) Qx) Qx
theorem v_X8_match {J : Nat → Nat → Int64} (p1 : Int32) {V : Nat → Nat → Int32} {Qr : Option Value → (Nat → Nat → Int32) → Prop} {Qx : String → (Nat → Nat → Int32) → Prop} (H : F_X8_match J p1 V Qr Qx) : CTc J mX8_match [.ref 405, .int p1] V Qr Qx := by
  refine ctc_of (M := (T0 J, V)) pX8_match (fun _ _ => rfl) (Nat.le_of_ble_eq_true rfl) ?_
  unfold F_X8_match at H
  show WPc J mX8_match Qr Qx 0 [(0, .ref 405), (1, .int p1)] [] V 0 0
  refine s_aload_n dX8_match_0 rfl ?_
  refine s_aload_n dX8_match_1 rfl ?_
  refine s_iload_n dX8_match_2 rfl ?_
  refine s_iconst (v := 0) dX8_match_3 (by decide) ?_
  refine s_bipush (v := 7) dX8_match_4 (by decide) ?_
  refine t_cS (As := [.int p1, .int 0, .int 7]) (st := [.ref 405, .ref 405]) iv_8_81 dX8_match_6 ⟨by decide, by decide⟩ rfl (Nat.le_of_ble_eq_true rfl) (by decide) (by decide) rfl H (fun r V1 H => ?_)
  obtain ⟨b1, rfl, H⟩ := H
  refine t_cV (h := 405) (As := [.int (bI b1)]) (st := [.ref 405]) iv_8_254 dX8_match_9 ⟨by decide, by decide⟩ rfl (Nat.le_of_ble_eq_true rfl) (by decide) (by decide) rfl ob_405 H (fun r V2 H => ?_)
  obtain ⟨r2, rfl, H⟩ := H
  refine t_cV (h := 405) (As := [.int r2]) (st := []) iv_8_169 dX8_match_12 ⟨by decide, by decide⟩ rfl (Nat.le_of_ble_eq_true rfl) (by decide) (by decide) rfl ob_405 H (fun r V3 H => ?_)
  obtain ⟨b3, rfl, H⟩ := H
  refine s_if_ne (tgt := 20) dX8_match_15 (by decide) (fun c => ?_) (fun c => ?_)
  · have H := H.1 (bI_t c)
    refine s_iload_n dX8_match_20 rfl ?_
    by_cases c0 : p1 = 0
    · have H := H.1 c0
      rw [c0]
      refine s_tabI (tgt := 60) dX8_match_21 (by decide) (by decide) rfl (by decide) ?_
      refine s_aload_n dX8_match_60 rfl ?_
      refine t_getR (r := 416) fl_8_41 dX8_match_61 ob_405 rfl rfl ?_
      refine s_bipush (v := 108) dX8_match_64 (by decide) ?_
      refine t_iald dX8_match_66 ap_416 (vp_of (by decide)) ?_
      exact s_iret dX8_match_67 (Or.inl rfl) ⟨rfl, H⟩
    by_cases c1 : p1 = 1
    · have H := H.2.1 c1
      rw [c1]
      refine s_tabI (tgt := 68) dX8_match_21 (by decide) (by decide) rfl (by decide) ?_
      refine s_aload_n dX8_match_68 rfl ?_
      refine t_cV (h := 405) (As := []) (st := []) iv_8_108 dX8_match_69 ⟨by decide, by decide⟩ rfl (Nat.le_of_ble_eq_true rfl) (by decide) (by decide) rfl ob_405 H (fun r V4 H => ?_)
      obtain ⟨r4, rfl, H⟩ := H
      exact s_iret dX8_match_72 (Or.inl rfl) ⟨rfl, H⟩
    by_cases c2 : p1 = 2
    · have H := H.2.2.1 c2
      rw [c2]
      refine s_tabI (tgt := 73) dX8_match_21 (by decide) (by decide) rfl (by decide) ?_
      refine s_aload_n dX8_match_73 rfl ?_
      refine t_getI fl_8_151 dX8_match_74 ob_405 rfl ?_
      exact s_iret dX8_match_77 (Or.inl rfl) ⟨rfl, H⟩
    by_cases c3 : p1 = 3
    · have H := H.2.2.2.1 c3
      rw [c3]
      refine s_tabI (tgt := 78) dX8_match_21 (by decide) (by decide) rfl (by decide) ?_
      refine s_aload_n dX8_match_78 rfl ?_
      refine t_getI fl_8_147 dX8_match_79 ob_405 rfl ?_
      refine s_if_eq (tgt := 89) dX8_match_82 (by decide) (fun c => ?_) (fun c => ?_)
      · have H := H.1 c
        refine s_iconst (v := 0) dX8_match_89 (by decide) ?_
        exact s_iret dX8_match_90 (Or.inl rfl) ⟨rfl, H⟩
      · have H := H.2 c
        refine s_iconst (v := 1) dX8_match_85 (by decide) ?_
        refine s_goto (tgt := 90) dX8_match_86 (by decide) ?_
        exact s_iret dX8_match_90 (Or.inl rfl) ⟨rfl, H⟩
    by_cases c4 : p1 = 4
    · have H := H.2.2.2.2.1 c4
      rw [c4]
      refine s_tabI (tgt := 91) dX8_match_21 (by decide) (by decide) rfl (by decide) ?_
      refine s_aload_n dX8_match_91 rfl ?_
      refine t_getR (r := 416) fl_8_41 dX8_match_92 ob_405 rfl rfl ?_
      refine s_bipush (v := 106) dX8_match_95 (by decide) ?_
      refine s_aload_n dX8_match_97 rfl ?_
      refine t_cV (h := 405) (As := []) (st := [.int 106, .ref 416]) iv_8_108 dX8_match_98 ⟨by decide, by decide⟩ rfl (Nat.le_of_ble_eq_true rfl) (by decide) (by decide) rfl ob_405 H (fun r V4 H => ?_)
      obtain ⟨r4, rfl, H⟩ := H
      refine s_iadd dX8_match_101 ?_
      refine t_iald dX8_match_102 ap_416 H.1 ?_
      have H := H.2
      refine s_iconst (v := 2) dX8_match_103 (by decide) ?_
      refine s_icmp_ne (tgt := 111) dX8_match_104 (by decide) (fun c => ?_) (fun c => ?_)
      · have H := H.1 c
        refine s_iconst (v := 0) dX8_match_111 (by decide) ?_
        exact s_iret dX8_match_112 (Or.inl rfl) ⟨rfl, H⟩
      · have H := H.2 c
        refine s_iconst (v := 1) dX8_match_107 (by decide) ?_
        refine s_goto (tgt := 112) dX8_match_108 (by decide) ?_
        exact s_iret dX8_match_112 (Or.inl rfl) ⟨rfl, H⟩
    by_cases c5 : p1 = 5
    · have H := H.2.2.2.2.2.1 c5
      rw [c5]
      refine s_tabI (tgt := 113) dX8_match_21 (by decide) (by decide) rfl (by decide) ?_
      refine s_aload_n dX8_match_113 rfl ?_
      refine t_getI fl_8_147 dX8_match_114 ob_405 rfl ?_
      refine s_if_ne (tgt := 138) dX8_match_117 (by decide) (fun c => ?_) (fun c => ?_)
      · have H := H.1 c
        refine s_iconst (v := 0) dX8_match_138 (by decide) ?_
        exact s_iret dX8_match_139 (Or.inl rfl) ⟨rfl, H⟩
      · have H := H.2 c
        refine s_aload_n dX8_match_120 rfl ?_
        refine t_getR (r := 416) fl_8_41 dX8_match_121 ob_405 rfl rfl ?_
        refine s_bipush (v := 108) dX8_match_124 (by decide) ?_
        refine t_iald dX8_match_126 ap_416 (vp_of (by decide)) ?_
        refine s_aload_n dX8_match_127 rfl ?_
        refine t_getI fl_8_118 dX8_match_128 ob_405 rfl ?_
        refine s_icmp_lt (tgt := 138) dX8_match_131 (by decide) (fun c => ?_) (fun c => ?_)
        · have H := H.1 c
          refine s_iconst (v := 0) dX8_match_138 (by decide) ?_
          exact s_iret dX8_match_139 (Or.inl rfl) ⟨rfl, H⟩
        · have H := H.2 c
          refine s_iconst (v := 1) dX8_match_134 (by decide) ?_
          refine s_goto (tgt := 139) dX8_match_135 (by decide) ?_
          exact s_iret dX8_match_139 (Or.inl rfl) ⟨rfl, H⟩
    have hout : (p1).toInt < 0 ∨ 5 < (p1).toInt := sw_out (x := p1) (lo := 0) (n := 6) (by intro k hk; exact match k, hk with | 0, _ => c0 | 1, _ => c1 | 2, _ => c2 | 3, _ => c3 | 4, _ => c4 | 5, _ => c5 | n + 6, h => absurd h (by omega)) (by decide) (by decide)
    have H := H.2.2.2.2.2.2 hout
    refine s_tabO (tgt := 140) dX8_match_21 hout (by decide) ?_
    refine s_aload_n dX8_match_140 rfl ?_
    refine t_getR (r := 406) fl_8_7 dX8_match_141 ob_405 rfl rfl ?_
    refine s_iload_n dX8_match_144 rfl ?_
    refine s_bipush (v := 6) dX8_match_145 (by decide) ?_
    refine s_isub dX8_match_147 ?_
    refine t_iald dX8_match_148 ap_406 H.1 ?_
    have H := H.2
    exact s_iret dX8_match_149 (Or.inl rfl) ⟨rfl, H⟩
  · have H := H.2 (bI_f c)
    refine s_iconst (v := 0) dX8_match_18 (by decide) ?_
    exact s_iret dX8_match_19 (Or.inl rfl) ⟨rfl, H⟩

def F_X8_hasReview (J : Nat → Nat → Int64) (p1 : Int32) (V : Nat → Nat → Int32) (Qr : Option Value → (Nat → Nat → Int32) → Prop) (Qx : String → (Nat → Nat → Int32) → Prop) : Prop :=
CTc J mX8_isSide [.int p1] V (fun r V1 =>
  ∃ b1 : Bool, r = some (.int (bI b1)) ∧
  CTc J mX8_errorOfMatch [.ref 405, .int (bI b1)] V1 (fun r V2 =>
    ∃ r2 : Int32, r = some (.int r2) ∧
    CTc J mX8_holds [.ref 405, .int r2] V2 (fun r V3 =>
      ∃ b3 : Bool, r = some (.int (bI b3)) ∧
      ((b3 = false) →
        Qr (some (.int 0)) V3) ∧
      ((b3 = true) →
        vp_in p1 2 ∧
        ((¬ (V3 407 p1.toNatClampNeg) = 0) →
          Qr (some (.int 0)) V3) ∧
        (((V3 407 p1.toNatClampNeg) = 0) →
          Qr (some (.int 1)) V3))) Qx) Qx) Qx
theorem v_X8_hasReview {J : Nat → Nat → Int64} (p1 : Int32) {V : Nat → Nat → Int32} {Qr : Option Value → (Nat → Nat → Int32) → Prop} {Qx : String → (Nat → Nat → Int32) → Prop} (H : F_X8_hasReview J p1 V Qr Qx) : CTc J mX8_hasReview [.ref 405, .int p1] V Qr Qx := by
  refine ctc_of (M := (T0 J, V)) pX8_hasReview (fun _ _ => rfl) (Nat.le_of_ble_eq_true rfl) ?_
  unfold F_X8_hasReview at H
  show WPc J mX8_hasReview Qr Qx 0 [(0, .ref 405), (1, .int p1)] [] V 0 0
  refine s_aload_n dX8_hasReview_0 rfl ?_
  refine s_aload_n dX8_hasReview_1 rfl ?_
  refine s_iload_n dX8_hasReview_2 rfl ?_
  refine t_cS (As := [.int p1]) (st := [.ref 405, .ref 405]) iv_8_192 dX8_hasReview_3 ⟨by decide, by decide⟩ rfl (Nat.le_of_ble_eq_true rfl) (by decide) (by decide) rfl H (fun r V1 H => ?_)
  obtain ⟨b1, rfl, H⟩ := H
  refine t_cV (h := 405) (As := [.int (bI b1)]) (st := [.ref 405]) iv_8_254 dX8_hasReview_6 ⟨by decide, by decide⟩ rfl (Nat.le_of_ble_eq_true rfl) (by decide) (by decide) rfl ob_405 H (fun r V2 H => ?_)
  obtain ⟨r2, rfl, H⟩ := H
  refine t_cV (h := 405) (As := [.int r2]) (st := []) iv_8_169 dX8_hasReview_9 ⟨by decide, by decide⟩ rfl (Nat.le_of_ble_eq_true rfl) (by decide) (by decide) rfl ob_405 H (fun r V3 H => ?_)
  obtain ⟨b3, rfl, H⟩ := H
  refine s_if_eq (tgt := 28) dX8_hasReview_12 (by decide) (fun c => ?_) (fun c => ?_)
  · have H := H.1 (bI_f c)
    refine s_iconst (v := 0) dX8_hasReview_28 (by decide) ?_
    exact s_iret dX8_hasReview_29 (Or.inr ⟨rfl, (Or.inl rfl)⟩) ⟨rfl, H⟩
  · have H := H.2 (bI_t c)
    refine s_aload_n dX8_hasReview_15 rfl ?_
    refine t_getR (r := 407) fl_8_13 dX8_hasReview_16 ob_405 rfl rfl ?_
    refine s_iload_n dX8_hasReview_19 rfl ?_
    refine t_zald dX8_hasReview_20 H.1 ?_
    have H := H.2
    refine s_if_ne (tgt := 28) dX8_hasReview_21 (by decide) (fun c => ?_) (fun c => ?_)
    · have H := H.1 c
      refine s_iconst (v := 0) dX8_hasReview_28 (by decide) ?_
      exact s_iret dX8_hasReview_29 (Or.inr ⟨rfl, (Or.inl rfl)⟩) ⟨rfl, H⟩
    · have H := H.2 c
      refine s_iconst (v := 1) dX8_hasReview_24 (by decide) ?_
      refine s_goto (tgt := 29) dX8_hasReview_25 (by decide) ?_
      exact s_iret dX8_hasReview_29 (Or.inr ⟨rfl, (Or.inr rfl)⟩) ⟨rfl, H⟩

def F_X8_hasEnded (J : Nat → Nat → Int64) (p1 : Int32) (p2 : Int32) (V : Nat → Nat → Int32) (Qr : Option Value → (Nat → Nat → Int32) → Prop) (Qx : String → (Nat → Nat → Int32) → Prop) : Prop :=
(((V 405 2) = 0) →
  Qr (some (.int 0)) V) ∧
((¬ (V 405 2) = 0) →
  CTc J mX8_ended [.ref 405] V (fun r V1 =>
    ∃ r1 : Int32, r = some (.int r1) ∧
    CTc J mX8_in [.int p1, .int 0, .int (r1 - 1)] V1 (fun r V2 =>
      ∃ b2 : Bool, r = some (.int (bI b2)) ∧
      ((b2 = false) →
        Qr (some (.int 0)) V2) ∧
      ((b2 = true) →
        CTc J mX8_isSide [.int p2] V2 (fun r V3 =>
          ∃ b3 : Bool, r = some (.int (bI b3)) ∧
          ((b3 = false) →
            Qr (some (.int 0)) V3) ∧
          ((b3 = true) →
            Qr (some (.int 1)) V3)) Qx)) Qx) Qx)
theorem v_X8_hasEnded {J : Nat → Nat → Int64} (p1 : Int32) (p2 : Int32) {V : Nat → Nat → Int32} {Qr : Option Value → (Nat → Nat → Int32) → Prop} {Qx : String → (Nat → Nat → Int32) → Prop} (H : F_X8_hasEnded J p1 p2 V Qr Qx) : CTc J mX8_hasEnded [.ref 405, .int p1, .int p2] V Qr Qx := by
  refine ctc_of (M := (T0 J, V)) pX8_hasEnded (fun _ _ => rfl) (Nat.le_of_ble_eq_true rfl) ?_
  unfold F_X8_hasEnded at H
  show WPc J mX8_hasEnded Qr Qx 0 [(0, .ref 405), (1, .int p1), (2, .int p2)] [] V 0 0
  refine s_aload_n dX8_hasEnded_0 rfl ?_
  refine t_getI fl_8_166 dX8_hasEnded_1 ob_405 rfl ?_
  refine s_if_eq (tgt := 32) dX8_hasEnded_4 (by decide) (fun c => ?_) (fun c => ?_)
  · have H := H.1 c
    refine s_iconst (v := 0) dX8_hasEnded_32 (by decide) ?_
    exact s_iret dX8_hasEnded_33 (Or.inr ⟨rfl, (Or.inl rfl)⟩) ⟨rfl, H⟩
  · have H := H.2 c
    refine s_iload_n dX8_hasEnded_7 rfl ?_
    refine s_iconst (v := 0) dX8_hasEnded_8 (by decide) ?_
    refine s_aload_n dX8_hasEnded_9 rfl ?_
    refine t_cV (h := 405) (As := []) (st := [.int 0, .int p1]) iv_8_157 dX8_hasEnded_10 ⟨by decide, by decide⟩ rfl (Nat.le_of_ble_eq_true rfl) (by decide) (by decide) rfl ob_405 H (fun r V1 H => ?_)
    obtain ⟨r1, rfl, H⟩ := H
    refine s_iconst (v := 1) dX8_hasEnded_13 (by decide) ?_
    refine s_isub dX8_hasEnded_14 ?_
    refine t_cS (As := [.int p1, .int 0, .int (r1 - 1)]) (st := []) iv_8_81 dX8_hasEnded_15 ⟨by decide, by decide⟩ rfl (Nat.le_of_ble_eq_true rfl) (by decide) (by decide) rfl H (fun r V2 H => ?_)
    obtain ⟨b2, rfl, H⟩ := H
    refine s_if_eq (tgt := 32) dX8_hasEnded_18 (by decide) (fun c => ?_) (fun c => ?_)
    · have H := H.1 (bI_f c)
      refine s_iconst (v := 0) dX8_hasEnded_32 (by decide) ?_
      exact s_iret dX8_hasEnded_33 (Or.inr ⟨rfl, (Or.inl rfl)⟩) ⟨rfl, H⟩
    · have H := H.2 (bI_t c)
      refine s_iload_n dX8_hasEnded_21 rfl ?_
      refine t_cS (As := [.int p2]) (st := []) iv_8_192 dX8_hasEnded_22 ⟨by decide, by decide⟩ rfl (Nat.le_of_ble_eq_true rfl) (by decide) (by decide) rfl H (fun r V3 H => ?_)
      obtain ⟨b3, rfl, H⟩ := H
      refine s_if_eq (tgt := 32) dX8_hasEnded_25 (by decide) (fun c => ?_) (fun c => ?_)
      · have H := H.1 (bI_f c)
        refine s_iconst (v := 0) dX8_hasEnded_32 (by decide) ?_
        exact s_iret dX8_hasEnded_33 (Or.inr ⟨rfl, (Or.inl rfl)⟩) ⟨rfl, H⟩
      · have H := H.2 (bI_t c)
        refine s_iconst (v := 1) dX8_hasEnded_28 (by decide) ?_
        refine s_goto (tgt := 33) dX8_hasEnded_29 (by decide) ?_
        exact s_iret dX8_hasEnded_33 (Or.inr ⟨rfl, (Or.inr rfl)⟩) ⟨rfl, H⟩

def F_X8_matAfter_15 (J : Nat → Nat → Int64) (p1 : Int32) (p2 : Int32) (s0 : Int32) (V : Nat → Nat → Int32) (Qr : Option Value → (Nat → Nat → Int32) → Prop) (Qx : String → (Nat → Nat → Int32) → Prop) : Prop :=
CTc J mX8_holds [.ref 405, .int s0] V (fun r V1 =>
  ∃ b1 : Bool, r = some (.int (bI b1)) ∧
  ((b1 = false) →
    Qr (some (.int 0)) V1) ∧
  ((b1 = true) →
    vp_in ((2 * p1) + p2) 120 ∧
    Qr (some (.int (V1 417 ((2 * p1) + p2).toNatClampNeg))) V1)) Qx
theorem v_X8_matAfter_15 {J : Nat → Nat → Int64} (p1 : Int32) (p2 : Int32) {Qr : Option Value → (Nat → Nat → Int32) → Prop} {Qx : String → (Nat → Nat → Int32) → Prop} (s0 : Int32)  {V : Nat → Nat → Int32} (H : F_X8_matAfter_15 J p1 p2  s0 V Qr Qx) : WPc J mX8_matAfter Qr Qx 15 [(0, .ref 405), (1, .int p1), (2, .int p2)] [.int s0, .ref 405] V 0 0 := by
  unfold F_X8_matAfter_15 at H
  refine t_cV (h := 405) (As := [.int s0]) (st := []) iv_8_169 dX8_matAfter_15 ⟨by decide, by decide⟩ rfl (Nat.le_of_ble_eq_true rfl) (by decide) (by decide) rfl ob_405 H (fun r V1 H => ?_)
  obtain ⟨b1, rfl, H⟩ := H
  refine s_if_eq (tgt := 34) dX8_matAfter_18 (by decide) (fun c => ?_) (fun c => ?_)
  · have H := H.1 (bI_f c)
    refine s_iconst (v := 0) dX8_matAfter_34 (by decide) ?_
    exact s_iret dX8_matAfter_35 (Or.inl rfl) ⟨rfl, H⟩
  · have H := H.2 (bI_t c)
    refine s_aload_n dX8_matAfter_21 rfl ?_
    refine t_getR (r := 417) fl_8_44 dX8_matAfter_22 ob_405 rfl rfl ?_
    refine s_iconst (v := 2) dX8_matAfter_25 (by decide) ?_
    refine s_iload_n dX8_matAfter_26 rfl ?_
    refine s_imul dX8_matAfter_27 ?_
    refine s_iload_n dX8_matAfter_28 rfl ?_
    refine s_iadd dX8_matAfter_29 ?_
    refine t_iald dX8_matAfter_30 ap_417 H.1 ?_
    have H := H.2
    refine s_goto (tgt := 35) dX8_matAfter_31 (by decide) ?_
    exact s_iret dX8_matAfter_35 (Or.inl rfl) ⟨rfl, H⟩
def F_X8_matAfter (J : Nat → Nat → Int64) (p1 : Int32) (p2 : Int32) (V : Nat → Nat → Int32) (Qr : Option Value → (Nat → Nat → Int32) → Prop) (Qx : String → (Nat → Nat → Int32) → Prop) : Prop :=
CTc J mX8_hasEnded [.ref 405, .int p1, .int p2] V (fun r V1 =>
  ∃ b1 : Bool, r = some (.int (bI b1)) ∧
  ((b1 = false) →
    F_X8_matAfter_15 J p1 p2  1 V1 Qr Qx) ∧
  ((b1 = true) →
    F_X8_matAfter_15 J p1 p2  0 V1 Qr Qx)) Qx
theorem v_X8_matAfter {J : Nat → Nat → Int64} (p1 : Int32) (p2 : Int32) {V : Nat → Nat → Int32} {Qr : Option Value → (Nat → Nat → Int32) → Prop} {Qx : String → (Nat → Nat → Int32) → Prop} (H : F_X8_matAfter J p1 p2 V Qr Qx) : CTc J mX8_matAfter [.ref 405, .int p1, .int p2] V Qr Qx := by
  refine ctc_of (M := (T0 J, V)) pX8_matAfter (fun _ _ => rfl) (Nat.le_of_ble_eq_true rfl) ?_
  unfold F_X8_matAfter at H
  show WPc J mX8_matAfter Qr Qx 0 [(0, .ref 405), (1, .int p1), (2, .int p2)] [] V 0 0
  refine s_aload_n dX8_matAfter_0 rfl ?_
  refine s_aload_n dX8_matAfter_1 rfl ?_
  refine s_iload_n dX8_matAfter_2 rfl ?_
  refine s_iload_n dX8_matAfter_3 rfl ?_
  refine t_cV (h := 405) (As := [.int p1, .int p2]) (st := [.ref 405]) iv_8_261 dX8_matAfter_4 ⟨by decide, by decide⟩ rfl (Nat.le_of_ble_eq_true rfl) (by decide) (by decide) rfl ob_405 H (fun r V1 H => ?_)
  obtain ⟨b1, rfl, H⟩ := H
  refine s_if_eq (tgt := 14) dX8_matAfter_7 (by decide) (fun c => ?_) (fun c => ?_)
  · have H := H.1 (bI_f c)
    refine s_iconst (v := 1) dX8_matAfter_14 (by decide) ?_
    exact t_loc [0, 1, 2] rfl (v_X8_matAfter_15 p1 p2    1  H)
  · have H := H.2 (bI_t c)
    refine s_iconst (v := 0) dX8_matAfter_10 (by decide) ?_
    refine s_goto (tgt := 15) dX8_matAfter_11 (by decide) ?_
    exact t_loc [0, 1, 2] rfl (v_X8_matAfter_15 p1 p2    0  H)

def F_X8_matAnew (J : Nat → Nat → Int64) (p1 : Int32) (p2 : Int32) (V : Nat → Nat → Int32) (Qr : Option Value → (Nat → Nat → Int32) → Prop) (Qx : String → (Nat → Nat → Int32) → Prop) : Prop :=
CTc J mX8_matAfter [.ref 405, .int p1, .int p2] V (fun r V1 =>
  ∃ r1 : Int32, r = some (.int r1) ∧
  Qr (some (.int r1)) V1) Qx
theorem v_X8_matAnew {J : Nat → Nat → Int64} (p1 : Int32) (p2 : Int32) {V : Nat → Nat → Int32} {Qr : Option Value → (Nat → Nat → Int32) → Prop} {Qx : String → (Nat → Nat → Int32) → Prop} (H : F_X8_matAnew J p1 p2 V Qr Qx) : CTc J mX8_matAnew [.ref 405, .int p1, .int p2] V Qr Qx := by
  refine ctc_of (M := (T0 J, V)) pX8_matAnew (fun _ _ => rfl) (Nat.le_of_ble_eq_true rfl) ?_
  unfold F_X8_matAnew at H
  show WPc J mX8_matAnew Qr Qx 0 [(0, .ref 405), (1, .int p1), (2, .int p2)] [] V 0 0
  refine s_aload_n dX8_matAnew_0 rfl ?_
  refine s_iload_n dX8_matAnew_1 rfl ?_
  refine s_iload_n dX8_matAnew_2 rfl ?_
  refine t_cV (h := 405) (As := [.int p1, .int p2]) (st := []) iv_8_264 dX8_matAnew_3 ⟨by decide, by decide⟩ rfl (Nat.le_of_ble_eq_true rfl) (by decide) (by decide) rfl ob_405 H (fun r V1 H => ?_)
  obtain ⟨r1, rfl, H⟩ := H
  exact s_iret dX8_matAnew_6 (Or.inl rfl) ⟨rfl, H⟩

def F_X8_pointsAfter_15 (J : Nat → Nat → Int64) (p1 : Int32) (p2 : Int32) (s0 : Int32) (V : Nat → Nat → Int32) (Qr : Option Value → (Nat → Nat → Int32) → Prop) (Qx : String → (Nat → Nat → Int32) → Prop) : Prop :=
CTc J mX8_holds [.ref 405, .int s0] V (fun r V1 =>
  ∃ b1 : Bool, r = some (.int (bI b1)) ∧
  ((b1 = false) →
    Qr (some (.int 0)) V1) ∧
  ((b1 = true) →
    vp_in ((2 * p1) + p2) 120 ∧
    Qr (some (.int (V1 418 ((2 * p1) + p2).toNatClampNeg))) V1)) Qx
theorem v_X8_pointsAfter_15 {J : Nat → Nat → Int64} (p1 : Int32) (p2 : Int32) {Qr : Option Value → (Nat → Nat → Int32) → Prop} {Qx : String → (Nat → Nat → Int32) → Prop} (s0 : Int32)  {V : Nat → Nat → Int32} (H : F_X8_pointsAfter_15 J p1 p2  s0 V Qr Qx) : WPc J mX8_pointsAfter Qr Qx 15 [(0, .ref 405), (1, .int p1), (2, .int p2)] [.int s0, .ref 405] V 0 0 := by
  unfold F_X8_pointsAfter_15 at H
  refine t_cV (h := 405) (As := [.int s0]) (st := []) iv_8_169 dX8_pointsAfter_15 ⟨by decide, by decide⟩ rfl (Nat.le_of_ble_eq_true rfl) (by decide) (by decide) rfl ob_405 H (fun r V1 H => ?_)
  obtain ⟨b1, rfl, H⟩ := H
  refine s_if_eq (tgt := 34) dX8_pointsAfter_18 (by decide) (fun c => ?_) (fun c => ?_)
  · have H := H.1 (bI_f c)
    refine s_iconst (v := 0) dX8_pointsAfter_34 (by decide) ?_
    exact s_iret dX8_pointsAfter_35 (Or.inl rfl) ⟨rfl, H⟩
  · have H := H.2 (bI_t c)
    refine s_aload_n dX8_pointsAfter_21 rfl ?_
    refine t_getR (r := 418) fl_8_47 dX8_pointsAfter_22 ob_405 rfl rfl ?_
    refine s_iconst (v := 2) dX8_pointsAfter_25 (by decide) ?_
    refine s_iload_n dX8_pointsAfter_26 rfl ?_
    refine s_imul dX8_pointsAfter_27 ?_
    refine s_iload_n dX8_pointsAfter_28 rfl ?_
    refine s_iadd dX8_pointsAfter_29 ?_
    refine t_iald dX8_pointsAfter_30 ap_418 H.1 ?_
    have H := H.2
    refine s_goto (tgt := 35) dX8_pointsAfter_31 (by decide) ?_
    exact s_iret dX8_pointsAfter_35 (Or.inl rfl) ⟨rfl, H⟩
def F_X8_pointsAfter (J : Nat → Nat → Int64) (p1 : Int32) (p2 : Int32) (V : Nat → Nat → Int32) (Qr : Option Value → (Nat → Nat → Int32) → Prop) (Qx : String → (Nat → Nat → Int32) → Prop) : Prop :=
CTc J mX8_hasEnded [.ref 405, .int p1, .int p2] V (fun r V1 =>
  ∃ b1 : Bool, r = some (.int (bI b1)) ∧
  ((b1 = false) →
    F_X8_pointsAfter_15 J p1 p2  1 V1 Qr Qx) ∧
  ((b1 = true) →
    F_X8_pointsAfter_15 J p1 p2  0 V1 Qr Qx)) Qx
theorem v_X8_pointsAfter {J : Nat → Nat → Int64} (p1 : Int32) (p2 : Int32) {V : Nat → Nat → Int32} {Qr : Option Value → (Nat → Nat → Int32) → Prop} {Qx : String → (Nat → Nat → Int32) → Prop} (H : F_X8_pointsAfter J p1 p2 V Qr Qx) : CTc J mX8_pointsAfter [.ref 405, .int p1, .int p2] V Qr Qx := by
  refine ctc_of (M := (T0 J, V)) pX8_pointsAfter (fun _ _ => rfl) (Nat.le_of_ble_eq_true rfl) ?_
  unfold F_X8_pointsAfter at H
  show WPc J mX8_pointsAfter Qr Qx 0 [(0, .ref 405), (1, .int p1), (2, .int p2)] [] V 0 0
  refine s_aload_n dX8_pointsAfter_0 rfl ?_
  refine s_aload_n dX8_pointsAfter_1 rfl ?_
  refine s_iload_n dX8_pointsAfter_2 rfl ?_
  refine s_iload_n dX8_pointsAfter_3 rfl ?_
  refine t_cV (h := 405) (As := [.int p1, .int p2]) (st := [.ref 405]) iv_8_261 dX8_pointsAfter_4 ⟨by decide, by decide⟩ rfl (Nat.le_of_ble_eq_true rfl) (by decide) (by decide) rfl ob_405 H (fun r V1 H => ?_)
  obtain ⟨b1, rfl, H⟩ := H
  refine s_if_eq (tgt := 14) dX8_pointsAfter_7 (by decide) (fun c => ?_) (fun c => ?_)
  · have H := H.1 (bI_f c)
    refine s_iconst (v := 1) dX8_pointsAfter_14 (by decide) ?_
    exact t_loc [0, 1, 2] rfl (v_X8_pointsAfter_15 p1 p2    1  H)
  · have H := H.2 (bI_t c)
    refine s_iconst (v := 0) dX8_pointsAfter_10 (by decide) ?_
    refine s_goto (tgt := 15) dX8_pointsAfter_11 (by decide) ?_
    exact t_loc [0, 1, 2] rfl (v_X8_pointsAfter_15 p1 p2    0  H)

def F_X8_raidPoints_21 (J : Nat → Nat → Int64) (p1 : Int32) (p2 : Int32) (s0 : Int32) (V : Nat → Nat → Int32) (Qr : Option Value → (Nat → Nat → Int32) → Prop) (Qx : String → (Nat → Nat → Int32) → Prop) : Prop :=
CTc J mX8_errorOfMatch [.ref 405, .int s0] V (fun r V1 =>
  ∃ r1 : Int32, r = some (.int r1) ∧
  CTc J mX8_holds [.ref 405, .int r1] V1 (fun r V2 =>
    ∃ b2 : Bool, r = some (.int (bI b2)) ∧
    ((b2 = false) →
      Qr (some (.int 0)) V2) ∧
    ((b2 = true) →
      vp_in ((60 + (10 * p1)) + p2) 110 ∧
      Qr (some (.int (V2 416 ((60 + (10 * p1)) + p2).toNatClampNeg))) V2)) Qx) Qx
theorem v_X8_raidPoints_21 {J : Nat → Nat → Int64} (p1 : Int32) (p2 : Int32) {Qr : Option Value → (Nat → Nat → Int32) → Prop} {Qx : String → (Nat → Nat → Int32) → Prop} (s0 : Int32)  {V : Nat → Nat → Int32} (H : F_X8_raidPoints_21 J p1 p2  s0 V Qr Qx) : WPc J mX8_raidPoints Qr Qx 21 [(0, .ref 405), (1, .int p1), (2, .int p2)] [.int s0, .ref 405, .ref 405] V 0 0 := by
  unfold F_X8_raidPoints_21 at H
  refine t_cV (h := 405) (As := [.int s0]) (st := [.ref 405]) iv_8_254 dX8_raidPoints_21 ⟨by decide, by decide⟩ rfl (Nat.le_of_ble_eq_true rfl) (by decide) (by decide) rfl ob_405 H (fun r V1 H => ?_)
  obtain ⟨r1, rfl, H⟩ := H
  refine t_cV (h := 405) (As := [.int r1]) (st := []) iv_8_169 dX8_raidPoints_24 ⟨by decide, by decide⟩ rfl (Nat.le_of_ble_eq_true rfl) (by decide) (by decide) rfl ob_405 H (fun r V2 H => ?_)
  obtain ⟨b2, rfl, H⟩ := H
  refine s_if_eq (tgt := 47) dX8_raidPoints_27 (by decide) (fun c => ?_) (fun c => ?_)
  · have H := H.1 (bI_f c)
    refine s_iconst (v := 0) dX8_raidPoints_47 (by decide) ?_
    exact s_iret dX8_raidPoints_48 (Or.inl rfl) ⟨rfl, H⟩
  · have H := H.2 (bI_t c)
    refine s_aload_n dX8_raidPoints_30 rfl ?_
    refine t_getR (r := 416) fl_8_41 dX8_raidPoints_31 ob_405 rfl rfl ?_
    refine s_bipush (v := 60) dX8_raidPoints_34 (by decide) ?_
    refine s_bipush (v := 10) dX8_raidPoints_36 (by decide) ?_
    refine s_iload_n dX8_raidPoints_38 rfl ?_
    refine s_imul dX8_raidPoints_39 ?_
    refine s_iadd dX8_raidPoints_40 ?_
    refine s_iload_n dX8_raidPoints_41 rfl ?_
    refine s_iadd dX8_raidPoints_42 ?_
    refine t_iald dX8_raidPoints_43 ap_416 H.1 ?_
    have H := H.2
    refine s_goto (tgt := 48) dX8_raidPoints_44 (by decide) ?_
    exact s_iret dX8_raidPoints_48 (Or.inl rfl) ⟨rfl, H⟩
def F_X8_raidPoints_20 (J : Nat → Nat → Int64) (p1 : Int32) (p2 : Int32)  (V : Nat → Nat → Int32) (Qr : Option Value → (Nat → Nat → Int32) → Prop) (Qx : String → (Nat → Nat → Int32) → Prop) : Prop :=
F_X8_raidPoints_21 J p1 p2  0 V Qr Qx
theorem v_X8_raidPoints_20 {J : Nat → Nat → Int64} (p1 : Int32) (p2 : Int32) {Qr : Option Value → (Nat → Nat → Int32) → Prop} {Qx : String → (Nat → Nat → Int32) → Prop}   {V : Nat → Nat → Int32} (H : F_X8_raidPoints_20 J p1 p2   V Qr Qx) : WPc J mX8_raidPoints Qr Qx 20 [(0, .ref 405), (1, .int p1), (2, .int p2)] [.ref 405, .ref 405] V 0 0 := by
  unfold F_X8_raidPoints_20 at H
  refine s_iconst (v := 0) dX8_raidPoints_20 (by decide) ?_
  exact t_loc [0, 1, 2] rfl (v_X8_raidPoints_21 p1 p2    0  H)
def F_X8_raidPoints (J : Nat → Nat → Int64) (p1 : Int32) (p2 : Int32) (V : Nat → Nat → Int32) (Qr : Option Value → (Nat → Nat → Int32) → Prop) (Qx : String → (Nat → Nat → Int32) → Prop) : Prop :=
CTc J mX8_isSide [.int p1] V (fun r V1 =>
  ∃ b1 : Bool, r = some (.int (bI b1)) ∧
  ((b1 = false) →
    F_X8_raidPoints_20 J p1 p2   V1 Qr Qx) ∧
  ((b1 = true) →
    CTc J mX8_isPlayer [.int p2] V1 (fun r V2 =>
      ∃ b2 : Bool, r = some (.int (bI b2)) ∧
      ((b2 = false) →
        F_X8_raidPoints_20 J p1 p2   V2 Qr Qx) ∧
      ((b2 = true) →
        F_X8_raidPoints_21 J p1 p2  1 V2 Qr Qx)) Qx)) Qx
theorem v_X8_raidPoints {J : Nat → Nat → Int64} (p1 : Int32) (p2 : Int32) {V : Nat → Nat → Int32} {Qr : Option Value → (Nat → Nat → Int32) → Prop} {Qx : String → (Nat → Nat → Int32) → Prop} (H : F_X8_raidPoints J p1 p2 V Qr Qx) : CTc J mX8_raidPoints [.ref 405, .int p1, .int p2] V Qr Qx := by
  refine ctc_of (M := (T0 J, V)) pX8_raidPoints (fun _ _ => rfl) (Nat.le_of_ble_eq_true rfl) ?_
  unfold F_X8_raidPoints at H
  show WPc J mX8_raidPoints Qr Qx 0 [(0, .ref 405), (1, .int p1), (2, .int p2)] [] V 0 0
  refine s_aload_n dX8_raidPoints_0 rfl ?_
  refine s_aload_n dX8_raidPoints_1 rfl ?_
  refine s_iload_n dX8_raidPoints_2 rfl ?_
  refine t_cS (As := [.int p1]) (st := [.ref 405, .ref 405]) iv_8_192 dX8_raidPoints_3 ⟨by decide, by decide⟩ rfl (Nat.le_of_ble_eq_true rfl) (by decide) (by decide) rfl H (fun r V1 H => ?_)
  obtain ⟨b1, rfl, H⟩ := H
  refine s_if_eq (tgt := 20) dX8_raidPoints_6 (by decide) (fun c => ?_) (fun c => ?_)
  · have H := H.1 (bI_f c)
    exact t_loc [0, 1, 2] rfl (v_X8_raidPoints_20 p1 p2      H)
  · have H := H.2 (bI_t c)
    refine s_iload_n dX8_raidPoints_9 rfl ?_
    refine t_cS (As := [.int p2]) (st := [.ref 405, .ref 405]) iv_8_175 dX8_raidPoints_10 ⟨by decide, by decide⟩ rfl (Nat.le_of_ble_eq_true rfl) (by decide) (by decide) rfl H (fun r V2 H => ?_)
    obtain ⟨b2, rfl, H⟩ := H
    refine s_if_eq (tgt := 20) dX8_raidPoints_13 (by decide) (fun c => ?_) (fun c => ?_)
    · have H := H.1 (bI_f c)
      exact t_loc [0, 1, 2] rfl (v_X8_raidPoints_20 p1 p2      H)
    · have H := H.2 (bI_t c)
      refine s_iconst (v := 1) dX8_raidPoints_16 (by decide) ?_
      refine s_goto (tgt := 21) dX8_raidPoints_17 (by decide) ?_
      exact t_loc [0, 1, 2] rfl (v_X8_raidPoints_21 p1 p2    1  H)

def F_X8_isAhead_178 (J : Nat → Nat → Int64) (p1 : Int32) (p2 : Int32) (x4 : Int32) (x5 : Int32) (x6 : Int32) (s0 : Int32) (V : Nat → Nat → Int32) (Qr : Option Value → (Nat → Nat → Int32) → Prop) (Qx : String → (Nat → Nat → Int32) → Prop) : Prop :=
((0 < (lg_cmp (((x4.toInt64) * (s0.toInt64)) - ((x6.toInt64) * (x5.toInt64))) 0)) →
  Qr (some (.int 1)) V) ∧
((¬ 0 < (lg_cmp (((x4.toInt64) * (s0.toInt64)) - ((x6.toInt64) * (x5.toInt64))) 0)) →
  ((¬ (lg_cmp (((x4.toInt64) * (s0.toInt64)) - ((x6.toInt64) * (x5.toInt64))) 0) = 0) →
    Qr (some (.int 0)) V) ∧
  (((lg_cmp (((x4.toInt64) * (s0.toInt64)) - ((x6.toInt64) * (x5.toInt64))) 0) = 0) →
    ((p2 ≤ p1) →
      Qr (some (.int 0)) V) ∧
    ((¬ p2 ≤ p1) →
      Qr (some (.int 1)) V)))
theorem v_X8_isAhead_178 {J : Nat → Nat → Int64} (p1 : Int32) (p2 : Int32) {Qr : Option Value → (Nat → Nat → Int32) → Prop} {Qx : String → (Nat → Nat → Int32) → Prop} (x4 : Int32) (x5 : Int32) (x6 : Int32) (s0 : Int32)  {V : Nat → Nat → Int32} (H : F_X8_isAhead_178 J p1 p2  x4 x5 x6 s0 V Qr Qx) : WPc J mX8_isAhead Qr Qx 178 [(1, .int p1), (2, .int p2), (4, .int x4), (5, .int x5), (6, .int x6)] [.int s0] V 0 0 := by
  unfold F_X8_isAhead_178 at H
  refine t_istore (L' := [(7, .int s0), (1, .int p1), (2, .int p2), (4, .int x4), (5, .int x5), (6, .int x6)]) dX8_isAhead_178 (by decide) rfl ?_
  refine s_iload dX8_isAhead_180 rfl ?_
  refine s_i2l dX8_isAhead_182 ?_
  refine s_iload dX8_isAhead_183 rfl ?_
  refine s_i2l dX8_isAhead_185 ?_
  refine s_lmul dX8_isAhead_186 ?_
  refine s_iload dX8_isAhead_187 rfl ?_
  refine s_i2l dX8_isAhead_189 ?_
  refine s_iload dX8_isAhead_190 rfl ?_
  refine s_i2l dX8_isAhead_192 ?_
  refine s_lmul dX8_isAhead_193 ?_
  refine s_lsub dX8_isAhead_194 ?_
  refine t_lstore (L' := [(8, .long (((x4.toInt64) * (s0.toInt64)) - ((x6.toInt64) * (x5.toInt64)))), (7, .int s0), (1, .int p1), (2, .int p2), (4, .int x4), (5, .int x5), (6, .int x6)]) dX8_isAhead_195 (by decide) rfl ?_
  refine s_lload dX8_isAhead_197 rfl ?_
  refine s_lconst (v := 0) dX8_isAhead_199 (by decide) ?_
  refine s_lcmp dX8_isAhead_200 ?_
  refine s_if_gt (tgt := 216) dX8_isAhead_201 (by decide) (fun c => ?_) (fun c => ?_)
  · have H := H.1 c
    refine s_iconst (v := 1) dX8_isAhead_216 (by decide) ?_
    refine s_goto (tgt := 221) dX8_isAhead_217 (by decide) ?_
    exact s_iret dX8_isAhead_221 (Or.inr ⟨rfl, (Or.inr rfl)⟩) ⟨rfl, H⟩
  · have H := H.2 c
    refine s_lload dX8_isAhead_204 rfl ?_
    refine s_lconst (v := 0) dX8_isAhead_206 (by decide) ?_
    refine s_lcmp dX8_isAhead_207 ?_
    refine s_if_ne (tgt := 220) dX8_isAhead_208 (by decide) (fun c => ?_) (fun c => ?_)
    · have H := H.1 c
      refine s_iconst (v := 0) dX8_isAhead_220 (by decide) ?_
      exact s_iret dX8_isAhead_221 (Or.inr ⟨rfl, (Or.inl rfl)⟩) ⟨rfl, H⟩
    · have H := H.2 c
      refine s_iload_n dX8_isAhead_211 rfl ?_
      refine s_iload_n dX8_isAhead_212 rfl ?_
      refine s_icmp_ge (tgt := 220) dX8_isAhead_213 (by decide) (fun c => ?_) (fun c => ?_)
      · have H := H.1 c
        refine s_iconst (v := 0) dX8_isAhead_220 (by decide) ?_
        exact s_iret dX8_isAhead_221 (Or.inr ⟨rfl, (Or.inl rfl)⟩) ⟨rfl, H⟩
      · have H := H.2 c
        refine s_iconst (v := 1) dX8_isAhead_216 (by decide) ?_
        refine s_goto (tgt := 221) dX8_isAhead_217 (by decide) ?_
        exact s_iret dX8_isAhead_221 (Or.inr ⟨rfl, (Or.inr rfl)⟩) ⟨rfl, H⟩
def F_X8_isAhead_153 (J : Nat → Nat → Int64) (p1 : Int32) (p2 : Int32) (x4 : Int32) (x5 : Int32) (x7 : Int32) (s0 : Int32) (V : Nat → Nat → Int32) (Qr : Option Value → (Nat → Nat → Int32) → Prop) (Qx : String → (Nat → Nat → Int32) → Prop) : Prop :=
vp_in ((6 * p2) + 4) 48 ∧
((¬ ((V 420 ((6 * p2) + 4).toNatClampNeg) + x7) = 0) →
  F_X8_isAhead_178 J p1 p2  x4 x5 s0 x7 V Qr Qx) ∧
((((V 420 ((6 * p2) + 4).toNatClampNeg) + x7) = 0) →
  F_X8_isAhead_178 J p1 p2  x4 x5 s0 1 V Qr Qx)
theorem v_X8_isAhead_153 {J : Nat → Nat → Int64} (p1 : Int32) (p2 : Int32) {Qr : Option Value → (Nat → Nat → Int32) → Prop} {Qx : String → (Nat → Nat → Int32) → Prop} (x4 : Int32) (x5 : Int32) (x7 : Int32) (s0 : Int32)  {V : Nat → Nat → Int32} (H : F_X8_isAhead_153 J p1 p2  x4 x5 x7 s0 V Qr Qx) : WPc J mX8_isAhead Qr Qx 153 [(0, .ref 405), (1, .int p1), (2, .int p2), (4, .int x4), (5, .int x5), (7, .int x7)] [.int s0] V 0 0 := by
  unfold F_X8_isAhead_153 at H
  refine t_istore (L' := [(6, .int s0), (0, .ref 405), (1, .int p1), (2, .int p2), (4, .int x4), (5, .int x5), (7, .int x7)]) dX8_isAhead_153 (by decide) rfl ?_
  refine s_aload_n dX8_isAhead_155 rfl ?_
  refine t_getR (r := 420) fl_8_53 dX8_isAhead_156 ob_405 rfl rfl ?_
  refine s_bipush (v := 6) dX8_isAhead_159 (by decide) ?_
  refine s_iload_n dX8_isAhead_161 rfl ?_
  refine s_imul dX8_isAhead_162 ?_
  refine s_iconst (v := 4) dX8_isAhead_163 (by decide) ?_
  refine s_iadd dX8_isAhead_164 ?_
  refine t_iald dX8_isAhead_165 ap_420 H.1 ?_
  have H := H.2
  refine s_iload dX8_isAhead_166 rfl ?_
  refine s_iadd dX8_isAhead_168 ?_
  refine s_if_ne (tgt := 176) dX8_isAhead_169 (by decide) (fun c => ?_) (fun c => ?_)
  · have H := H.1 c
    refine s_iload dX8_isAhead_176 rfl ?_
    exact t_loc [2, 3, 4, 5, 0] rfl (v_X8_isAhead_178 p1 p2    x4 x5 s0 x7  H)
  · have H := H.2 c
    refine s_iconst (v := 1) dX8_isAhead_172 (by decide) ?_
    refine s_goto (tgt := 178) dX8_isAhead_173 (by decide) ?_
    exact t_loc [2, 3, 4, 5, 0] rfl (v_X8_isAhead_178 p1 p2    x4 x5 s0 1  H)
def F_X8_isAhead_128 (J : Nat → Nat → Int64) (p1 : Int32) (p2 : Int32) (x4 : Int32) (x6 : Int32) (x7 : Int32) (s0 : Int32) (V : Nat → Nat → Int32) (Qr : Option Value → (Nat → Nat → Int32) → Prop) (Qx : String → (Nat → Nat → Int32) → Prop) : Prop :=
((¬ (x6 + x7) = 0) →
  ((¬ x7 = 0) →
    F_X8_isAhead_153 J p1 p2  x4 s0 x7 x6 V Qr Qx) ∧
  ((x7 = 0) →
    F_X8_isAhead_153 J p1 p2  x4 s0 x7 1 V Qr Qx)) ∧
(((x6 + x7) = 0) →
  F_X8_isAhead_153 J p1 p2  x4 s0 x7 1 V Qr Qx)
theorem v_X8_isAhead_128 {J : Nat → Nat → Int64} (p1 : Int32) (p2 : Int32) {Qr : Option Value → (Nat → Nat → Int32) → Prop} {Qx : String → (Nat → Nat → Int32) → Prop} (x4 : Int32) (x6 : Int32) (x7 : Int32) (s0 : Int32)  {V : Nat → Nat → Int32} (H : F_X8_isAhead_128 J p1 p2  x4 x6 x7 s0 V Qr Qx) : WPc J mX8_isAhead Qr Qx 128 [(0, .ref 405), (1, .int p1), (2, .int p2), (4, .int x4), (6, .int x6), (7, .int x7)] [.int s0] V 0 0 := by
  unfold F_X8_isAhead_128 at H
  refine t_istore (L' := [(5, .int s0), (0, .ref 405), (1, .int p1), (2, .int p2), (4, .int x4), (6, .int x6), (7, .int x7)]) dX8_isAhead_128 (by decide) rfl ?_
  refine s_iload dX8_isAhead_130 rfl ?_
  refine s_iload dX8_isAhead_132 rfl ?_
  refine s_iadd dX8_isAhead_134 ?_
  refine s_if_ne (tgt := 142) dX8_isAhead_135 (by decide) (fun c => ?_) (fun c => ?_)
  · have H := H.1 c
    refine s_iload dX8_isAhead_142 rfl ?_
    refine s_if_ne (tgt := 151) dX8_isAhead_144 (by decide) (fun c => ?_) (fun c => ?_)
    · have H := H.1 c
      refine s_iload dX8_isAhead_151 rfl ?_
      exact t_loc [1, 2, 3, 4, 0, 6] rfl (v_X8_isAhead_153 p1 p2    x4 s0 x7 x6  H)
    · have H := H.2 c
      refine s_iconst (v := 1) dX8_isAhead_147 (by decide) ?_
      refine s_goto (tgt := 153) dX8_isAhead_148 (by decide) ?_
      exact t_loc [1, 2, 3, 4, 0, 6] rfl (v_X8_isAhead_153 p1 p2    x4 s0 x7 1  H)
  · have H := H.2 c
    refine s_iconst (v := 1) dX8_isAhead_138 (by decide) ?_
    refine s_goto (tgt := 153) dX8_isAhead_139 (by decide) ?_
    exact t_loc [1, 2, 3, 4, 0, 6] rfl (v_X8_isAhead_153 p1 p2    x4 s0 x7 1  H)
def F_X8_isAhead_103 (J : Nat → Nat → Int64) (p1 : Int32) (p2 : Int32) (x5 : Int32) (x6 : Int32) (x7 : Int32) (s0 : Int32) (V : Nat → Nat → Int32) (Qr : Option Value → (Nat → Nat → Int32) → Prop) (Qx : String → (Nat → Nat → Int32) → Prop) : Prop :=
vp_in ((6 * p1) + 4) 48 ∧
((¬ ((V 420 ((6 * p1) + 4).toNatClampNeg) + x5) = 0) →
  F_X8_isAhead_128 J p1 p2  s0 x6 x7 x5 V Qr Qx) ∧
((((V 420 ((6 * p1) + 4).toNatClampNeg) + x5) = 0) →
  F_X8_isAhead_128 J p1 p2  s0 x6 x7 1 V Qr Qx)
theorem v_X8_isAhead_103 {J : Nat → Nat → Int64} (p1 : Int32) (p2 : Int32) {Qr : Option Value → (Nat → Nat → Int32) → Prop} {Qx : String → (Nat → Nat → Int32) → Prop} (x5 : Int32) (x6 : Int32) (x7 : Int32) (s0 : Int32)  {V : Nat → Nat → Int32} (H : F_X8_isAhead_103 J p1 p2  x5 x6 x7 s0 V Qr Qx) : WPc J mX8_isAhead Qr Qx 103 [(0, .ref 405), (1, .int p1), (2, .int p2), (5, .int x5), (6, .int x6), (7, .int x7)] [.int s0] V 0 0 := by
  unfold F_X8_isAhead_103 at H
  refine t_istore (L' := [(4, .int s0), (0, .ref 405), (1, .int p1), (2, .int p2), (5, .int x5), (6, .int x6), (7, .int x7)]) dX8_isAhead_103 (by decide) rfl ?_
  refine s_aload_n dX8_isAhead_105 rfl ?_
  refine t_getR (r := 420) fl_8_53 dX8_isAhead_106 ob_405 rfl rfl ?_
  refine s_bipush (v := 6) dX8_isAhead_109 (by decide) ?_
  refine s_iload_n dX8_isAhead_111 rfl ?_
  refine s_imul dX8_isAhead_112 ?_
  refine s_iconst (v := 4) dX8_isAhead_113 (by decide) ?_
  refine s_iadd dX8_isAhead_114 ?_
  refine t_iald dX8_isAhead_115 ap_420 H.1 ?_
  have H := H.2
  refine s_iload dX8_isAhead_116 rfl ?_
  refine s_iadd dX8_isAhead_118 ?_
  refine s_if_ne (tgt := 126) dX8_isAhead_119 (by decide) (fun c => ?_) (fun c => ?_)
  · have H := H.1 c
    refine s_iload dX8_isAhead_126 rfl ?_
    exact t_loc [1, 2, 3, 0, 5, 6] rfl (v_X8_isAhead_128 p1 p2    s0 x6 x7 x5  H)
  · have H := H.2 c
    refine s_iconst (v := 1) dX8_isAhead_122 (by decide) ?_
    refine s_goto (tgt := 128) dX8_isAhead_123 (by decide) ?_
    exact t_loc [1, 2, 3, 0, 5, 6] rfl (v_X8_isAhead_128 p1 p2    s0 x6 x7 1  H)
def F_X8_isAhead (J : Nat → Nat → Int64) (p1 : Int32) (p2 : Int32) (V : Nat → Nat → Int32) (Qr : Option Value → (Nat → Nat → Int32) → Prop) (Qx : String → (Nat → Nat → Int32) → Prop) : Prop :=
vp_in ((6 * p1) + 3) 48 ∧
vp_in ((6 * p2) + 3) 48 ∧
((¬ ((V 420 ((6 * p1) + 3).toNatClampNeg) - (V 420 ((6 * p2) + 3).toNatClampNeg)) = 0) →
  ((((V 420 ((6 * p1) + 3).toNatClampNeg) - (V 420 ((6 * p2) + 3).toNatClampNeg)) ≤ 0) →
    Qr (some (.int 0)) V) ∧
  ((¬ ((V 420 ((6 * p1) + 3).toNatClampNeg) - (V 420 ((6 * p2) + 3).toNatClampNeg)) ≤ 0) →
    Qr (some (.int 1)) V)) ∧
((((V 420 ((6 * p1) + 3).toNatClampNeg) - (V 420 ((6 * p2) + 3).toNatClampNeg)) = 0) →
  vp_in ((6 * p1) + 4) 48 ∧
  vp_in ((6 * p1) + 5) 48 ∧
  vp_in ((6 * p2) + 4) 48 ∧
  vp_in ((6 * p2) + 5) 48 ∧
  ((¬ ((V 420 ((6 * p1) + 4).toNatClampNeg) + (V 420 ((6 * p1) + 5).toNatClampNeg)) = 0) →
    ((¬ (V 420 ((6 * p1) + 5).toNatClampNeg) = 0) →
      F_X8_isAhead_103 J p1 p2  (V 420 ((6 * p1) + 5).toNatClampNeg) (V 420 ((6 * p2) + 4).toNatClampNeg) (V 420 ((6 * p2) + 5).toNatClampNeg) (V 420 ((6 * p1) + 4).toNatClampNeg) V Qr Qx) ∧
    (((V 420 ((6 * p1) + 5).toNatClampNeg) = 0) →
      F_X8_isAhead_103 J p1 p2  (V 420 ((6 * p1) + 5).toNatClampNeg) (V 420 ((6 * p2) + 4).toNatClampNeg) (V 420 ((6 * p2) + 5).toNatClampNeg) 1 V Qr Qx)) ∧
  ((((V 420 ((6 * p1) + 4).toNatClampNeg) + (V 420 ((6 * p1) + 5).toNatClampNeg)) = 0) →
    F_X8_isAhead_103 J p1 p2  (V 420 ((6 * p1) + 5).toNatClampNeg) (V 420 ((6 * p2) + 4).toNatClampNeg) (V 420 ((6 * p2) + 5).toNatClampNeg) 1 V Qr Qx))
theorem v_X8_isAhead {J : Nat → Nat → Int64} (p1 : Int32) (p2 : Int32) {V : Nat → Nat → Int32} {Qr : Option Value → (Nat → Nat → Int32) → Prop} {Qx : String → (Nat → Nat → Int32) → Prop} (H : F_X8_isAhead J p1 p2 V Qr Qx) : CTc J mX8_isAhead [.ref 405, .int p1, .int p2] V Qr Qx := by
  refine ctc_of (M := (T0 J, V)) pX8_isAhead (fun _ _ => rfl) (Nat.le_of_ble_eq_true rfl) ?_
  unfold F_X8_isAhead at H
  show WPc J mX8_isAhead Qr Qx 0 [(0, .ref 405), (1, .int p1), (2, .int p2)] [] V 0 0
  refine s_aload_n dX8_isAhead_0 rfl ?_
  refine t_getR (r := 420) fl_8_53 dX8_isAhead_1 ob_405 rfl rfl ?_
  refine s_bipush (v := 6) dX8_isAhead_4 (by decide) ?_
  refine s_iload_n dX8_isAhead_6 rfl ?_
  refine s_imul dX8_isAhead_7 ?_
  refine s_iconst (v := 3) dX8_isAhead_8 (by decide) ?_
  refine s_iadd dX8_isAhead_9 ?_
  refine t_iald dX8_isAhead_10 ap_420 H.1 ?_
  have H := H.2
  refine s_aload_n dX8_isAhead_11 rfl ?_
  refine t_getR (r := 420) fl_8_53 dX8_isAhead_12 ob_405 rfl rfl ?_
  refine s_bipush (v := 6) dX8_isAhead_15 (by decide) ?_
  refine s_iload_n dX8_isAhead_17 rfl ?_
  refine s_imul dX8_isAhead_18 ?_
  refine s_iconst (v := 3) dX8_isAhead_19 (by decide) ?_
  refine s_iadd dX8_isAhead_20 ?_
  refine t_iald dX8_isAhead_21 ap_420 H.1 ?_
  have H := H.2
  refine s_isub dX8_isAhead_22 ?_
  refine t_istore_n (L' := [(3, .int ((V 420 ((6 * p1) + 3).toNatClampNeg) - (V 420 ((6 * p2) + 3).toNatClampNeg))), (0, .ref 405), (1, .int p1), (2, .int p2)]) dX8_isAhead_23 (by decide) rfl ?_
  refine s_iload_n dX8_isAhead_24 rfl ?_
  refine s_if_ne (tgt := 222) dX8_isAhead_25 (by decide) (fun c => ?_) (fun c => ?_)
  · have H := H.1 c
    refine s_iload_n dX8_isAhead_222 rfl ?_
    refine s_if_le (tgt := 230) dX8_isAhead_223 (by decide) (fun c => ?_) (fun c => ?_)
    · have H := H.1 c
      refine s_iconst (v := 0) dX8_isAhead_230 (by decide) ?_
      exact s_iret dX8_isAhead_231 (Or.inr ⟨rfl, (Or.inl rfl)⟩) ⟨rfl, H⟩
    · have H := H.2 c
      refine s_iconst (v := 1) dX8_isAhead_226 (by decide) ?_
      refine s_goto (tgt := 231) dX8_isAhead_227 (by decide) ?_
      exact s_iret dX8_isAhead_231 (Or.inr ⟨rfl, (Or.inr rfl)⟩) ⟨rfl, H⟩
  · have H := H.2 c
    refine s_aload_n dX8_isAhead_28 rfl ?_
    refine t_getR (r := 420) fl_8_53 dX8_isAhead_29 ob_405 rfl rfl ?_
    refine s_bipush (v := 6) dX8_isAhead_32 (by decide) ?_
    refine s_iload_n dX8_isAhead_34 rfl ?_
    refine s_imul dX8_isAhead_35 ?_
    refine s_iconst (v := 4) dX8_isAhead_36 (by decide) ?_
    refine s_iadd dX8_isAhead_37 ?_
    refine t_iald dX8_isAhead_38 ap_420 H.1 ?_
    have H := H.2
    refine t_istore (L' := [(4, .int (V 420 ((6 * p1) + 4).toNatClampNeg)), (3, .int ((V 420 ((6 * p1) + 3).toNatClampNeg) - (V 420 ((6 * p2) + 3).toNatClampNeg))), (0, .ref 405), (1, .int p1), (2, .int p2)]) dX8_isAhead_39 (by decide) rfl ?_
    refine s_aload_n dX8_isAhead_41 rfl ?_
    refine t_getR (r := 420) fl_8_53 dX8_isAhead_42 ob_405 rfl rfl ?_
    refine s_bipush (v := 6) dX8_isAhead_45 (by decide) ?_
    refine s_iload_n dX8_isAhead_47 rfl ?_
    refine s_imul dX8_isAhead_48 ?_
    refine s_iconst (v := 5) dX8_isAhead_49 (by decide) ?_
    refine s_iadd dX8_isAhead_50 ?_
    refine t_iald dX8_isAhead_51 ap_420 H.1 ?_
    have H := H.2
    refine t_istore (L' := [(5, .int (V 420 ((6 * p1) + 5).toNatClampNeg)), (4, .int (V 420 ((6 * p1) + 4).toNatClampNeg)), (3, .int ((V 420 ((6 * p1) + 3).toNatClampNeg) - (V 420 ((6 * p2) + 3).toNatClampNeg))), (0, .ref 405), (1, .int p1), (2, .int p2)]) dX8_isAhead_52 (by decide) rfl ?_
    refine s_aload_n dX8_isAhead_54 rfl ?_
    refine t_getR (r := 420) fl_8_53 dX8_isAhead_55 ob_405 rfl rfl ?_
    refine s_bipush (v := 6) dX8_isAhead_58 (by decide) ?_
    refine s_iload_n dX8_isAhead_60 rfl ?_
    refine s_imul dX8_isAhead_61 ?_
    refine s_iconst (v := 4) dX8_isAhead_62 (by decide) ?_
    refine s_iadd dX8_isAhead_63 ?_
    refine t_iald dX8_isAhead_64 ap_420 H.1 ?_
    have H := H.2
    refine t_istore (L' := [(6, .int (V 420 ((6 * p2) + 4).toNatClampNeg)), (5, .int (V 420 ((6 * p1) + 5).toNatClampNeg)), (4, .int (V 420 ((6 * p1) + 4).toNatClampNeg)), (3, .int ((V 420 ((6 * p1) + 3).toNatClampNeg) - (V 420 ((6 * p2) + 3).toNatClampNeg))), (0, .ref 405), (1, .int p1), (2, .int p2)]) dX8_isAhead_65 (by decide) rfl ?_
    refine s_aload_n dX8_isAhead_67 rfl ?_
    refine t_getR (r := 420) fl_8_53 dX8_isAhead_68 ob_405 rfl rfl ?_
    refine s_bipush (v := 6) dX8_isAhead_71 (by decide) ?_
    refine s_iload_n dX8_isAhead_73 rfl ?_
    refine s_imul dX8_isAhead_74 ?_
    refine s_iconst (v := 5) dX8_isAhead_75 (by decide) ?_
    refine s_iadd dX8_isAhead_76 ?_
    refine t_iald dX8_isAhead_77 ap_420 H.1 ?_
    have H := H.2
    refine t_istore (L' := [(7, .int (V 420 ((6 * p2) + 5).toNatClampNeg)), (6, .int (V 420 ((6 * p2) + 4).toNatClampNeg)), (5, .int (V 420 ((6 * p1) + 5).toNatClampNeg)), (4, .int (V 420 ((6 * p1) + 4).toNatClampNeg)), (3, .int ((V 420 ((6 * p1) + 3).toNatClampNeg) - (V 420 ((6 * p2) + 3).toNatClampNeg))), (0, .ref 405), (1, .int p1), (2, .int p2)]) dX8_isAhead_78 (by decide) rfl ?_
    refine s_iload dX8_isAhead_80 rfl ?_
    refine s_iload dX8_isAhead_82 rfl ?_
    refine s_iadd dX8_isAhead_84 ?_
    refine s_if_ne (tgt := 92) dX8_isAhead_85 (by decide) (fun c => ?_) (fun c => ?_)
    · have H := H.1 c
      refine s_iload dX8_isAhead_92 rfl ?_
      refine s_if_ne (tgt := 101) dX8_isAhead_94 (by decide) (fun c => ?_) (fun c => ?_)
      · have H := H.1 c
        refine s_iload dX8_isAhead_101 rfl ?_
        exact t_loc [5, 6, 7, 2, 1, 0] rfl (v_X8_isAhead_103 p1 p2    (V 420 ((6 * p1) + 5).toNatClampNeg) (V 420 ((6 * p2) + 4).toNatClampNeg) (V 420 ((6 * p2) + 5).toNatClampNeg) (V 420 ((6 * p1) + 4).toNatClampNeg)  H)
      · have H := H.2 c
        refine s_iconst (v := 1) dX8_isAhead_97 (by decide) ?_
        refine s_goto (tgt := 103) dX8_isAhead_98 (by decide) ?_
        exact t_loc [5, 6, 7, 2, 1, 0] rfl (v_X8_isAhead_103 p1 p2    (V 420 ((6 * p1) + 5).toNatClampNeg) (V 420 ((6 * p2) + 4).toNatClampNeg) (V 420 ((6 * p2) + 5).toNatClampNeg) 1  H)
    · have H := H.2 c
      refine s_iconst (v := 1) dX8_isAhead_88 (by decide) ?_
      refine s_goto (tgt := 103) dX8_isAhead_89 (by decide) ?_
      exact t_loc [5, 6, 7, 2, 1, 0] rfl (v_X8_isAhead_103 p1 p2    (V 420 ((6 * p1) + 5).toNatClampNeg) (V 420 ((6 * p2) + 4).toNatClampNeg) (V 420 ((6 * p2) + 5).toNatClampNeg) 1  H)

def F_X8_rankOf_30 (J : Nat → Nat → Int64) (p1 : Int32) (K4 : Int32 → Int32 → (Nat → Nat → Int32) → Prop) (x3 : Int32) (s0 : Int32) (s1 : Int32) (V : Nat → Nat → Int32) (Qr : Option Value → (Nat → Nat → Int32) → Prop) (Qx : String → (Nat → Nat → Int32) → Prop) : Prop :=
K4 (s1 + s0) (x3 + 1) V
theorem v_X8_rankOf_30 {J : Nat → Nat → Int64} (p1 : Int32) {Qr : Option Value → (Nat → Nat → Int32) → Prop} {Qx : String → (Nat → Nat → Int32) → Prop} (K4 : Int32 → Int32 → (Nat → Nat → Int32) → Prop) (hK4 : ∀ (x2 : Int32) (x3 : Int32)  (V : Nat → Nat → Int32), K4 x2 x3 V → WPc J mX8_rankOf Qr Qx 4 [(0, .ref 405), (1, .int p1), (2, .int x2), (3, .int x3)] [] V 0 0) (x3 : Int32) (s0 : Int32) (s1 : Int32)  {V : Nat → Nat → Int32} (H : F_X8_rankOf_30 J p1 K4 x3 s0 s1 V Qr Qx) : WPc J mX8_rankOf Qr Qx 30 [(0, .ref 405), (1, .int p1), (3, .int x3)] [.int s0, .int s1] V 0 0 := by
  unfold F_X8_rankOf_30 at H
  refine s_iadd dX8_rankOf_30 ?_
  refine t_istore_n (L' := [(2, .int (s1 + s0)), (0, .ref 405), (1, .int p1), (3, .int x3)]) dX8_rankOf_31 (by decide) rfl ?_
  refine t_iinc (v := (x3 + 1)) (L' := [(3, .int (x3 + 1)), (2, .int (s1 + s0)), (0, .ref 405), (1, .int p1)]) dX8_rankOf_32 rfl (by rfl) (by decide) rfl ?_
  refine s_goto (tgt := 4) dX8_rankOf_35 (by decide) ?_
  exact t_loc [2, 3, 1, 0] rfl (hK4 (s1 + s0) (x3 + 1)  V H)
def F_X8_rankOf_29 (J : Nat → Nat → Int64) (p1 : Int32) (K4 : Int32 → Int32 → (Nat → Nat → Int32) → Prop) (x3 : Int32) (s0 : Int32) (V : Nat → Nat → Int32) (Qr : Option Value → (Nat → Nat → Int32) → Prop) (Qx : String → (Nat → Nat → Int32) → Prop) : Prop :=
F_X8_rankOf_30 J p1 K4 x3 0 s0 V Qr Qx
theorem v_X8_rankOf_29 {J : Nat → Nat → Int64} (p1 : Int32) {Qr : Option Value → (Nat → Nat → Int32) → Prop} {Qx : String → (Nat → Nat → Int32) → Prop} (K4 : Int32 → Int32 → (Nat → Nat → Int32) → Prop) (hK4 : ∀ (x2 : Int32) (x3 : Int32)  (V : Nat → Nat → Int32), K4 x2 x3 V → WPc J mX8_rankOf Qr Qx 4 [(0, .ref 405), (1, .int p1), (2, .int x2), (3, .int x3)] [] V 0 0) (x3 : Int32) (s0 : Int32)  {V : Nat → Nat → Int32} (H : F_X8_rankOf_29 J p1 K4 x3 s0 V Qr Qx) : WPc J mX8_rankOf Qr Qx 29 [(0, .ref 405), (1, .int p1), (3, .int x3)] [.int s0] V 0 0 := by
  unfold F_X8_rankOf_29 at H
  refine s_iconst (v := 0) dX8_rankOf_29 (by decide) ?_
  exact t_loc [0, 1, 2] rfl (v_X8_rankOf_30 p1  K4 hK4 x3 0 s0  H)
def B_X8_rankOf_4 (J : Nat → Nat → Int64) (p1 : Int32) (K4 : Int32 → Int32 → (Nat → Nat → Int32) → Prop) (x2 : Int32) (x3 : Int32) (V : Nat → Nat → Int32) (Qr : Option Value → (Nat → Nat → Int32) → Prop) (Qx : String → (Nat → Nat → Int32) → Prop) : Prop :=
((8 ≤ x3) →
  Qr (some (.int x2)) V) ∧
((¬ 8 ≤ x3) →
  ((x3 = p1) →
    F_X8_rankOf_29 J p1 K4 x3 x2 V Qr Qx) ∧
  ((¬ x3 = p1) →
    CTc J mX8_isAhead [.ref 405, .int x3, .int p1] V (fun r V1 =>
      ∃ b1 : Bool, r = some (.int (bI b1)) ∧
      ((b1 = false) →
        F_X8_rankOf_29 J p1 K4 x3 x2 V1 Qr Qx) ∧
      ((b1 = true) →
        F_X8_rankOf_30 J p1 K4 x3 1 x2 V1 Qr Qx)) Qx))
def F_X8_rankOf_4 (J : Nat → Nat → Int64) (p1 : Int32) (x2 : Int32) (x3 : Int32) (V : Nat → Nat → Int32) (Qr : Option Value → (Nat → Nat → Int32) → Prop) (Qx : String → (Nat → Nat → Int32) → Prop) : Prop :=
  ∃ I : Nat → Int32 → Int32 → (Nat → Nat → Int32) → Prop, (∃ n, I n x2 x3 V) ∧ ∀ n (x2 : Int32) (x3 : Int32) (V : Nat → Nat → Int32), I n x2 x3 V → B_X8_rankOf_4 J p1  (fun x2 x3 V => ∃ n', n' < n ∧ I n' x2 x3 V) x2 x3 V Qr Qx
theorem v_X8_rankOf_4 {J : Nat → Nat → Int64} (p1 : Int32) {Qr : Option Value → (Nat → Nat → Int32) → Prop} {Qx : String → (Nat → Nat → Int32) → Prop} (x2 : Int32) (x3 : Int32)  {V : Nat → Nat → Int32} (H : F_X8_rankOf_4 J p1  x2 x3 V Qr Qx) : WPc J mX8_rankOf Qr Qx 4 [(0, .ref 405), (1, .int p1), (2, .int x2), (3, .int x3)] [] V 0 0 := by
  obtain ⟨I, ⟨n0, h0⟩, hs⟩ := H
  have step : ∀ (K4 : Int32 → Int32 → (Nat → Nat → Int32) → Prop), (∀ (x2 : Int32) (x3 : Int32)  (V : Nat → Nat → Int32), K4 x2 x3 V → WPc J mX8_rankOf Qr Qx 4 [(0, .ref 405), (1, .int p1), (2, .int x2), (3, .int x3)] [] V 0 0) → ∀ (x2 : Int32) (x3 : Int32)  (V : Nat → Nat → Int32), B_X8_rankOf_4 J p1  K4 x2 x3 V Qr Qx → WPc J mX8_rankOf Qr Qx 4 [(0, .ref 405), (1, .int p1), (2, .int x2), (3, .int x3)] [] V 0 0 := by
    intro K4 hK4 x2 x3  V H
    unfold B_X8_rankOf_4 at H
    refine s_iload_n dX8_rankOf_4 rfl ?_
    refine s_bipush (v := 8) dX8_rankOf_5 (by decide) ?_
    refine s_icmp_ge (tgt := 38) dX8_rankOf_7 (by decide) (fun c => ?_) (fun c => ?_)
    · have H := H.1 c
      refine s_iload_n dX8_rankOf_38 rfl ?_
      exact s_iret dX8_rankOf_39 (Or.inl rfl) ⟨rfl, H⟩
    · have H := H.2 c
      refine s_iload_n dX8_rankOf_10 rfl ?_
      refine s_iload_n dX8_rankOf_11 rfl ?_
      refine s_iload_n dX8_rankOf_12 rfl ?_
      refine s_icmp_eq (tgt := 29) dX8_rankOf_13 (by decide) (fun c => ?_) (fun c => ?_)
      · have H := H.1 c
        exact t_loc [0, 1, 3] rfl (v_X8_rankOf_29 p1  K4 hK4 x3 x2  H)
      · have H := H.2 c
        refine s_aload_n dX8_rankOf_16 rfl ?_
        refine s_iload_n dX8_rankOf_17 rfl ?_
        refine s_iload_n dX8_rankOf_18 rfl ?_
        refine t_cV (h := 405) (As := [.int x3, .int p1]) (st := [.int x2]) iv_8_267 dX8_rankOf_19 ⟨by decide, by decide⟩ rfl (Nat.le_of_ble_eq_true rfl) (by decide) (by decide) rfl ob_405 H (fun r V1 H => ?_)
        obtain ⟨b1, rfl, H⟩ := H
        refine s_if_eq (tgt := 29) dX8_rankOf_22 (by decide) (fun c => ?_) (fun c => ?_)
        · have H := H.1 (bI_f c)
          exact t_loc [0, 1, 3] rfl (v_X8_rankOf_29 p1  K4 hK4 x3 x2  H)
        · have H := H.2 (bI_t c)
          refine s_iconst (v := 1) dX8_rankOf_25 (by decide) ?_
          refine s_goto (tgt := 30) dX8_rankOf_26 (by decide) ?_
          exact t_loc [0, 1, 3] rfl (v_X8_rankOf_30 p1  K4 hK4 x3 1 x2  H)
  have key : ∀ n, ∀ (x2 : Int32) (x3 : Int32)  (V : Nat → Nat → Int32), I n x2 x3 V → WPc J mX8_rankOf Qr Qx 4 [(0, .ref 405), (1, .int p1), (2, .int x2), (3, .int x3)] [] V 0 0 := by
    refine strong (fun n ih => ?_)
    intro x2 x3  V hI
    exact step _ (fun x2 x3  V hz => Exists.elim hz (fun n1 hz => ih n1 hz.1 x2 x3  V hz.2)) x2 x3  V (hs n x2 x3 V hI)
  exact key n0 x2 x3  V h0
def F_X8_rankOf (J : Nat → Nat → Int64) (p1 : Int32) (V : Nat → Nat → Int32) (Qr : Option Value → (Nat → Nat → Int32) → Prop) (Qx : String → (Nat → Nat → Int32) → Prop) : Prop :=
F_X8_rankOf_4 J p1  0 0 V Qr Qx
theorem v_X8_rankOf {J : Nat → Nat → Int64} (p1 : Int32) {V : Nat → Nat → Int32} {Qr : Option Value → (Nat → Nat → Int32) → Prop} {Qx : String → (Nat → Nat → Int32) → Prop} (H : F_X8_rankOf J p1 V Qr Qx) : CTc J mX8_rankOf [.ref 405, .int p1] V Qr Qx := by
  refine ctc_of (M := (T0 J, V)) pX8_rankOf (fun _ _ => rfl) (Nat.le_of_ble_eq_true rfl) ?_
  unfold F_X8_rankOf at H
  show WPc J mX8_rankOf Qr Qx 0 [(0, .ref 405), (1, .int p1)] [] V 0 0
  refine s_iconst (v := 0) dX8_rankOf_0 (by decide) ?_
  refine t_istore_n (L' := [(2, .int 0), (0, .ref 405), (1, .int p1)]) dX8_rankOf_1 (by decide) rfl ?_
  refine s_iconst (v := 0) dX8_rankOf_2 (by decide) ?_
  refine t_istore_n (L' := [(3, .int 0), (2, .int 0), (0, .ref 405), (1, .int p1)]) dX8_rankOf_3 (by decide) rfl ?_
  exact t_loc [2, 3, 1, 0] rfl (v_X8_rankOf_4 p1    0 0  H)

def F_X8_club_27 (J : Nat → Nat → Int64) (p1 : Int32) (p2 : Int32) (s0 : Int32) (V : Nat → Nat → Int32) (Qr : Option Value → (Nat → Nat → Int32) → Prop) (Qx : String → (Nat → Nat → Int32) → Prop) : Prop :=
CTc J mX8_holds [.ref 405, .int s0] V (fun r V1 =>
  ∃ b1 : Bool, r = some (.int (bI b1)) ∧
  ((b1 = true) →
    ((6 ≤ p2) →
      CTc J mX8_rankOf [.ref 405, .int p1] V1 (fun r V2 =>
        ∃ r2 : Int32, r = some (.int r2) ∧
        Qr (some (.int r2)) V2) Qx) ∧
    ((¬ 6 ≤ p2) →
      vp_in ((6 * p1) + p2) 48 ∧
      Qr (some (.int (V1 420 ((6 * p1) + p2).toNatClampNeg))) V1)) ∧
  ((b1 = false) →
    Qr (some (.int 0)) V1)) Qx
theorem v_X8_club_27 {J : Nat → Nat → Int64} (p1 : Int32) (p2 : Int32) {Qr : Option Value → (Nat → Nat → Int32) → Prop} {Qx : String → (Nat → Nat → Int32) → Prop} (s0 : Int32)  {V : Nat → Nat → Int32} (H : F_X8_club_27 J p1 p2  s0 V Qr Qx) : WPc J mX8_club Qr Qx 27 [(0, .ref 405), (1, .int p1), (2, .int p2)] [.int s0, .ref 405] V 0 0 := by
  unfold F_X8_club_27 at H
  refine t_cV (h := 405) (As := [.int s0]) (st := []) iv_8_169 dX8_club_27 ⟨by decide, by decide⟩ rfl (Nat.le_of_ble_eq_true rfl) (by decide) (by decide) rfl ob_405 H (fun r V1 H => ?_)
  obtain ⟨b1, rfl, H⟩ := H
  refine s_if_ne (tgt := 35) dX8_club_30 (by decide) (fun c => ?_) (fun c => ?_)
  · have H := H.1 (bI_t c)
    refine s_iload_n dX8_club_35 rfl ?_
    refine s_bipush (v := 6) dX8_club_36 (by decide) ?_
    refine s_icmp_ge (tgt := 55) dX8_club_38 (by decide) (fun c => ?_) (fun c => ?_)
    · have H := H.1 c
      refine s_aload_n dX8_club_55 rfl ?_
      refine s_iload_n dX8_club_56 rfl ?_
      refine t_cV (h := 405) (As := [.int p1]) (st := []) iv_8_270 dX8_club_57 ⟨by decide, by decide⟩ rfl (Nat.le_of_ble_eq_true rfl) (by decide) (by decide) rfl ob_405 H (fun r V2 H => ?_)
      obtain ⟨r2, rfl, H⟩ := H
      exact s_iret dX8_club_60 (Or.inl rfl) ⟨rfl, H⟩
    · have H := H.2 c
      refine s_aload_n dX8_club_41 rfl ?_
      refine t_getR (r := 420) fl_8_53 dX8_club_42 ob_405 rfl rfl ?_
      refine s_bipush (v := 6) dX8_club_45 (by decide) ?_
      refine s_iload_n dX8_club_47 rfl ?_
      refine s_imul dX8_club_48 ?_
      refine s_iload_n dX8_club_49 rfl ?_
      refine s_iadd dX8_club_50 ?_
      refine t_iald dX8_club_51 ap_420 H.1 ?_
      have H := H.2
      refine s_goto (tgt := 60) dX8_club_52 (by decide) ?_
      exact s_iret dX8_club_60 (Or.inl rfl) ⟨rfl, H⟩
  · have H := H.2 (bI_f c)
    refine s_iconst (v := 0) dX8_club_33 (by decide) ?_
    exact s_iret dX8_club_34 (Or.inl rfl) ⟨rfl, H⟩
def F_X8_club (J : Nat → Nat → Int64) (p1 : Int32) (p2 : Int32) (V : Nat → Nat → Int32) (Qr : Option Value → (Nat → Nat → Int32) → Prop) (Qx : String → (Nat → Nat → Int32) → Prop) : Prop :=
CTc J mX8_isClub [.int p1] V (fun r V1 =>
  ∃ b1 : Bool, r = some (.int (bI b1)) ∧
  ((b1 = true) →
    CTc J mX8_in [.int p2, .int 0, .int 6] V1 (fun r V2 =>
      ∃ b2 : Bool, r = some (.int (bI b2)) ∧
      ((b2 = false) →
        F_X8_club_27 J p1 p2  2 V2 Qr Qx) ∧
      ((b2 = true) →
        F_X8_club_27 J p1 p2  0 V2 Qr Qx)) Qx) ∧
  ((b1 = false) →
    F_X8_club_27 J p1 p2  1 V1 Qr Qx)) Qx
theorem v_X8_club {J : Nat → Nat → Int64} (p1 : Int32) (p2 : Int32) {V : Nat → Nat → Int32} {Qr : Option Value → (Nat → Nat → Int32) → Prop} {Qx : String → (Nat → Nat → Int32) → Prop} (H : F_X8_club J p1 p2 V Qr Qx) : CTc J mX8_club [.ref 405, .int p1, .int p2] V Qr Qx := by
  refine ctc_of (M := (T0 J, V)) pX8_club (fun _ _ => rfl) (Nat.le_of_ble_eq_true rfl) ?_
  unfold F_X8_club at H
  show WPc J mX8_club Qr Qx 0 [(0, .ref 405), (1, .int p1), (2, .int p2)] [] V 0 0
  refine s_aload_n dX8_club_0 rfl ?_
  refine s_iload_n dX8_club_1 rfl ?_
  refine t_cS (As := [.int p1]) (st := [.ref 405]) iv_8_163 dX8_club_2 ⟨by decide, by decide⟩ rfl (Nat.le_of_ble_eq_true rfl) (by decide) (by decide) rfl H (fun r V1 H => ?_)
  obtain ⟨b1, rfl, H⟩ := H
  refine s_if_ne (tgt := 12) dX8_club_5 (by decide) (fun c => ?_) (fun c => ?_)
  · have H := H.1 (bI_t c)
    refine s_iload_n dX8_club_12 rfl ?_
    refine s_iconst (v := 0) dX8_club_13 (by decide) ?_
    refine s_bipush (v := 6) dX8_club_14 (by decide) ?_
    refine t_cS (As := [.int p2, .int 0, .int 6]) (st := [.ref 405]) iv_8_81 dX8_club_16 ⟨by decide, by decide⟩ rfl (Nat.le_of_ble_eq_true rfl) (by decide) (by decide) rfl H (fun r V2 H => ?_)
    obtain ⟨b2, rfl, H⟩ := H
    refine s_if_eq (tgt := 26) dX8_club_19 (by decide) (fun c => ?_) (fun c => ?_)
    · have H := H.1 (bI_f c)
      refine s_iconst (v := 2) dX8_club_26 (by decide) ?_
      exact t_loc [0, 1, 2] rfl (v_X8_club_27 p1 p2    2  H)
    · have H := H.2 (bI_t c)
      refine s_iconst (v := 0) dX8_club_22 (by decide) ?_
      refine s_goto (tgt := 27) dX8_club_23 (by decide) ?_
      exact t_loc [0, 1, 2] rfl (v_X8_club_27 p1 p2    0  H)
  · have H := H.2 (bI_f c)
    refine s_iconst (v := 1) dX8_club_8 (by decide) ?_
    refine s_goto (tgt := 27) dX8_club_9 (by decide) ?_
    exact t_loc [0, 1, 2] rfl (v_X8_club_27 p1 p2    1  H)

def F_X8_baseOf (J : Nat → Nat → Int64) (p1 : Int32) (V : Nat → Nat → Int32) (Qr : Option Value → (Nat → Nat → Int32) → Prop) (Qx : String → (Nat → Nat → Int32) → Prop) : Prop :=
((¬ (p1 - p1 / 3 * 3) = 0) →
  ((¬ (p1 - p1 / 3 * 3) = 1) →
    Qr (some (.int 10)) V) ∧
  (((p1 - p1 / 3 * 3) = 1) →
    Qr (some (.int 30)) V)) ∧
(((p1 - p1 / 3 * 3) = 0) →
  Qr (some (.int 50)) V)
theorem v_X8_baseOf {J : Nat → Nat → Int64} (p1 : Int32) {V : Nat → Nat → Int32} {Qr : Option Value → (Nat → Nat → Int32) → Prop} {Qx : String → (Nat → Nat → Int32) → Prop} (H : F_X8_baseOf J p1 V Qr Qx) : CTc J mX8_baseOf [.int p1] V Qr Qx := by
  refine ctc_of (M := (T0 J, V)) pX8_baseOf (fun _ _ => rfl) (Nat.le_of_ble_eq_true rfl) ?_
  unfold F_X8_baseOf at H
  show WPc J mX8_baseOf Qr Qx 0 [(0, .int p1)] [] V 0 0
  refine s_iload_n dX8_baseOf_0 rfl ?_
  refine s_iconst (v := 3) dX8_baseOf_1 (by decide) ?_
  refine s_irem dX8_baseOf_2 (by decide) ?_
  refine s_if_ne (tgt := 11) dX8_baseOf_3 (by decide) (fun c => ?_) (fun c => ?_)
  · have H := H.1 c
    refine s_iload_n dX8_baseOf_11 rfl ?_
    refine s_iconst (v := 3) dX8_baseOf_12 (by decide) ?_
    refine s_irem dX8_baseOf_13 (by decide) ?_
    refine s_iconst (v := 1) dX8_baseOf_14 (by decide) ?_
    refine s_icmp_ne (tgt := 23) dX8_baseOf_15 (by decide) (fun c => ?_) (fun c => ?_)
    · have H := H.1 c
      refine s_bipush (v := 10) dX8_baseOf_23 (by decide) ?_
      exact s_iret dX8_baseOf_25 (Or.inl rfl) ⟨rfl, H⟩
    · have H := H.2 c
      refine s_bipush (v := 30) dX8_baseOf_18 (by decide) ?_
      refine s_goto (tgt := 25) dX8_baseOf_20 (by decide) ?_
      exact s_iret dX8_baseOf_25 (Or.inl rfl) ⟨rfl, H⟩
  · have H := H.2 c
    refine s_bipush (v := 50) dX8_baseOf_6 (by decide) ?_
    refine s_goto (tgt := 25) dX8_baseOf_8 (by decide) ?_
    exact s_iret dX8_baseOf_25 (Or.inl rfl) ⟨rfl, H⟩

def F_X8_isForeign (J : Nat → Nat → Int64) (p1 : Int32) (V : Nat → Nat → Int32) (Qr : Option Value → (Nat → Nat → Int32) → Prop) (Qx : String → (Nat → Nat → Int32) → Prop) : Prop :=
((¬ (p1 - p1 / 4 * 4) = 0) →
  Qr (some (.int 0)) V) ∧
(((p1 - p1 / 4 * 4) = 0) →
  Qr (some (.int 1)) V)
theorem v_X8_isForeign {J : Nat → Nat → Int64} (p1 : Int32) {V : Nat → Nat → Int32} {Qr : Option Value → (Nat → Nat → Int32) → Prop} {Qx : String → (Nat → Nat → Int32) → Prop} (H : F_X8_isForeign J p1 V Qr Qx) : CTc J mX8_isForeign [.int p1] V Qr Qx := by
  refine ctc_of (M := (T0 J, V)) pX8_isForeign (fun _ _ => rfl) (Nat.le_of_ble_eq_true rfl) ?_
  unfold F_X8_isForeign at H
  show WPc J mX8_isForeign Qr Qx 0 [(0, .int p1)] [] V 0 0
  refine s_iload_n dX8_isForeign_0 rfl ?_
  refine s_iconst (v := 4) dX8_isForeign_1 (by decide) ?_
  refine s_irem dX8_isForeign_2 (by decide) ?_
  refine s_if_ne (tgt := 10) dX8_isForeign_3 (by decide) (fun c => ?_) (fun c => ?_)
  · have H := H.1 c
    refine s_iconst (v := 0) dX8_isForeign_10 (by decide) ?_
    exact s_iret dX8_isForeign_11 (Or.inr ⟨rfl, (Or.inl rfl)⟩) ⟨rfl, H⟩
  · have H := H.2 c
    refine s_iconst (v := 1) dX8_isForeign_6 (by decide) ?_
    refine s_goto (tgt := 11) dX8_isForeign_7 (by decide) ?_
    exact s_iret dX8_isForeign_11 (Or.inr ⟨rfl, (Or.inr rfl)⟩) ⟨rfl, H⟩

def F_X8_canBid (J : Nat → Nat → Int64) (p1 : Int32) (p2 : Int32) (p3 : Int32) (V : Nat → Nat → Int32) (Qr : Option Value → (Nat → Nat → Int32) → Prop) (Qx : String → (Nat → Nat → Int32) → Prop) : Prop :=
vp_in p1 8 ∧
(((V 421 p1.toNatClampNeg) < p3) →
  Qr (some (.int 0)) V) ∧
((¬ (V 421 p1.toNatClampNeg) < p3) →
  vp_in p1 8 ∧
  ((6 ≤ (V 422 p1.toNatClampNeg)) →
    Qr (some (.int 0)) V) ∧
  ((¬ 6 ≤ (V 422 p1.toNatClampNeg)) →
    CTc J mX8_isForeign [.int p2] V (fun r V1 =>
      ∃ b1 : Bool, r = some (.int (bI b1)) ∧
      ((b1 = false) →
        Qr (some (.int 1)) V1) ∧
      ((b1 = true) →
        vp_in p1 8 ∧
        ((2 ≤ (V1 423 p1.toNatClampNeg)) →
          Qr (some (.int 0)) V1) ∧
        ((¬ 2 ≤ (V1 423 p1.toNatClampNeg)) →
          Qr (some (.int 1)) V1))) Qx))
theorem v_X8_canBid {J : Nat → Nat → Int64} (p1 : Int32) (p2 : Int32) (p3 : Int32) {V : Nat → Nat → Int32} {Qr : Option Value → (Nat → Nat → Int32) → Prop} {Qx : String → (Nat → Nat → Int32) → Prop} (H : F_X8_canBid J p1 p2 p3 V Qr Qx) : CTc J mX8_canBid [.ref 405, .int p1, .int p2, .int p3] V Qr Qx := by
  refine ctc_of (M := (T0 J, V)) pX8_canBid (fun _ _ => rfl) (Nat.le_of_ble_eq_true rfl) ?_
  unfold F_X8_canBid at H
  show WPc J mX8_canBid Qr Qx 0 [(0, .ref 405), (1, .int p1), (2, .int p2), (3, .int p3)] [] V 0 0
  refine s_aload_n dX8_canBid_0 rfl ?_
  refine t_getR (r := 421) fl_8_56 dX8_canBid_1 ob_405 rfl rfl ?_
  refine s_iload_n dX8_canBid_4 rfl ?_
  refine t_iald dX8_canBid_5 ap_421 H.1 ?_
  have H := H.2
  refine s_iload_n dX8_canBid_6 rfl ?_
  refine s_icmp_lt (tgt := 42) dX8_canBid_7 (by decide) (fun c => ?_) (fun c => ?_)
  · have H := H.1 c
    refine s_iconst (v := 0) dX8_canBid_42 (by decide) ?_
    exact s_iret dX8_canBid_43 (Or.inr ⟨rfl, (Or.inl rfl)⟩) ⟨rfl, H⟩
  · have H := H.2 c
    refine s_aload_n dX8_canBid_10 rfl ?_
    refine t_getR (r := 422) fl_8_59 dX8_canBid_11 ob_405 rfl rfl ?_
    refine s_iload_n dX8_canBid_14 rfl ?_
    refine t_iald dX8_canBid_15 ap_422 H.1 ?_
    have H := H.2
    refine s_bipush (v := 6) dX8_canBid_16 (by decide) ?_
    refine s_icmp_ge (tgt := 42) dX8_canBid_18 (by decide) (fun c => ?_) (fun c => ?_)
    · have H := H.1 c
      refine s_iconst (v := 0) dX8_canBid_42 (by decide) ?_
      exact s_iret dX8_canBid_43 (Or.inr ⟨rfl, (Or.inl rfl)⟩) ⟨rfl, H⟩
    · have H := H.2 c
      refine s_iload_n dX8_canBid_21 rfl ?_
      refine t_cS (As := [.int p2]) (st := []) iv_8_273 dX8_canBid_22 ⟨by decide, by decide⟩ rfl (Nat.le_of_ble_eq_true rfl) (by decide) (by decide) rfl H (fun r V1 H => ?_)
      obtain ⟨b1, rfl, H⟩ := H
      refine s_if_eq (tgt := 38) dX8_canBid_25 (by decide) (fun c => ?_) (fun c => ?_)
      · have H := H.1 (bI_f c)
        refine s_iconst (v := 1) dX8_canBid_38 (by decide) ?_
        refine s_goto (tgt := 43) dX8_canBid_39 (by decide) ?_
        exact s_iret dX8_canBid_43 (Or.inr ⟨rfl, (Or.inr rfl)⟩) ⟨rfl, H⟩
      · have H := H.2 (bI_t c)
        refine s_aload_n dX8_canBid_28 rfl ?_
        refine t_getR (r := 423) fl_8_62 dX8_canBid_29 ob_405 rfl rfl ?_
        refine s_iload_n dX8_canBid_32 rfl ?_
        refine t_iald dX8_canBid_33 ap_423 H.1 ?_
        have H := H.2
        refine s_iconst (v := 2) dX8_canBid_34 (by decide) ?_
        refine s_icmp_ge (tgt := 42) dX8_canBid_35 (by decide) (fun c => ?_) (fun c => ?_)
        · have H := H.1 c
          refine s_iconst (v := 0) dX8_canBid_42 (by decide) ?_
          exact s_iret dX8_canBid_43 (Or.inr ⟨rfl, (Or.inl rfl)⟩) ⟨rfl, H⟩
        · have H := H.2 c
          refine s_iconst (v := 1) dX8_canBid_38 (by decide) ?_
          refine s_goto (tgt := 43) dX8_canBid_39 (by decide) ?_
          exact s_iret dX8_canBid_43 (Or.inr ⟨rfl, (Or.inr rfl)⟩) ⟨rfl, H⟩

def F_X8_right_52 (J : Nat → Nat → Int64) (p1 : Int32) (p2 : Int32) (s0 : Int32) (V : Nat → Nat → Int32) (Qr : Option Value → (Nat → Nat → Int32) → Prop) (Qx : String → (Nat → Nat → Int32) → Prop) : Prop :=
CTc J mX8_holds [.ref 405, .int s0] V (fun r V1 =>
  ∃ b1 : Bool, r = some (.int (bI b1)) ∧
  ((b1 = true) →
    vp_in p2 24 ∧
    vp_in p2 24 ∧
    Qr (some (.int (V1 426 p2.toNatClampNeg))) (up2 V1 426 p2.toNatClampNeg p1)) ∧
  ((b1 = false) →
    Qr (some (.int 0)) V1)) Qx
theorem v_X8_right_52 {J : Nat → Nat → Int64} (p1 : Int32) (p2 : Int32) {Qr : Option Value → (Nat → Nat → Int32) → Prop} {Qx : String → (Nat → Nat → Int32) → Prop} (s0 : Int32)  {V : Nat → Nat → Int32} (H : F_X8_right_52 J p1 p2  s0 V Qr Qx) : WPc J mX8_right Qr Qx 52 [(0, .ref 405), (1, .int p1), (2, .int p2)] [.int s0, .ref 405] V 0 0 := by
  unfold F_X8_right_52 at H
  refine t_cV (h := 405) (As := [.int s0]) (st := []) iv_8_169 dX8_right_52 ⟨by decide, by decide⟩ rfl (Nat.le_of_ble_eq_true rfl) (by decide) (by decide) rfl ob_405 H (fun r V1 H => ?_)
  obtain ⟨b1, rfl, H⟩ := H
  refine s_if_ne (tgt := 60) dX8_right_55 (by decide) (fun c => ?_) (fun c => ?_)
  · have H := H.1 (bI_t c)
    refine s_aload_n dX8_right_60 rfl ?_
    refine t_getR (r := 426) fl_8_71 dX8_right_61 ob_405 rfl rfl ?_
    refine s_iload_n dX8_right_64 rfl ?_
    refine t_iald dX8_right_65 ap_426 H.1 ?_
    have H := H.2
    refine t_istore (L' := [(4, .int (V1 426 p2.toNatClampNeg)), (0, .ref 405), (1, .int p1), (2, .int p2)]) dX8_right_66 (by decide) rfl ?_
    refine s_aload_n dX8_right_68 rfl ?_
    refine t_getR (r := 426) fl_8_71 dX8_right_69 ob_405 rfl rfl ?_
    refine s_iload_n dX8_right_72 rfl ?_
    refine s_iload_n dX8_right_73 rfl ?_
    refine t_iast dX8_right_74 ap_426 H.1 ?_
    have H := H.2
    refine s_iload dX8_right_75 rfl ?_
    exact s_iret dX8_right_77 (Or.inl rfl) ⟨rfl, H⟩
  · have H := H.2 (bI_f c)
    refine s_iconst (v := 0) dX8_right_58 (by decide) ?_
    exact s_iret dX8_right_59 (Or.inl rfl) ⟨rfl, H⟩
def F_X8_right_47 (J : Nat → Nat → Int64) (p1 : Int32) (p2 : Int32)  (V : Nat → Nat → Int32) (Qr : Option Value → (Nat → Nat → Int32) → Prop) (Qx : String → (Nat → Nat → Int32) → Prop) : Prop :=
F_X8_right_52 J p1 p2  2 V Qr Qx
theorem v_X8_right_47 {J : Nat → Nat → Int64} (p1 : Int32) (p2 : Int32) {Qr : Option Value → (Nat → Nat → Int32) → Prop} {Qx : String → (Nat → Nat → Int32) → Prop}   {V : Nat → Nat → Int32} (H : F_X8_right_47 J p1 p2   V Qr Qx) : WPc J mX8_right Qr Qx 47 [(0, .ref 405), (1, .int p1), (2, .int p2)] [.ref 405] V 0 0 := by
  unfold F_X8_right_47 at H
  refine s_iconst (v := 2) dX8_right_47 (by decide) ?_
  refine s_goto (tgt := 52) dX8_right_48 (by decide) ?_
  exact t_loc [0, 1, 2] rfl (v_X8_right_52 p1 p2    2  H)
def F_X8_right_19 (J : Nat → Nat → Int64) (p1 : Int32) (p2 : Int32) (s0 : Int32) (V : Nat → Nat → Int32) (Qr : Option Value → (Nat → Nat → Int32) → Prop) (Qx : String → (Nat → Nat → Int32) → Prop) : Prop :=
((¬ s0 = 0) →
  (((V 405 33) = p2) →
    F_X8_right_47 J p1 p2   V Qr Qx) ∧
  ((¬ (V 405 33) = p2) →
    vp_in p2 24 ∧
    (((V 424 p2.toNatClampNeg) = (-1)) →
      F_X8_right_52 J p1 p2  0 V Qr Qx) ∧
    ((¬ (V 424 p2.toNatClampNeg) = (-1)) →
      F_X8_right_47 J p1 p2   V Qr Qx))) ∧
((s0 = 0) →
  F_X8_right_52 J p1 p2  1 V Qr Qx)
theorem v_X8_right_19 {J : Nat → Nat → Int64} (p1 : Int32) (p2 : Int32) {Qr : Option Value → (Nat → Nat → Int32) → Prop} {Qx : String → (Nat → Nat → Int32) → Prop} (s0 : Int32)  {V : Nat → Nat → Int32} (H : F_X8_right_19 J p1 p2  s0 V Qr Qx) : WPc J mX8_right Qr Qx 19 [(0, .ref 405), (1, .int p1), (2, .int p2)] [.int s0] V 0 0 := by
  unfold F_X8_right_19 at H
  refine t_istore_n (L' := [(3, .int s0), (0, .ref 405), (1, .int p1), (2, .int p2)]) dX8_right_19 (by decide) rfl ?_
  refine s_aload_n dX8_right_20 rfl ?_
  refine s_iload_n dX8_right_21 rfl ?_
  refine s_if_ne (tgt := 29) dX8_right_22 (by decide) (fun c => ?_) (fun c => ?_)
  · have H := H.1 c
    refine s_aload_n dX8_right_29 rfl ?_
    refine t_getI fl_8_74 dX8_right_30 ob_405 rfl ?_
    refine s_iload_n dX8_right_33 rfl ?_
    refine s_icmp_eq (tgt := 47) dX8_right_34 (by decide) (fun c => ?_) (fun c => ?_)
    · have H := H.1 c
      exact t_loc [1, 2, 3] rfl (v_X8_right_47 p1 p2      H)
    · have H := H.2 c
      refine s_aload_n dX8_right_37 rfl ?_
      refine t_getR (r := 424) fl_8_65 dX8_right_38 ob_405 rfl rfl ?_
      refine s_iload_n dX8_right_41 rfl ?_
      refine t_iald dX8_right_42 ap_424 H.1 ?_
      have H := H.2
      refine s_iconst (v := (-1)) dX8_right_43 (by decide) ?_
      refine s_icmp_eq (tgt := 51) dX8_right_44 (by decide) (fun c => ?_) (fun c => ?_)
      · have H := H.1 c
        refine s_iconst (v := 0) dX8_right_51 (by decide) ?_
        exact t_loc [1, 2, 3] rfl (v_X8_right_52 p1 p2    0  H)
      · have H := H.2 c
        exact t_loc [1, 2, 3] rfl (v_X8_right_47 p1 p2      H)
  · have H := H.2 c
    refine s_iconst (v := 1) dX8_right_25 (by decide) ?_
    refine s_goto (tgt := 52) dX8_right_26 (by decide) ?_
    exact t_loc [1, 2, 3] rfl (v_X8_right_52 p1 p2    1  H)
def F_X8_right_18 (J : Nat → Nat → Int64) (p1 : Int32) (p2 : Int32)  (V : Nat → Nat → Int32) (Qr : Option Value → (Nat → Nat → Int32) → Prop) (Qx : String → (Nat → Nat → Int32) → Prop) : Prop :=
F_X8_right_19 J p1 p2  0 V Qr Qx
theorem v_X8_right_18 {J : Nat → Nat → Int64} (p1 : Int32) (p2 : Int32) {Qr : Option Value → (Nat → Nat → Int32) → Prop} {Qx : String → (Nat → Nat → Int32) → Prop}   {V : Nat → Nat → Int32} (H : F_X8_right_18 J p1 p2   V Qr Qx) : WPc J mX8_right Qr Qx 18 [(0, .ref 405), (1, .int p1), (2, .int p2)] [] V 0 0 := by
  unfold F_X8_right_18 at H
  refine s_iconst (v := 0) dX8_right_18 (by decide) ?_
  exact t_loc [0, 1, 2] rfl (v_X8_right_19 p1 p2    0  H)
def F_X8_right (J : Nat → Nat → Int64) (p1 : Int32) (p2 : Int32) (V : Nat → Nat → Int32) (Qr : Option Value → (Nat → Nat → Int32) → Prop) (Qx : String → (Nat → Nat → Int32) → Prop) : Prop :=
CTc J mX8_isClub [.int p1] V (fun r V1 =>
  ∃ b1 : Bool, r = some (.int (bI b1)) ∧
  ((b1 = false) →
    F_X8_right_18 J p1 p2   V1 Qr Qx) ∧
  ((b1 = true) →
    CTc J mX8_isLot [.int p2] V1 (fun r V2 =>
      ∃ b2 : Bool, r = some (.int (bI b2)) ∧
      ((b2 = false) →
        F_X8_right_18 J p1 p2   V2 Qr Qx) ∧
      ((b2 = true) →
        F_X8_right_19 J p1 p2  1 V2 Qr Qx)) Qx)) Qx
theorem v_X8_right {J : Nat → Nat → Int64} (p1 : Int32) (p2 : Int32) {V : Nat → Nat → Int32} {Qr : Option Value → (Nat → Nat → Int32) → Prop} {Qx : String → (Nat → Nat → Int32) → Prop} (H : F_X8_right J p1 p2 V Qr Qx) : CTc J mX8_right [.ref 405, .int p1, .int p2] V Qr Qx := by
  refine ctc_of (M := (T0 J, V)) pX8_right (fun _ _ => rfl) (Nat.le_of_ble_eq_true rfl) ?_
  unfold F_X8_right at H
  show WPc J mX8_right Qr Qx 0 [(0, .ref 405), (1, .int p1), (2, .int p2)] [] V 0 0
  refine s_iload_n dX8_right_0 rfl ?_
  refine t_cS (As := [.int p1]) (st := []) iv_8_163 dX8_right_1 ⟨by decide, by decide⟩ rfl (Nat.le_of_ble_eq_true rfl) (by decide) (by decide) rfl H (fun r V1 H => ?_)
  obtain ⟨b1, rfl, H⟩ := H
  refine s_if_eq (tgt := 18) dX8_right_4 (by decide) (fun c => ?_) (fun c => ?_)
  · have H := H.1 (bI_f c)
    exact t_loc [0, 1, 2] rfl (v_X8_right_18 p1 p2      H)
  · have H := H.2 (bI_t c)
    refine s_iload_n dX8_right_7 rfl ?_
    refine t_cS (As := [.int p2]) (st := []) iv_8_276 dX8_right_8 ⟨by decide, by decide⟩ rfl (Nat.le_of_ble_eq_true rfl) (by decide) (by decide) rfl H (fun r V2 H => ?_)
    obtain ⟨b2, rfl, H⟩ := H
    refine s_if_eq (tgt := 18) dX8_right_11 (by decide) (fun c => ?_) (fun c => ?_)
    · have H := H.1 (bI_f c)
      exact t_loc [0, 1, 2] rfl (v_X8_right_18 p1 p2      H)
    · have H := H.2 (bI_t c)
      refine s_iconst (v := 1) dX8_right_14 (by decide) ?_
      refine s_goto (tgt := 19) dX8_right_15 (by decide) ?_
      exact t_loc [0, 1, 2] rfl (v_X8_right_19 p1 p2    1  H)

def F_X8_call_37 (J : Nat → Nat → Int64) (p1 : Int32) (s0 : Int32) (V : Nat → Nat → Int32) (Qr : Option Value → (Nat → Nat → Int32) → Prop) (Qx : String → (Nat → Nat → Int32) → Prop) : Prop :=
CTc J mX8_holds [.ref 405, .int s0] V (fun r V1 =>
  ∃ b1 : Bool, r = some (.int (bI b1)) ∧
  ((b1 = true) →
    CTc J mX8_baseOf [.int p1] (up2 (up2 (up2 (up2 (up2 V1 405 33 p1) 405 34 0) 405 35 0) 405 36 (-1)) 405 37 0) (fun r V2 =>
      ∃ r2 : Int32, r = some (.int r2) ∧
      Qr (some (.int r2)) V2) Qx) ∧
  ((b1 = false) →
    Qr (some (.int 0)) V1)) Qx
theorem v_X8_call_37 {J : Nat → Nat → Int64} (p1 : Int32) {Qr : Option Value → (Nat → Nat → Int32) → Prop} {Qx : String → (Nat → Nat → Int32) → Prop} (s0 : Int32)  {V : Nat → Nat → Int32} (H : F_X8_call_37 J p1  s0 V Qr Qx) : WPc J mX8_call Qr Qx 37 [(0, .ref 405), (1, .int p1)] [.int s0, .ref 405] V 0 0 := by
  unfold F_X8_call_37 at H
  refine t_cV (h := 405) (As := [.int s0]) (st := []) iv_8_169 dX8_call_37 ⟨by decide, by decide⟩ rfl (Nat.le_of_ble_eq_true rfl) (by decide) (by decide) rfl ob_405 H (fun r V1 H => ?_)
  obtain ⟨b1, rfl, H⟩ := H
  refine s_if_ne (tgt := 45) dX8_call_40 (by decide) (fun c => ?_) (fun c => ?_)
  · have H := H.1 (bI_t c)
    refine s_aload_n dX8_call_45 rfl ?_
    refine s_iload_n dX8_call_46 rfl ?_
    refine t_putI fl_8_74 dX8_call_47 ob_405 (Or.inl rfl) ?_
    refine s_aload_n dX8_call_50 rfl ?_
    refine s_iconst (v := 0) dX8_call_51 (by decide) ?_
    refine t_putI fl_8_279 dX8_call_52 ob_405 (Or.inl rfl) ?_
    refine s_aload_n dX8_call_55 rfl ?_
    refine s_iconst (v := 0) dX8_call_56 (by decide) ?_
    refine t_putI fl_8_282 dX8_call_57 ob_405 (Or.inl rfl) ?_
    refine s_aload_n dX8_call_60 rfl ?_
    refine s_iconst (v := (-1)) dX8_call_61 (by decide) ?_
    refine t_putI fl_8_285 dX8_call_62 ob_405 (Or.inl rfl) ?_
    refine s_aload_n dX8_call_65 rfl ?_
    refine s_iconst (v := 0) dX8_call_66 (by decide) ?_
    refine t_putI fl_8_288 dX8_call_67 ob_405 (Or.inr ⟨rfl, (Or.inl rfl)⟩) ?_
    refine s_iload_n dX8_call_70 rfl ?_
    refine t_cS (As := [.int p1]) (st := []) iv_8_291 dX8_call_71 ⟨by decide, by decide⟩ rfl (Nat.le_of_ble_eq_true rfl) (by decide) (by decide) rfl H (fun r V2 H => ?_)
    obtain ⟨r2, rfl, H⟩ := H
    exact s_iret dX8_call_74 (Or.inl rfl) ⟨rfl, H⟩
  · have H := H.2 (bI_f c)
    refine s_iconst (v := 0) dX8_call_43 (by decide) ?_
    exact s_iret dX8_call_44 (Or.inl rfl) ⟨rfl, H⟩
def F_X8_call_32 (J : Nat → Nat → Int64) (p1 : Int32)  (V : Nat → Nat → Int32) (Qr : Option Value → (Nat → Nat → Int32) → Prop) (Qx : String → (Nat → Nat → Int32) → Prop) : Prop :=
F_X8_call_37 J p1  2 V Qr Qx
theorem v_X8_call_32 {J : Nat → Nat → Int64} (p1 : Int32) {Qr : Option Value → (Nat → Nat → Int32) → Prop} {Qx : String → (Nat → Nat → Int32) → Prop}   {V : Nat → Nat → Int32} (H : F_X8_call_32 J p1   V Qr Qx) : WPc J mX8_call Qr Qx 32 [(0, .ref 405), (1, .int p1)] [.ref 405] V 0 0 := by
  unfold F_X8_call_32 at H
  refine s_iconst (v := 2) dX8_call_32 (by decide) ?_
  refine s_goto (tgt := 37) dX8_call_33 (by decide) ?_
  exact t_loc [0, 1] rfl (v_X8_call_37 p1    2  H)
def F_X8_call (J : Nat → Nat → Int64) (p1 : Int32) (V : Nat → Nat → Int32) (Qr : Option Value → (Nat → Nat → Int32) → Prop) (Qx : String → (Nat → Nat → Int32) → Prop) : Prop :=
CTc J mX8_isLot [.int p1] V (fun r V1 =>
  ∃ b1 : Bool, r = some (.int (bI b1)) ∧
  ((b1 = true) →
    ((¬ (V1 405 33) = (-1)) →
      F_X8_call_32 J p1   V1 Qr Qx) ∧
    (((V1 405 33) = (-1)) →
      vp_in p1 24 ∧
      (((V1 424 p1.toNatClampNeg) = (-1)) →
        F_X8_call_37 J p1  0 V1 Qr Qx) ∧
      ((¬ (V1 424 p1.toNatClampNeg) = (-1)) →
        F_X8_call_32 J p1   V1 Qr Qx))) ∧
  ((b1 = false) →
    F_X8_call_37 J p1  1 V1 Qr Qx)) Qx
theorem v_X8_call {J : Nat → Nat → Int64} (p1 : Int32) {V : Nat → Nat → Int32} {Qr : Option Value → (Nat → Nat → Int32) → Prop} {Qx : String → (Nat → Nat → Int32) → Prop} (H : F_X8_call J p1 V Qr Qx) : CTc J mX8_call [.ref 405, .int p1] V Qr Qx := by
  refine ctc_of (M := (T0 J, V)) pX8_call (fun _ _ => rfl) (Nat.le_of_ble_eq_true rfl) ?_
  unfold F_X8_call at H
  show WPc J mX8_call Qr Qx 0 [(0, .ref 405), (1, .int p1)] [] V 0 0
  refine s_iload_n dX8_call_0 rfl ?_
  refine t_cS (As := [.int p1]) (st := []) iv_8_276 dX8_call_1 ⟨by decide, by decide⟩ rfl (Nat.le_of_ble_eq_true rfl) (by decide) (by decide) rfl H (fun r V1 H => ?_)
  obtain ⟨b1, rfl, H⟩ := H
  refine t_istore_n (L' := [(2, .int (bI b1)), (0, .ref 405), (1, .int p1)]) dX8_call_4 (by decide) rfl ?_
  refine s_aload_n dX8_call_5 rfl ?_
  refine s_iload_n dX8_call_6 rfl ?_
  refine s_if_ne (tgt := 14) dX8_call_7 (by decide) (fun c => ?_) (fun c => ?_)
  · have H := H.1 (bI_t c)
    refine s_aload_n dX8_call_14 rfl ?_
    refine t_getI fl_8_74 dX8_call_15 ob_405 rfl ?_
    refine s_iconst (v := (-1)) dX8_call_18 (by decide) ?_
    refine s_icmp_ne (tgt := 32) dX8_call_19 (by decide) (fun c => ?_) (fun c => ?_)
    · have H := H.1 c
      exact t_loc [1, 2] rfl (v_X8_call_32 p1      H)
    · have H := H.2 c
      refine s_aload_n dX8_call_22 rfl ?_
      refine t_getR (r := 424) fl_8_65 dX8_call_23 ob_405 rfl rfl ?_
      refine s_iload_n dX8_call_26 rfl ?_
      refine t_iald dX8_call_27 ap_424 H.1 ?_
      have H := H.2
      refine s_iconst (v := (-1)) dX8_call_28 (by decide) ?_
      refine s_icmp_eq (tgt := 36) dX8_call_29 (by decide) (fun c => ?_) (fun c => ?_)
      · have H := H.1 c
        refine s_iconst (v := 0) dX8_call_36 (by decide) ?_
        exact t_loc [1, 2] rfl (v_X8_call_37 p1    0  H)
      · have H := H.2 c
        exact t_loc [1, 2] rfl (v_X8_call_32 p1      H)
  · have H := H.2 (bI_f c)
    refine s_iconst (v := 1) dX8_call_10 (by decide) ?_
    refine s_goto (tgt := 37) dX8_call_11 (by decide) ?_
    exact t_loc [1, 2] rfl (v_X8_call_37 p1    1  H)

def F_X8_bid_108 (J : Nat → Nat → Int64) (p1 : Int32) (p2 : Int32) (s0 : Int32) (V : Nat → Nat → Int32) (Qr : Option Value → (Nat → Nat → Int32) → Prop) (Qx : String → (Nat → Nat → Int32) → Prop) : Prop :=
CTc J mX8_holds [.ref 405, .int s0] V (fun r V1 =>
  ∃ b1 : Bool, r = some (.int (bI b1)) ∧
  ((b1 = true) →
    Qr (some (.int ((up2 (up2 (up2 V1 405 35 p2) 405 36 p1) 405 34 (((up2 (up2 V1 405 35 p2) 405 36 p1) 405 34) + 1)) 405 34))) (up2 (up2 (up2 V1 405 35 p2) 405 36 p1) 405 34 (((up2 (up2 V1 405 35 p2) 405 36 p1) 405 34) + 1))) ∧
  ((b1 = false) →
    Qr (some (.int 0)) V1)) Qx
theorem v_X8_bid_108 {J : Nat → Nat → Int64} (p1 : Int32) (p2 : Int32) {Qr : Option Value → (Nat → Nat → Int32) → Prop} {Qx : String → (Nat → Nat → Int32) → Prop} (s0 : Int32)  {V : Nat → Nat → Int32} (H : F_X8_bid_108 J p1 p2  s0 V Qr Qx) : WPc J mX8_bid Qr Qx 108 [(0, .ref 405), (1, .int p1), (2, .int p2)] [.int s0, .ref 405] V 0 0 := by
  unfold F_X8_bid_108 at H
  refine t_cV (h := 405) (As := [.int s0]) (st := []) iv_8_169 dX8_bid_108 ⟨by decide, by decide⟩ rfl (Nat.le_of_ble_eq_true rfl) (by decide) (by decide) rfl ob_405 H (fun r V1 H => ?_)
  obtain ⟨b1, rfl, H⟩ := H
  refine s_if_ne (tgt := 116) dX8_bid_111 (by decide) (fun c => ?_) (fun c => ?_)
  · have H := H.1 (bI_t c)
    refine s_aload_n dX8_bid_116 rfl ?_
    refine s_iload_n dX8_bid_117 rfl ?_
    refine t_putI fl_8_282 dX8_bid_118 ob_405 (Or.inl rfl) ?_
    refine s_aload_n dX8_bid_121 rfl ?_
    refine s_iload_n dX8_bid_122 rfl ?_
    refine t_putI fl_8_285 dX8_bid_123 ob_405 (Or.inl rfl) ?_
    refine s_aload_n dX8_bid_126 rfl ?_
    refine s_dup dX8_bid_127 rfl ?_
    refine t_getI fl_8_279 dX8_bid_128 ob_405 rfl ?_
    refine s_iconst (v := 1) dX8_bid_131 (by decide) ?_
    refine s_iadd dX8_bid_132 ?_
    refine t_putI fl_8_279 dX8_bid_133 ob_405 (Or.inl rfl) ?_
    refine s_aload_n dX8_bid_136 rfl ?_
    refine t_getI fl_8_279 dX8_bid_137 ob_405 rfl ?_
    exact s_iret dX8_bid_140 (Or.inl rfl) ⟨rfl, H⟩
  · have H := H.2 (bI_f c)
    refine s_iconst (v := 0) dX8_bid_114 (by decide) ?_
    exact s_iret dX8_bid_115 (Or.inl rfl) ⟨rfl, H⟩
def F_X8_bid_97 (J : Nat → Nat → Int64) (p1 : Int32) (p2 : Int32) (s0 : Int32) (V : Nat → Nat → Int32) (Qr : Option Value → (Nat → Nat → Int32) → Prop) (Qx : String → (Nat → Nat → Int32) → Prop) : Prop :=
((s0 = 0) →
  F_X8_bid_108 J p1 p2  0 V Qr Qx) ∧
((¬ s0 = 0) →
  F_X8_bid_108 J p1 p2  3 V Qr Qx)
theorem v_X8_bid_97 {J : Nat → Nat → Int64} (p1 : Int32) (p2 : Int32) {Qr : Option Value → (Nat → Nat → Int32) → Prop} {Qx : String → (Nat → Nat → Int32) → Prop} (s0 : Int32)  {V : Nat → Nat → Int32} (H : F_X8_bid_97 J p1 p2  s0 V Qr Qx) : WPc J mX8_bid Qr Qx 97 [(0, .ref 405), (1, .int p1), (2, .int p2)] [.int s0] V 0 0 := by
  unfold F_X8_bid_97 at H
  refine t_istore_n (L' := [(3, .int s0), (0, .ref 405), (1, .int p1), (2, .int p2)]) dX8_bid_97 (by decide) rfl ?_
  refine s_aload_n dX8_bid_98 rfl ?_
  refine s_iload_n dX8_bid_99 rfl ?_
  refine s_if_eq (tgt := 107) dX8_bid_100 (by decide) (fun c => ?_) (fun c => ?_)
  · have H := H.1 c
    refine s_iconst (v := 0) dX8_bid_107 (by decide) ?_
    exact t_loc [1, 2, 3] rfl (v_X8_bid_108 p1 p2    0  H)
  · have H := H.2 c
    refine s_iconst (v := 3) dX8_bid_103 (by decide) ?_
    refine s_goto (tgt := 108) dX8_bid_104 (by decide) ?_
    exact t_loc [1, 2, 3] rfl (v_X8_bid_108 p1 p2    3  H)
def F_X8_bid_92 (J : Nat → Nat → Int64) (p1 : Int32) (p2 : Int32)  (V : Nat → Nat → Int32) (Qr : Option Value → (Nat → Nat → Int32) → Prop) (Qx : String → (Nat → Nat → Int32) → Prop) : Prop :=
F_X8_bid_97 J p1 p2  1 V Qr Qx
theorem v_X8_bid_92 {J : Nat → Nat → Int64} (p1 : Int32) (p2 : Int32) {Qr : Option Value → (Nat → Nat → Int32) → Prop} {Qx : String → (Nat → Nat → Int32) → Prop}   {V : Nat → Nat → Int32} (H : F_X8_bid_92 J p1 p2   V Qr Qx) : WPc J mX8_bid Qr Qx 92 [(0, .ref 405), (1, .int p1), (2, .int p2)] [] V 0 0 := by
  unfold F_X8_bid_92 at H
  refine s_iconst (v := 1) dX8_bid_92 (by decide) ?_
  refine s_goto (tgt := 97) dX8_bid_93 (by decide) ?_
  exact t_loc [0, 1, 2] rfl (v_X8_bid_97 p1 p2    1  H)
def F_X8_bid_79 (J : Nat → Nat → Int64) (p1 : Int32) (p2 : Int32)  (V : Nat → Nat → Int32) (Qr : Option Value → (Nat → Nat → Int32) → Prop) (Qx : String → (Nat → Nat → Int32) → Prop) : Prop :=
CTc J mX8_canBid [.ref 405, .int p1, .int (V 405 33), .int p2] V (fun r V1 =>
  ∃ b1 : Bool, r = some (.int (bI b1)) ∧
  ((b1 = true) →
    F_X8_bid_97 J p1 p2  0 V1 Qr Qx) ∧
  ((b1 = false) →
    F_X8_bid_92 J p1 p2   V1 Qr Qx)) Qx
theorem v_X8_bid_79 {J : Nat → Nat → Int64} (p1 : Int32) (p2 : Int32) {Qr : Option Value → (Nat → Nat → Int32) → Prop} {Qx : String → (Nat → Nat → Int32) → Prop}   {V : Nat → Nat → Int32} (H : F_X8_bid_79 J p1 p2   V Qr Qx) : WPc J mX8_bid Qr Qx 79 [(0, .ref 405), (1, .int p1), (2, .int p2)] [] V 0 0 := by
  unfold F_X8_bid_79 at H
  refine s_aload_n dX8_bid_79 rfl ?_
  refine s_iload_n dX8_bid_80 rfl ?_
  refine s_aload_n dX8_bid_81 rfl ?_
  refine t_getI fl_8_74 dX8_bid_82 ob_405 rfl ?_
  refine s_iload_n dX8_bid_85 rfl ?_
  refine t_cV (h := 405) (As := [.int p1, .int (V 405 33), .int p2]) (st := []) iv_8_294 dX8_bid_86 ⟨by decide, by decide⟩ rfl (Nat.le_of_ble_eq_true rfl) (by decide) (by decide) rfl ob_405 H (fun r V1 H => ?_)
  obtain ⟨b1, rfl, H⟩ := H
  refine s_if_ne (tgt := 96) dX8_bid_89 (by decide) (fun c => ?_) (fun c => ?_)
  · have H := H.1 (bI_t c)
    refine s_iconst (v := 0) dX8_bid_96 (by decide) ?_
    exact t_loc [0, 1, 2] rfl (v_X8_bid_97 p1 p2    0  H)
  · have H := H.2 (bI_f c)
    exact t_loc [0, 1, 2] rfl (v_X8_bid_92 p1 p2      H)
def F_X8_bid_28 (J : Nat → Nat → Int64) (p1 : Int32) (p2 : Int32) (s0 : Int32) (V : Nat → Nat → Int32) (Qr : Option Value → (Nat → Nat → Int32) → Prop) (Qx : String → (Nat → Nat → Int32) → Prop) : Prop :=
CTc J mX8_holds [.ref 405, .int s0] V (fun r V1 =>
  ∃ b1 : Bool, r = some (.int (bI b1)) ∧
  ((b1 = true) →
    (((V1 405 33) = (-1)) →
      F_X8_bid_92 J p1 p2   V1 Qr Qx) ∧
    ((¬ (V1 405 33) = (-1)) →
      ((¬ (V1 405 37) = 0) →
        F_X8_bid_92 J p1 p2   V1 Qr Qx) ∧
      (((V1 405 37) = 0) →
        CTc J mX8_baseOf [.int (V1 405 33)] V1 (fun r V2 =>
          ∃ r2 : Int32, r = some (.int r2) ∧
          ((p2 < r2) →
            F_X8_bid_92 J p1 p2   V2 Qr Qx) ∧
          ((¬ p2 < r2) →
            (((V2 405 34) ≤ 0) →
              F_X8_bid_79 J p1 p2   V2 Qr Qx) ∧
            ((¬ (V2 405 34) ≤ 0) →
              ((p2 < ((V2 405 35) + 5)) →
                F_X8_bid_92 J p1 p2   V2 Qr Qx) ∧
              ((¬ p2 < ((V2 405 35) + 5)) →
                F_X8_bid_79 J p1 p2   V2 Qr Qx)))) Qx))) ∧
  ((b1 = false) →
    Qr (some (.int 0)) V1)) Qx
theorem v_X8_bid_28 {J : Nat → Nat → Int64} (p1 : Int32) (p2 : Int32) {Qr : Option Value → (Nat → Nat → Int32) → Prop} {Qx : String → (Nat → Nat → Int32) → Prop} (s0 : Int32)  {V : Nat → Nat → Int32} (H : F_X8_bid_28 J p1 p2  s0 V Qr Qx) : WPc J mX8_bid Qr Qx 28 [(0, .ref 405), (1, .int p1), (2, .int p2)] [.int s0, .ref 405] V 0 0 := by
  unfold F_X8_bid_28 at H
  refine t_cV (h := 405) (As := [.int s0]) (st := []) iv_8_169 dX8_bid_28 ⟨by decide, by decide⟩ rfl (Nat.le_of_ble_eq_true rfl) (by decide) (by decide) rfl ob_405 H (fun r V1 H => ?_)
  obtain ⟨b1, rfl, H⟩ := H
  refine s_if_ne (tgt := 36) dX8_bid_31 (by decide) (fun c => ?_) (fun c => ?_)
  · have H := H.1 (bI_t c)
    refine s_aload_n dX8_bid_36 rfl ?_
    refine t_getI fl_8_74 dX8_bid_37 ob_405 rfl ?_
    refine s_iconst (v := (-1)) dX8_bid_40 (by decide) ?_
    refine s_icmp_eq (tgt := 92) dX8_bid_41 (by decide) (fun c => ?_) (fun c => ?_)
    · have H := H.1 c
      exact t_loc [0, 1, 2] rfl (v_X8_bid_92 p1 p2      H)
    · have H := H.2 c
      refine s_aload_n dX8_bid_44 rfl ?_
      refine t_getI fl_8_288 dX8_bid_45 ob_405 rfl ?_
      refine s_if_ne (tgt := 92) dX8_bid_48 (by decide) (fun c => ?_) (fun c => ?_)
      · have H := H.1 c
        exact t_loc [0, 1, 2] rfl (v_X8_bid_92 p1 p2      H)
      · have H := H.2 c
        refine s_iload_n dX8_bid_51 rfl ?_
        refine s_aload_n dX8_bid_52 rfl ?_
        refine t_getI fl_8_74 dX8_bid_53 ob_405 rfl ?_
        refine t_cS (As := [.int (V1 405 33)]) (st := [.int p2]) iv_8_291 dX8_bid_56 ⟨by decide, by decide⟩ rfl (Nat.le_of_ble_eq_true rfl) (by decide) (by decide) rfl H (fun r V2 H => ?_)
        obtain ⟨r2, rfl, H⟩ := H
        refine s_icmp_lt (tgt := 92) dX8_bid_59 (by decide) (fun c => ?_) (fun c => ?_)
        · have H := H.1 c
          exact t_loc [0, 1, 2] rfl (v_X8_bid_92 p1 p2      H)
        · have H := H.2 c
          refine s_aload_n dX8_bid_62 rfl ?_
          refine t_getI fl_8_279 dX8_bid_63 ob_405 rfl ?_
          refine s_if_le (tgt := 79) dX8_bid_66 (by decide) (fun c => ?_) (fun c => ?_)
          · have H := H.1 c
            exact t_loc [0, 1, 2] rfl (v_X8_bid_79 p1 p2      H)
          · have H := H.2 c
            refine s_iload_n dX8_bid_69 rfl ?_
            refine s_aload_n dX8_bid_70 rfl ?_
            refine t_getI fl_8_282 dX8_bid_71 ob_405 rfl ?_
            refine s_iconst (v := 5) dX8_bid_74 (by decide) ?_
            refine s_iadd dX8_bid_75 ?_
            refine s_icmp_lt (tgt := 92) dX8_bid_76 (by decide) (fun c => ?_) (fun c => ?_)
            · have H := H.1 c
              exact t_loc [0, 1, 2] rfl (v_X8_bid_92 p1 p2      H)
            · have H := H.2 c
              exact t_loc [0, 1, 2] rfl (v_X8_bid_79 p1 p2      H)
  · have H := H.2 (bI_f c)
    refine s_iconst (v := 0) dX8_bid_34 (by decide) ?_
    exact s_iret dX8_bid_35 (Or.inl rfl) ⟨rfl, H⟩
def F_X8_bid (J : Nat → Nat → Int64) (p1 : Int32) (p2 : Int32) (V : Nat → Nat → Int32) (Qr : Option Value → (Nat → Nat → Int32) → Prop) (Qx : String → (Nat → Nat → Int32) → Prop) : Prop :=
CTc J mX8_isClub [.int p1] V (fun r V1 =>
  ∃ b1 : Bool, r = some (.int (bI b1)) ∧
  ((b1 = true) →
    CTc J mX8_in [.int p2, .int 1, .int 1000] V1 (fun r V2 =>
      ∃ b2 : Bool, r = some (.int (bI b2)) ∧
      ((b2 = true) →
        F_X8_bid_28 J p1 p2  0 V2 Qr Qx) ∧
      ((b2 = false) →
        F_X8_bid_28 J p1 p2  2 V2 Qr Qx)) Qx) ∧
  ((b1 = false) →
    F_X8_bid_28 J p1 p2  1 V1 Qr Qx)) Qx
theorem v_X8_bid {J : Nat → Nat → Int64} (p1 : Int32) (p2 : Int32) {V : Nat → Nat → Int32} {Qr : Option Value → (Nat → Nat → Int32) → Prop} {Qx : String → (Nat → Nat → Int32) → Prop} (H : F_X8_bid J p1 p2 V Qr Qx) : CTc J mX8_bid [.ref 405, .int p1, .int p2] V Qr Qx := by
  refine ctc_of (M := (T0 J, V)) pX8_bid (fun _ _ => rfl) (Nat.le_of_ble_eq_true rfl) ?_
  unfold F_X8_bid at H
  show WPc J mX8_bid Qr Qx 0 [(0, .ref 405), (1, .int p1), (2, .int p2)] [] V 0 0
  refine s_aload_n dX8_bid_0 rfl ?_
  refine s_iload_n dX8_bid_1 rfl ?_
  refine t_cS (As := [.int p1]) (st := [.ref 405]) iv_8_163 dX8_bid_2 ⟨by decide, by decide⟩ rfl (Nat.le_of_ble_eq_true rfl) (by decide) (by decide) rfl H (fun r V1 H => ?_)
  obtain ⟨b1, rfl, H⟩ := H
  refine s_if_ne (tgt := 12) dX8_bid_5 (by decide) (fun c => ?_) (fun c => ?_)
  · have H := H.1 (bI_t c)
    refine s_iload_n dX8_bid_12 rfl ?_
    refine s_iconst (v := 1) dX8_bid_13 (by decide) ?_
    refine s_sipush (v := 1000) dX8_bid_14 (by decide) ?_
    refine t_cS (As := [.int p2, .int 1, .int 1000]) (st := [.ref 405]) iv_8_81 dX8_bid_17 ⟨by decide, by decide⟩ rfl (Nat.le_of_ble_eq_true rfl) (by decide) (by decide) rfl H (fun r V2 H => ?_)
    obtain ⟨b2, rfl, H⟩ := H
    refine s_if_ne (tgt := 27) dX8_bid_20 (by decide) (fun c => ?_) (fun c => ?_)
    · have H := H.1 (bI_t c)
      refine s_iconst (v := 0) dX8_bid_27 (by decide) ?_
      exact t_loc [0, 1, 2] rfl (v_X8_bid_28 p1 p2    0  H)
    · have H := H.2 (bI_f c)
      refine s_iconst (v := 2) dX8_bid_23 (by decide) ?_
      refine s_goto (tgt := 28) dX8_bid_24 (by decide) ?_
      exact t_loc [0, 1, 2] rfl (v_X8_bid_28 p1 p2    2  H)
  · have H := H.2 (bI_f c)
    refine s_iconst (v := 1) dX8_bid_8 (by decide) ?_
    refine s_goto (tgt := 28) dX8_bid_9 (by decide) ?_
    exact t_loc [0, 1, 2] rfl (v_X8_bid_28 p1 p2    1  H)

def F_X8_sells_68 (J : Nat → Nat → Int64) (p1 : Int32) (s0 : Int32) (s1 : Int32) (s2 : Int32) (V : Nat → Nat → Int32) (Qr : Option Value → (Nat → Nat → Int32) → Prop) (Qx : String → (Nat → Nat → Int32) → Prop) : Prop :=
vp_in s2 8 ∧
Qr (some (.int p1)) (up2 (up2 (up2 V 423 s2.toNatClampNeg (s1 + s0)) 405 33 (-1)) 405 37 0)
theorem v_X8_sells_68 {J : Nat → Nat → Int64} (p1 : Int32) {Qr : Option Value → (Nat → Nat → Int32) → Prop} {Qx : String → (Nat → Nat → Int32) → Prop} (s0 : Int32) (s1 : Int32) (s2 : Int32)  {V : Nat → Nat → Int32} (H : F_X8_sells_68 J p1  s0 s1 s2 V Qr Qx) : WPc J mX8_sells Qr Qx 68 [(0, .ref 405), (1, .int p1)] [.int s0, .int s1, .int s2, .ref 423] V 0 0 := by
  unfold F_X8_sells_68 at H
  refine s_iadd dX8_sells_68 ?_
  refine t_iast dX8_sells_69 ap_423 H.1 ?_
  have H := H.2
  refine s_aload_n dX8_sells_70 rfl ?_
  refine s_iconst (v := (-1)) dX8_sells_71 (by decide) ?_
  refine t_putI fl_8_74 dX8_sells_72 ob_405 (Or.inl rfl) ?_
  refine s_aload_n dX8_sells_75 rfl ?_
  refine s_iconst (v := 0) dX8_sells_76 (by decide) ?_
  refine t_putI fl_8_288 dX8_sells_77 ob_405 (Or.inr ⟨rfl, (Or.inl rfl)⟩) ?_
  refine s_iload_n dX8_sells_80 rfl ?_
  exact s_iret dX8_sells_81 (Or.inl rfl) ⟨rfl, H⟩
def F_X8_sells (J : Nat → Nat → Int64) (p1 : Int32) (V : Nat → Nat → Int32) (Qr : Option Value → (Nat → Nat → Int32) → Prop) (Qx : String → (Nat → Nat → Int32) → Prop) : Prop :=
vp_in (V 405 33) 24 ∧
vp_in ((up2 V 424 (V 405 33).toNatClampNeg p1) 405 33) 24 ∧
vp_in p1 8 ∧
vp_in p1 8 ∧
vp_in p1 8 ∧
vp_in p1 8 ∧
vp_in p1 8 ∧
CTc J mX8_isForeign [.int ((up2 (up2 (up2 (up2 V 424 (V 405 33).toNatClampNeg p1) 425 ((up2 V 424 (V 405 33).toNatClampNeg p1) 405 33).toNatClampNeg ((up2 V 424 (V 405 33).toNatClampNeg p1) 405 35)) 421 p1.toNatClampNeg (((up2 (up2 V 424 (V 405 33).toNatClampNeg p1) 425 ((up2 V 424 (V 405 33).toNatClampNeg p1) 405 33).toNatClampNeg ((up2 V 424 (V 405 33).toNatClampNeg p1) 405 35)) 421 p1.toNatClampNeg) - ((up2 (up2 V 424 (V 405 33).toNatClampNeg p1) 425 ((up2 V 424 (V 405 33).toNatClampNeg p1) 405 33).toNatClampNeg ((up2 V 424 (V 405 33).toNatClampNeg p1) 405 35)) 405 35))) 422 p1.toNatClampNeg (((up2 (up2 (up2 V 424 (V 405 33).toNatClampNeg p1) 425 ((up2 V 424 (V 405 33).toNatClampNeg p1) 405 33).toNatClampNeg ((up2 V 424 (V 405 33).toNatClampNeg p1) 405 35)) 421 p1.toNatClampNeg (((up2 (up2 V 424 (V 405 33).toNatClampNeg p1) 425 ((up2 V 424 (V 405 33).toNatClampNeg p1) 405 33).toNatClampNeg ((up2 V 424 (V 405 33).toNatClampNeg p1) 405 35)) 421 p1.toNatClampNeg) - ((up2 (up2 V 424 (V 405 33).toNatClampNeg p1) 425 ((up2 V 424 (V 405 33).toNatClampNeg p1) 405 33).toNatClampNeg ((up2 V 424 (V 405 33).toNatClampNeg p1) 405 35)) 405 35))) 422 p1.toNatClampNeg) + 1)) 405 33)] (up2 (up2 (up2 (up2 V 424 (V 405 33).toNatClampNeg p1) 425 ((up2 V 424 (V 405 33).toNatClampNeg p1) 405 33).toNatClampNeg ((up2 V 424 (V 405 33).toNatClampNeg p1) 405 35)) 421 p1.toNatClampNeg (((up2 (up2 V 424 (V 405 33).toNatClampNeg p1) 425 ((up2 V 424 (V 405 33).toNatClampNeg p1) 405 33).toNatClampNeg ((up2 V 424 (V 405 33).toNatClampNeg p1) 405 35)) 421 p1.toNatClampNeg) - ((up2 (up2 V 424 (V 405 33).toNatClampNeg p1) 425 ((up2 V 424 (V 405 33).toNatClampNeg p1) 405 33).toNatClampNeg ((up2 V 424 (V 405 33).toNatClampNeg p1) 405 35)) 405 35))) 422 p1.toNatClampNeg (((up2 (up2 (up2 V 424 (V 405 33).toNatClampNeg p1) 425 ((up2 V 424 (V 405 33).toNatClampNeg p1) 405 33).toNatClampNeg ((up2 V 424 (V 405 33).toNatClampNeg p1) 405 35)) 421 p1.toNatClampNeg (((up2 (up2 V 424 (V 405 33).toNatClampNeg p1) 425 ((up2 V 424 (V 405 33).toNatClampNeg p1) 405 33).toNatClampNeg ((up2 V 424 (V 405 33).toNatClampNeg p1) 405 35)) 421 p1.toNatClampNeg) - ((up2 (up2 V 424 (V 405 33).toNatClampNeg p1) 425 ((up2 V 424 (V 405 33).toNatClampNeg p1) 405 33).toNatClampNeg ((up2 V 424 (V 405 33).toNatClampNeg p1) 405 35)) 405 35))) 422 p1.toNatClampNeg) + 1)) (fun r V1 =>
  ∃ b1 : Bool, r = some (.int (bI b1)) ∧
  ((b1 = false) →
    F_X8_sells_68 J p1  0 ((up2 (up2 (up2 (up2 V 424 (V 405 33).toNatClampNeg p1) 425 ((up2 V 424 (V 405 33).toNatClampNeg p1) 405 33).toNatClampNeg ((up2 V 424 (V 405 33).toNatClampNeg p1) 405 35)) 421 p1.toNatClampNeg (((up2 (up2 V 424 (V 405 33).toNatClampNeg p1) 425 ((up2 V 424 (V 405 33).toNatClampNeg p1) 405 33).toNatClampNeg ((up2 V 424 (V 405 33).toNatClampNeg p1) 405 35)) 421 p1.toNatClampNeg) - ((up2 (up2 V 424 (V 405 33).toNatClampNeg p1) 425 ((up2 V 424 (V 405 33).toNatClampNeg p1) 405 33).toNatClampNeg ((up2 V 424 (V 405 33).toNatClampNeg p1) 405 35)) 405 35))) 422 p1.toNatClampNeg (((up2 (up2 (up2 V 424 (V 405 33).toNatClampNeg p1) 425 ((up2 V 424 (V 405 33).toNatClampNeg p1) 405 33).toNatClampNeg ((up2 V 424 (V 405 33).toNatClampNeg p1) 405 35)) 421 p1.toNatClampNeg (((up2 (up2 V 424 (V 405 33).toNatClampNeg p1) 425 ((up2 V 424 (V 405 33).toNatClampNeg p1) 405 33).toNatClampNeg ((up2 V 424 (V 405 33).toNatClampNeg p1) 405 35)) 421 p1.toNatClampNeg) - ((up2 (up2 V 424 (V 405 33).toNatClampNeg p1) 425 ((up2 V 424 (V 405 33).toNatClampNeg p1) 405 33).toNatClampNeg ((up2 V 424 (V 405 33).toNatClampNeg p1) 405 35)) 405 35))) 422 p1.toNatClampNeg) + 1)) 423 p1.toNatClampNeg) p1 V1 Qr Qx) ∧
  ((b1 = true) →
    F_X8_sells_68 J p1  1 ((up2 (up2 (up2 (up2 V 424 (V 405 33).toNatClampNeg p1) 425 ((up2 V 424 (V 405 33).toNatClampNeg p1) 405 33).toNatClampNeg ((up2 V 424 (V 405 33).toNatClampNeg p1) 405 35)) 421 p1.toNatClampNeg (((up2 (up2 V 424 (V 405 33).toNatClampNeg p1) 425 ((up2 V 424 (V 405 33).toNatClampNeg p1) 405 33).toNatClampNeg ((up2 V 424 (V 405 33).toNatClampNeg p1) 405 35)) 421 p1.toNatClampNeg) - ((up2 (up2 V 424 (V 405 33).toNatClampNeg p1) 425 ((up2 V 424 (V 405 33).toNatClampNeg p1) 405 33).toNatClampNeg ((up2 V 424 (V 405 33).toNatClampNeg p1) 405 35)) 405 35))) 422 p1.toNatClampNeg (((up2 (up2 (up2 V 424 (V 405 33).toNatClampNeg p1) 425 ((up2 V 424 (V 405 33).toNatClampNeg p1) 405 33).toNatClampNeg ((up2 V 424 (V 405 33).toNatClampNeg p1) 405 35)) 421 p1.toNatClampNeg (((up2 (up2 V 424 (V 405 33).toNatClampNeg p1) 425 ((up2 V 424 (V 405 33).toNatClampNeg p1) 405 33).toNatClampNeg ((up2 V 424 (V 405 33).toNatClampNeg p1) 405 35)) 421 p1.toNatClampNeg) - ((up2 (up2 V 424 (V 405 33).toNatClampNeg p1) 425 ((up2 V 424 (V 405 33).toNatClampNeg p1) 405 33).toNatClampNeg ((up2 V 424 (V 405 33).toNatClampNeg p1) 405 35)) 405 35))) 422 p1.toNatClampNeg) + 1)) 423 p1.toNatClampNeg) p1 V1 Qr Qx)) Qx
theorem v_X8_sells {J : Nat → Nat → Int64} (p1 : Int32) {V : Nat → Nat → Int32} {Qr : Option Value → (Nat → Nat → Int32) → Prop} {Qx : String → (Nat → Nat → Int32) → Prop} (H : F_X8_sells J p1 V Qr Qx) : CTc J mX8_sells [.ref 405, .int p1] V Qr Qx := by
  refine ctc_of (M := (T0 J, V)) pX8_sells (fun _ _ => rfl) (Nat.le_of_ble_eq_true rfl) ?_
  unfold F_X8_sells at H
  show WPc J mX8_sells Qr Qx 0 [(0, .ref 405), (1, .int p1)] [] V 0 0
  refine s_aload_n dX8_sells_0 rfl ?_
  refine t_getR (r := 424) fl_8_65 dX8_sells_1 ob_405 rfl rfl ?_
  refine s_aload_n dX8_sells_4 rfl ?_
  refine t_getI fl_8_74 dX8_sells_5 ob_405 rfl ?_
  refine s_iload_n dX8_sells_8 rfl ?_
  refine t_iast dX8_sells_9 ap_424 H.1 ?_
  have H := H.2
  refine s_aload_n dX8_sells_10 rfl ?_
  refine t_getR (r := 425) fl_8_68 dX8_sells_11 ob_405 rfl rfl ?_
  refine s_aload_n dX8_sells_14 rfl ?_
  refine t_getI fl_8_74 dX8_sells_15 ob_405 rfl ?_
  refine s_aload_n dX8_sells_18 rfl ?_
  refine t_getI fl_8_282 dX8_sells_19 ob_405 rfl ?_
  refine t_iast dX8_sells_22 ap_425 H.1 ?_
  have H := H.2
  refine s_aload_n dX8_sells_23 rfl ?_
  refine t_getR (r := 421) fl_8_56 dX8_sells_24 ob_405 rfl rfl ?_
  refine s_iload_n dX8_sells_27 rfl ?_
  refine s_dup2 dX8_sells_28 rfl rfl ?_
  refine t_iald dX8_sells_29 ap_421 H.1 ?_
  have H := H.2
  refine s_aload_n dX8_sells_30 rfl ?_
  refine t_getI fl_8_282 dX8_sells_31 ob_405 rfl ?_
  refine s_isub dX8_sells_34 ?_
  refine t_iast dX8_sells_35 ap_421 H.1 ?_
  have H := H.2
  refine s_aload_n dX8_sells_36 rfl ?_
  refine t_getR (r := 422) fl_8_59 dX8_sells_37 ob_405 rfl rfl ?_
  refine s_iload_n dX8_sells_40 rfl ?_
  refine s_dup2 dX8_sells_41 rfl rfl ?_
  refine t_iald dX8_sells_42 ap_422 H.1 ?_
  have H := H.2
  refine s_iconst (v := 1) dX8_sells_43 (by decide) ?_
  refine s_iadd dX8_sells_44 ?_
  refine t_iast dX8_sells_45 ap_422 H.1 ?_
  have H := H.2
  refine s_aload_n dX8_sells_46 rfl ?_
  refine t_getR (r := 423) fl_8_62 dX8_sells_47 ob_405 rfl rfl ?_
  refine s_iload_n dX8_sells_50 rfl ?_
  refine s_dup2 dX8_sells_51 rfl rfl ?_
  refine t_iald dX8_sells_52 ap_423 H.1 ?_
  have H := H.2
  refine s_aload_n dX8_sells_53 rfl ?_
  refine t_getI fl_8_74 dX8_sells_54 ob_405 rfl ?_
  refine t_cS (As := [.int ((up2 (up2 (up2 (up2 V 424 (V 405 33).toNatClampNeg p1) 425 ((up2 V 424 (V 405 33).toNatClampNeg p1) 405 33).toNatClampNeg ((up2 V 424 (V 405 33).toNatClampNeg p1) 405 35)) 421 p1.toNatClampNeg (((up2 (up2 V 424 (V 405 33).toNatClampNeg p1) 425 ((up2 V 424 (V 405 33).toNatClampNeg p1) 405 33).toNatClampNeg ((up2 V 424 (V 405 33).toNatClampNeg p1) 405 35)) 421 p1.toNatClampNeg) - ((up2 (up2 V 424 (V 405 33).toNatClampNeg p1) 425 ((up2 V 424 (V 405 33).toNatClampNeg p1) 405 33).toNatClampNeg ((up2 V 424 (V 405 33).toNatClampNeg p1) 405 35)) 405 35))) 422 p1.toNatClampNeg (((up2 (up2 (up2 V 424 (V 405 33).toNatClampNeg p1) 425 ((up2 V 424 (V 405 33).toNatClampNeg p1) 405 33).toNatClampNeg ((up2 V 424 (V 405 33).toNatClampNeg p1) 405 35)) 421 p1.toNatClampNeg (((up2 (up2 V 424 (V 405 33).toNatClampNeg p1) 425 ((up2 V 424 (V 405 33).toNatClampNeg p1) 405 33).toNatClampNeg ((up2 V 424 (V 405 33).toNatClampNeg p1) 405 35)) 421 p1.toNatClampNeg) - ((up2 (up2 V 424 (V 405 33).toNatClampNeg p1) 425 ((up2 V 424 (V 405 33).toNatClampNeg p1) 405 33).toNatClampNeg ((up2 V 424 (V 405 33).toNatClampNeg p1) 405 35)) 405 35))) 422 p1.toNatClampNeg) + 1)) 405 33)]) (st := [.int ((up2 (up2 (up2 (up2 V 424 (V 405 33).toNatClampNeg p1) 425 ((up2 V 424 (V 405 33).toNatClampNeg p1) 405 33).toNatClampNeg ((up2 V 424 (V 405 33).toNatClampNeg p1) 405 35)) 421 p1.toNatClampNeg (((up2 (up2 V 424 (V 405 33).toNatClampNeg p1) 425 ((up2 V 424 (V 405 33).toNatClampNeg p1) 405 33).toNatClampNeg ((up2 V 424 (V 405 33).toNatClampNeg p1) 405 35)) 421 p1.toNatClampNeg) - ((up2 (up2 V 424 (V 405 33).toNatClampNeg p1) 425 ((up2 V 424 (V 405 33).toNatClampNeg p1) 405 33).toNatClampNeg ((up2 V 424 (V 405 33).toNatClampNeg p1) 405 35)) 405 35))) 422 p1.toNatClampNeg (((up2 (up2 (up2 V 424 (V 405 33).toNatClampNeg p1) 425 ((up2 V 424 (V 405 33).toNatClampNeg p1) 405 33).toNatClampNeg ((up2 V 424 (V 405 33).toNatClampNeg p1) 405 35)) 421 p1.toNatClampNeg (((up2 (up2 V 424 (V 405 33).toNatClampNeg p1) 425 ((up2 V 424 (V 405 33).toNatClampNeg p1) 405 33).toNatClampNeg ((up2 V 424 (V 405 33).toNatClampNeg p1) 405 35)) 421 p1.toNatClampNeg) - ((up2 (up2 V 424 (V 405 33).toNatClampNeg p1) 425 ((up2 V 424 (V 405 33).toNatClampNeg p1) 405 33).toNatClampNeg ((up2 V 424 (V 405 33).toNatClampNeg p1) 405 35)) 405 35))) 422 p1.toNatClampNeg) + 1)) 423 p1.toNatClampNeg), .int p1, .ref 423]) iv_8_273 dX8_sells_57 ⟨by decide, by decide⟩ rfl (Nat.le_of_ble_eq_true rfl) (by decide) (by decide) rfl H (fun r V1 H => ?_)
  obtain ⟨b1, rfl, H⟩ := H
  refine s_if_eq (tgt := 67) dX8_sells_60 (by decide) (fun c => ?_) (fun c => ?_)
  · have H := H.1 (bI_f c)
    refine s_iconst (v := 0) dX8_sells_67 (by decide) ?_
    exact t_loc [0, 1] rfl (v_X8_sells_68 p1    0 ((up2 (up2 (up2 (up2 V 424 (V 405 33).toNatClampNeg p1) 425 ((up2 V 424 (V 405 33).toNatClampNeg p1) 405 33).toNatClampNeg ((up2 V 424 (V 405 33).toNatClampNeg p1) 405 35)) 421 p1.toNatClampNeg (((up2 (up2 V 424 (V 405 33).toNatClampNeg p1) 425 ((up2 V 424 (V 405 33).toNatClampNeg p1) 405 33).toNatClampNeg ((up2 V 424 (V 405 33).toNatClampNeg p1) 405 35)) 421 p1.toNatClampNeg) - ((up2 (up2 V 424 (V 405 33).toNatClampNeg p1) 425 ((up2 V 424 (V 405 33).toNatClampNeg p1) 405 33).toNatClampNeg ((up2 V 424 (V 405 33).toNatClampNeg p1) 405 35)) 405 35))) 422 p1.toNatClampNeg (((up2 (up2 (up2 V 424 (V 405 33).toNatClampNeg p1) 425 ((up2 V 424 (V 405 33).toNatClampNeg p1) 405 33).toNatClampNeg ((up2 V 424 (V 405 33).toNatClampNeg p1) 405 35)) 421 p1.toNatClampNeg (((up2 (up2 V 424 (V 405 33).toNatClampNeg p1) 425 ((up2 V 424 (V 405 33).toNatClampNeg p1) 405 33).toNatClampNeg ((up2 V 424 (V 405 33).toNatClampNeg p1) 405 35)) 421 p1.toNatClampNeg) - ((up2 (up2 V 424 (V 405 33).toNatClampNeg p1) 425 ((up2 V 424 (V 405 33).toNatClampNeg p1) 405 33).toNatClampNeg ((up2 V 424 (V 405 33).toNatClampNeg p1) 405 35)) 405 35))) 422 p1.toNatClampNeg) + 1)) 423 p1.toNatClampNeg) p1  H)
  · have H := H.2 (bI_t c)
    refine s_iconst (v := 1) dX8_sells_63 (by decide) ?_
    refine s_goto (tgt := 68) dX8_sells_64 (by decide) ?_
    exact t_loc [0, 1] rfl (v_X8_sells_68 p1    1 ((up2 (up2 (up2 (up2 V 424 (V 405 33).toNatClampNeg p1) 425 ((up2 V 424 (V 405 33).toNatClampNeg p1) 405 33).toNatClampNeg ((up2 V 424 (V 405 33).toNatClampNeg p1) 405 35)) 421 p1.toNatClampNeg (((up2 (up2 V 424 (V 405 33).toNatClampNeg p1) 425 ((up2 V 424 (V 405 33).toNatClampNeg p1) 405 33).toNatClampNeg ((up2 V 424 (V 405 33).toNatClampNeg p1) 405 35)) 421 p1.toNatClampNeg) - ((up2 (up2 V 424 (V 405 33).toNatClampNeg p1) 425 ((up2 V 424 (V 405 33).toNatClampNeg p1) 405 33).toNatClampNeg ((up2 V 424 (V 405 33).toNatClampNeg p1) 405 35)) 405 35))) 422 p1.toNatClampNeg (((up2 (up2 (up2 V 424 (V 405 33).toNatClampNeg p1) 425 ((up2 V 424 (V 405 33).toNatClampNeg p1) 405 33).toNatClampNeg ((up2 V 424 (V 405 33).toNatClampNeg p1) 405 35)) 421 p1.toNatClampNeg (((up2 (up2 V 424 (V 405 33).toNatClampNeg p1) 425 ((up2 V 424 (V 405 33).toNatClampNeg p1) 405 33).toNatClampNeg ((up2 V 424 (V 405 33).toNatClampNeg p1) 405 35)) 421 p1.toNatClampNeg) - ((up2 (up2 V 424 (V 405 33).toNatClampNeg p1) 425 ((up2 V 424 (V 405 33).toNatClampNeg p1) 405 33).toNatClampNeg ((up2 V 424 (V 405 33).toNatClampNeg p1) 405 35)) 405 35))) 422 p1.toNatClampNeg) + 1)) 423 p1.toNatClampNeg) p1  H)

def F_X8_hammer_21 (J : Nat → Nat → Int64)  (s0 : Int32) (V : Nat → Nat → Int32) (Qr : Option Value → (Nat → Nat → Int32) → Prop) (Qx : String → (Nat → Nat → Int32) → Prop) : Prop :=
CTc J mX8_holds [.ref 405, .int s0] V (fun r V1 =>
  ∃ b1 : Bool, r = some (.int (bI b1)) ∧
  ((b1 = true) →
    ((¬ (V1 405 34) = 0) →
      vp_in (V1 405 33) 24 ∧
      (((V1 426 (V1 405 33).toNatClampNeg) = (-1)) →
        CTc J mX8_sells [.ref 405, .int (V1 405 36)] V1 (fun r V2 =>
          ∃ r2 : Int32, r = some (.int r2) ∧
          Qr (some (.int r2)) V2) Qx) ∧
      ((¬ (V1 426 (V1 405 33).toNatClampNeg) = (-1)) →
        (((V1 426 (V1 405 33).toNatClampNeg) = (V1 405 36)) →
          CTc J mX8_sells [.ref 405, .int (V1 405 36)] V1 (fun r V2 =>
            ∃ r2 : Int32, r = some (.int r2) ∧
            Qr (some (.int r2)) V2) Qx) ∧
        ((¬ (V1 426 (V1 405 33).toNatClampNeg) = (V1 405 36)) →
          CTc J mX8_canBid [.ref 405, .int (V1 426 (V1 405 33).toNatClampNeg), .int (V1 405 33), .int (V1 405 35)] V1 (fun r V2 =>
            ∃ b2 : Bool, r = some (.int (bI b2)) ∧
            ((b2 = false) →
              CTc J mX8_sells [.ref 405, .int (V2 405 36)] V2 (fun r V3 =>
                ∃ r3 : Int32, r = some (.int r3) ∧
                Qr (some (.int r3)) V3) Qx) ∧
            ((b2 = true) →
              Qr (some (.int (-1))) (up2 V2 405 37 1))) Qx))) ∧
    (((V1 405 34) = 0) →
      Qr (some (.int (-1))) (up2 V1 405 33 (-1)))) ∧
  ((b1 = false) →
    Qr (some (.int 0)) V1)) Qx
theorem v_X8_hammer_21 {J : Nat → Nat → Int64}  {Qr : Option Value → (Nat → Nat → Int32) → Prop} {Qx : String → (Nat → Nat → Int32) → Prop} (s0 : Int32)  {V : Nat → Nat → Int32} (H : F_X8_hammer_21 J   s0 V Qr Qx) : WPc J mX8_hammer Qr Qx 21 [(0, .ref 405)] [.int s0, .ref 405] V 0 0 := by
  unfold F_X8_hammer_21 at H
  refine t_cV (h := 405) (As := [.int s0]) (st := []) iv_8_169 dX8_hammer_21 ⟨by decide, by decide⟩ rfl (Nat.le_of_ble_eq_true rfl) (by decide) (by decide) rfl ob_405 H (fun r V1 H => ?_)
  obtain ⟨b1, rfl, H⟩ := H
  refine s_if_ne (tgt := 29) dX8_hammer_24 (by decide) (fun c => ?_) (fun c => ?_)
  · have H := H.1 (bI_t c)
    refine s_aload_n dX8_hammer_29 rfl ?_
    refine t_getI fl_8_279 dX8_hammer_30 ob_405 rfl ?_
    refine s_if_ne (tgt := 43) dX8_hammer_33 (by decide) (fun c => ?_) (fun c => ?_)
    · have H := H.1 c
      refine s_aload_n dX8_hammer_43 rfl ?_
      refine t_getR (r := 426) fl_8_71 dX8_hammer_44 ob_405 rfl rfl ?_
      refine s_aload_n dX8_hammer_47 rfl ?_
      refine t_getI fl_8_74 dX8_hammer_48 ob_405 rfl ?_
      refine t_iald dX8_hammer_51 ap_426 H.1 ?_
      have H := H.2
      refine t_istore_n (L' := [(1, .int (V1 426 (V1 405 33).toNatClampNeg)), (0, .ref 405)]) dX8_hammer_52 (by decide) rfl ?_
      refine s_iload_n dX8_hammer_53 rfl ?_
      refine s_iconst (v := (-1)) dX8_hammer_54 (by decide) ?_
      refine s_icmp_eq (tgt := 89) dX8_hammer_55 (by decide) (fun c => ?_) (fun c => ?_)
      · have H := H.1 c
        refine s_aload_n dX8_hammer_89 rfl ?_
        refine s_aload_n dX8_hammer_90 rfl ?_
        refine t_getI fl_8_285 dX8_hammer_91 ob_405 rfl ?_
        refine t_cV (h := 405) (As := [.int (V1 405 36)]) (st := []) iv_8_297 dX8_hammer_94 ⟨by decide, by decide⟩ rfl (Nat.le_of_ble_eq_true rfl) (by decide) (by decide) rfl ob_405 H (fun r V2 H => ?_)
        obtain ⟨r2, rfl, H⟩ := H
        exact s_iret dX8_hammer_97 (Or.inl rfl) ⟨rfl, H⟩
      · have H := H.2 c
        refine s_iload_n dX8_hammer_58 rfl ?_
        refine s_aload_n dX8_hammer_59 rfl ?_
        refine t_getI fl_8_285 dX8_hammer_60 ob_405 rfl ?_
        refine s_icmp_eq (tgt := 89) dX8_hammer_63 (by decide) (fun c => ?_) (fun c => ?_)
        · have H := H.1 c
          refine s_aload_n dX8_hammer_89 rfl ?_
          refine s_aload_n dX8_hammer_90 rfl ?_
          refine t_getI fl_8_285 dX8_hammer_91 ob_405 rfl ?_
          refine t_cV (h := 405) (As := [.int (V1 405 36)]) (st := []) iv_8_297 dX8_hammer_94 ⟨by decide, by decide⟩ rfl (Nat.le_of_ble_eq_true rfl) (by decide) (by decide) rfl ob_405 H (fun r V2 H => ?_)
          obtain ⟨r2, rfl, H⟩ := H
          exact s_iret dX8_hammer_97 (Or.inl rfl) ⟨rfl, H⟩
        · have H := H.2 c
          refine s_aload_n dX8_hammer_66 rfl ?_
          refine s_iload_n dX8_hammer_67 rfl ?_
          refine s_aload_n dX8_hammer_68 rfl ?_
          refine t_getI fl_8_74 dX8_hammer_69 ob_405 rfl ?_
          refine s_aload_n dX8_hammer_72 rfl ?_
          refine t_getI fl_8_282 dX8_hammer_73 ob_405 rfl ?_
          refine t_cV (h := 405) (As := [.int (V1 426 (V1 405 33).toNatClampNeg), .int (V1 405 33), .int (V1 405 35)]) (st := []) iv_8_294 dX8_hammer_76 ⟨by decide, by decide⟩ rfl (Nat.le_of_ble_eq_true rfl) (by decide) (by decide) rfl ob_405 H (fun r V2 H => ?_)
          obtain ⟨b2, rfl, H⟩ := H
          refine s_if_eq (tgt := 89) dX8_hammer_79 (by decide) (fun c => ?_) (fun c => ?_)
          · have H := H.1 (bI_f c)
            refine s_aload_n dX8_hammer_89 rfl ?_
            refine s_aload_n dX8_hammer_90 rfl ?_
            refine t_getI fl_8_285 dX8_hammer_91 ob_405 rfl ?_
            refine t_cV (h := 405) (As := [.int (V2 405 36)]) (st := []) iv_8_297 dX8_hammer_94 ⟨by decide, by decide⟩ rfl (Nat.le_of_ble_eq_true rfl) (by decide) (by decide) rfl ob_405 H (fun r V3 H => ?_)
            obtain ⟨r3, rfl, H⟩ := H
            exact s_iret dX8_hammer_97 (Or.inl rfl) ⟨rfl, H⟩
          · have H := H.2 (bI_t c)
            refine s_aload_n dX8_hammer_82 rfl ?_
            refine s_iconst (v := 1) dX8_hammer_83 (by decide) ?_
            refine t_putI fl_8_288 dX8_hammer_84 ob_405 (Or.inr ⟨rfl, (Or.inr rfl)⟩) ?_
            refine s_iconst (v := (-1)) dX8_hammer_87 (by decide) ?_
            exact s_iret dX8_hammer_88 (Or.inl rfl) ⟨rfl, H⟩
    · have H := H.2 c
      refine s_aload_n dX8_hammer_36 rfl ?_
      refine s_iconst (v := (-1)) dX8_hammer_37 (by decide) ?_
      refine t_putI fl_8_74 dX8_hammer_38 ob_405 (Or.inl rfl) ?_
      refine s_iconst (v := (-1)) dX8_hammer_41 (by decide) ?_
      exact s_iret dX8_hammer_42 (Or.inl rfl) ⟨rfl, H⟩
  · have H := H.2 (bI_f c)
    refine s_iconst (v := 0) dX8_hammer_27 (by decide) ?_
    exact s_iret dX8_hammer_28 (Or.inl rfl) ⟨rfl, H⟩
def F_X8_hammer_16 (J : Nat → Nat → Int64)   (V : Nat → Nat → Int32) (Qr : Option Value → (Nat → Nat → Int32) → Prop) (Qx : String → (Nat → Nat → Int32) → Prop) : Prop :=
F_X8_hammer_21 J   1 V Qr Qx
theorem v_X8_hammer_16 {J : Nat → Nat → Int64}  {Qr : Option Value → (Nat → Nat → Int32) → Prop} {Qx : String → (Nat → Nat → Int32) → Prop}   {V : Nat → Nat → Int32} (H : F_X8_hammer_16 J    V Qr Qx) : WPc J mX8_hammer Qr Qx 16 [(0, .ref 405)] [.ref 405] V 0 0 := by
  unfold F_X8_hammer_16 at H
  refine s_iconst (v := 1) dX8_hammer_16 (by decide) ?_
  refine s_goto (tgt := 21) dX8_hammer_17 (by decide) ?_
  exact t_loc [0] rfl (v_X8_hammer_21     1  H)
def F_X8_hammer (J : Nat → Nat → Int64)  (V : Nat → Nat → Int32) (Qr : Option Value → (Nat → Nat → Int32) → Prop) (Qx : String → (Nat → Nat → Int32) → Prop) : Prop :=
(((V 405 33) = (-1)) →
  F_X8_hammer_16 J    V Qr Qx) ∧
((¬ (V 405 33) = (-1)) →
  (((V 405 37) = 0) →
    F_X8_hammer_21 J   0 V Qr Qx) ∧
  ((¬ (V 405 37) = 0) →
    F_X8_hammer_16 J    V Qr Qx))
theorem v_X8_hammer {J : Nat → Nat → Int64}  {V : Nat → Nat → Int32} {Qr : Option Value → (Nat → Nat → Int32) → Prop} {Qx : String → (Nat → Nat → Int32) → Prop} (H : F_X8_hammer J  V Qr Qx) : CTc J mX8_hammer [.ref 405] V Qr Qx := by
  refine ctc_of (M := (T0 J, V)) pX8_hammer (fun _ _ => rfl) (Nat.le_of_ble_eq_true rfl) ?_
  unfold F_X8_hammer at H
  show WPc J mX8_hammer Qr Qx 0 [(0, .ref 405)] [] V 0 0
  refine s_aload_n dX8_hammer_0 rfl ?_
  refine s_aload_n dX8_hammer_1 rfl ?_
  refine t_getI fl_8_74 dX8_hammer_2 ob_405 rfl ?_
  refine s_iconst (v := (-1)) dX8_hammer_5 (by decide) ?_
  refine s_icmp_eq (tgt := 16) dX8_hammer_6 (by decide) (fun c => ?_) (fun c => ?_)
  · have H := H.1 c
    exact t_loc [0] rfl (v_X8_hammer_16       H)
  · have H := H.2 c
    refine s_aload_n dX8_hammer_9 rfl ?_
    refine t_getI fl_8_288 dX8_hammer_10 ob_405 rfl ?_
    refine s_if_eq (tgt := 20) dX8_hammer_13 (by decide) (fun c => ?_) (fun c => ?_)
    · have H := H.1 c
      refine s_iconst (v := 0) dX8_hammer_20 (by decide) ?_
      exact t_loc [0] rfl (v_X8_hammer_21     0  H)
    · have H := H.2 c
      exact t_loc [0] rfl (v_X8_hammer_16       H)

def F_X8_answer_21 (J : Nat → Nat → Int64) (p1 : Int32) (s0 : Int32) (V : Nat → Nat → Int32) (Qr : Option Value → (Nat → Nat → Int32) → Prop) (Qx : String → (Nat → Nat → Int32) → Prop) : Prop :=
CTc J mX8_holds [.ref 405, .int s0] V (fun r V1 =>
  ∃ b1 : Bool, r = some (.int (bI b1)) ∧
  ((b1 = true) →
    vp_in (V1 405 33) 24 ∧
    vp_in (V1 405 33) 24 ∧
    ((p1 = 0) →
      CTc J mX8_sells [.ref 405, .int ((up2 V1 426 (V1 405 33).toNatClampNeg (-1)) 405 36)] (up2 V1 426 (V1 405 33).toNatClampNeg (-1)) (fun r V2 =>
        ∃ r2 : Int32, r = some (.int r2) ∧
        Qr (some (.int r2)) V2) Qx) ∧
    ((¬ p1 = 0) →
      CTc J mX8_sells [.ref 405, .int (V1 426 (V1 405 33).toNatClampNeg)] (up2 V1 426 (V1 405 33).toNatClampNeg (-1)) (fun r V2 =>
        ∃ r2 : Int32, r = some (.int r2) ∧
        Qr (some (.int r2)) V2) Qx)) ∧
  ((b1 = false) →
    Qr (some (.int 0)) V1)) Qx
theorem v_X8_answer_21 {J : Nat → Nat → Int64} (p1 : Int32) {Qr : Option Value → (Nat → Nat → Int32) → Prop} {Qx : String → (Nat → Nat → Int32) → Prop} (s0 : Int32)  {V : Nat → Nat → Int32} (H : F_X8_answer_21 J p1  s0 V Qr Qx) : WPc J mX8_answer Qr Qx 21 [(0, .ref 405), (1, .int p1)] [.int s0, .ref 405] V 0 0 := by
  unfold F_X8_answer_21 at H
  refine t_cV (h := 405) (As := [.int s0]) (st := []) iv_8_169 dX8_answer_21 ⟨by decide, by decide⟩ rfl (Nat.le_of_ble_eq_true rfl) (by decide) (by decide) rfl ob_405 H (fun r V1 H => ?_)
  obtain ⟨b1, rfl, H⟩ := H
  refine s_if_ne (tgt := 29) dX8_answer_24 (by decide) (fun c => ?_) (fun c => ?_)
  · have H := H.1 (bI_t c)
    refine s_aload_n dX8_answer_29 rfl ?_
    refine t_getR (r := 426) fl_8_71 dX8_answer_30 ob_405 rfl rfl ?_
    refine s_aload_n dX8_answer_33 rfl ?_
    refine t_getI fl_8_74 dX8_answer_34 ob_405 rfl ?_
    refine t_iald dX8_answer_37 ap_426 H.1 ?_
    have H := H.2
    refine t_istore_n (L' := [(2, .int (V1 426 (V1 405 33).toNatClampNeg)), (0, .ref 405), (1, .int p1)]) dX8_answer_38 (by decide) rfl ?_
    refine s_aload_n dX8_answer_39 rfl ?_
    refine t_getR (r := 426) fl_8_71 dX8_answer_40 ob_405 rfl rfl ?_
    refine s_aload_n dX8_answer_43 rfl ?_
    refine t_getI fl_8_74 dX8_answer_44 ob_405 rfl ?_
    refine s_iconst (v := (-1)) dX8_answer_47 (by decide) ?_
    refine t_iast dX8_answer_48 ap_426 H.1 ?_
    have H := H.2
    refine s_aload_n dX8_answer_49 rfl ?_
    refine s_iload_n dX8_answer_50 rfl ?_
    refine s_if_eq (tgt := 58) dX8_answer_51 (by decide) (fun c => ?_) (fun c => ?_)
    · have H := H.1 c
      refine s_aload_n dX8_answer_58 rfl ?_
      refine t_getI fl_8_285 dX8_answer_59 ob_405 rfl ?_
      refine t_cV (h := 405) (As := [.int ((up2 V1 426 (V1 405 33).toNatClampNeg (-1)) 405 36)]) (st := []) iv_8_297 dX8_answer_62 ⟨by decide, by decide⟩ rfl (Nat.le_of_ble_eq_true rfl) (by decide) (by decide) rfl ob_405 H (fun r V2 H => ?_)
      obtain ⟨r2, rfl, H⟩ := H
      exact s_iret dX8_answer_65 (Or.inl rfl) ⟨rfl, H⟩
    · have H := H.2 c
      refine s_iload_n dX8_answer_54 rfl ?_
      refine s_goto (tgt := 62) dX8_answer_55 (by decide) ?_
      refine t_cV (h := 405) (As := [.int (V1 426 (V1 405 33).toNatClampNeg)]) (st := []) iv_8_297 dX8_answer_62 ⟨by decide, by decide⟩ rfl (Nat.le_of_ble_eq_true rfl) (by decide) (by decide) rfl ob_405 H (fun r V2 H => ?_)
      obtain ⟨r2, rfl, H⟩ := H
      exact s_iret dX8_answer_65 (Or.inl rfl) ⟨rfl, H⟩
  · have H := H.2 (bI_f c)
    refine s_iconst (v := 0) dX8_answer_27 (by decide) ?_
    exact s_iret dX8_answer_28 (Or.inl rfl) ⟨rfl, H⟩
def F_X8_answer_20 (J : Nat → Nat → Int64) (p1 : Int32)  (V : Nat → Nat → Int32) (Qr : Option Value → (Nat → Nat → Int32) → Prop) (Qx : String → (Nat → Nat → Int32) → Prop) : Prop :=
F_X8_answer_21 J p1  1 V Qr Qx
theorem v_X8_answer_20 {J : Nat → Nat → Int64} (p1 : Int32) {Qr : Option Value → (Nat → Nat → Int32) → Prop} {Qx : String → (Nat → Nat → Int32) → Prop}   {V : Nat → Nat → Int32} (H : F_X8_answer_20 J p1   V Qr Qx) : WPc J mX8_answer Qr Qx 20 [(0, .ref 405), (1, .int p1)] [.ref 405] V 0 0 := by
  unfold F_X8_answer_20 at H
  refine s_iconst (v := 1) dX8_answer_20 (by decide) ?_
  exact t_loc [0, 1] rfl (v_X8_answer_21 p1    1  H)
def F_X8_answer (J : Nat → Nat → Int64) (p1 : Int32) (V : Nat → Nat → Int32) (Qr : Option Value → (Nat → Nat → Int32) → Prop) (Qx : String → (Nat → Nat → Int32) → Prop) : Prop :=
(((V 405 33) = (-1)) →
  F_X8_answer_20 J p1   V Qr Qx) ∧
((¬ (V 405 33) = (-1)) →
  (((V 405 37) = 0) →
    F_X8_answer_20 J p1   V Qr Qx) ∧
  ((¬ (V 405 37) = 0) →
    F_X8_answer_21 J p1  0 V Qr Qx))
theorem v_X8_answer {J : Nat → Nat → Int64} (p1 : Int32) {V : Nat → Nat → Int32} {Qr : Option Value → (Nat → Nat → Int32) → Prop} {Qx : String → (Nat → Nat → Int32) → Prop} (H : F_X8_answer J p1 V Qr Qx) : CTc J mX8_answer [.ref 405, .int p1] V Qr Qx := by
  refine ctc_of (M := (T0 J, V)) pX8_answer (fun _ _ => rfl) (Nat.le_of_ble_eq_true rfl) ?_
  unfold F_X8_answer at H
  show WPc J mX8_answer Qr Qx 0 [(0, .ref 405), (1, .int p1)] [] V 0 0
  refine s_aload_n dX8_answer_0 rfl ?_
  refine s_aload_n dX8_answer_1 rfl ?_
  refine t_getI fl_8_74 dX8_answer_2 ob_405 rfl ?_
  refine s_iconst (v := (-1)) dX8_answer_5 (by decide) ?_
  refine s_icmp_eq (tgt := 20) dX8_answer_6 (by decide) (fun c => ?_) (fun c => ?_)
  · have H := H.1 c
    exact t_loc [0, 1] rfl (v_X8_answer_20 p1      H)
  · have H := H.2 c
    refine s_aload_n dX8_answer_9 rfl ?_
    refine t_getI fl_8_288 dX8_answer_10 ob_405 rfl ?_
    refine s_if_eq (tgt := 20) dX8_answer_13 (by decide) (fun c => ?_) (fun c => ?_)
    · have H := H.1 c
      exact t_loc [0, 1] rfl (v_X8_answer_20 p1      H)
    · have H := H.2 c
      refine s_iconst (v := 0) dX8_answer_16 (by decide) ?_
      refine s_goto (tgt := 21) dX8_answer_17 (by decide) ?_
      exact t_loc [0, 1] rfl (v_X8_answer_21 p1    0  H)

def F_X8_lot_26 (J : Nat → Nat → Int64) (p1 : Int32) (p2 : Int32) (s0 : Int32) (V : Nat → Nat → Int32) (Qr : Option Value → (Nat → Nat → Int32) → Prop) (Qx : String → (Nat → Nat → Int32) → Prop) : Prop :=
CTc J mX8_holds [.ref 405, .int s0] V (fun r V1 =>
  ∃ b1 : Bool, r = some (.int (bI b1)) ∧
  ((b1 = true) →
    ((¬ p2 = 0) →
      ((¬ p2 = 1) →
        ((¬ p2 = 2) →
          ((¬ (V1 405 33) = p1) →
            Qr (some (.int (-1))) V1) ∧
          (((V1 405 33) = p1) →
            (((V1 405 34) ≤ 0) →
              Qr (some (.int (-1))) V1) ∧
            ((¬ (V1 405 34) ≤ 0) →
              Qr (some (.int (V1 405 35))) V1))) ∧
        ((p2 = 2) →
          vp_in p1 24 ∧
          Qr (some (.int (V1 426 p1.toNatClampNeg))) V1)) ∧
      ((p2 = 1) →
        vp_in p1 24 ∧
        Qr (some (.int (V1 425 p1.toNatClampNeg))) V1)) ∧
    ((p2 = 0) →
      vp_in p1 24 ∧
      Qr (some (.int (V1 424 p1.toNatClampNeg))) V1)) ∧
  ((b1 = false) →
    Qr (some (.int 0)) V1)) Qx
theorem v_X8_lot_26 {J : Nat → Nat → Int64} (p1 : Int32) (p2 : Int32) {Qr : Option Value → (Nat → Nat → Int32) → Prop} {Qx : String → (Nat → Nat → Int32) → Prop} (s0 : Int32)  {V : Nat → Nat → Int32} (H : F_X8_lot_26 J p1 p2  s0 V Qr Qx) : WPc J mX8_lot Qr Qx 26 [(0, .ref 405), (1, .int p1), (2, .int p2)] [.int s0, .ref 405] V 0 0 := by
  unfold F_X8_lot_26 at H
  refine t_cV (h := 405) (As := [.int s0]) (st := []) iv_8_169 dX8_lot_26 ⟨by decide, by decide⟩ rfl (Nat.le_of_ble_eq_true rfl) (by decide) (by decide) rfl ob_405 H (fun r V1 H => ?_)
  obtain ⟨b1, rfl, H⟩ := H
  refine s_if_ne (tgt := 34) dX8_lot_29 (by decide) (fun c => ?_) (fun c => ?_)
  · have H := H.1 (bI_t c)
    refine s_iload_n dX8_lot_34 rfl ?_
    refine s_if_ne (tgt := 47) dX8_lot_35 (by decide) (fun c => ?_) (fun c => ?_)
    · have H := H.1 c
      refine s_iload_n dX8_lot_47 rfl ?_
      refine s_iconst (v := 1) dX8_lot_48 (by decide) ?_
      refine s_icmp_ne (tgt := 61) dX8_lot_49 (by decide) (fun c => ?_) (fun c => ?_)
      · have H := H.1 c
        refine s_iload_n dX8_lot_61 rfl ?_
        refine s_iconst (v := 2) dX8_lot_62 (by decide) ?_
        refine s_icmp_ne (tgt := 75) dX8_lot_63 (by decide) (fun c => ?_) (fun c => ?_)
        · have H := H.1 c
          refine s_aload_n dX8_lot_75 rfl ?_
          refine t_getI fl_8_74 dX8_lot_76 ob_405 rfl ?_
          refine s_iload_n dX8_lot_79 rfl ?_
          refine s_icmp_ne (tgt := 97) dX8_lot_80 (by decide) (fun c => ?_) (fun c => ?_)
          · have H := H.1 c
            refine s_iconst (v := (-1)) dX8_lot_97 (by decide) ?_
            exact s_iret dX8_lot_98 (Or.inl rfl) ⟨rfl, H⟩
          · have H := H.2 c
            refine s_aload_n dX8_lot_83 rfl ?_
            refine t_getI fl_8_279 dX8_lot_84 ob_405 rfl ?_
            refine s_if_le (tgt := 97) dX8_lot_87 (by decide) (fun c => ?_) (fun c => ?_)
            · have H := H.1 c
              refine s_iconst (v := (-1)) dX8_lot_97 (by decide) ?_
              exact s_iret dX8_lot_98 (Or.inl rfl) ⟨rfl, H⟩
            · have H := H.2 c
              refine s_aload_n dX8_lot_90 rfl ?_
              refine t_getI fl_8_282 dX8_lot_91 ob_405 rfl ?_
              refine s_goto (tgt := 98) dX8_lot_94 (by decide) ?_
              exact s_iret dX8_lot_98 (Or.inl rfl) ⟨rfl, H⟩
        · have H := H.2 c
          refine s_aload_n dX8_lot_66 rfl ?_
          refine t_getR (r := 426) fl_8_71 dX8_lot_67 ob_405 rfl rfl ?_
          refine s_iload_n dX8_lot_70 rfl ?_
          refine t_iald dX8_lot_71 ap_426 H.1 ?_
          have H := H.2
          refine s_goto (tgt := 98) dX8_lot_72 (by decide) ?_
          exact s_iret dX8_lot_98 (Or.inl rfl) ⟨rfl, H⟩
      · have H := H.2 c
        refine s_aload_n dX8_lot_52 rfl ?_
        refine t_getR (r := 425) fl_8_68 dX8_lot_53 ob_405 rfl rfl ?_
        refine s_iload_n dX8_lot_56 rfl ?_
        refine t_iald dX8_lot_57 ap_425 H.1 ?_
        have H := H.2
        refine s_goto (tgt := 98) dX8_lot_58 (by decide) ?_
        exact s_iret dX8_lot_98 (Or.inl rfl) ⟨rfl, H⟩
    · have H := H.2 c
      refine s_aload_n dX8_lot_38 rfl ?_
      refine t_getR (r := 424) fl_8_65 dX8_lot_39 ob_405 rfl rfl ?_
      refine s_iload_n dX8_lot_42 rfl ?_
      refine t_iald dX8_lot_43 ap_424 H.1 ?_
      have H := H.2
      refine s_goto (tgt := 98) dX8_lot_44 (by decide) ?_
      exact s_iret dX8_lot_98 (Or.inl rfl) ⟨rfl, H⟩
  · have H := H.2 (bI_f c)
    refine s_iconst (v := 0) dX8_lot_32 (by decide) ?_
    exact s_iret dX8_lot_33 (Or.inl rfl) ⟨rfl, H⟩
def F_X8_lot (J : Nat → Nat → Int64) (p1 : Int32) (p2 : Int32) (V : Nat → Nat → Int32) (Qr : Option Value → (Nat → Nat → Int32) → Prop) (Qx : String → (Nat → Nat → Int32) → Prop) : Prop :=
CTc J mX8_isLot [.int p1] V (fun r V1 =>
  ∃ b1 : Bool, r = some (.int (bI b1)) ∧
  ((b1 = true) →
    CTc J mX8_in [.int p2, .int 0, .int 3] V1 (fun r V2 =>
      ∃ b2 : Bool, r = some (.int (bI b2)) ∧
      ((b2 = false) →
        F_X8_lot_26 J p1 p2  2 V2 Qr Qx) ∧
      ((b2 = true) →
        F_X8_lot_26 J p1 p2  0 V2 Qr Qx)) Qx) ∧
  ((b1 = false) →
    F_X8_lot_26 J p1 p2  1 V1 Qr Qx)) Qx
theorem v_X8_lot {J : Nat → Nat → Int64} (p1 : Int32) (p2 : Int32) {V : Nat → Nat → Int32} {Qr : Option Value → (Nat → Nat → Int32) → Prop} {Qx : String → (Nat → Nat → Int32) → Prop} (H : F_X8_lot J p1 p2 V Qr Qx) : CTc J mX8_lot [.ref 405, .int p1, .int p2] V Qr Qx := by
  refine ctc_of (M := (T0 J, V)) pX8_lot (fun _ _ => rfl) (Nat.le_of_ble_eq_true rfl) ?_
  unfold F_X8_lot at H
  show WPc J mX8_lot Qr Qx 0 [(0, .ref 405), (1, .int p1), (2, .int p2)] [] V 0 0
  refine s_aload_n dX8_lot_0 rfl ?_
  refine s_iload_n dX8_lot_1 rfl ?_
  refine t_cS (As := [.int p1]) (st := [.ref 405]) iv_8_276 dX8_lot_2 ⟨by decide, by decide⟩ rfl (Nat.le_of_ble_eq_true rfl) (by decide) (by decide) rfl H (fun r V1 H => ?_)
  obtain ⟨b1, rfl, H⟩ := H
  refine s_if_ne (tgt := 12) dX8_lot_5 (by decide) (fun c => ?_) (fun c => ?_)
  · have H := H.1 (bI_t c)
    refine s_iload_n dX8_lot_12 rfl ?_
    refine s_iconst (v := 0) dX8_lot_13 (by decide) ?_
    refine s_iconst (v := 3) dX8_lot_14 (by decide) ?_
    refine t_cS (As := [.int p2, .int 0, .int 3]) (st := [.ref 405]) iv_8_81 dX8_lot_15 ⟨by decide, by decide⟩ rfl (Nat.le_of_ble_eq_true rfl) (by decide) (by decide) rfl H (fun r V2 H => ?_)
    obtain ⟨b2, rfl, H⟩ := H
    refine s_if_eq (tgt := 25) dX8_lot_18 (by decide) (fun c => ?_) (fun c => ?_)
    · have H := H.1 (bI_f c)
      refine s_iconst (v := 2) dX8_lot_25 (by decide) ?_
      exact t_loc [0, 1, 2] rfl (v_X8_lot_26 p1 p2    2  H)
    · have H := H.2 (bI_t c)
      refine s_iconst (v := 0) dX8_lot_21 (by decide) ?_
      refine s_goto (tgt := 26) dX8_lot_22 (by decide) ?_
      exact t_loc [0, 1, 2] rfl (v_X8_lot_26 p1 p2    0  H)
  · have H := H.2 (bI_f c)
    refine s_iconst (v := 1) dX8_lot_8 (by decide) ?_
    refine s_goto (tgt := 26) dX8_lot_9 (by decide) ?_
    exact t_loc [0, 1, 2] rfl (v_X8_lot_26 p1 p2    1  H)

def F_X8_squad_26 (J : Nat → Nat → Int64) (p1 : Int32) (p2 : Int32) (s0 : Int32) (V : Nat → Nat → Int32) (Qr : Option Value → (Nat → Nat → Int32) → Prop) (Qx : String → (Nat → Nat → Int32) → Prop) : Prop :=
CTc J mX8_holds [.ref 405, .int s0] V (fun r V1 =>
  ∃ b1 : Bool, r = some (.int (bI b1)) ∧
  ((b1 = true) →
    ((¬ p2 = 0) →
      ((¬ p2 = 1) →
        vp_in p1 8 ∧
        Qr (some (.int (V1 423 p1.toNatClampNeg))) V1) ∧
      ((p2 = 1) →
        vp_in p1 8 ∧
        Qr (some (.int (V1 422 p1.toNatClampNeg))) V1)) ∧
    ((p2 = 0) →
      vp_in p1 8 ∧
      Qr (some (.int (V1 421 p1.toNatClampNeg))) V1)) ∧
  ((b1 = false) →
    Qr (some (.int 0)) V1)) Qx
theorem v_X8_squad_26 {J : Nat → Nat → Int64} (p1 : Int32) (p2 : Int32) {Qr : Option Value → (Nat → Nat → Int32) → Prop} {Qx : String → (Nat → Nat → Int32) → Prop} (s0 : Int32)  {V : Nat → Nat → Int32} (H : F_X8_squad_26 J p1 p2  s0 V Qr Qx) : WPc J mX8_squad Qr Qx 26 [(0, .ref 405), (1, .int p1), (2, .int p2)] [.int s0, .ref 405] V 0 0 := by
  unfold F_X8_squad_26 at H
  refine t_cV (h := 405) (As := [.int s0]) (st := []) iv_8_169 dX8_squad_26 ⟨by decide, by decide⟩ rfl (Nat.le_of_ble_eq_true rfl) (by decide) (by decide) rfl ob_405 H (fun r V1 H => ?_)
  obtain ⟨b1, rfl, H⟩ := H
  refine s_if_ne (tgt := 34) dX8_squad_29 (by decide) (fun c => ?_) (fun c => ?_)
  · have H := H.1 (bI_t c)
    refine s_iload_n dX8_squad_34 rfl ?_
    refine s_if_ne (tgt := 47) dX8_squad_35 (by decide) (fun c => ?_) (fun c => ?_)
    · have H := H.1 c
      refine s_iload_n dX8_squad_47 rfl ?_
      refine s_iconst (v := 1) dX8_squad_48 (by decide) ?_
      refine s_icmp_ne (tgt := 61) dX8_squad_49 (by decide) (fun c => ?_) (fun c => ?_)
      · have H := H.1 c
        refine s_aload_n dX8_squad_61 rfl ?_
        refine t_getR (r := 423) fl_8_62 dX8_squad_62 ob_405 rfl rfl ?_
        refine s_iload_n dX8_squad_65 rfl ?_
        refine t_iald dX8_squad_66 ap_423 H.1 ?_
        have H := H.2
        exact s_iret dX8_squad_67 (Or.inl rfl) ⟨rfl, H⟩
      · have H := H.2 c
        refine s_aload_n dX8_squad_52 rfl ?_
        refine t_getR (r := 422) fl_8_59 dX8_squad_53 ob_405 rfl rfl ?_
        refine s_iload_n dX8_squad_56 rfl ?_
        refine t_iald dX8_squad_57 ap_422 H.1 ?_
        have H := H.2
        refine s_goto (tgt := 67) dX8_squad_58 (by decide) ?_
        exact s_iret dX8_squad_67 (Or.inl rfl) ⟨rfl, H⟩
    · have H := H.2 c
      refine s_aload_n dX8_squad_38 rfl ?_
      refine t_getR (r := 421) fl_8_56 dX8_squad_39 ob_405 rfl rfl ?_
      refine s_iload_n dX8_squad_42 rfl ?_
      refine t_iald dX8_squad_43 ap_421 H.1 ?_
      have H := H.2
      refine s_goto (tgt := 67) dX8_squad_44 (by decide) ?_
      exact s_iret dX8_squad_67 (Or.inl rfl) ⟨rfl, H⟩
  · have H := H.2 (bI_f c)
    refine s_iconst (v := 0) dX8_squad_32 (by decide) ?_
    exact s_iret dX8_squad_33 (Or.inl rfl) ⟨rfl, H⟩
def F_X8_squad (J : Nat → Nat → Int64) (p1 : Int32) (p2 : Int32) (V : Nat → Nat → Int32) (Qr : Option Value → (Nat → Nat → Int32) → Prop) (Qx : String → (Nat → Nat → Int32) → Prop) : Prop :=
CTc J mX8_isClub [.int p1] V (fun r V1 =>
  ∃ b1 : Bool, r = some (.int (bI b1)) ∧
  ((b1 = true) →
    CTc J mX8_in [.int p2, .int 0, .int 2] V1 (fun r V2 =>
      ∃ b2 : Bool, r = some (.int (bI b2)) ∧
      ((b2 = false) →
        F_X8_squad_26 J p1 p2  2 V2 Qr Qx) ∧
      ((b2 = true) →
        F_X8_squad_26 J p1 p2  0 V2 Qr Qx)) Qx) ∧
  ((b1 = false) →
    F_X8_squad_26 J p1 p2  1 V1 Qr Qx)) Qx
theorem v_X8_squad {J : Nat → Nat → Int64} (p1 : Int32) (p2 : Int32) {V : Nat → Nat → Int32} {Qr : Option Value → (Nat → Nat → Int32) → Prop} {Qx : String → (Nat → Nat → Int32) → Prop} (H : F_X8_squad J p1 p2 V Qr Qx) : CTc J mX8_squad [.ref 405, .int p1, .int p2] V Qr Qx := by
  refine ctc_of (M := (T0 J, V)) pX8_squad (fun _ _ => rfl) (Nat.le_of_ble_eq_true rfl) ?_
  unfold F_X8_squad at H
  show WPc J mX8_squad Qr Qx 0 [(0, .ref 405), (1, .int p1), (2, .int p2)] [] V 0 0
  refine s_aload_n dX8_squad_0 rfl ?_
  refine s_iload_n dX8_squad_1 rfl ?_
  refine t_cS (As := [.int p1]) (st := [.ref 405]) iv_8_163 dX8_squad_2 ⟨by decide, by decide⟩ rfl (Nat.le_of_ble_eq_true rfl) (by decide) (by decide) rfl H (fun r V1 H => ?_)
  obtain ⟨b1, rfl, H⟩ := H
  refine s_if_ne (tgt := 12) dX8_squad_5 (by decide) (fun c => ?_) (fun c => ?_)
  · have H := H.1 (bI_t c)
    refine s_iload_n dX8_squad_12 rfl ?_
    refine s_iconst (v := 0) dX8_squad_13 (by decide) ?_
    refine s_iconst (v := 2) dX8_squad_14 (by decide) ?_
    refine t_cS (As := [.int p2, .int 0, .int 2]) (st := [.ref 405]) iv_8_81 dX8_squad_15 ⟨by decide, by decide⟩ rfl (Nat.le_of_ble_eq_true rfl) (by decide) (by decide) rfl H (fun r V2 H => ?_)
    obtain ⟨b2, rfl, H⟩ := H
    refine s_if_eq (tgt := 25) dX8_squad_18 (by decide) (fun c => ?_) (fun c => ?_)
    · have H := H.1 (bI_f c)
      refine s_iconst (v := 2) dX8_squad_25 (by decide) ?_
      exact t_loc [0, 1, 2] rfl (v_X8_squad_26 p1 p2    2  H)
    · have H := H.2 (bI_t c)
      refine s_iconst (v := 0) dX8_squad_21 (by decide) ?_
      refine s_goto (tgt := 26) dX8_squad_22 (by decide) ?_
      exact t_loc [0, 1, 2] rfl (v_X8_squad_26 p1 p2    0  H)
  · have H := H.2 (bI_f c)
    refine s_iconst (v := 1) dX8_squad_8 (by decide) ?_
    refine s_goto (tgt := 26) dX8_squad_9 (by decide) ?_
    exact t_loc [0, 1, 2] rfl (v_X8_squad_26 p1 p2    1  H)
