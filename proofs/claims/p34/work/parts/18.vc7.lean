def F_X7_begin_53 (J : Nat → Nat → Int64) (p1 : Int32) (p2 : Int32) (p3 : Int32) (s0 : Int32) (V : Nat → Nat → Int32) (Qr : Option Value → (Nat → Nat → Int32) → Prop) (Qx : String → (Nat → Nat → Int32) → Prop) : Prop :=
CTc J mX7_needState [.int s0] V (fun r V1 =>
  r = none ∧
  CTc J mX1_open [.ref 1, .int p1, .int p2, .int p3] V1 (fun r V2 =>
    ∃ r2 : Int32, r = some (.int r2) ∧
    Qr (some (.int r2)) V2) Qx) Qx
theorem v_X7_begin_53 {J : Nat → Nat → Int64} (p1 : Int32) (p2 : Int32) (p3 : Int32) {Qr : Option Value → (Nat → Nat → Int32) → Prop} {Qx : String → (Nat → Nat → Int32) → Prop} (s0 : Int32)  {V : Nat → Nat → Int32} (H : F_X7_begin_53 J p1 p2 p3  s0 V Qr Qx) : WPc J mX7_begin Qr Qx 53 [(0, .ref 0), (1, .int p1), (2, .int p2), (3, .int p3)] [.int s0] V 1 6 := by
  unfold F_X7_begin_53 at H
  refine t_cS (As := [.int s0]) (st := []) iv_7_53 dX7_begin_53 ⟨by decide, by decide⟩ rfl (Nat.le_of_ble_eq_true rfl) (by decide) (by decide) rfl H (fun r V1 H => ?_)
  obtain ⟨rfl, H⟩ := H
  refine s_aload_n dX7_begin_56 rfl ?_
  refine t_getR (r := 1) fl_7_12 dX7_begin_57 ob_0 rfl rfl ?_
  refine s_iload_n dX7_begin_60 rfl ?_
  refine s_iload_n dX7_begin_61 rfl ?_
  refine s_iload_n dX7_begin_62 rfl ?_
  refine t_cV (h := 1) (As := [.int p1, .int p2, .int p3]) (st := []) iv_7_56 dX7_begin_63 ⟨by decide, by decide⟩ rfl (Nat.le_of_ble_eq_true rfl) (by decide) (by decide) rfl ob_1 H (fun r V2 H => ?_)
  obtain ⟨r2, rfl, H⟩ := H
  exact s_iret dX7_begin_66 (Or.inl rfl) ⟨rfl, H⟩
def F_X7_begin_35 (J : Nat → Nat → Int64) (p1 : Int32) (p2 : Int32) (p3 : Int32) (s0 : Int32) (V : Nat → Nat → Int32) (Qr : Option Value → (Nat → Nat → Int32) → Prop) (Qx : String → (Nat → Nat → Int32) → Prop) : Prop :=
CTc J mX7_needArgument [.int s0] V (fun r V1 =>
  r = none ∧
  CTc J mX1_isThere [.ref 1] V1 (fun r V2 =>
    ∃ b2 : Bool, r = some (.int (bI b2)) ∧
    ((b2 = true) →
      F_X7_begin_53 J p1 p2 p3  0 V2 Qr Qx) ∧
    ((b2 = false) →
      F_X7_begin_53 J p1 p2 p3  1 V2 Qr Qx)) Qx) Qx
theorem v_X7_begin_35 {J : Nat → Nat → Int64} (p1 : Int32) (p2 : Int32) (p3 : Int32) {Qr : Option Value → (Nat → Nat → Int32) → Prop} {Qx : String → (Nat → Nat → Int32) → Prop} (s0 : Int32)  {V : Nat → Nat → Int32} (H : F_X7_begin_35 J p1 p2 p3  s0 V Qr Qx) : WPc J mX7_begin Qr Qx 35 [(0, .ref 0), (1, .int p1), (2, .int p2), (3, .int p3)] [.int s0] V 2 12 := by
  unfold F_X7_begin_35 at H
  refine t_cS (As := [.int s0]) (st := []) iv_7_45 dX7_begin_35 ⟨by decide, by decide⟩ rfl (Nat.le_of_ble_eq_true rfl) (by decide) (by decide) rfl H (fun r V1 H => ?_)
  obtain ⟨rfl, H⟩ := H
  refine s_aload_n dX7_begin_38 rfl ?_
  refine t_getR (r := 1) fl_7_12 dX7_begin_39 ob_0 rfl rfl ?_
  refine t_cV (h := 1) (As := []) (st := []) iv_7_49 dX7_begin_42 ⟨by decide, by decide⟩ rfl (Nat.le_of_ble_eq_true rfl) (by decide) (by decide) rfl ob_1 H (fun r V2 H => ?_)
  obtain ⟨b2, rfl, H⟩ := H
  refine s_if_ne (tgt := 52) dX7_begin_45 (by decide) (fun c => ?_) (fun c => ?_)
  · have H := H.1 (bI_t c)
    refine s_iconst (v := 0) dX7_begin_52 (by decide) ?_
    exact t_loc [0, 1, 2, 3] rfl (v_X7_begin_53 p1 p2 p3    0  H)
  · have H := H.2 (bI_f c)
    refine s_iconst (v := 1) dX7_begin_48 (by decide) ?_
    refine s_goto (tgt := 53) dX7_begin_49 (by decide) ?_
    exact t_loc [0, 1, 2, 3] rfl (v_X7_begin_53 p1 p2 p3    1  H)
def F_X7_begin_34 (J : Nat → Nat → Int64) (p1 : Int32) (p2 : Int32) (p3 : Int32)  (V : Nat → Nat → Int32) (Qr : Option Value → (Nat → Nat → Int32) → Prop) (Qx : String → (Nat → Nat → Int32) → Prop) : Prop :=
F_X7_begin_35 J p1 p2 p3  0 V Qr Qx
theorem v_X7_begin_34 {J : Nat → Nat → Int64} (p1 : Int32) (p2 : Int32) (p3 : Int32) {Qr : Option Value → (Nat → Nat → Int32) → Prop} {Qx : String → (Nat → Nat → Int32) → Prop}   {V : Nat → Nat → Int32} (H : F_X7_begin_34 J p1 p2 p3   V Qr Qx) : WPc J mX7_begin Qr Qx 34 [(0, .ref 0), (1, .int p1), (2, .int p2), (3, .int p3)] [] V 2 12 := by
  unfold F_X7_begin_34 at H
  refine s_iconst (v := 0) dX7_begin_34 (by decide) ?_
  exact t_loc [0, 1, 2, 3] rfl (v_X7_begin_35 p1 p2 p3    0  H)
def F_X7_begin (J : Nat → Nat → Int64) (p1 : Int32) (p2 : Int32) (p3 : Int32) (V : Nat → Nat → Int32) (Qr : Option Value → (Nat → Nat → Int32) → Prop) (Qx : String → (Nat → Nat → Int32) → Prop) : Prop :=
CTc J mX7_needIndex [.int p1, .int 8] V (fun r V1 =>
  r = none ∧
  CTc J mX7_needIndex [.int p2, .int 8] V1 (fun r V2 =>
    r = none ∧
    ((p1 = p2) →
      F_X7_begin_34 J p1 p2 p3   V2 Qr Qx) ∧
    ((¬ p1 = p2) →
      CTc J mX7_isWithin [.int p3, .int 300, .int 24000] V2 (fun r V3 =>
        ∃ b3 : Bool, r = some (.int (bI b3)) ∧
        ((b3 = false) →
          F_X7_begin_34 J p1 p2 p3   V3 Qr Qx) ∧
        ((b3 = true) →
          F_X7_begin_35 J p1 p2 p3  1 V3 Qr Qx)) Qx)) Qx) Qx
theorem v_X7_begin {J : Nat → Nat → Int64} (p1 : Int32) (p2 : Int32) (p3 : Int32) {V : Nat → Nat → Int32} {Qr : Option Value → (Nat → Nat → Int32) → Prop} {Qx : String → (Nat → Nat → Int32) → Prop} (H : F_X7_begin J p1 p2 p3 V Qr Qx) : CTc J mX7_begin [.ref 0, .int p1, .int p2, .int p3] V Qr Qx := by
  refine ctc_of (M := (T0 J, V)) pX7_begin (fun _ _ => rfl) (Nat.le_of_ble_eq_true rfl) ?_
  unfold F_X7_begin at H
  show WPc J mX7_begin Qr Qx 0 [(0, .ref 0), (1, .int p1), (2, .int p2), (3, .int p3)] [] V 4 24
  refine s_iload_n dX7_begin_0 rfl ?_
  refine s_bipush (v := 8) dX7_begin_1 (by decide) ?_
  refine t_cS (As := [.int p1, .int 8]) (st := []) iv_7_37 dX7_begin_3 ⟨by decide, by decide⟩ rfl (Nat.le_of_ble_eq_true rfl) (by decide) (by decide) rfl H (fun r V1 H => ?_)
  obtain ⟨rfl, H⟩ := H
  refine s_iload_n dX7_begin_6 rfl ?_
  refine s_bipush (v := 8) dX7_begin_7 (by decide) ?_
  refine t_cS (As := [.int p2, .int 8]) (st := []) iv_7_37 dX7_begin_9 ⟨by decide, by decide⟩ rfl (Nat.le_of_ble_eq_true rfl) (by decide) (by decide) rfl H (fun r V2 H => ?_)
  obtain ⟨rfl, H⟩ := H
  refine s_iload_n dX7_begin_12 rfl ?_
  refine s_iload_n dX7_begin_13 rfl ?_
  refine s_icmp_eq (tgt := 34) dX7_begin_14 (by decide) (fun c => ?_) (fun c => ?_)
  · have H := H.1 c
    exact t_loc [0, 1, 2, 3] rfl (v_X7_begin_34 p1 p2 p3      H)
  · have H := H.2 c
    refine s_iload_n dX7_begin_17 rfl ?_
    refine s_sipush (v := 300) dX7_begin_18 (by decide) ?_
    refine s_sipush (v := 24000) dX7_begin_21 (by decide) ?_
    refine t_cS (As := [.int p3, .int 300, .int 24000]) (st := []) iv_7_41 dX7_begin_24 ⟨by decide, by decide⟩ rfl (Nat.le_of_ble_eq_true rfl) (by decide) (by decide) rfl H (fun r V3 H => ?_)
    obtain ⟨b3, rfl, H⟩ := H
    refine s_if_eq (tgt := 34) dX7_begin_27 (by decide) (fun c => ?_) (fun c => ?_)
    · have H := H.1 (bI_f c)
      exact t_loc [0, 1, 2, 3] rfl (v_X7_begin_34 p1 p2 p3      H)
    · have H := H.2 (bI_t c)
      refine s_iconst (v := 1) dX7_begin_30 (by decide) ?_
      refine s_goto (tgt := 35) dX7_begin_31 (by decide) ?_
      exact t_loc [0, 1, 2, 3] rfl (v_X7_begin_35 p1 p2 p3    1  H)

def F_X7_raid (J : Nat → Nat → Int64) (p1 : Int32) (V : Nat → Nat → Int32) (Qr : Option Value → (Nat → Nat → Int32) → Prop) (Qx : String → (Nat → Nat → Int32) → Prop) : Prop :=
CTc J mX7_needIndex [.int p1, .int 10] V (fun r V1 =>
  r = none ∧
  CTc J mX1_mayStartRaid [.ref 1, .int p1] V1 (fun r V2 =>
    ∃ b2 : Bool, r = some (.int (bI b2)) ∧
    CTc J mX7_needState [.int (bI b2)] V2 (fun r V3 =>
      r = none ∧
      CTc J mX1_startRaid [.ref 1, .int p1] V3 (fun r V4 =>
        ∃ r4 : Int32, r = some (.int r4) ∧
        Qr (some (.int r4)) V4) Qx) Qx) Qx) Qx
theorem v_X7_raid {J : Nat → Nat → Int64} (p1 : Int32) {V : Nat → Nat → Int32} {Qr : Option Value → (Nat → Nat → Int32) → Prop} {Qx : String → (Nat → Nat → Int32) → Prop} (H : F_X7_raid J p1 V Qr Qx) : CTc J mX7_raid [.ref 0, .int p1] V Qr Qx := by
  refine ctc_of (M := (T0 J, V)) pX7_raid (fun _ _ => rfl) (Nat.le_of_ble_eq_true rfl) ?_
  unfold F_X7_raid at H
  show WPc J mX7_raid Qr Qx 0 [(0, .ref 0), (1, .int p1)] [] V 2 12
  refine s_iload_n dX7_raid_0 rfl ?_
  refine s_bipush (v := 10) dX7_raid_1 (by decide) ?_
  refine t_cS (As := [.int p1, .int 10]) (st := []) iv_7_37 dX7_raid_3 ⟨by decide, by decide⟩ rfl (Nat.le_of_ble_eq_true rfl) (by decide) (by decide) rfl H (fun r V1 H => ?_)
  obtain ⟨rfl, H⟩ := H
  refine s_aload_n dX7_raid_6 rfl ?_
  refine t_getR (r := 1) fl_7_12 dX7_raid_7 ob_0 rfl rfl ?_
  refine s_iload_n dX7_raid_10 rfl ?_
  refine t_cV (h := 1) (As := [.int p1]) (st := []) iv_7_60 dX7_raid_11 ⟨by decide, by decide⟩ rfl (Nat.le_of_ble_eq_true rfl) (by decide) (by decide) rfl ob_1 H (fun r V2 H => ?_)
  obtain ⟨b2, rfl, H⟩ := H
  refine t_cS (As := [.int (bI b2)]) (st := []) iv_7_53 dX7_raid_14 ⟨by decide, by decide⟩ rfl (Nat.le_of_ble_eq_true rfl) (by decide) (by decide) rfl H (fun r V3 H => ?_)
  obtain ⟨rfl, H⟩ := H
  refine s_aload_n dX7_raid_17 rfl ?_
  refine t_getR (r := 1) fl_7_12 dX7_raid_18 ob_0 rfl rfl ?_
  refine s_iload_n dX7_raid_21 rfl ?_
  refine t_cV (h := 1) (As := [.int p1]) (st := []) iv_7_64 dX7_raid_22 ⟨by decide, by decide⟩ rfl (Nat.le_of_ble_eq_true rfl) (by decide) (by decide) rfl ob_1 H (fun r V4 H => ?_)
  obtain ⟨r4, rfl, H⟩ := H
  exact s_iret dX7_raid_25 (Or.inl rfl) ⟨rfl, H⟩

def F_X7_step_26 (J : Nat → Nat → Int64) (p1 : Int32) (p2 : Int32) (p3 : Int32) (s0 : Int32) (V : Nat → Nat → Int32) (Qr : Option Value → (Nat → Nat → Int32) → Prop) (Qx : String → (Nat → Nat → Int32) → Prop) : Prop :=
CTc J mX7_needArgument [.int s0] V (fun r V1 =>
  r = none ∧
  CTc J mX1_mayTell [.ref 1, .int p1, .int p2, .int p3] V1 (fun r V2 =>
    ∃ b2 : Bool, r = some (.int (bI b2)) ∧
    CTc J mX7_needState [.int (bI b2)] V2 (fun r V3 =>
      r = none ∧
      CTc J mX1_tell [.ref 1, .int p1, .int p2, .int p3] V3 (fun r V4 =>
        ∃ r4 : Int32, r = some (.int r4) ∧
        Qr (some (.int r4)) V4) Qx) Qx) Qx) Qx
theorem v_X7_step_26 {J : Nat → Nat → Int64} (p1 : Int32) (p2 : Int32) (p3 : Int32) {Qr : Option Value → (Nat → Nat → Int32) → Prop} {Qx : String → (Nat → Nat → Int32) → Prop} (s0 : Int32)  {V : Nat → Nat → Int32} (H : F_X7_step_26 J p1 p2 p3  s0 V Qr Qx) : WPc J mX7_step Qr Qx 26 [(0, .ref 0), (1, .int p1), (2, .int p2), (3, .int p3)] [.int s0] V 2 12 := by
  unfold F_X7_step_26 at H
  refine t_cS (As := [.int s0]) (st := []) iv_7_45 dX7_step_26 ⟨by decide, by decide⟩ rfl (Nat.le_of_ble_eq_true rfl) (by decide) (by decide) rfl H (fun r V1 H => ?_)
  obtain ⟨rfl, H⟩ := H
  refine s_aload_n dX7_step_29 rfl ?_
  refine t_getR (r := 1) fl_7_12 dX7_step_30 ob_0 rfl rfl ?_
  refine s_iload_n dX7_step_33 rfl ?_
  refine s_iload_n dX7_step_34 rfl ?_
  refine s_iload_n dX7_step_35 rfl ?_
  refine t_cV (h := 1) (As := [.int p1, .int p2, .int p3]) (st := []) iv_7_71 dX7_step_36 ⟨by decide, by decide⟩ rfl (Nat.le_of_ble_eq_true rfl) (by decide) (by decide) rfl ob_1 H (fun r V2 H => ?_)
  obtain ⟨b2, rfl, H⟩ := H
  refine t_cS (As := [.int (bI b2)]) (st := []) iv_7_53 dX7_step_39 ⟨by decide, by decide⟩ rfl (Nat.le_of_ble_eq_true rfl) (by decide) (by decide) rfl H (fun r V3 H => ?_)
  obtain ⟨rfl, H⟩ := H
  refine s_aload_n dX7_step_42 rfl ?_
  refine t_getR (r := 1) fl_7_12 dX7_step_43 ob_0 rfl rfl ?_
  refine s_iload_n dX7_step_46 rfl ?_
  refine s_iload_n dX7_step_47 rfl ?_
  refine s_iload_n dX7_step_48 rfl ?_
  refine t_cV (h := 1) (As := [.int p1, .int p2, .int p3]) (st := []) iv_7_74 dX7_step_49 ⟨by decide, by decide⟩ rfl (Nat.le_of_ble_eq_true rfl) (by decide) (by decide) rfl ob_1 H (fun r V4 H => ?_)
  obtain ⟨r4, rfl, H⟩ := H
  exact s_iret dX7_step_52 (Or.inl rfl) ⟨rfl, H⟩
def F_X7_step_25 (J : Nat → Nat → Int64) (p1 : Int32) (p2 : Int32) (p3 : Int32)  (V : Nat → Nat → Int32) (Qr : Option Value → (Nat → Nat → Int32) → Prop) (Qx : String → (Nat → Nat → Int32) → Prop) : Prop :=
F_X7_step_26 J p1 p2 p3  0 V Qr Qx
theorem v_X7_step_25 {J : Nat → Nat → Int64} (p1 : Int32) (p2 : Int32) (p3 : Int32) {Qr : Option Value → (Nat → Nat → Int32) → Prop} {Qx : String → (Nat → Nat → Int32) → Prop}   {V : Nat → Nat → Int32} (H : F_X7_step_25 J p1 p2 p3   V Qr Qx) : WPc J mX7_step Qr Qx 25 [(0, .ref 0), (1, .int p1), (2, .int p2), (3, .int p3)] [] V 2 12 := by
  unfold F_X7_step_25 at H
  refine s_iconst (v := 0) dX7_step_25 (by decide) ?_
  exact t_loc [0, 1, 2, 3] rfl (v_X7_step_26 p1 p2 p3    0  H)
def F_X7_step (J : Nat → Nat → Int64) (p1 : Int32) (p2 : Int32) (p3 : Int32) (V : Nat → Nat → Int32) (Qr : Option Value → (Nat → Nat → Int32) → Prop) (Qx : String → (Nat → Nat → Int32) → Prop) : Prop :=
CTc J mX7_isStep [.int p1, .int p2, .int 6] V (fun r V1 =>
  ∃ b1 : Bool, r = some (.int (bI b1)) ∧
  ((b1 = false) →
    F_X7_step_25 J p1 p2 p3   V1 Qr Qx) ∧
  ((b1 = true) →
    CTc J mX7_isWithin [.int p3, .int 1, .int 300] V1 (fun r V2 =>
      ∃ b2 : Bool, r = some (.int (bI b2)) ∧
      ((b2 = false) →
        F_X7_step_25 J p1 p2 p3   V2 Qr Qx) ∧
      ((b2 = true) →
        F_X7_step_26 J p1 p2 p3  1 V2 Qr Qx)) Qx)) Qx
theorem v_X7_step {J : Nat → Nat → Int64} (p1 : Int32) (p2 : Int32) (p3 : Int32) {V : Nat → Nat → Int32} {Qr : Option Value → (Nat → Nat → Int32) → Prop} {Qx : String → (Nat → Nat → Int32) → Prop} (H : F_X7_step J p1 p2 p3 V Qr Qx) : CTc J mX7_step [.ref 0, .int p1, .int p2, .int p3] V Qr Qx := by
  refine ctc_of (M := (T0 J, V)) pX7_step (fun _ _ => rfl) (Nat.le_of_ble_eq_true rfl) ?_
  unfold F_X7_step at H
  show WPc J mX7_step Qr Qx 0 [(0, .ref 0), (1, .int p1), (2, .int p2), (3, .int p3)] [] V 2 12
  refine s_iload_n dX7_step_0 rfl ?_
  refine s_iload_n dX7_step_1 rfl ?_
  refine s_bipush (v := 6) dX7_step_2 (by decide) ?_
  refine t_cS (As := [.int p1, .int p2, .int 6]) (st := []) iv_7_68 dX7_step_4 ⟨by decide, by decide⟩ rfl (Nat.le_of_ble_eq_true rfl) (by decide) (by decide) rfl H (fun r V1 H => ?_)
  obtain ⟨b1, rfl, H⟩ := H
  refine s_if_eq (tgt := 25) dX7_step_7 (by decide) (fun c => ?_) (fun c => ?_)
  · have H := H.1 (bI_f c)
    exact t_loc [0, 1, 2, 3] rfl (v_X7_step_25 p1 p2 p3      H)
  · have H := H.2 (bI_t c)
    refine s_iload_n dX7_step_10 rfl ?_
    refine s_iconst (v := 1) dX7_step_11 (by decide) ?_
    refine s_sipush (v := 300) dX7_step_12 (by decide) ?_
    refine t_cS (As := [.int p3, .int 1, .int 300]) (st := []) iv_7_41 dX7_step_15 ⟨by decide, by decide⟩ rfl (Nat.le_of_ble_eq_true rfl) (by decide) (by decide) rfl H (fun r V2 H => ?_)
    obtain ⟨b2, rfl, H⟩ := H
    refine s_if_eq (tgt := 25) dX7_step_18 (by decide) (fun c => ?_) (fun c => ?_)
    · have H := H.1 (bI_f c)
      exact t_loc [0, 1, 2, 3] rfl (v_X7_step_25 p1 p2 p3      H)
    · have H := H.2 (bI_t c)
      refine s_iconst (v := 1) dX7_step_21 (by decide) ?_
      refine s_goto (tgt := 26) dX7_step_22 (by decide) ?_
      exact t_loc [0, 1, 2, 3] rfl (v_X7_step_26 p1 p2 p3    1  H)

def F_X7_card (J : Nat → Nat → Int64) (p1 : Int32) (p2 : Int32) (p3 : Int32) (V : Nat → Nat → Int32) (Qr : Option Value → (Nat → Nat → Int32) → Prop) (Qx : String → (Nat → Nat → Int32) → Prop) : Prop :=
CTc J mX7_needIndex [.int p1, .int 2] V (fun r V1 =>
  r = none ∧
  CTc J mX7_needIndex [.int p2, .int 10] V1 (fun r V2 =>
    r = none ∧
    CTc J mX7_isWithin [.int p3, .int 0, .int 2] V2 (fun r V3 =>
      ∃ b3 : Bool, r = some (.int (bI b3)) ∧
      CTc J mX7_needArgument [.int (bI b3)] V3 (fun r V4 =>
        r = none ∧
        CTc J mX1_mayShowCard [.ref 1, .int p1, .int p2, .int p3] V4 (fun r V5 =>
          ∃ b5 : Bool, r = some (.int (bI b5)) ∧
          CTc J mX7_needState [.int (bI b5)] V5 (fun r V6 =>
            r = none ∧
            CTc J mX1_showCard [.ref 1, .int p1, .int p2, .int p3] V6 (fun r V7 =>
              ∃ r7 : Int32, r = some (.int r7) ∧
              Qr (some (.int r7)) V7) Qx) Qx) Qx) Qx) Qx) Qx) Qx
theorem v_X7_card {J : Nat → Nat → Int64} (p1 : Int32) (p2 : Int32) (p3 : Int32) {V : Nat → Nat → Int32} {Qr : Option Value → (Nat → Nat → Int32) → Prop} {Qx : String → (Nat → Nat → Int32) → Prop} (H : F_X7_card J p1 p2 p3 V Qr Qx) : CTc J mX7_card [.ref 0, .int p1, .int p2, .int p3] V Qr Qx := by
  refine ctc_of (M := (T0 J, V)) pX7_card (fun _ _ => rfl) (Nat.le_of_ble_eq_true rfl) ?_
  unfold F_X7_card at H
  show WPc J mX7_card Qr Qx 0 [(0, .ref 0), (1, .int p1), (2, .int p2), (3, .int p3)] [] V 4 24
  refine s_iload_n dX7_card_0 rfl ?_
  refine s_iconst (v := 2) dX7_card_1 (by decide) ?_
  refine t_cS (As := [.int p1, .int 2]) (st := []) iv_7_37 dX7_card_2 ⟨by decide, by decide⟩ rfl (Nat.le_of_ble_eq_true rfl) (by decide) (by decide) rfl H (fun r V1 H => ?_)
  obtain ⟨rfl, H⟩ := H
  refine s_iload_n dX7_card_5 rfl ?_
  refine s_bipush (v := 10) dX7_card_6 (by decide) ?_
  refine t_cS (As := [.int p2, .int 10]) (st := []) iv_7_37 dX7_card_8 ⟨by decide, by decide⟩ rfl (Nat.le_of_ble_eq_true rfl) (by decide) (by decide) rfl H (fun r V2 H => ?_)
  obtain ⟨rfl, H⟩ := H
  refine s_iload_n dX7_card_11 rfl ?_
  refine s_iconst (v := 0) dX7_card_12 (by decide) ?_
  refine s_iconst (v := 2) dX7_card_13 (by decide) ?_
  refine t_cS (As := [.int p3, .int 0, .int 2]) (st := []) iv_7_41 dX7_card_14 ⟨by decide, by decide⟩ rfl (Nat.le_of_ble_eq_true rfl) (by decide) (by decide) rfl H (fun r V3 H => ?_)
  obtain ⟨b3, rfl, H⟩ := H
  refine t_cS (As := [.int (bI b3)]) (st := []) iv_7_45 dX7_card_17 ⟨by decide, by decide⟩ rfl (Nat.le_of_ble_eq_true rfl) (by decide) (by decide) rfl H (fun r V4 H => ?_)
  obtain ⟨rfl, H⟩ := H
  refine s_aload_n dX7_card_20 rfl ?_
  refine t_getR (r := 1) fl_7_12 dX7_card_21 ob_0 rfl rfl ?_
  refine s_iload_n dX7_card_24 rfl ?_
  refine s_iload_n dX7_card_25 rfl ?_
  refine s_iload_n dX7_card_26 rfl ?_
  refine t_cV (h := 1) (As := [.int p1, .int p2, .int p3]) (st := []) iv_7_77 dX7_card_27 ⟨by decide, by decide⟩ rfl (Nat.le_of_ble_eq_true rfl) (by decide) (by decide) rfl ob_1 H (fun r V5 H => ?_)
  obtain ⟨b5, rfl, H⟩ := H
  refine t_cS (As := [.int (bI b5)]) (st := []) iv_7_53 dX7_card_30 ⟨by decide, by decide⟩ rfl (Nat.le_of_ble_eq_true rfl) (by decide) (by decide) rfl H (fun r V6 H => ?_)
  obtain ⟨rfl, H⟩ := H
  refine s_aload_n dX7_card_33 rfl ?_
  refine t_getR (r := 1) fl_7_12 dX7_card_34 ob_0 rfl rfl ?_
  refine s_iload_n dX7_card_37 rfl ?_
  refine s_iload_n dX7_card_38 rfl ?_
  refine s_iload_n dX7_card_39 rfl ?_
  refine t_cV (h := 1) (As := [.int p1, .int p2, .int p3]) (st := []) iv_7_80 dX7_card_40 ⟨by decide, by decide⟩ rfl (Nat.le_of_ble_eq_true rfl) (by decide) (by decide) rfl ob_1 H (fun r V7 H => ?_)
  obtain ⟨r7, rfl, H⟩ := H
  exact s_iret dX7_card_43 (Or.inl rfl) ⟨rfl, H⟩

def F_X7_change (J : Nat → Nat → Int64) (p1 : Int32) (p2 : Int32) (p3 : Int32) (V : Nat → Nat → Int32) (Qr : Option Value → (Nat → Nat → Int32) → Prop) (Qx : String → (Nat → Nat → Int32) → Prop) : Prop :=
CTc J mX7_needIndex [.int p1, .int 2] V (fun r V1 =>
  r = none ∧
  CTc J mX7_needIndex [.int p2, .int 10] V1 (fun r V2 =>
    r = none ∧
    CTc J mX7_needIndex [.int p3, .int 10] V2 (fun r V3 =>
      r = none ∧
      CTc J mX1_maySwap [.ref 1, .int p1, .int p2, .int p3] V3 (fun r V4 =>
        ∃ b4 : Bool, r = some (.int (bI b4)) ∧
        CTc J mX7_needState [.int (bI b4)] V4 (fun r V5 =>
          r = none ∧
          CTc J mX1_swap [.ref 1, .int p1, .int p2, .int p3] V5 (fun r V6 =>
            ∃ r6 : Int32, r = some (.int r6) ∧
            Qr (some (.int r6)) V6) Qx) Qx) Qx) Qx) Qx) Qx
theorem v_X7_change {J : Nat → Nat → Int64} (p1 : Int32) (p2 : Int32) (p3 : Int32) {V : Nat → Nat → Int32} {Qr : Option Value → (Nat → Nat → Int32) → Prop} {Qx : String → (Nat → Nat → Int32) → Prop} (H : F_X7_change J p1 p2 p3 V Qr Qx) : CTc J mX7_change [.ref 0, .int p1, .int p2, .int p3] V Qr Qx := by
  refine ctc_of (M := (T0 J, V)) pX7_change (fun _ _ => rfl) (Nat.le_of_ble_eq_true rfl) ?_
  unfold F_X7_change at H
  show WPc J mX7_change Qr Qx 0 [(0, .ref 0), (1, .int p1), (2, .int p2), (3, .int p3)] [] V 4 24
  refine s_iload_n dX7_change_0 rfl ?_
  refine s_iconst (v := 2) dX7_change_1 (by decide) ?_
  refine t_cS (As := [.int p1, .int 2]) (st := []) iv_7_37 dX7_change_2 ⟨by decide, by decide⟩ rfl (Nat.le_of_ble_eq_true rfl) (by decide) (by decide) rfl H (fun r V1 H => ?_)
  obtain ⟨rfl, H⟩ := H
  refine s_iload_n dX7_change_5 rfl ?_
  refine s_bipush (v := 10) dX7_change_6 (by decide) ?_
  refine t_cS (As := [.int p2, .int 10]) (st := []) iv_7_37 dX7_change_8 ⟨by decide, by decide⟩ rfl (Nat.le_of_ble_eq_true rfl) (by decide) (by decide) rfl H (fun r V2 H => ?_)
  obtain ⟨rfl, H⟩ := H
  refine s_iload_n dX7_change_11 rfl ?_
  refine s_bipush (v := 10) dX7_change_12 (by decide) ?_
  refine t_cS (As := [.int p3, .int 10]) (st := []) iv_7_37 dX7_change_14 ⟨by decide, by decide⟩ rfl (Nat.le_of_ble_eq_true rfl) (by decide) (by decide) rfl H (fun r V3 H => ?_)
  obtain ⟨rfl, H⟩ := H
  refine s_aload_n dX7_change_17 rfl ?_
  refine t_getR (r := 1) fl_7_12 dX7_change_18 ob_0 rfl rfl ?_
  refine s_iload_n dX7_change_21 rfl ?_
  refine s_iload_n dX7_change_22 rfl ?_
  refine s_iload_n dX7_change_23 rfl ?_
  refine t_cV (h := 1) (As := [.int p1, .int p2, .int p3]) (st := []) iv_7_83 dX7_change_24 ⟨by decide, by decide⟩ rfl (Nat.le_of_ble_eq_true rfl) (by decide) (by decide) rfl ob_1 H (fun r V4 H => ?_)
  obtain ⟨b4, rfl, H⟩ := H
  refine t_cS (As := [.int (bI b4)]) (st := []) iv_7_53 dX7_change_27 ⟨by decide, by decide⟩ rfl (Nat.le_of_ble_eq_true rfl) (by decide) (by decide) rfl H (fun r V5 H => ?_)
  obtain ⟨rfl, H⟩ := H
  refine s_aload_n dX7_change_30 rfl ?_
  refine t_getR (r := 1) fl_7_12 dX7_change_31 ob_0 rfl rfl ?_
  refine s_iload_n dX7_change_34 rfl ?_
  refine s_iload_n dX7_change_35 rfl ?_
  refine s_iload_n dX7_change_36 rfl ?_
  refine t_cV (h := 1) (As := [.int p1, .int p2, .int p3]) (st := []) iv_7_86 dX7_change_37 ⟨by decide, by decide⟩ rfl (Nat.le_of_ble_eq_true rfl) (by decide) (by decide) rfl ob_1 H (fun r V6 H => ?_)
  obtain ⟨r6, rfl, H⟩ := H
  exact s_iret dX7_change_40 (Or.inl rfl) ⟨rfl, H⟩

def F_X7_review_79 (J : Nat → Nat → Int64) (p1 : Int32) (p2 : Int32) (p3 : Int32) (p4 : Int32) (p5 : Int32) (s0 : Int32) (V : Nat → Nat → Int32) (Qr : Option Value → (Nat → Nat → Int32) → Prop) (Qx : String → (Nat → Nat → Int32) → Prop) : Prop :=
CTc J mX7_needState [.int s0] V (fun r V1 =>
  r = none ∧
  CTc J mX1_amend [.ref 1, .int p1, .int p2, .int p3, .int p4, .int p5] V1 (fun r V2 =>
    ∃ r2 : Int32, r = some (.int r2) ∧
    Qr (some (.int r2)) V2) Qx) Qx
theorem v_X7_review_79 {J : Nat → Nat → Int64} (p1 : Int32) (p2 : Int32) (p3 : Int32) (p4 : Int32) (p5 : Int32) {Qr : Option Value → (Nat → Nat → Int32) → Prop} {Qx : String → (Nat → Nat → Int32) → Prop} (s0 : Int32)  {V : Nat → Nat → Int32} (H : F_X7_review_79 J p1 p2 p3 p4 p5  s0 V Qr Qx) : WPc J mX7_review Qr Qx 79 [(0, .ref 0), (1, .int p1), (2, .int p2), (3, .int p3), (4, .int p4), (5, .int p5)] [.int s0] V 1 6 := by
  unfold F_X7_review_79 at H
  refine t_cS (As := [.int s0]) (st := []) iv_7_53 dX7_review_79 ⟨by decide, by decide⟩ rfl (Nat.le_of_ble_eq_true rfl) (by decide) (by decide) rfl H (fun r V1 H => ?_)
  obtain ⟨rfl, H⟩ := H
  refine s_aload_n dX7_review_82 rfl ?_
  refine t_getR (r := 1) fl_7_12 dX7_review_83 ob_0 rfl rfl ?_
  refine s_iload_n dX7_review_86 rfl ?_
  refine s_iload_n dX7_review_87 rfl ?_
  refine s_iload_n dX7_review_88 rfl ?_
  refine s_iload dX7_review_89 rfl ?_
  refine s_iload dX7_review_91 rfl ?_
  refine t_cV (h := 1) (As := [.int p1, .int p2, .int p3, .int p4, .int p5]) (st := []) iv_7_102 dX7_review_93 ⟨by decide, by decide⟩ rfl (Nat.le_of_ble_eq_true rfl) (by decide) (by decide) rfl ob_1 H (fun r V2 H => ?_)
  obtain ⟨r2, rfl, H⟩ := H
  exact s_iret dX7_review_96 (Or.inl rfl) ⟨rfl, H⟩
def F_X7_review_54 (J : Nat → Nat → Int64) (p1 : Int32) (p2 : Int32) (p3 : Int32) (p4 : Int32) (p5 : Int32) (s0 : Int32) (V : Nat → Nat → Int32) (Qr : Option Value → (Nat → Nat → Int32) → Prop) (Qx : String → (Nat → Nat → Int32) → Prop) : Prop :=
CTc J mX7_needState [.int s0] V (fun r V1 =>
  r = none ∧
  CTc J mX1_firstFallen [.ref 1, .int p2, .int p3, .int p4, .int p5] V1 (fun r V2 =>
    ∃ r2 : Int32, r = some (.int r2) ∧
    ((¬ r2 = (-1)) →
      F_X7_review_79 J p1 p2 p3 p4 p5  0 V2 Qr Qx) ∧
    ((r2 = (-1)) →
      F_X7_review_79 J p1 p2 p3 p4 p5  1 V2 Qr Qx)) Qx) Qx
theorem v_X7_review_54 {J : Nat → Nat → Int64} (p1 : Int32) (p2 : Int32) (p3 : Int32) (p4 : Int32) (p5 : Int32) {Qr : Option Value → (Nat → Nat → Int32) → Prop} {Qx : String → (Nat → Nat → Int32) → Prop} (s0 : Int32)  {V : Nat → Nat → Int32} (H : F_X7_review_54 J p1 p2 p3 p4 p5  s0 V Qr Qx) : WPc J mX7_review Qr Qx 54 [(0, .ref 0), (1, .int p1), (2, .int p2), (3, .int p3), (4, .int p4), (5, .int p5)] [.int s0] V 2 12 := by
  unfold F_X7_review_54 at H
  refine t_cS (As := [.int s0]) (st := []) iv_7_53 dX7_review_54 ⟨by decide, by decide⟩ rfl (Nat.le_of_ble_eq_true rfl) (by decide) (by decide) rfl H (fun r V1 H => ?_)
  obtain ⟨rfl, H⟩ := H
  refine s_aload_n dX7_review_57 rfl ?_
  refine t_getR (r := 1) fl_7_12 dX7_review_58 ob_0 rfl rfl ?_
  refine s_iload_n dX7_review_61 rfl ?_
  refine s_iload_n dX7_review_62 rfl ?_
  refine s_iload dX7_review_63 rfl ?_
  refine s_iload dX7_review_65 rfl ?_
  refine t_cV (h := 1) (As := [.int p2, .int p3, .int p4, .int p5]) (st := []) iv_7_98 dX7_review_67 ⟨by decide, by decide⟩ rfl (Nat.le_of_ble_eq_true rfl) (by decide) (by decide) rfl ob_1 H (fun r V2 H => ?_)
  obtain ⟨r2, rfl, H⟩ := H
  refine s_iconst (v := (-1)) dX7_review_70 (by decide) ?_
  refine s_icmp_ne (tgt := 78) dX7_review_71 (by decide) (fun c => ?_) (fun c => ?_)
  · have H := H.1 c
    refine s_iconst (v := 0) dX7_review_78 (by decide) ?_
    exact t_loc [0, 1, 2, 3, 4, 5] rfl (v_X7_review_79 p1 p2 p3 p4 p5    0  H)
  · have H := H.2 c
    refine s_iconst (v := 1) dX7_review_74 (by decide) ?_
    refine s_goto (tgt := 79) dX7_review_75 (by decide) ?_
    exact t_loc [0, 1, 2, 3, 4, 5] rfl (v_X7_review_79 p1 p2 p3 p4 p5    1  H)
def F_X7_review_53 (J : Nat → Nat → Int64) (p1 : Int32) (p2 : Int32) (p3 : Int32) (p4 : Int32) (p5 : Int32)  (V : Nat → Nat → Int32) (Qr : Option Value → (Nat → Nat → Int32) → Prop) (Qx : String → (Nat → Nat → Int32) → Prop) : Prop :=
F_X7_review_54 J p1 p2 p3 p4 p5  0 V Qr Qx
theorem v_X7_review_53 {J : Nat → Nat → Int64} (p1 : Int32) (p2 : Int32) (p3 : Int32) (p4 : Int32) (p5 : Int32) {Qr : Option Value → (Nat → Nat → Int32) → Prop} {Qx : String → (Nat → Nat → Int32) → Prop}   {V : Nat → Nat → Int32} (H : F_X7_review_53 J p1 p2 p3 p4 p5   V Qr Qx) : WPc J mX7_review Qr Qx 53 [(0, .ref 0), (1, .int p1), (2, .int p2), (3, .int p3), (4, .int p4), (5, .int p5)] [] V 2 12 := by
  unfold F_X7_review_53 at H
  refine s_iconst (v := 0) dX7_review_53 (by decide) ?_
  exact t_loc [0, 1, 2, 3, 4, 5] rfl (v_X7_review_54 p1 p2 p3 p4 p5    0  H)
def F_X7_review (J : Nat → Nat → Int64) (p1 : Int32) (p2 : Int32) (p3 : Int32) (p4 : Int32) (p5 : Int32) (V : Nat → Nat → Int32) (Qr : Option Value → (Nat → Nat → Int32) → Prop) (Qx : String → (Nat → Nat → Int32) → Prop) : Prop :=
CTc J mX7_needIndex [.int p1, .int 2] V (fun r V1 =>
  r = none ∧
  CTc J mX1_stepsOf [.ref 1, .int p2] V1 (fun r V2 =>
    ∃ r2 : Int32, r = some (.int r2) ∧
    CTc J mX7_needIndex [.int p3, .int r2] V2 (fun r V3 =>
      r = none ∧
      CTc J mX7_isStep [.int p4, .int p5, .int 5] V3 (fun r V4 =>
        ∃ b4 : Bool, r = some (.int (bI b4)) ∧
        CTc J mX7_needArgument [.int (bI b4)] V4 (fun r V5 =>
          r = none ∧
          CTc J mX1_isBetweenRaids [.ref 1] V5 (fun r V6 =>
            ∃ b6 : Bool, r = some (.int (bI b6)) ∧
            ((b6 = false) →
              F_X7_review_53 J p1 p2 p3 p4 p5   V6 Qr Qx) ∧
            ((b6 = true) →
              CTc J mX1_keepsReview [.ref 1, .int p1] V6 (fun r V7 =>
                ∃ b7 : Bool, r = some (.int (bI b7)) ∧
                ((b7 = false) →
                  F_X7_review_53 J p1 p2 p3 p4 p5   V7 Qr Qx) ∧
                ((b7 = true) →
                  F_X7_review_54 J p1 p2 p3 p4 p5  1 V7 Qr Qx)) Qx)) Qx) Qx) Qx) Qx) Qx) Qx
theorem v_X7_review {J : Nat → Nat → Int64} (p1 : Int32) (p2 : Int32) (p3 : Int32) (p4 : Int32) (p5 : Int32) {V : Nat → Nat → Int32} {Qr : Option Value → (Nat → Nat → Int32) → Prop} {Qx : String → (Nat → Nat → Int32) → Prop} (H : F_X7_review J p1 p2 p3 p4 p5 V Qr Qx) : CTc J mX7_review [.ref 0, .int p1, .int p2, .int p3, .int p4, .int p5] V Qr Qx := by
  refine ctc_of (M := (T0 J, V)) pX7_review (fun _ _ => rfl) (Nat.le_of_ble_eq_true rfl) ?_
  unfold F_X7_review at H
  show WPc J mX7_review Qr Qx 0 [(0, .ref 0), (1, .int p1), (2, .int p2), (3, .int p3), (4, .int p4), (5, .int p5)] [] V 5 30
  refine s_iload_n dX7_review_0 rfl ?_
  refine s_iconst (v := 2) dX7_review_1 (by decide) ?_
  refine t_cS (As := [.int p1, .int 2]) (st := []) iv_7_37 dX7_review_2 ⟨by decide, by decide⟩ rfl (Nat.le_of_ble_eq_true rfl) (by decide) (by decide) rfl H (fun r V1 H => ?_)
  obtain ⟨rfl, H⟩ := H
  refine s_iload_n dX7_review_5 rfl ?_
  refine s_aload_n dX7_review_6 rfl ?_
  refine t_getR (r := 1) fl_7_12 dX7_review_7 ob_0 rfl rfl ?_
  refine s_iload_n dX7_review_10 rfl ?_
  refine t_cV (h := 1) (As := [.int p2]) (st := [.int p3]) iv_7_89 dX7_review_11 ⟨by decide, by decide⟩ rfl (Nat.le_of_ble_eq_true rfl) (by decide) (by decide) rfl ob_1 H (fun r V2 H => ?_)
  obtain ⟨r2, rfl, H⟩ := H
  refine t_cS (As := [.int p3, .int r2]) (st := []) iv_7_37 dX7_review_14 ⟨by decide, by decide⟩ rfl (Nat.le_of_ble_eq_true rfl) (by decide) (by decide) rfl H (fun r V3 H => ?_)
  obtain ⟨rfl, H⟩ := H
  refine s_iload dX7_review_17 rfl ?_
  refine s_iload dX7_review_19 rfl ?_
  refine s_iconst (v := 5) dX7_review_21 (by decide) ?_
  refine t_cS (As := [.int p4, .int p5, .int 5]) (st := []) iv_7_68 dX7_review_22 ⟨by decide, by decide⟩ rfl (Nat.le_of_ble_eq_true rfl) (by decide) (by decide) rfl H (fun r V4 H => ?_)
  obtain ⟨b4, rfl, H⟩ := H
  refine t_cS (As := [.int (bI b4)]) (st := []) iv_7_45 dX7_review_25 ⟨by decide, by decide⟩ rfl (Nat.le_of_ble_eq_true rfl) (by decide) (by decide) rfl H (fun r V5 H => ?_)
  obtain ⟨rfl, H⟩ := H
  refine s_aload_n dX7_review_28 rfl ?_
  refine t_getR (r := 1) fl_7_12 dX7_review_29 ob_0 rfl rfl ?_
  refine t_cV (h := 1) (As := []) (st := []) iv_7_92 dX7_review_32 ⟨by decide, by decide⟩ rfl (Nat.le_of_ble_eq_true rfl) (by decide) (by decide) rfl ob_1 H (fun r V6 H => ?_)
  obtain ⟨b6, rfl, H⟩ := H
  refine s_if_eq (tgt := 53) dX7_review_35 (by decide) (fun c => ?_) (fun c => ?_)
  · have H := H.1 (bI_f c)
    exact t_loc [0, 1, 2, 3, 4, 5] rfl (v_X7_review_53 p1 p2 p3 p4 p5      H)
  · have H := H.2 (bI_t c)
    refine s_aload_n dX7_review_38 rfl ?_
    refine t_getR (r := 1) fl_7_12 dX7_review_39 ob_0 rfl rfl ?_
    refine s_iload_n dX7_review_42 rfl ?_
    refine t_cV (h := 1) (As := [.int p1]) (st := []) iv_7_95 dX7_review_43 ⟨by decide, by decide⟩ rfl (Nat.le_of_ble_eq_true rfl) (by decide) (by decide) rfl ob_1 H (fun r V7 H => ?_)
    obtain ⟨b7, rfl, H⟩ := H
    refine s_if_eq (tgt := 53) dX7_review_46 (by decide) (fun c => ?_) (fun c => ?_)
    · have H := H.1 (bI_f c)
      exact t_loc [0, 1, 2, 3, 4, 5] rfl (v_X7_review_53 p1 p2 p3 p4 p5      H)
    · have H := H.2 (bI_t c)
      refine s_iconst (v := 1) dX7_review_49 (by decide) ?_
      refine s_goto (tgt := 54) dX7_review_50 (by decide) ?_
      exact t_loc [0, 1, 2, 3, 4, 5] rfl (v_X7_review_54 p1 p2 p3 p4 p5    1  H)

def F_X7_wouldFall (J : Nat → Nat → Int64) (p1 : Int32) (p2 : Int32) (p3 : Int32) (p4 : Int32) (V : Nat → Nat → Int32) (Qr : Option Value → (Nat → Nat → Int32) → Prop) (Qx : String → (Nat → Nat → Int32) → Prop) : Prop :=
CTc J mX1_stepsOf [.ref 1, .int p1] V (fun r V1 =>
  ∃ r1 : Int32, r = some (.int r1) ∧
  CTc J mX7_needIndex [.int p2, .int r1] V1 (fun r V2 =>
    r = none ∧
    CTc J mX7_isStep [.int p3, .int p4, .int 5] V2 (fun r V3 =>
      ∃ b3 : Bool, r = some (.int (bI b3)) ∧
      CTc J mX7_needArgument [.int (bI b3)] V3 (fun r V4 =>
        r = none ∧
        CTc J mX1_firstFallen [.ref 1, .int p1, .int p2, .int p3, .int p4] V4 (fun r V5 =>
          ∃ r5 : Int32, r = some (.int r5) ∧
          Qr (some (.int r5)) V5) Qx) Qx) Qx) Qx) Qx
theorem v_X7_wouldFall {J : Nat → Nat → Int64} (p1 : Int32) (p2 : Int32) (p3 : Int32) (p4 : Int32) {V : Nat → Nat → Int32} {Qr : Option Value → (Nat → Nat → Int32) → Prop} {Qx : String → (Nat → Nat → Int32) → Prop} (H : F_X7_wouldFall J p1 p2 p3 p4 V Qr Qx) : CTc J mX7_wouldFall [.ref 0, .int p1, .int p2, .int p3, .int p4] V Qr Qx := by
  refine ctc_of (M := (T0 J, V)) pX7_wouldFall (fun _ _ => rfl) (Nat.le_of_ble_eq_true rfl) ?_
  unfold F_X7_wouldFall at H
  show WPc J mX7_wouldFall Qr Qx 0 [(0, .ref 0), (1, .int p1), (2, .int p2), (3, .int p3), (4, .int p4)] [] V 2 12
  refine s_iload_n dX7_wouldFall_0 rfl ?_
  refine s_aload_n dX7_wouldFall_1 rfl ?_
  refine t_getR (r := 1) fl_7_12 dX7_wouldFall_2 ob_0 rfl rfl ?_
  refine s_iload_n dX7_wouldFall_5 rfl ?_
  refine t_cV (h := 1) (As := [.int p1]) (st := [.int p2]) iv_7_89 dX7_wouldFall_6 ⟨by decide, by decide⟩ rfl (Nat.le_of_ble_eq_true rfl) (by decide) (by decide) rfl ob_1 H (fun r V1 H => ?_)
  obtain ⟨r1, rfl, H⟩ := H
  refine t_cS (As := [.int p2, .int r1]) (st := []) iv_7_37 dX7_wouldFall_9 ⟨by decide, by decide⟩ rfl (Nat.le_of_ble_eq_true rfl) (by decide) (by decide) rfl H (fun r V2 H => ?_)
  obtain ⟨rfl, H⟩ := H
  refine s_iload_n dX7_wouldFall_12 rfl ?_
  refine s_iload dX7_wouldFall_13 rfl ?_
  refine s_iconst (v := 5) dX7_wouldFall_15 (by decide) ?_
  refine t_cS (As := [.int p3, .int p4, .int 5]) (st := []) iv_7_68 dX7_wouldFall_16 ⟨by decide, by decide⟩ rfl (Nat.le_of_ble_eq_true rfl) (by decide) (by decide) rfl H (fun r V3 H => ?_)
  obtain ⟨b3, rfl, H⟩ := H
  refine t_cS (As := [.int (bI b3)]) (st := []) iv_7_45 dX7_wouldFall_19 ⟨by decide, by decide⟩ rfl (Nat.le_of_ble_eq_true rfl) (by decide) (by decide) rfl H (fun r V4 H => ?_)
  obtain ⟨rfl, H⟩ := H
  refine s_aload_n dX7_wouldFall_22 rfl ?_
  refine t_getR (r := 1) fl_7_12 dX7_wouldFall_23 ob_0 rfl rfl ?_
  refine s_iload_n dX7_wouldFall_26 rfl ?_
  refine s_iload_n dX7_wouldFall_27 rfl ?_
  refine s_iload_n dX7_wouldFall_28 rfl ?_
  refine s_iload dX7_wouldFall_29 rfl ?_
  refine t_cV (h := 1) (As := [.int p1, .int p2, .int p3, .int p4]) (st := []) iv_7_98 dX7_wouldFall_31 ⟨by decide, by decide⟩ rfl (Nat.le_of_ble_eq_true rfl) (by decide) (by decide) rfl ob_1 H (fun r V5 H => ?_)
  obtain ⟨r5, rfl, H⟩ := H
  exact s_iret dX7_wouldFall_34 (Or.inl rfl) ⟨rfl, H⟩

def F_X7_takeBack (J : Nat → Nat → Int64) (p1 : Int32) (V : Nat → Nat → Int32) (Qr : Option Value → (Nat → Nat → Int32) → Prop) (Qx : String → (Nat → Nat → Int32) → Prop) : Prop :=
CTc J mX1_countEvents [.ref 1] V (fun r V1 =>
  ∃ r1 : Int32, r = some (.int r1) ∧
  CTc J mX7_needIndex [.int p1, .int r1] V1 (fun r V2 =>
    r = none ∧
    CTc J mX1_dropFrom [.ref 1, .int p1] V2 (fun r V3 =>
      ∃ r3 : Int32, r = some (.int r3) ∧
      Qr (some (.int r3)) V3) Qx) Qx) Qx
theorem v_X7_takeBack {J : Nat → Nat → Int64} (p1 : Int32) {V : Nat → Nat → Int32} {Qr : Option Value → (Nat → Nat → Int32) → Prop} {Qx : String → (Nat → Nat → Int32) → Prop} (H : F_X7_takeBack J p1 V Qr Qx) : CTc J mX7_takeBack [.ref 0, .int p1] V Qr Qx := by
  refine ctc_of (M := (T0 J, V)) pX7_takeBack (fun _ _ => rfl) (Nat.le_of_ble_eq_true rfl) ?_
  unfold F_X7_takeBack at H
  show WPc J mX7_takeBack Qr Qx 0 [(0, .ref 0), (1, .int p1)] [] V 1 6
  refine s_iload_n dX7_takeBack_0 rfl ?_
  refine s_aload_n dX7_takeBack_1 rfl ?_
  refine t_getR (r := 1) fl_7_12 dX7_takeBack_2 ob_0 rfl rfl ?_
  refine t_cV (h := 1) (As := []) (st := [.int p1]) iv_7_106 dX7_takeBack_5 ⟨by decide, by decide⟩ rfl (Nat.le_of_ble_eq_true rfl) (by decide) (by decide) rfl ob_1 H (fun r V1 H => ?_)
  obtain ⟨r1, rfl, H⟩ := H
  refine t_cS (As := [.int p1, .int r1]) (st := []) iv_7_37 dX7_takeBack_8 ⟨by decide, by decide⟩ rfl (Nat.le_of_ble_eq_true rfl) (by decide) (by decide) rfl H (fun r V2 H => ?_)
  obtain ⟨rfl, H⟩ := H
  refine s_aload_n dX7_takeBack_11 rfl ?_
  refine t_getR (r := 1) fl_7_12 dX7_takeBack_12 ob_0 rfl rfl ?_
  refine s_iload_n dX7_takeBack_15 rfl ?_
  refine t_cV (h := 1) (As := [.int p1]) (st := []) iv_7_110 dX7_takeBack_16 ⟨by decide, by decide⟩ rfl (Nat.le_of_ble_eq_true rfl) (by decide) (by decide) rfl ob_1 H (fun r V3 H => ?_)
  obtain ⟨r3, rfl, H⟩ := H
  exact s_iret dX7_takeBack_19 (Or.inl rfl) ⟨rfl, H⟩

def F_X7_enter (J : Nat → Nat → Int64)  (V : Nat → Nat → Int32) (Qr : Option Value → (Nat → Nat → Int32) → Prop) (Qx : String → (Nat → Nat → Int32) → Prop) : Prop :=
CTc J mX1_isOver [.ref 1] V (fun r V1 =>
  ∃ b1 : Bool, r = some (.int (bI b1)) ∧
  CTc J mX7_needState [.int (bI b1)] V1 (fun r V2 =>
    r = none ∧
    CTc J mX1_clubOf [.ref 1, .int 0] V2 (fun r V3 =>
      ∃ r3 : Int32, r = some (.int r3) ∧
      CTc J mX1_pointsOf [.ref 1, .int 0] V3 (fun r V4 =>
        ∃ r4 : Int32, r = some (.int r4) ∧
        CTc J mX1_clubOf [.ref 1, .int 1] V4 (fun r V5 =>
          ∃ r5 : Int32, r = some (.int r5) ∧
          CTc J mX1_pointsOf [.ref 1, .int 1] V5 (fun r V6 =>
            ∃ r6 : Int32, r = some (.int r6) ∧
            CTc J mX3_note [.ref 391, .int r3, .int r4, .int r5, .int r6] V6 (fun r V7 =>
              ∃ r7 : Int32, r = some (.int r7) ∧
              CTc J mX1_close [.ref 1] V7 (fun r V8 =>
                r = none ∧
                Qr (some (.int r7)) V8) Qx) Qx) Qx) Qx) Qx) Qx) Qx) Qx
theorem v_X7_enter {J : Nat → Nat → Int64}  {V : Nat → Nat → Int32} {Qr : Option Value → (Nat → Nat → Int32) → Prop} {Qx : String → (Nat → Nat → Int32) → Prop} (H : F_X7_enter J  V Qr Qx) : CTc J mX7_enter [.ref 0] V Qr Qx := by
  refine ctc_of (M := (T0 J, V)) pX7_enter (fun _ _ => rfl) (Nat.le_of_ble_eq_true rfl) ?_
  unfold F_X7_enter at H
  show WPc J mX7_enter Qr Qx 0 [(0, .ref 0)] [] V 1 6
  refine s_aload_n dX7_enter_0 rfl ?_
  refine t_getR (r := 1) fl_7_12 dX7_enter_1 ob_0 rfl rfl ?_
  refine t_cV (h := 1) (As := []) (st := []) iv_7_113 dX7_enter_4 ⟨by decide, by decide⟩ rfl (Nat.le_of_ble_eq_true rfl) (by decide) (by decide) rfl ob_1 H (fun r V1 H => ?_)
  obtain ⟨b1, rfl, H⟩ := H
  refine t_cS (As := [.int (bI b1)]) (st := []) iv_7_53 dX7_enter_7 ⟨by decide, by decide⟩ rfl (Nat.le_of_ble_eq_true rfl) (by decide) (by decide) rfl H (fun r V2 H => ?_)
  obtain ⟨rfl, H⟩ := H
  refine s_aload_n dX7_enter_10 rfl ?_
  refine t_getR (r := 391) fl_7_26 dX7_enter_11 ob_0 rfl rfl ?_
  refine s_aload_n dX7_enter_14 rfl ?_
  refine t_getR (r := 1) fl_7_12 dX7_enter_15 ob_0 rfl rfl ?_
  refine s_iconst (v := 0) dX7_enter_18 (by decide) ?_
  refine t_cV (h := 1) (As := [.int 0]) (st := [.ref 391]) iv_7_116 dX7_enter_19 ⟨by decide, by decide⟩ rfl (Nat.le_of_ble_eq_true rfl) (by decide) (by decide) rfl ob_1 H (fun r V3 H => ?_)
  obtain ⟨r3, rfl, H⟩ := H
  refine s_aload_n dX7_enter_22 rfl ?_
  refine t_getR (r := 1) fl_7_12 dX7_enter_23 ob_0 rfl rfl ?_
  refine s_iconst (v := 0) dX7_enter_26 (by decide) ?_
  refine t_cV (h := 1) (As := [.int 0]) (st := [.int r3, .ref 391]) iv_7_119 dX7_enter_27 ⟨by decide, by decide⟩ rfl (Nat.le_of_ble_eq_true rfl) (by decide) (by decide) rfl ob_1 H (fun r V4 H => ?_)
  obtain ⟨r4, rfl, H⟩ := H
  refine s_aload_n dX7_enter_30 rfl ?_
  refine t_getR (r := 1) fl_7_12 dX7_enter_31 ob_0 rfl rfl ?_
  refine s_iconst (v := 1) dX7_enter_34 (by decide) ?_
  refine t_cV (h := 1) (As := [.int 1]) (st := [.int r4, .int r3, .ref 391]) iv_7_116 dX7_enter_35 ⟨by decide, by decide⟩ rfl (Nat.le_of_ble_eq_true rfl) (by decide) (by decide) rfl ob_1 H (fun r V5 H => ?_)
  obtain ⟨r5, rfl, H⟩ := H
  refine s_aload_n dX7_enter_38 rfl ?_
  refine t_getR (r := 1) fl_7_12 dX7_enter_39 ob_0 rfl rfl ?_
  refine s_iconst (v := 1) dX7_enter_42 (by decide) ?_
  refine t_cV (h := 1) (As := [.int 1]) (st := [.int r5, .int r4, .int r3, .ref 391]) iv_7_119 dX7_enter_43 ⟨by decide, by decide⟩ rfl (Nat.le_of_ble_eq_true rfl) (by decide) (by decide) rfl ob_1 H (fun r V6 H => ?_)
  obtain ⟨r6, rfl, H⟩ := H
  refine t_cV (h := 391) (As := [.int r3, .int r4, .int r5, .int r6]) (st := []) iv_7_122 dX7_enter_46 ⟨by decide, by decide⟩ rfl (Nat.le_of_ble_eq_true rfl) (by decide) (by decide) rfl ob_391 H (fun r V7 H => ?_)
  obtain ⟨r7, rfl, H⟩ := H
  refine t_istore_n (L' := [(1, .int r7), (0, .ref 0)]) dX7_enter_49 (by decide) rfl ?_
  refine s_aload_n dX7_enter_50 rfl ?_
  refine t_getR (r := 1) fl_7_12 dX7_enter_51 ob_0 rfl rfl ?_
  refine t_cV (h := 1) (As := []) (st := []) iv_7_125 dX7_enter_54 ⟨by decide, by decide⟩ rfl (Nat.le_of_ble_eq_true rfl) (by decide) (by decide) rfl ob_1 H (fun r V8 H => ?_)
  obtain ⟨rfl, H⟩ := H
  refine s_iload_n dX7_enter_57 rfl ?_
  exact s_iret dX7_enter_58 (Or.inl rfl) ⟨rfl, H⟩

def F_X7_type (J : Nat → Nat → Int64) (p1 : Int32) (V : Nat → Nat → Int32) (Qr : Option Value → (Nat → Nat → Int32) → Prop) (Qx : String → (Nat → Nat → Int32) → Prop) : Prop :=
CTc J mX7_isWithin [.int p1, .int 32, .int 126] V (fun r V1 =>
  ∃ b1 : Bool, r = some (.int (bI b1)) ∧
  CTc J mX7_needArgument [.int (bI b1)] V1 (fun r V2 =>
    r = none ∧
    CTc J mX5_hasRoom [.ref 389] V2 (fun r V3 =>
      ∃ b3 : Bool, r = some (.int (bI b3)) ∧
      CTc J mX7_needState [.int (bI b3)] V3 (fun r V4 =>
        r = none ∧
        CTc J mX5_put [.ref 389, .int p1] V4 (fun r V5 =>
          ∃ r5 : Int32, r = some (.int r5) ∧
          Qr (some (.int r5)) V5) Qx) Qx) Qx) Qx) Qx
theorem v_X7_type {J : Nat → Nat → Int64} (p1 : Int32) {V : Nat → Nat → Int32} {Qr : Option Value → (Nat → Nat → Int32) → Prop} {Qx : String → (Nat → Nat → Int32) → Prop} (H : F_X7_type J p1 V Qr Qx) : CTc J mX7_type [.ref 0, .int p1] V Qr Qx := by
  refine ctc_of (M := (T0 J, V)) pX7_type (fun _ _ => rfl) (Nat.le_of_ble_eq_true rfl) ?_
  unfold F_X7_type at H
  show WPc J mX7_type Qr Qx 0 [(0, .ref 0), (1, .int p1)] [] V 2 12
  refine s_iload_n dX7_type_0 rfl ?_
  refine s_bipush (v := 32) dX7_type_1 (by decide) ?_
  refine s_bipush (v := 126) dX7_type_3 (by decide) ?_
  refine t_cS (As := [.int p1, .int 32, .int 126]) (st := []) iv_7_41 dX7_type_5 ⟨by decide, by decide⟩ rfl (Nat.le_of_ble_eq_true rfl) (by decide) (by decide) rfl H (fun r V1 H => ?_)
  obtain ⟨b1, rfl, H⟩ := H
  refine t_cS (As := [.int (bI b1)]) (st := []) iv_7_45 dX7_type_8 ⟨by decide, by decide⟩ rfl (Nat.le_of_ble_eq_true rfl) (by decide) (by decide) rfl H (fun r V2 H => ?_)
  obtain ⟨rfl, H⟩ := H
  refine s_aload_n dX7_type_11 rfl ?_
  refine t_getR (r := 389) fl_7_19 dX7_type_12 ob_0 rfl rfl ?_
  refine t_cV (h := 389) (As := []) (st := []) iv_7_128 dX7_type_15 ⟨by decide, by decide⟩ rfl (Nat.le_of_ble_eq_true rfl) (by decide) (by decide) rfl ob_389 H (fun r V3 H => ?_)
  obtain ⟨b3, rfl, H⟩ := H
  refine t_cS (As := [.int (bI b3)]) (st := []) iv_7_53 dX7_type_18 ⟨by decide, by decide⟩ rfl (Nat.le_of_ble_eq_true rfl) (by decide) (by decide) rfl H (fun r V4 H => ?_)
  obtain ⟨rfl, H⟩ := H
  refine s_aload_n dX7_type_21 rfl ?_
  refine t_getR (r := 389) fl_7_19 dX7_type_22 ob_0 rfl rfl ?_
  refine s_iload_n dX7_type_25 rfl ?_
  refine t_cV (h := 389) (As := [.int p1]) (st := []) iv_7_131 dX7_type_26 ⟨by decide, by decide⟩ rfl (Nat.le_of_ble_eq_true rfl) (by decide) (by decide) rfl ob_389 H (fun r V5 H => ?_)
  obtain ⟨r5, rfl, H⟩ := H
  exact s_iret dX7_type_29 (Or.inl rfl) ⟨rfl, H⟩

def F_X7_clear (J : Nat → Nat → Int64)  (V : Nat → Nat → Int32) (Qr : Option Value → (Nat → Nat → Int32) → Prop) (Qx : String → (Nat → Nat → Int32) → Prop) : Prop :=
CTc J mX5_wipe [.ref 389] V (fun r V1 =>
  ∃ r1 : Int32, r = some (.int r1) ∧
  Qr (some (.int r1)) V1) Qx
theorem v_X7_clear {J : Nat → Nat → Int64}  {V : Nat → Nat → Int32} {Qr : Option Value → (Nat → Nat → Int32) → Prop} {Qx : String → (Nat → Nat → Int32) → Prop} (H : F_X7_clear J  V Qr Qx) : CTc J mX7_clear [.ref 0] V Qr Qx := by
  refine ctc_of (M := (T0 J, V)) pX7_clear (fun _ _ => rfl) (Nat.le_of_ble_eq_true rfl) ?_
  unfold F_X7_clear at H
  show WPc J mX7_clear Qr Qx 0 [(0, .ref 0)] [] V 0 0
  refine s_aload_n dX7_clear_0 rfl ?_
  refine t_getR (r := 389) fl_7_19 dX7_clear_1 ob_0 rfl rfl ?_
  refine t_cV (h := 389) (As := []) (st := []) iv_7_134 dX7_clear_4 ⟨by decide, by decide⟩ rfl (Nat.le_of_ble_eq_true rfl) (by decide) (by decide) rfl ob_389 H (fun r V1 H => ?_)
  obtain ⟨r1, rfl, H⟩ := H
  exact s_iret dX7_clear_7 (Or.inl rfl) ⟨rfl, H⟩

def F_X7_fault (J : Nat → Nat → Int64)  (V : Nat → Nat → Int32) (Qr : Option Value → (Nat → Nat → Int32) → Prop) (Qx : String → (Nat → Nat → Int32) → Prop) : Prop :=
CTc J mX5_findFault [.ref 389] V (fun r V1 =>
  ∃ r1 : Int32, r = some (.int r1) ∧
  Qr (some (.int r1)) V1) Qx
theorem v_X7_fault {J : Nat → Nat → Int64}  {V : Nat → Nat → Int32} {Qr : Option Value → (Nat → Nat → Int32) → Prop} {Qx : String → (Nat → Nat → Int32) → Prop} (H : F_X7_fault J  V Qr Qx) : CTc J mX7_fault [.ref 0] V Qr Qx := by
  refine ctc_of (M := (T0 J, V)) pX7_fault (fun _ _ => rfl) (Nat.le_of_ble_eq_true rfl) ?_
  unfold F_X7_fault at H
  show WPc J mX7_fault Qr Qx 0 [(0, .ref 0)] [] V 0 0
  refine s_aload_n dX7_fault_0 rfl ?_
  refine t_getR (r := 389) fl_7_19 dX7_fault_1 ob_0 rfl rfl ?_
  refine t_cV (h := 389) (As := []) (st := []) iv_7_137 dX7_fault_4 ⟨by decide, by decide⟩ rfl (Nat.le_of_ble_eq_true rfl) (by decide) (by decide) rfl ob_389 H (fun r V1 H => ?_)
  obtain ⟨r1, rfl, H⟩ := H
  exact s_iret dX7_fault_7 (Or.inl rfl) ⟨rfl, H⟩

def B_X7_run_28 (J : Nat → Nat → Int64)  (K28 : Int32 → (Nat → Nat → Int32) → Prop) (x1 : Int32) (V : Nat → Nat → Int32) (Qr : Option Value → (Nat → Nat → Int32) → Prop) (Qx : String → (Nat → Nat → Int32) → Prop) : Prop :=
((60 ≤ x1) →
  Qr (some (.int x1)) V) ∧
((¬ 60 ≤ x1) →
  CTc J mX5_readOrder [.ref 389] V (fun r V1 =>
    ∃ b1 : Bool, r = some (.int (bI b1)) ∧
    ((b1 = false) →
      Qr (some (.int x1)) V1) ∧
    ((b1 = true) →
      CTc J mX7_isDone [.ref 0] V1 (fun r V2 =>
        ∃ b2 : Bool, r = some (.int (bI b2)) ∧
        ((b2 = false) →
          Qr (some (.int x1)) V2) ∧
        ((b2 = true) →
          K28 (x1 + 1) V2)) Qx)) Qx)
def F_X7_run_28 (J : Nat → Nat → Int64)  (x1 : Int32) (V : Nat → Nat → Int32) (Qr : Option Value → (Nat → Nat → Int32) → Prop) (Qx : String → (Nat → Nat → Int32) → Prop) : Prop :=
  ∃ I : Nat → Int32 → (Nat → Nat → Int32) → Prop, (∃ n, I n x1 V) ∧ ∀ n (x1 : Int32) (V : Nat → Nat → Int32), I n x1 V → B_X7_run_28 J   (fun x1 V => ∃ n', n' < n ∧ I n' x1 V) x1 V Qr Qx
theorem v_X7_run_28 {J : Nat → Nat → Int64}  {Qr : Option Value → (Nat → Nat → Int32) → Prop} {Qx : String → (Nat → Nat → Int32) → Prop} (x1 : Int32)  {V : Nat → Nat → Int32} (H : F_X7_run_28 J   x1 V Qr Qx) : WPc J mX7_run Qr Qx 28 [(0, .ref 0), (1, .int x1)] [] V 0 0 := by
  obtain ⟨I, ⟨n0, h0⟩, hs⟩ := H
  have step : ∀ (K28 : Int32 → (Nat → Nat → Int32) → Prop), (∀ (x1 : Int32)  (V : Nat → Nat → Int32), K28 x1 V → WPc J mX7_run Qr Qx 28 [(0, .ref 0), (1, .int x1)] [] V 0 0) → ∀ (x1 : Int32)  (V : Nat → Nat → Int32), B_X7_run_28 J   K28 x1 V Qr Qx → WPc J mX7_run Qr Qx 28 [(0, .ref 0), (1, .int x1)] [] V 0 0 := by
    intro K28 hK28 x1  V H
    unfold B_X7_run_28 at H
    refine s_iload_n dX7_run_28 rfl ?_
    refine s_bipush (v := 60) dX7_run_29 (by decide) ?_
    refine s_icmp_ge (tgt := 57) dX7_run_31 (by decide) (fun c => ?_) (fun c => ?_)
    · have H := H.1 c
      refine s_iload_n dX7_run_57 rfl ?_
      exact s_iret dX7_run_58 (Or.inl rfl) ⟨rfl, H⟩
    · have H := H.2 c
      refine s_aload_n dX7_run_34 rfl ?_
      refine t_getR (r := 389) fl_7_19 dX7_run_35 ob_0 rfl rfl ?_
      refine t_cV (h := 389) (As := []) (st := []) iv_7_143 dX7_run_38 ⟨by decide, by decide⟩ rfl (Nat.le_of_ble_eq_true rfl) (by decide) (by decide) rfl ob_389 H (fun r V1 H => ?_)
      obtain ⟨b1, rfl, H⟩ := H
      refine s_if_eq (tgt := 57) dX7_run_41 (by decide) (fun c => ?_) (fun c => ?_)
      · have H := H.1 (bI_f c)
        refine s_iload_n dX7_run_57 rfl ?_
        exact s_iret dX7_run_58 (Or.inl rfl) ⟨rfl, H⟩
      · have H := H.2 (bI_t c)
        refine s_aload_n dX7_run_44 rfl ?_
        refine t_cV (h := 0) (As := []) (st := []) iv_7_146 dX7_run_45 ⟨by decide, by decide⟩ rfl (Nat.le_of_ble_eq_true rfl) (by decide) (by decide) rfl ob_0 H (fun r V2 H => ?_)
        obtain ⟨b2, rfl, H⟩ := H
        refine s_if_eq (tgt := 57) dX7_run_48 (by decide) (fun c => ?_) (fun c => ?_)
        · have H := H.1 (bI_f c)
          refine s_iload_n dX7_run_57 rfl ?_
          exact s_iret dX7_run_58 (Or.inl rfl) ⟨rfl, H⟩
        · have H := H.2 (bI_t c)
          refine t_iinc (v := (x1 + 1)) (L' := [(1, .int (x1 + 1)), (0, .ref 0)]) dX7_run_51 rfl (by rfl) (by decide) rfl ?_
          refine s_goto (tgt := 28) dX7_run_54 (by decide) ?_
          exact t_loc [1, 0] rfl (hK28 (x1 + 1)  V2 H)
  have key : ∀ n, ∀ (x1 : Int32)  (V : Nat → Nat → Int32), I n x1 V → WPc J mX7_run Qr Qx 28 [(0, .ref 0), (1, .int x1)] [] V 0 0 := by
    refine strong (fun n ih => ?_)
    intro x1  V hI
    exact step _ (fun x1  V hz => Exists.elim hz (fun n1 hz => ih n1 hz.1 x1  V hz.2)) x1  V (hs n x1 V hI)
  exact key n0 x1  V h0
def F_X7_run_16 (J : Nat → Nat → Int64)  (s0 : Int32) (V : Nat → Nat → Int32) (Qr : Option Value → (Nat → Nat → Int32) → Prop) (Qx : String → (Nat → Nat → Int32) → Prop) : Prop :=
CTc J mX7_needState [.int s0] V (fun r V1 =>
  r = none ∧
  CTc J mX5_rewind [.ref 389] V1 (fun r V2 =>
    r = none ∧
    F_X7_run_28 J   0 V2 Qr Qx) Qx) Qx
theorem v_X7_run_16 {J : Nat → Nat → Int64}  {Qr : Option Value → (Nat → Nat → Int32) → Prop} {Qx : String → (Nat → Nat → Int32) → Prop} (s0 : Int32)  {V : Nat → Nat → Int32} (H : F_X7_run_16 J   s0 V Qr Qx) : WPc J mX7_run Qr Qx 16 [(0, .ref 0)] [.int s0] V 1 6 := by
  unfold F_X7_run_16 at H
  refine t_cS (As := [.int s0]) (st := []) iv_7_53 dX7_run_16 ⟨by decide, by decide⟩ rfl (Nat.le_of_ble_eq_true rfl) (by decide) (by decide) rfl H (fun r V1 H => ?_)
  obtain ⟨rfl, H⟩ := H
  refine s_aload_n dX7_run_19 rfl ?_
  refine t_getR (r := 389) fl_7_19 dX7_run_20 ob_0 rfl rfl ?_
  refine t_cV (h := 389) (As := []) (st := []) iv_7_140 dX7_run_23 ⟨by decide, by decide⟩ rfl (Nat.le_of_ble_eq_true rfl) (by decide) (by decide) rfl ob_389 H (fun r V2 H => ?_)
  obtain ⟨rfl, H⟩ := H
  refine s_iconst (v := 0) dX7_run_26 (by decide) ?_
  refine t_istore_n (L' := [(1, .int 0), (0, .ref 0)]) dX7_run_27 (by decide) rfl ?_
  exact t_loc [1, 0] rfl (v_X7_run_28     0  H)
def F_X7_run (J : Nat → Nat → Int64)  (V : Nat → Nat → Int32) (Qr : Option Value → (Nat → Nat → Int32) → Prop) (Qx : String → (Nat → Nat → Int32) → Prop) : Prop :=
CTc J mX5_findFault [.ref 389] V (fun r V1 =>
  ∃ r1 : Int32, r = some (.int r1) ∧
  ((¬ r1 = (-1)) →
    F_X7_run_16 J   0 V1 Qr Qx) ∧
  ((r1 = (-1)) →
    F_X7_run_16 J   1 V1 Qr Qx)) Qx
theorem v_X7_run {J : Nat → Nat → Int64}  {V : Nat → Nat → Int32} {Qr : Option Value → (Nat → Nat → Int32) → Prop} {Qx : String → (Nat → Nat → Int32) → Prop} (H : F_X7_run J  V Qr Qx) : CTc J mX7_run [.ref 0] V Qr Qx := by
  refine ctc_of (M := (T0 J, V)) pX7_run (fun _ _ => rfl) (Nat.le_of_ble_eq_true rfl) ?_
  unfold F_X7_run at H
  show WPc J mX7_run Qr Qx 0 [(0, .ref 0)] [] V 1 6
  refine s_aload_n dX7_run_0 rfl ?_
  refine t_getR (r := 389) fl_7_19 dX7_run_1 ob_0 rfl rfl ?_
  refine t_cV (h := 389) (As := []) (st := []) iv_7_137 dX7_run_4 ⟨by decide, by decide⟩ rfl (Nat.le_of_ble_eq_true rfl) (by decide) (by decide) rfl ob_389 H (fun r V1 H => ?_)
  obtain ⟨r1, rfl, H⟩ := H
  refine s_iconst (v := (-1)) dX7_run_7 (by decide) ?_
  refine s_icmp_ne (tgt := 15) dX7_run_8 (by decide) (fun c => ?_) (fun c => ?_)
  · have H := H.1 c
    refine s_iconst (v := 0) dX7_run_15 (by decide) ?_
    exact t_loc [0] rfl (v_X7_run_16     0  H)
  · have H := H.2 c
    refine s_iconst (v := 1) dX7_run_11 (by decide) ?_
    refine s_goto (tgt := 16) dX7_run_12 (by decide) ?_
    exact t_loc [0] rfl (v_X7_run_16     1  H)

def F_X7_player (J : Nat → Nat → Int64) (p1 : Int32) (p2 : Int32) (V : Nat → Nat → Int32) (Qr : Option Value → (Nat → Nat → Int32) → Prop) (Qx : String → (Nat → Nat → Int32) → Prop) : Prop :=
CTc J mX7_needIndex [.int p1, .int 2] V (fun r V1 =>
  r = none ∧
  CTc J mX7_needIndex [.int p2, .int 10] V1 (fun r V2 =>
    r = none ∧
    CTc J mX1_isThere [.ref 1] V2 (fun r V3 =>
      ∃ b3 : Bool, r = some (.int (bI b3)) ∧
      CTc J mX7_needState [.int (bI b3)] V3 (fun r V4 =>
        r = none ∧
        CTc J mX1_sideNow [.ref 1, .int p1] V4 (fun r V5 =>
          ∃ c5 : Nat, r = some (.ref c5) ∧ isSide c5 ∧
          CTc J mX6_stateOf [.ref c5, .int p2] V5 (fun r V6 =>
            ∃ r6 : Int32, r = some (.int r6) ∧
            Qr (some (.int r6)) V6) Qx) Qx) Qx) Qx) Qx) Qx
theorem v_X7_player {J : Nat → Nat → Int64} (p1 : Int32) (p2 : Int32) {V : Nat → Nat → Int32} {Qr : Option Value → (Nat → Nat → Int32) → Prop} {Qx : String → (Nat → Nat → Int32) → Prop} (H : F_X7_player J p1 p2 V Qr Qx) : CTc J mX7_player [.ref 0, .int p1, .int p2] V Qr Qx := by
  refine ctc_of (M := (T0 J, V)) pX7_player (fun _ _ => rfl) (Nat.le_of_ble_eq_true rfl) ?_
  unfold F_X7_player at H
  show WPc J mX7_player Qr Qx 0 [(0, .ref 0), (1, .int p1), (2, .int p2)] [] V 3 18
  refine s_iload_n dX7_player_0 rfl ?_
  refine s_iconst (v := 2) dX7_player_1 (by decide) ?_
  refine t_cS (As := [.int p1, .int 2]) (st := []) iv_7_37 dX7_player_2 ⟨by decide, by decide⟩ rfl (Nat.le_of_ble_eq_true rfl) (by decide) (by decide) rfl H (fun r V1 H => ?_)
  obtain ⟨rfl, H⟩ := H
  refine s_iload_n dX7_player_5 rfl ?_
  refine s_bipush (v := 10) dX7_player_6 (by decide) ?_
  refine t_cS (As := [.int p2, .int 10]) (st := []) iv_7_37 dX7_player_8 ⟨by decide, by decide⟩ rfl (Nat.le_of_ble_eq_true rfl) (by decide) (by decide) rfl H (fun r V2 H => ?_)
  obtain ⟨rfl, H⟩ := H
  refine s_aload_n dX7_player_11 rfl ?_
  refine t_getR (r := 1) fl_7_12 dX7_player_12 ob_0 rfl rfl ?_
  refine t_cV (h := 1) (As := []) (st := []) iv_7_49 dX7_player_15 ⟨by decide, by decide⟩ rfl (Nat.le_of_ble_eq_true rfl) (by decide) (by decide) rfl ob_1 H (fun r V3 H => ?_)
  obtain ⟨b3, rfl, H⟩ := H
  refine t_cS (As := [.int (bI b3)]) (st := []) iv_7_53 dX7_player_18 ⟨by decide, by decide⟩ rfl (Nat.le_of_ble_eq_true rfl) (by decide) (by decide) rfl H (fun r V4 H => ?_)
  obtain ⟨rfl, H⟩ := H
  refine s_aload_n dX7_player_21 rfl ?_
  refine t_getR (r := 1) fl_7_12 dX7_player_22 ob_0 rfl rfl ?_
  refine s_iload_n dX7_player_25 rfl ?_
  refine t_cV (h := 1) (As := [.int p1]) (st := []) iv_7_149 dX7_player_26 ⟨by decide, by decide⟩ rfl (Nat.le_of_ble_eq_true rfl) (by decide) (by decide) rfl ob_1 H (fun r V5 H => ?_)
  obtain ⟨c5, rfl, hc5, H⟩ := H
  refine s_iload_n dX7_player_29 rfl ?_
  refine t_cV (h := c5) (As := [.int p2]) (st := []) iv_7_153 dX7_player_30 ⟨by decide, by decide⟩ rfl (Nat.le_of_ble_eq_true rfl) (by decide) (by decide) rfl (sd_o hc5) H (fun r V6 H => ?_)
  obtain ⟨r6, rfl, H⟩ := H
  exact s_iret dX7_player_33 (Or.inl rfl) ⟨rfl, H⟩

def F_X7_next (J : Nat → Nat → Int64) (p1 : Int32) (V : Nat → Nat → Int32) (Qr : Option Value → (Nat → Nat → Int32) → Prop) (Qx : String → (Nat → Nat → Int32) → Prop) : Prop :=
CTc J mX7_needIndex [.int p1, .int 2] V (fun r V1 =>
  r = none ∧
  CTc J mX1_isThere [.ref 1] V1 (fun r V2 =>
    ∃ b2 : Bool, r = some (.int (bI b2)) ∧
    CTc J mX7_needState [.int (bI b2)] V2 (fun r V3 =>
      r = none ∧
      CTc J mX1_sideNow [.ref 1, .int p1] V3 (fun r V4 =>
        ∃ c4 : Nat, r = some (.ref c4) ∧ isSide c4 ∧
        CTc J mX6_outAt [.ref c4, .int 0] V4 (fun r V5 =>
          ∃ r5 : Int32, r = some (.int r5) ∧
          Qr (some (.int r5)) V5) Qx) Qx) Qx) Qx) Qx
theorem v_X7_next {J : Nat → Nat → Int64} (p1 : Int32) {V : Nat → Nat → Int32} {Qr : Option Value → (Nat → Nat → Int32) → Prop} {Qx : String → (Nat → Nat → Int32) → Prop} (H : F_X7_next J p1 V Qr Qx) : CTc J mX7_next [.ref 0, .int p1] V Qr Qx := by
  refine ctc_of (M := (T0 J, V)) pX7_next (fun _ _ => rfl) (Nat.le_of_ble_eq_true rfl) ?_
  unfold F_X7_next at H
  show WPc J mX7_next Qr Qx 0 [(0, .ref 0), (1, .int p1)] [] V 2 12
  refine s_iload_n dX7_next_0 rfl ?_
  refine s_iconst (v := 2) dX7_next_1 (by decide) ?_
  refine t_cS (As := [.int p1, .int 2]) (st := []) iv_7_37 dX7_next_2 ⟨by decide, by decide⟩ rfl (Nat.le_of_ble_eq_true rfl) (by decide) (by decide) rfl H (fun r V1 H => ?_)
  obtain ⟨rfl, H⟩ := H
  refine s_aload_n dX7_next_5 rfl ?_
  refine t_getR (r := 1) fl_7_12 dX7_next_6 ob_0 rfl rfl ?_
  refine t_cV (h := 1) (As := []) (st := []) iv_7_49 dX7_next_9 ⟨by decide, by decide⟩ rfl (Nat.le_of_ble_eq_true rfl) (by decide) (by decide) rfl ob_1 H (fun r V2 H => ?_)
  obtain ⟨b2, rfl, H⟩ := H
  refine t_cS (As := [.int (bI b2)]) (st := []) iv_7_53 dX7_next_12 ⟨by decide, by decide⟩ rfl (Nat.le_of_ble_eq_true rfl) (by decide) (by decide) rfl H (fun r V3 H => ?_)
  obtain ⟨rfl, H⟩ := H
  refine s_aload_n dX7_next_15 rfl ?_
  refine t_getR (r := 1) fl_7_12 dX7_next_16 ob_0 rfl rfl ?_
  refine s_iload_n dX7_next_19 rfl ?_
  refine t_cV (h := 1) (As := [.int p1]) (st := []) iv_7_149 dX7_next_20 ⟨by decide, by decide⟩ rfl (Nat.le_of_ble_eq_true rfl) (by decide) (by decide) rfl ob_1 H (fun r V4 H => ?_)
  obtain ⟨c4, rfl, hc4, H⟩ := H
  refine s_iconst (v := 0) dX7_next_23 (by decide) ?_
  refine t_cV (h := c4) (As := [.int 0]) (st := []) iv_7_164 dX7_next_24 ⟨by decide, by decide⟩ rfl (Nat.le_of_ble_eq_true rfl) (by decide) (by decide) rfl (sd_o hc4) H (fun r V5 H => ?_)
  obtain ⟨r5, rfl, H⟩ := H
  exact s_iret dX7_next_27 (Or.inl rfl) ⟨rfl, H⟩

def F_X7_points (J : Nat → Nat → Int64) (p1 : Int32) (V : Nat → Nat → Int32) (Qr : Option Value → (Nat → Nat → Int32) → Prop) (Qx : String → (Nat → Nat → Int32) → Prop) : Prop :=
CTc J mX7_needIndex [.int p1, .int 2] V (fun r V1 =>
  r = none ∧
  CTc J mX1_isThere [.ref 1] V1 (fun r V2 =>
    ∃ b2 : Bool, r = some (.int (bI b2)) ∧
    CTc J mX7_needState [.int (bI b2)] V2 (fun r V3 =>
      r = none ∧
      CTc J mX1_pointsOf [.ref 1, .int p1] V3 (fun r V4 =>
        ∃ r4 : Int32, r = some (.int r4) ∧
        Qr (some (.int r4)) V4) Qx) Qx) Qx) Qx
theorem v_X7_points {J : Nat → Nat → Int64} (p1 : Int32) {V : Nat → Nat → Int32} {Qr : Option Value → (Nat → Nat → Int32) → Prop} {Qx : String → (Nat → Nat → Int32) → Prop} (H : F_X7_points J p1 V Qr Qx) : CTc J mX7_points [.ref 0, .int p1] V Qr Qx := by
  refine ctc_of (M := (T0 J, V)) pX7_points (fun _ _ => rfl) (Nat.le_of_ble_eq_true rfl) ?_
  unfold F_X7_points at H
  show WPc J mX7_points Qr Qx 0 [(0, .ref 0), (1, .int p1)] [] V 2 12
  refine s_iload_n dX7_points_0 rfl ?_
  refine s_iconst (v := 2) dX7_points_1 (by decide) ?_
  refine t_cS (As := [.int p1, .int 2]) (st := []) iv_7_37 dX7_points_2 ⟨by decide, by decide⟩ rfl (Nat.le_of_ble_eq_true rfl) (by decide) (by decide) rfl H (fun r V1 H => ?_)
  obtain ⟨rfl, H⟩ := H
  refine s_aload_n dX7_points_5 rfl ?_
  refine t_getR (r := 1) fl_7_12 dX7_points_6 ob_0 rfl rfl ?_
  refine t_cV (h := 1) (As := []) (st := []) iv_7_49 dX7_points_9 ⟨by decide, by decide⟩ rfl (Nat.le_of_ble_eq_true rfl) (by decide) (by decide) rfl ob_1 H (fun r V2 H => ?_)
  obtain ⟨b2, rfl, H⟩ := H
  refine t_cS (As := [.int (bI b2)]) (st := []) iv_7_53 dX7_points_12 ⟨by decide, by decide⟩ rfl (Nat.le_of_ble_eq_true rfl) (by decide) (by decide) rfl H (fun r V3 H => ?_)
  obtain ⟨rfl, H⟩ := H
  refine s_aload_n dX7_points_15 rfl ?_
  refine t_getR (r := 1) fl_7_12 dX7_points_16 ob_0 rfl rfl ?_
  refine s_iload_n dX7_points_19 rfl ?_
  refine t_cV (h := 1) (As := [.int p1]) (st := []) iv_7_119 dX7_points_20 ⟨by decide, by decide⟩ rfl (Nat.le_of_ble_eq_true rfl) (by decide) (by decide) rfl ob_1 H (fun r V4 H => ?_)
  obtain ⟨r4, rfl, H⟩ := H
  exact s_iret dX7_points_23 (Or.inl rfl) ⟨rfl, H⟩

def F_X7_match (J : Nat → Nat → Int64) (p1 : Int32) (V : Nat → Nat → Int32) (Qr : Option Value → (Nat → Nat → Int32) → Prop) (Qx : String → (Nat → Nat → Int32) → Prop) : Prop :=
CTc J mX7_isWithin [.int p1, .int 0, .int 7] V (fun r V1 =>
  ∃ b1 : Bool, r = some (.int (bI b1)) ∧
  CTc J mX7_needArgument [.int (bI b1)] V1 (fun r V2 =>
    r = none ∧
    CTc J mX1_isThere [.ref 1] V2 (fun r V3 =>
      ∃ b3 : Bool, r = some (.int (bI b3)) ∧
      CTc J mX7_needState [.int (bI b3)] V3 (fun r V4 =>
        r = none ∧
        CTc J mX1_tellOf [.ref 1, .int p1] V4 (fun r V5 =>
          ∃ r5 : Int32, r = some (.int r5) ∧
          Qr (some (.int r5)) V5) Qx) Qx) Qx) Qx) Qx
theorem v_X7_match {J : Nat → Nat → Int64} (p1 : Int32) {V : Nat → Nat → Int32} {Qr : Option Value → (Nat → Nat → Int32) → Prop} {Qx : String → (Nat → Nat → Int32) → Prop} (H : F_X7_match J p1 V Qr Qx) : CTc J mX7_match [.ref 0, .int p1] V Qr Qx := by
  refine ctc_of (M := (T0 J, V)) pX7_match (fun _ _ => rfl) (Nat.le_of_ble_eq_true rfl) ?_
  unfold F_X7_match at H
  show WPc J mX7_match Qr Qx 0 [(0, .ref 0), (1, .int p1)] [] V 2 12
  refine s_iload_n dX7_match_0 rfl ?_
  refine s_iconst (v := 0) dX7_match_1 (by decide) ?_
  refine s_bipush (v := 7) dX7_match_2 (by decide) ?_
  refine t_cS (As := [.int p1, .int 0, .int 7]) (st := []) iv_7_41 dX7_match_4 ⟨by decide, by decide⟩ rfl (Nat.le_of_ble_eq_true rfl) (by decide) (by decide) rfl H (fun r V1 H => ?_)
  obtain ⟨b1, rfl, H⟩ := H
  refine t_cS (As := [.int (bI b1)]) (st := []) iv_7_45 dX7_match_7 ⟨by decide, by decide⟩ rfl (Nat.le_of_ble_eq_true rfl) (by decide) (by decide) rfl H (fun r V2 H => ?_)
  obtain ⟨rfl, H⟩ := H
  refine s_aload_n dX7_match_10 rfl ?_
  refine t_getR (r := 1) fl_7_12 dX7_match_11 ob_0 rfl rfl ?_
  refine t_cV (h := 1) (As := []) (st := []) iv_7_49 dX7_match_14 ⟨by decide, by decide⟩ rfl (Nat.le_of_ble_eq_true rfl) (by decide) (by decide) rfl ob_1 H (fun r V3 H => ?_)
  obtain ⟨b3, rfl, H⟩ := H
  refine t_cS (As := [.int (bI b3)]) (st := []) iv_7_53 dX7_match_17 ⟨by decide, by decide⟩ rfl (Nat.le_of_ble_eq_true rfl) (by decide) (by decide) rfl H (fun r V4 H => ?_)
  obtain ⟨rfl, H⟩ := H
  refine s_aload_n dX7_match_20 rfl ?_
  refine t_getR (r := 1) fl_7_12 dX7_match_21 ob_0 rfl rfl ?_
  refine s_iload_n dX7_match_24 rfl ?_
  refine t_cV (h := 1) (As := [.int p1]) (st := []) iv_7_167 dX7_match_25 ⟨by decide, by decide⟩ rfl (Nat.le_of_ble_eq_true rfl) (by decide) (by decide) rfl ob_1 H (fun r V5 H => ?_)
  obtain ⟨r5, rfl, H⟩ := H
  exact s_iret dX7_match_28 (Or.inl rfl) ⟨rfl, H⟩

def F_X7_hasReview (J : Nat → Nat → Int64) (p1 : Int32) (V : Nat → Nat → Int32) (Qr : Option Value → (Nat → Nat → Int32) → Prop) (Qx : String → (Nat → Nat → Int32) → Prop) : Prop :=
CTc J mX7_needIndex [.int p1, .int 2] V (fun r V1 =>
  r = none ∧
  CTc J mX1_isThere [.ref 1] V1 (fun r V2 =>
    ∃ b2 : Bool, r = some (.int (bI b2)) ∧
    CTc J mX7_needState [.int (bI b2)] V2 (fun r V3 =>
      r = none ∧
      CTc J mX1_keepsReview [.ref 1, .int p1] V3 (fun r V4 =>
        ∃ b4 : Bool, r = some (.int (bI b4)) ∧
        Qr (some (.int (bI b4))) V4) Qx) Qx) Qx) Qx
theorem v_X7_hasReview {J : Nat → Nat → Int64} (p1 : Int32) {V : Nat → Nat → Int32} {Qr : Option Value → (Nat → Nat → Int32) → Prop} {Qx : String → (Nat → Nat → Int32) → Prop} (H : F_X7_hasReview J p1 V Qr Qx) : CTc J mX7_hasReview [.ref 0, .int p1] V Qr Qx := by
  refine ctc_of (M := (T0 J, V)) pX7_hasReview (fun _ _ => rfl) (Nat.le_of_ble_eq_true rfl) ?_
  unfold F_X7_hasReview at H
  show WPc J mX7_hasReview Qr Qx 0 [(0, .ref 0), (1, .int p1)] [] V 2 12
  refine s_iload_n dX7_hasReview_0 rfl ?_
  refine s_iconst (v := 2) dX7_hasReview_1 (by decide) ?_
  refine t_cS (As := [.int p1, .int 2]) (st := []) iv_7_37 dX7_hasReview_2 ⟨by decide, by decide⟩ rfl (Nat.le_of_ble_eq_true rfl) (by decide) (by decide) rfl H (fun r V1 H => ?_)
  obtain ⟨rfl, H⟩ := H
  refine s_aload_n dX7_hasReview_5 rfl ?_
  refine t_getR (r := 1) fl_7_12 dX7_hasReview_6 ob_0 rfl rfl ?_
  refine t_cV (h := 1) (As := []) (st := []) iv_7_49 dX7_hasReview_9 ⟨by decide, by decide⟩ rfl (Nat.le_of_ble_eq_true rfl) (by decide) (by decide) rfl ob_1 H (fun r V2 H => ?_)
  obtain ⟨b2, rfl, H⟩ := H
  refine t_cS (As := [.int (bI b2)]) (st := []) iv_7_53 dX7_hasReview_12 ⟨by decide, by decide⟩ rfl (Nat.le_of_ble_eq_true rfl) (by decide) (by decide) rfl H (fun r V3 H => ?_)
  obtain ⟨rfl, H⟩ := H
  refine s_aload_n dX7_hasReview_15 rfl ?_
  refine t_getR (r := 1) fl_7_12 dX7_hasReview_16 ob_0 rfl rfl ?_
  refine s_iload_n dX7_hasReview_19 rfl ?_
  refine t_cV (h := 1) (As := [.int p1]) (st := []) iv_7_95 dX7_hasReview_20 ⟨by decide, by decide⟩ rfl (Nat.le_of_ble_eq_true rfl) (by decide) (by decide) rfl ob_1 H (fun r V4 H => ?_)
  obtain ⟨b4, rfl, H⟩ := H
  exact s_iret dX7_hasReview_23 (Or.inr ⟨rfl, (bI_01 b4)⟩) ⟨rfl, H⟩

def F_X7_matAfter (J : Nat → Nat → Int64) (p1 : Int32) (p2 : Int32) (V : Nat → Nat → Int32) (Qr : Option Value → (Nat → Nat → Int32) → Prop) (Qx : String → (Nat → Nat → Int32) → Prop) : Prop :=
CTc J mX1_countEnded [.ref 1] V (fun r V1 =>
  ∃ r1 : Int32, r = some (.int r1) ∧
  CTc J mX7_needIndex [.int p1, .int r1] V1 (fun r V2 =>
    r = none ∧
    CTc J mX7_needIndex [.int p2, .int 2] V2 (fun r V3 =>
      r = none ∧
      CTc J mX1_onAfter [.ref 1, .int p1, .int p2] V3 (fun r V4 =>
        ∃ r4 : Int32, r = some (.int r4) ∧
        Qr (some (.int r4)) V4) Qx) Qx) Qx) Qx
theorem v_X7_matAfter {J : Nat → Nat → Int64} (p1 : Int32) (p2 : Int32) {V : Nat → Nat → Int32} {Qr : Option Value → (Nat → Nat → Int32) → Prop} {Qx : String → (Nat → Nat → Int32) → Prop} (H : F_X7_matAfter J p1 p2 V Qr Qx) : CTc J mX7_matAfter [.ref 0, .int p1, .int p2] V Qr Qx := by
  refine ctc_of (M := (T0 J, V)) pX7_matAfter (fun _ _ => rfl) (Nat.le_of_ble_eq_true rfl) ?_
  unfold F_X7_matAfter at H
  show WPc J mX7_matAfter Qr Qx 0 [(0, .ref 0), (1, .int p1), (2, .int p2)] [] V 2 12
  refine s_iload_n dX7_matAfter_0 rfl ?_
  refine s_aload_n dX7_matAfter_1 rfl ?_
  refine t_getR (r := 1) fl_7_12 dX7_matAfter_2 ob_0 rfl rfl ?_
  refine t_cV (h := 1) (As := []) (st := [.int p1]) iv_7_170 dX7_matAfter_5 ⟨by decide, by decide⟩ rfl (Nat.le_of_ble_eq_true rfl) (by decide) (by decide) rfl ob_1 H (fun r V1 H => ?_)
  obtain ⟨r1, rfl, H⟩ := H
  refine t_cS (As := [.int p1, .int r1]) (st := []) iv_7_37 dX7_matAfter_8 ⟨by decide, by decide⟩ rfl (Nat.le_of_ble_eq_true rfl) (by decide) (by decide) rfl H (fun r V2 H => ?_)
  obtain ⟨rfl, H⟩ := H
  refine s_iload_n dX7_matAfter_11 rfl ?_
  refine s_iconst (v := 2) dX7_matAfter_12 (by decide) ?_
  refine t_cS (As := [.int p2, .int 2]) (st := []) iv_7_37 dX7_matAfter_13 ⟨by decide, by decide⟩ rfl (Nat.le_of_ble_eq_true rfl) (by decide) (by decide) rfl H (fun r V3 H => ?_)
  obtain ⟨rfl, H⟩ := H
  refine s_aload_n dX7_matAfter_16 rfl ?_
  refine t_getR (r := 1) fl_7_12 dX7_matAfter_17 ob_0 rfl rfl ?_
  refine s_iload_n dX7_matAfter_20 rfl ?_
  refine s_iload_n dX7_matAfter_21 rfl ?_
  refine t_cV (h := 1) (As := [.int p1, .int p2]) (st := []) iv_7_173 dX7_matAfter_22 ⟨by decide, by decide⟩ rfl (Nat.le_of_ble_eq_true rfl) (by decide) (by decide) rfl ob_1 H (fun r V4 H => ?_)
  obtain ⟨r4, rfl, H⟩ := H
  exact s_iret dX7_matAfter_25 (Or.inl rfl) ⟨rfl, H⟩

def F_X7_matAnew (J : Nat → Nat → Int64) (p1 : Int32) (p2 : Int32) (V : Nat → Nat → Int32) (Qr : Option Value → (Nat → Nat → Int32) → Prop) (Qx : String → (Nat → Nat → Int32) → Prop) : Prop :=
CTc J mX1_countEnded [.ref 1] V (fun r V1 =>
  ∃ r1 : Int32, r = some (.int r1) ∧
  CTc J mX7_needIndex [.int p1, .int r1] V1 (fun r V2 =>
    r = none ∧
    CTc J mX7_needIndex [.int p2, .int 2] V2 (fun r V3 =>
      r = none ∧
      CTc J mX1_onAnew [.ref 1, .int p1, .int p2] V3 (fun r V4 =>
        ∃ r4 : Int32, r = some (.int r4) ∧
        Qr (some (.int r4)) V4) Qx) Qx) Qx) Qx
theorem v_X7_matAnew {J : Nat → Nat → Int64} (p1 : Int32) (p2 : Int32) {V : Nat → Nat → Int32} {Qr : Option Value → (Nat → Nat → Int32) → Prop} {Qx : String → (Nat → Nat → Int32) → Prop} (H : F_X7_matAnew J p1 p2 V Qr Qx) : CTc J mX7_matAnew [.ref 0, .int p1, .int p2] V Qr Qx := by
  refine ctc_of (M := (T0 J, V)) pX7_matAnew (fun _ _ => rfl) (Nat.le_of_ble_eq_true rfl) ?_
  unfold F_X7_matAnew at H
  show WPc J mX7_matAnew Qr Qx 0 [(0, .ref 0), (1, .int p1), (2, .int p2)] [] V 2 12
  refine s_iload_n dX7_matAnew_0 rfl ?_
  refine s_aload_n dX7_matAnew_1 rfl ?_
  refine t_getR (r := 1) fl_7_12 dX7_matAnew_2 ob_0 rfl rfl ?_
  refine t_cV (h := 1) (As := []) (st := [.int p1]) iv_7_170 dX7_matAnew_5 ⟨by decide, by decide⟩ rfl (Nat.le_of_ble_eq_true rfl) (by decide) (by decide) rfl ob_1 H (fun r V1 H => ?_)
  obtain ⟨r1, rfl, H⟩ := H
  refine t_cS (As := [.int p1, .int r1]) (st := []) iv_7_37 dX7_matAnew_8 ⟨by decide, by decide⟩ rfl (Nat.le_of_ble_eq_true rfl) (by decide) (by decide) rfl H (fun r V2 H => ?_)
  obtain ⟨rfl, H⟩ := H
  refine s_iload_n dX7_matAnew_11 rfl ?_
  refine s_iconst (v := 2) dX7_matAnew_12 (by decide) ?_
  refine t_cS (As := [.int p2, .int 2]) (st := []) iv_7_37 dX7_matAnew_13 ⟨by decide, by decide⟩ rfl (Nat.le_of_ble_eq_true rfl) (by decide) (by decide) rfl H (fun r V3 H => ?_)
  obtain ⟨rfl, H⟩ := H
  refine s_aload_n dX7_matAnew_16 rfl ?_
  refine t_getR (r := 1) fl_7_12 dX7_matAnew_17 ob_0 rfl rfl ?_
  refine s_iload_n dX7_matAnew_20 rfl ?_
  refine s_iload_n dX7_matAnew_21 rfl ?_
  refine t_cV (h := 1) (As := [.int p1, .int p2]) (st := []) iv_7_176 dX7_matAnew_22 ⟨by decide, by decide⟩ rfl (Nat.le_of_ble_eq_true rfl) (by decide) (by decide) rfl ob_1 H (fun r V4 H => ?_)
  obtain ⟨r4, rfl, H⟩ := H
  exact s_iret dX7_matAnew_25 (Or.inl rfl) ⟨rfl, H⟩

def F_X7_pointsAfter (J : Nat → Nat → Int64) (p1 : Int32) (p2 : Int32) (V : Nat → Nat → Int32) (Qr : Option Value → (Nat → Nat → Int32) → Prop) (Qx : String → (Nat → Nat → Int32) → Prop) : Prop :=
CTc J mX1_countEnded [.ref 1] V (fun r V1 =>
  ∃ r1 : Int32, r = some (.int r1) ∧
  CTc J mX7_needIndex [.int p1, .int r1] V1 (fun r V2 =>
    r = none ∧
    CTc J mX7_needIndex [.int p2, .int 2] V2 (fun r V3 =>
      r = none ∧
      CTc J mX1_pointsBehind [.ref 1, .int p1, .int p2] V3 (fun r V4 =>
        ∃ r4 : Int32, r = some (.int r4) ∧
        Qr (some (.int r4)) V4) Qx) Qx) Qx) Qx
theorem v_X7_pointsAfter {J : Nat → Nat → Int64} (p1 : Int32) (p2 : Int32) {V : Nat → Nat → Int32} {Qr : Option Value → (Nat → Nat → Int32) → Prop} {Qx : String → (Nat → Nat → Int32) → Prop} (H : F_X7_pointsAfter J p1 p2 V Qr Qx) : CTc J mX7_pointsAfter [.ref 0, .int p1, .int p2] V Qr Qx := by
  refine ctc_of (M := (T0 J, V)) pX7_pointsAfter (fun _ _ => rfl) (Nat.le_of_ble_eq_true rfl) ?_
  unfold F_X7_pointsAfter at H
  show WPc J mX7_pointsAfter Qr Qx 0 [(0, .ref 0), (1, .int p1), (2, .int p2)] [] V 2 12
  refine s_iload_n dX7_pointsAfter_0 rfl ?_
  refine s_aload_n dX7_pointsAfter_1 rfl ?_
  refine t_getR (r := 1) fl_7_12 dX7_pointsAfter_2 ob_0 rfl rfl ?_
  refine t_cV (h := 1) (As := []) (st := [.int p1]) iv_7_170 dX7_pointsAfter_5 ⟨by decide, by decide⟩ rfl (Nat.le_of_ble_eq_true rfl) (by decide) (by decide) rfl ob_1 H (fun r V1 H => ?_)
  obtain ⟨r1, rfl, H⟩ := H
  refine t_cS (As := [.int p1, .int r1]) (st := []) iv_7_37 dX7_pointsAfter_8 ⟨by decide, by decide⟩ rfl (Nat.le_of_ble_eq_true rfl) (by decide) (by decide) rfl H (fun r V2 H => ?_)
  obtain ⟨rfl, H⟩ := H
  refine s_iload_n dX7_pointsAfter_11 rfl ?_
  refine s_iconst (v := 2) dX7_pointsAfter_12 (by decide) ?_
  refine t_cS (As := [.int p2, .int 2]) (st := []) iv_7_37 dX7_pointsAfter_13 ⟨by decide, by decide⟩ rfl (Nat.le_of_ble_eq_true rfl) (by decide) (by decide) rfl H (fun r V3 H => ?_)
  obtain ⟨rfl, H⟩ := H
  refine s_aload_n dX7_pointsAfter_16 rfl ?_
  refine t_getR (r := 1) fl_7_12 dX7_pointsAfter_17 ob_0 rfl rfl ?_
  refine s_iload_n dX7_pointsAfter_20 rfl ?_
  refine s_iload_n dX7_pointsAfter_21 rfl ?_
  refine t_cV (h := 1) (As := [.int p1, .int p2]) (st := []) iv_7_179 dX7_pointsAfter_22 ⟨by decide, by decide⟩ rfl (Nat.le_of_ble_eq_true rfl) (by decide) (by decide) rfl ob_1 H (fun r V4 H => ?_)
  obtain ⟨r4, rfl, H⟩ := H
  exact s_iret dX7_pointsAfter_25 (Or.inl rfl) ⟨rfl, H⟩

def F_X7_raidPoints (J : Nat → Nat → Int64) (p1 : Int32) (p2 : Int32) (V : Nat → Nat → Int32) (Qr : Option Value → (Nat → Nat → Int32) → Prop) (Qx : String → (Nat → Nat → Int32) → Prop) : Prop :=
CTc J mX7_needIndex [.int p1, .int 2] V (fun r V1 =>
  r = none ∧
  CTc J mX7_needIndex [.int p2, .int 10] V1 (fun r V2 =>
    r = none ∧
    CTc J mX1_isThere [.ref 1] V2 (fun r V3 =>
      ∃ b3 : Bool, r = some (.int (bI b3)) ∧
      CTc J mX7_needState [.int (bI b3)] V3 (fun r V4 =>
        r = none ∧
        CTc J mX1_sideNow [.ref 1, .int p1] V4 (fun r V5 =>
          ∃ c5 : Nat, r = some (.ref c5) ∧ isSide c5 ∧
          CTc J mX6_madeBy [.ref c5, .int p2] V5 (fun r V6 =>
            ∃ r6 : Int32, r = some (.int r6) ∧
            Qr (some (.int r6)) V6) Qx) Qx) Qx) Qx) Qx) Qx
theorem v_X7_raidPoints {J : Nat → Nat → Int64} (p1 : Int32) (p2 : Int32) {V : Nat → Nat → Int32} {Qr : Option Value → (Nat → Nat → Int32) → Prop} {Qx : String → (Nat → Nat → Int32) → Prop} (H : F_X7_raidPoints J p1 p2 V Qr Qx) : CTc J mX7_raidPoints [.ref 0, .int p1, .int p2] V Qr Qx := by
  refine ctc_of (M := (T0 J, V)) pX7_raidPoints (fun _ _ => rfl) (Nat.le_of_ble_eq_true rfl) ?_
  unfold F_X7_raidPoints at H
  show WPc J mX7_raidPoints Qr Qx 0 [(0, .ref 0), (1, .int p1), (2, .int p2)] [] V 3 18
  refine s_iload_n dX7_raidPoints_0 rfl ?_
  refine s_iconst (v := 2) dX7_raidPoints_1 (by decide) ?_
  refine t_cS (As := [.int p1, .int 2]) (st := []) iv_7_37 dX7_raidPoints_2 ⟨by decide, by decide⟩ rfl (Nat.le_of_ble_eq_true rfl) (by decide) (by decide) rfl H (fun r V1 H => ?_)
  obtain ⟨rfl, H⟩ := H
  refine s_iload_n dX7_raidPoints_5 rfl ?_
  refine s_bipush (v := 10) dX7_raidPoints_6 (by decide) ?_
  refine t_cS (As := [.int p2, .int 10]) (st := []) iv_7_37 dX7_raidPoints_8 ⟨by decide, by decide⟩ rfl (Nat.le_of_ble_eq_true rfl) (by decide) (by decide) rfl H (fun r V2 H => ?_)
  obtain ⟨rfl, H⟩ := H
  refine s_aload_n dX7_raidPoints_11 rfl ?_
  refine t_getR (r := 1) fl_7_12 dX7_raidPoints_12 ob_0 rfl rfl ?_
  refine t_cV (h := 1) (As := []) (st := []) iv_7_49 dX7_raidPoints_15 ⟨by decide, by decide⟩ rfl (Nat.le_of_ble_eq_true rfl) (by decide) (by decide) rfl ob_1 H (fun r V3 H => ?_)
  obtain ⟨b3, rfl, H⟩ := H
  refine t_cS (As := [.int (bI b3)]) (st := []) iv_7_53 dX7_raidPoints_18 ⟨by decide, by decide⟩ rfl (Nat.le_of_ble_eq_true rfl) (by decide) (by decide) rfl H (fun r V4 H => ?_)
  obtain ⟨rfl, H⟩ := H
  refine s_aload_n dX7_raidPoints_21 rfl ?_
  refine t_getR (r := 1) fl_7_12 dX7_raidPoints_22 ob_0 rfl rfl ?_
  refine s_iload_n dX7_raidPoints_25 rfl ?_
  refine t_cV (h := 1) (As := [.int p1]) (st := []) iv_7_149 dX7_raidPoints_26 ⟨by decide, by decide⟩ rfl (Nat.le_of_ble_eq_true rfl) (by decide) (by decide) rfl ob_1 H (fun r V5 H => ?_)
  obtain ⟨c5, rfl, hc5, H⟩ := H
  refine s_iload_n dX7_raidPoints_29 rfl ?_
  refine t_cV (h := c5) (As := [.int p2]) (st := []) iv_7_182 dX7_raidPoints_30 ⟨by decide, by decide⟩ rfl (Nat.le_of_ble_eq_true rfl) (by decide) (by decide) rfl (sd_o hc5) H (fun r V6 H => ?_)
  obtain ⟨r6, rfl, H⟩ := H
  exact s_iret dX7_raidPoints_33 (Or.inl rfl) ⟨rfl, H⟩

def F_X7_club (J : Nat → Nat → Int64) (p1 : Int32) (p2 : Int32) (V : Nat → Nat → Int32) (Qr : Option Value → (Nat → Nat → Int32) → Prop) (Qx : String → (Nat → Nat → Int32) → Prop) : Prop :=
CTc J mX7_needIndex [.int p1, .int 8] V (fun r V1 =>
  r = none ∧
  CTc J mX7_isWithin [.int p2, .int 0, .int 6] V1 (fun r V2 =>
    ∃ b2 : Bool, r = some (.int (bI b2)) ∧
    CTc J mX7_needArgument [.int (bI b2)] V2 (fun r V3 =>
      r = none ∧
      CTc J mX3_tellOf [.ref 391, .int p1, .int p2] V3 (fun r V4 =>
        ∃ r4 : Int32, r = some (.int r4) ∧
        Qr (some (.int r4)) V4) Qx) Qx) Qx) Qx
theorem v_X7_club {J : Nat → Nat → Int64} (p1 : Int32) (p2 : Int32) {V : Nat → Nat → Int32} {Qr : Option Value → (Nat → Nat → Int32) → Prop} {Qx : String → (Nat → Nat → Int32) → Prop} (H : F_X7_club J p1 p2 V Qr Qx) : CTc J mX7_club [.ref 0, .int p1, .int p2] V Qr Qx := by
  refine ctc_of (M := (T0 J, V)) pX7_club (fun _ _ => rfl) (Nat.le_of_ble_eq_true rfl) ?_
  unfold F_X7_club at H
  show WPc J mX7_club Qr Qx 0 [(0, .ref 0), (1, .int p1), (2, .int p2)] [] V 2 12
  refine s_iload_n dX7_club_0 rfl ?_
  refine s_bipush (v := 8) dX7_club_1 (by decide) ?_
  refine t_cS (As := [.int p1, .int 8]) (st := []) iv_7_37 dX7_club_3 ⟨by decide, by decide⟩ rfl (Nat.le_of_ble_eq_true rfl) (by decide) (by decide) rfl H (fun r V1 H => ?_)
  obtain ⟨rfl, H⟩ := H
  refine s_iload_n dX7_club_6 rfl ?_
  refine s_iconst (v := 0) dX7_club_7 (by decide) ?_
  refine s_bipush (v := 6) dX7_club_8 (by decide) ?_
  refine t_cS (As := [.int p2, .int 0, .int 6]) (st := []) iv_7_41 dX7_club_10 ⟨by decide, by decide⟩ rfl (Nat.le_of_ble_eq_true rfl) (by decide) (by decide) rfl H (fun r V2 H => ?_)
  obtain ⟨b2, rfl, H⟩ := H
  refine t_cS (As := [.int (bI b2)]) (st := []) iv_7_45 dX7_club_13 ⟨by decide, by decide⟩ rfl (Nat.le_of_ble_eq_true rfl) (by decide) (by decide) rfl H (fun r V3 H => ?_)
  obtain ⟨rfl, H⟩ := H
  refine s_aload_n dX7_club_16 rfl ?_
  refine t_getR (r := 391) fl_7_26 dX7_club_17 ob_0 rfl rfl ?_
  refine s_iload_n dX7_club_20 rfl ?_
  refine s_iload_n dX7_club_21 rfl ?_
  refine t_cV (h := 391) (As := [.int p1, .int p2]) (st := []) iv_7_185 dX7_club_22 ⟨by decide, by decide⟩ rfl (Nat.le_of_ble_eq_true rfl) (by decide) (by decide) rfl ob_391 H (fun r V4 H => ?_)
  obtain ⟨r4, rfl, H⟩ := H
  exact s_iret dX7_club_25 (Or.inl rfl) ⟨rfl, H⟩

def F_X7_right_39 (J : Nat → Nat → Int64) (p1 : Int32) (p2 : Int32) (s0 : Int32) (V : Nat → Nat → Int32) (Qr : Option Value → (Nat → Nat → Int32) → Prop) (Qx : String → (Nat → Nat → Int32) → Prop) : Prop :=
CTc J mX7_needState [.int s0] V (fun r V1 =>
  r = none ∧
  CTc J mX0_giveRight [.ref 398, .int p1, .int p2] V1 (fun r V2 =>
    ∃ r2 : Int32, r = some (.int r2) ∧
    Qr (some (.int r2)) V2) Qx) Qx
theorem v_X7_right_39 {J : Nat → Nat → Int64} (p1 : Int32) (p2 : Int32) {Qr : Option Value → (Nat → Nat → Int32) → Prop} {Qx : String → (Nat → Nat → Int32) → Prop} (s0 : Int32)  {V : Nat → Nat → Int32} (H : F_X7_right_39 J p1 p2  s0 V Qr Qx) : WPc J mX7_right Qr Qx 39 [(0, .ref 0), (1, .int p1), (2, .int p2)] [.int s0] V 1 6 := by
  unfold F_X7_right_39 at H
  refine t_cS (As := [.int s0]) (st := []) iv_7_53 dX7_right_39 ⟨by decide, by decide⟩ rfl (Nat.le_of_ble_eq_true rfl) (by decide) (by decide) rfl H (fun r V1 H => ?_)
  obtain ⟨rfl, H⟩ := H
  refine s_aload_n dX7_right_42 rfl ?_
  refine t_getR (r := 398) fl_7_33 dX7_right_43 ob_0 rfl rfl ?_
  refine s_iload_n dX7_right_46 rfl ?_
  refine s_iload_n dX7_right_47 rfl ?_
  refine t_cV (h := 398) (As := [.int p1, .int p2]) (st := []) iv_7_193 dX7_right_48 ⟨by decide, by decide⟩ rfl (Nat.le_of_ble_eq_true rfl) (by decide) (by decide) rfl ob_398 H (fun r V2 H => ?_)
  obtain ⟨r2, rfl, H⟩ := H
  exact s_iret dX7_right_51 (Or.inl rfl) ⟨rfl, H⟩
def F_X7_right_38 (J : Nat → Nat → Int64) (p1 : Int32) (p2 : Int32)  (V : Nat → Nat → Int32) (Qr : Option Value → (Nat → Nat → Int32) → Prop) (Qx : String → (Nat → Nat → Int32) → Prop) : Prop :=
F_X7_right_39 J p1 p2  0 V Qr Qx
theorem v_X7_right_38 {J : Nat → Nat → Int64} (p1 : Int32) (p2 : Int32) {Qr : Option Value → (Nat → Nat → Int32) → Prop} {Qx : String → (Nat → Nat → Int32) → Prop}   {V : Nat → Nat → Int32} (H : F_X7_right_38 J p1 p2   V Qr Qx) : WPc J mX7_right Qr Qx 38 [(0, .ref 0), (1, .int p1), (2, .int p2)] [] V 1 6 := by
  unfold F_X7_right_38 at H
  refine s_iconst (v := 0) dX7_right_38 (by decide) ?_
  exact t_loc [0, 1, 2] rfl (v_X7_right_39 p1 p2    0  H)
def F_X7_right (J : Nat → Nat → Int64) (p1 : Int32) (p2 : Int32) (V : Nat → Nat → Int32) (Qr : Option Value → (Nat → Nat → Int32) → Prop) (Qx : String → (Nat → Nat → Int32) → Prop) : Prop :=
CTc J mX7_needIndex [.int p1, .int 8] V (fun r V1 =>
  r = none ∧
  CTc J mX7_needIndex [.int p2, .int 24] V1 (fun r V2 =>
    r = none ∧
    CTc J mX0_isCalled [.ref 398, .int p2] V2 (fun r V3 =>
      ∃ b3 : Bool, r = some (.int (bI b3)) ∧
      ((b3 = true) →
        F_X7_right_38 J p1 p2   V3 Qr Qx) ∧
      ((b3 = false) →
        CTc J mX0_isSold [.ref 398, .int p2] V3 (fun r V4 =>
          ∃ b4 : Bool, r = some (.int (bI b4)) ∧
          ((b4 = true) →
            F_X7_right_38 J p1 p2   V4 Qr Qx) ∧
          ((b4 = false) →
            F_X7_right_39 J p1 p2  1 V4 Qr Qx)) Qx)) Qx) Qx) Qx
theorem v_X7_right {J : Nat → Nat → Int64} (p1 : Int32) (p2 : Int32) {V : Nat → Nat → Int32} {Qr : Option Value → (Nat → Nat → Int32) → Prop} {Qx : String → (Nat → Nat → Int32) → Prop} (H : F_X7_right J p1 p2 V Qr Qx) : CTc J mX7_right [.ref 0, .int p1, .int p2] V Qr Qx := by
  refine ctc_of (M := (T0 J, V)) pX7_right (fun _ _ => rfl) (Nat.le_of_ble_eq_true rfl) ?_
  unfold F_X7_right at H
  show WPc J mX7_right Qr Qx 0 [(0, .ref 0), (1, .int p1), (2, .int p2)] [] V 3 18
  refine s_iload_n dX7_right_0 rfl ?_
  refine s_bipush (v := 8) dX7_right_1 (by decide) ?_
  refine t_cS (As := [.int p1, .int 8]) (st := []) iv_7_37 dX7_right_3 ⟨by decide, by decide⟩ rfl (Nat.le_of_ble_eq_true rfl) (by decide) (by decide) rfl H (fun r V1 H => ?_)
  obtain ⟨rfl, H⟩ := H
  refine s_iload_n dX7_right_6 rfl ?_
  refine s_bipush (v := 24) dX7_right_7 (by decide) ?_
  refine t_cS (As := [.int p2, .int 24]) (st := []) iv_7_37 dX7_right_9 ⟨by decide, by decide⟩ rfl (Nat.le_of_ble_eq_true rfl) (by decide) (by decide) rfl H (fun r V2 H => ?_)
  obtain ⟨rfl, H⟩ := H
  refine s_aload_n dX7_right_12 rfl ?_
  refine t_getR (r := 398) fl_7_33 dX7_right_13 ob_0 rfl rfl ?_
  refine s_iload_n dX7_right_16 rfl ?_
  refine t_cV (h := 398) (As := [.int p2]) (st := []) iv_7_187 dX7_right_17 ⟨by decide, by decide⟩ rfl (Nat.le_of_ble_eq_true rfl) (by decide) (by decide) rfl ob_398 H (fun r V3 H => ?_)
  obtain ⟨b3, rfl, H⟩ := H
  refine s_if_ne (tgt := 38) dX7_right_20 (by decide) (fun c => ?_) (fun c => ?_)
  · have H := H.1 (bI_t c)
    exact t_loc [0, 1, 2] rfl (v_X7_right_38 p1 p2      H)
  · have H := H.2 (bI_f c)
    refine s_aload_n dX7_right_23 rfl ?_
    refine t_getR (r := 398) fl_7_33 dX7_right_24 ob_0 rfl rfl ?_
    refine s_iload_n dX7_right_27 rfl ?_
    refine t_cV (h := 398) (As := [.int p2]) (st := []) iv_7_190 dX7_right_28 ⟨by decide, by decide⟩ rfl (Nat.le_of_ble_eq_true rfl) (by decide) (by decide) rfl ob_398 H (fun r V4 H => ?_)
    obtain ⟨b4, rfl, H⟩ := H
    refine s_if_ne (tgt := 38) dX7_right_31 (by decide) (fun c => ?_) (fun c => ?_)
    · have H := H.1 (bI_t c)
      exact t_loc [0, 1, 2] rfl (v_X7_right_38 p1 p2      H)
    · have H := H.2 (bI_f c)
      refine s_iconst (v := 1) dX7_right_34 (by decide) ?_
      refine s_goto (tgt := 39) dX7_right_35 (by decide) ?_
      exact t_loc [0, 1, 2] rfl (v_X7_right_39 p1 p2    1  H)

def F_X7_call_32 (J : Nat → Nat → Int64) (p1 : Int32) (s0 : Int32) (V : Nat → Nat → Int32) (Qr : Option Value → (Nat → Nat → Int32) → Prop) (Qx : String → (Nat → Nat → Int32) → Prop) : Prop :=
CTc J mX7_needState [.int s0] V (fun r V1 =>
  r = none ∧
  CTc J mX0_callUp [.ref 398, .int p1] V1 (fun r V2 =>
    ∃ r2 : Int32, r = some (.int r2) ∧
    Qr (some (.int r2)) V2) Qx) Qx
theorem v_X7_call_32 {J : Nat → Nat → Int64} (p1 : Int32) {Qr : Option Value → (Nat → Nat → Int32) → Prop} {Qx : String → (Nat → Nat → Int32) → Prop} (s0 : Int32)  {V : Nat → Nat → Int32} (H : F_X7_call_32 J p1  s0 V Qr Qx) : WPc J mX7_call Qr Qx 32 [(0, .ref 0), (1, .int p1)] [.int s0] V 1 6 := by
  unfold F_X7_call_32 at H
  refine t_cS (As := [.int s0]) (st := []) iv_7_53 dX7_call_32 ⟨by decide, by decide⟩ rfl (Nat.le_of_ble_eq_true rfl) (by decide) (by decide) rfl H (fun r V1 H => ?_)
  obtain ⟨rfl, H⟩ := H
  refine s_aload_n dX7_call_35 rfl ?_
  refine t_getR (r := 398) fl_7_33 dX7_call_36 ob_0 rfl rfl ?_
  refine s_iload_n dX7_call_39 rfl ?_
  refine t_cV (h := 398) (As := [.int p1]) (st := []) iv_7_199 dX7_call_40 ⟨by decide, by decide⟩ rfl (Nat.le_of_ble_eq_true rfl) (by decide) (by decide) rfl ob_398 H (fun r V2 H => ?_)
  obtain ⟨r2, rfl, H⟩ := H
  exact s_iret dX7_call_43 (Or.inl rfl) ⟨rfl, H⟩
def F_X7_call_31 (J : Nat → Nat → Int64) (p1 : Int32)  (V : Nat → Nat → Int32) (Qr : Option Value → (Nat → Nat → Int32) → Prop) (Qx : String → (Nat → Nat → Int32) → Prop) : Prop :=
F_X7_call_32 J p1  0 V Qr Qx
theorem v_X7_call_31 {J : Nat → Nat → Int64} (p1 : Int32) {Qr : Option Value → (Nat → Nat → Int32) → Prop} {Qx : String → (Nat → Nat → Int32) → Prop}   {V : Nat → Nat → Int32} (H : F_X7_call_31 J p1   V Qr Qx) : WPc J mX7_call Qr Qx 31 [(0, .ref 0), (1, .int p1)] [] V 1 6 := by
  unfold F_X7_call_31 at H
  refine s_iconst (v := 0) dX7_call_31 (by decide) ?_
  exact t_loc [0, 1] rfl (v_X7_call_32 p1    0  H)
def F_X7_call (J : Nat → Nat → Int64) (p1 : Int32) (V : Nat → Nat → Int32) (Qr : Option Value → (Nat → Nat → Int32) → Prop) (Qx : String → (Nat → Nat → Int32) → Prop) : Prop :=
CTc J mX7_needIndex [.int p1, .int 24] V (fun r V1 =>
  r = none ∧
  CTc J mX0_isBusy [.ref 398] V1 (fun r V2 =>
    ∃ b2 : Bool, r = some (.int (bI b2)) ∧
    ((b2 = true) →
      F_X7_call_31 J p1   V2 Qr Qx) ∧
    ((b2 = false) →
      CTc J mX0_isSold [.ref 398, .int p1] V2 (fun r V3 =>
        ∃ b3 : Bool, r = some (.int (bI b3)) ∧
        ((b3 = true) →
          F_X7_call_31 J p1   V3 Qr Qx) ∧
        ((b3 = false) →
          F_X7_call_32 J p1  1 V3 Qr Qx)) Qx)) Qx) Qx
theorem v_X7_call {J : Nat → Nat → Int64} (p1 : Int32) {V : Nat → Nat → Int32} {Qr : Option Value → (Nat → Nat → Int32) → Prop} {Qx : String → (Nat → Nat → Int32) → Prop} (H : F_X7_call J p1 V Qr Qx) : CTc J mX7_call [.ref 0, .int p1] V Qr Qx := by
  refine ctc_of (M := (T0 J, V)) pX7_call (fun _ _ => rfl) (Nat.le_of_ble_eq_true rfl) ?_
  unfold F_X7_call at H
  show WPc J mX7_call Qr Qx 0 [(0, .ref 0), (1, .int p1)] [] V 2 12
  refine s_iload_n dX7_call_0 rfl ?_
  refine s_bipush (v := 24) dX7_call_1 (by decide) ?_
  refine t_cS (As := [.int p1, .int 24]) (st := []) iv_7_37 dX7_call_3 ⟨by decide, by decide⟩ rfl (Nat.le_of_ble_eq_true rfl) (by decide) (by decide) rfl H (fun r V1 H => ?_)
  obtain ⟨rfl, H⟩ := H
  refine s_aload_n dX7_call_6 rfl ?_
  refine t_getR (r := 398) fl_7_33 dX7_call_7 ob_0 rfl rfl ?_
  refine t_cV (h := 398) (As := []) (st := []) iv_7_196 dX7_call_10 ⟨by decide, by decide⟩ rfl (Nat.le_of_ble_eq_true rfl) (by decide) (by decide) rfl ob_398 H (fun r V2 H => ?_)
  obtain ⟨b2, rfl, H⟩ := H
  refine s_if_ne (tgt := 31) dX7_call_13 (by decide) (fun c => ?_) (fun c => ?_)
  · have H := H.1 (bI_t c)
    exact t_loc [0, 1] rfl (v_X7_call_31 p1      H)
  · have H := H.2 (bI_f c)
    refine s_aload_n dX7_call_16 rfl ?_
    refine t_getR (r := 398) fl_7_33 dX7_call_17 ob_0 rfl rfl ?_
    refine s_iload_n dX7_call_20 rfl ?_
    refine t_cV (h := 398) (As := [.int p1]) (st := []) iv_7_190 dX7_call_21 ⟨by decide, by decide⟩ rfl (Nat.le_of_ble_eq_true rfl) (by decide) (by decide) rfl ob_398 H (fun r V3 H => ?_)
    obtain ⟨b3, rfl, H⟩ := H
    refine s_if_ne (tgt := 31) dX7_call_24 (by decide) (fun c => ?_) (fun c => ?_)
    · have H := H.1 (bI_t c)
      exact t_loc [0, 1] rfl (v_X7_call_31 p1      H)
    · have H := H.2 (bI_f c)
      refine s_iconst (v := 1) dX7_call_27 (by decide) ?_
      refine s_goto (tgt := 32) dX7_call_28 (by decide) ?_
      exact t_loc [0, 1] rfl (v_X7_call_32 p1    1  H)

def F_X7_bid_55 (J : Nat → Nat → Int64) (p1 : Int32) (p2 : Int32) (s0 : Int32) (V : Nat → Nat → Int32) (Qr : Option Value → (Nat → Nat → Int32) → Prop) (Qx : String → (Nat → Nat → Int32) → Prop) : Prop :=
CTc J mX7_needState [.int s0] V (fun r V1 =>
  r = none ∧
  CTc J mX0_takeBid [.ref 398, .int p1, .int p2] V1 (fun r V2 =>
    ∃ r2 : Int32, r = some (.int r2) ∧
    Qr (some (.int r2)) V2) Qx) Qx
theorem v_X7_bid_55 {J : Nat → Nat → Int64} (p1 : Int32) (p2 : Int32) {Qr : Option Value → (Nat → Nat → Int32) → Prop} {Qx : String → (Nat → Nat → Int32) → Prop} (s0 : Int32)  {V : Nat → Nat → Int32} (H : F_X7_bid_55 J p1 p2  s0 V Qr Qx) : WPc J mX7_bid Qr Qx 55 [(0, .ref 0), (1, .int p1), (2, .int p2)] [.int s0] V 1 6 := by
  unfold F_X7_bid_55 at H
  refine t_cS (As := [.int s0]) (st := []) iv_7_53 dX7_bid_55 ⟨by decide, by decide⟩ rfl (Nat.le_of_ble_eq_true rfl) (by decide) (by decide) rfl H (fun r V1 H => ?_)
  obtain ⟨rfl, H⟩ := H
  refine s_aload_n dX7_bid_58 rfl ?_
  refine t_getR (r := 398) fl_7_33 dX7_bid_59 ob_0 rfl rfl ?_
  refine s_iload_n dX7_bid_62 rfl ?_
  refine s_iload_n dX7_bid_63 rfl ?_
  refine t_cV (h := 398) (As := [.int p1, .int p2]) (st := []) iv_7_212 dX7_bid_64 ⟨by decide, by decide⟩ rfl (Nat.le_of_ble_eq_true rfl) (by decide) (by decide) rfl ob_398 H (fun r V2 H => ?_)
  obtain ⟨r2, rfl, H⟩ := H
  exact s_iret dX7_bid_67 (Or.inl rfl) ⟨rfl, H⟩
def F_X7_bid_54 (J : Nat → Nat → Int64) (p1 : Int32) (p2 : Int32)  (V : Nat → Nat → Int32) (Qr : Option Value → (Nat → Nat → Int32) → Prop) (Qx : String → (Nat → Nat → Int32) → Prop) : Prop :=
F_X7_bid_55 J p1 p2  0 V Qr Qx
theorem v_X7_bid_54 {J : Nat → Nat → Int64} (p1 : Int32) (p2 : Int32) {Qr : Option Value → (Nat → Nat → Int32) → Prop} {Qx : String → (Nat → Nat → Int32) → Prop}   {V : Nat → Nat → Int32} (H : F_X7_bid_54 J p1 p2   V Qr Qx) : WPc J mX7_bid Qr Qx 54 [(0, .ref 0), (1, .int p1), (2, .int p2)] [] V 1 6 := by
  unfold F_X7_bid_54 at H
  refine s_iconst (v := 0) dX7_bid_54 (by decide) ?_
  exact t_loc [0, 1, 2] rfl (v_X7_bid_55 p1 p2    0  H)
def F_X7_bid (J : Nat → Nat → Int64) (p1 : Int32) (p2 : Int32) (V : Nat → Nat → Int32) (Qr : Option Value → (Nat → Nat → Int32) → Prop) (Qx : String → (Nat → Nat → Int32) → Prop) : Prop :=
CTc J mX7_needIndex [.int p1, .int 8] V (fun r V1 =>
  r = none ∧
  CTc J mX7_isWithin [.int p2, .int 1, .int 1000] V1 (fun r V2 =>
    ∃ b2 : Bool, r = some (.int (bI b2)) ∧
    CTc J mX7_needArgument [.int (bI b2)] V2 (fun r V3 =>
      r = none ∧
      CTc J mX0_isOpen [.ref 398] V3 (fun r V4 =>
        ∃ b4 : Bool, r = some (.int (bI b4)) ∧
        ((b4 = false) →
          F_X7_bid_54 J p1 p2   V4 Qr Qx) ∧
        ((b4 = true) →
          CTc J mX0_leastBid [.ref 398] V4 (fun r V5 =>
            ∃ r5 : Int32, r = some (.int r5) ∧
            ((p2 < r5) →
              F_X7_bid_54 J p1 p2   V5 Qr Qx) ∧
            ((¬ p2 < r5) →
              CTc J mX0_canPay [.ref 398, .int p1, .int p2] V5 (fun r V6 =>
                ∃ b6 : Bool, r = some (.int (bI b6)) ∧
                ((b6 = false) →
                  F_X7_bid_54 J p1 p2   V6 Qr Qx) ∧
                ((b6 = true) →
                  F_X7_bid_55 J p1 p2  1 V6 Qr Qx)) Qx)) Qx)) Qx) Qx) Qx) Qx
theorem v_X7_bid {J : Nat → Nat → Int64} (p1 : Int32) (p2 : Int32) {V : Nat → Nat → Int32} {Qr : Option Value → (Nat → Nat → Int32) → Prop} {Qx : String → (Nat → Nat → Int32) → Prop} (H : F_X7_bid J p1 p2 V Qr Qx) : CTc J mX7_bid [.ref 0, .int p1, .int p2] V Qr Qx := by
  refine ctc_of (M := (T0 J, V)) pX7_bid (fun _ _ => rfl) (Nat.le_of_ble_eq_true rfl) ?_
  unfold F_X7_bid at H
  show WPc J mX7_bid Qr Qx 0 [(0, .ref 0), (1, .int p1), (2, .int p2)] [] V 3 18
  refine s_iload_n dX7_bid_0 rfl ?_
  refine s_bipush (v := 8) dX7_bid_1 (by decide) ?_
  refine t_cS (As := [.int p1, .int 8]) (st := []) iv_7_37 dX7_bid_3 ⟨by decide, by decide⟩ rfl (Nat.le_of_ble_eq_true rfl) (by decide) (by decide) rfl H (fun r V1 H => ?_)
  obtain ⟨rfl, H⟩ := H
  refine s_iload_n dX7_bid_6 rfl ?_
  refine s_iconst (v := 1) dX7_bid_7 (by decide) ?_
  refine s_sipush (v := 1000) dX7_bid_8 (by decide) ?_
  refine t_cS (As := [.int p2, .int 1, .int 1000]) (st := []) iv_7_41 dX7_bid_11 ⟨by decide, by decide⟩ rfl (Nat.le_of_ble_eq_true rfl) (by decide) (by decide) rfl H (fun r V2 H => ?_)
  obtain ⟨b2, rfl, H⟩ := H
  refine t_cS (As := [.int (bI b2)]) (st := []) iv_7_45 dX7_bid_14 ⟨by decide, by decide⟩ rfl (Nat.le_of_ble_eq_true rfl) (by decide) (by decide) rfl H (fun r V3 H => ?_)
  obtain ⟨rfl, H⟩ := H
  refine s_aload_n dX7_bid_17 rfl ?_
  refine t_getR (r := 398) fl_7_33 dX7_bid_18 ob_0 rfl rfl ?_
  refine t_cV (h := 398) (As := []) (st := []) iv_7_202 dX7_bid_21 ⟨by decide, by decide⟩ rfl (Nat.le_of_ble_eq_true rfl) (by decide) (by decide) rfl ob_398 H (fun r V4 H => ?_)
  obtain ⟨b4, rfl, H⟩ := H
  refine s_if_eq (tgt := 54) dX7_bid_24 (by decide) (fun c => ?_) (fun c => ?_)
  · have H := H.1 (bI_f c)
    exact t_loc [0, 1, 2] rfl (v_X7_bid_54 p1 p2      H)
  · have H := H.2 (bI_t c)
    refine s_iload_n dX7_bid_27 rfl ?_
    refine s_aload_n dX7_bid_28 rfl ?_
    refine t_getR (r := 398) fl_7_33 dX7_bid_29 ob_0 rfl rfl ?_
    refine t_cV (h := 398) (As := []) (st := [.int p2]) iv_7_205 dX7_bid_32 ⟨by decide, by decide⟩ rfl (Nat.le_of_ble_eq_true rfl) (by decide) (by decide) rfl ob_398 H (fun r V5 H => ?_)
    obtain ⟨r5, rfl, H⟩ := H
    refine s_icmp_lt (tgt := 54) dX7_bid_35 (by decide) (fun c => ?_) (fun c => ?_)
    · have H := H.1 c
      exact t_loc [0, 1, 2] rfl (v_X7_bid_54 p1 p2      H)
    · have H := H.2 c
      refine s_aload_n dX7_bid_38 rfl ?_
      refine t_getR (r := 398) fl_7_33 dX7_bid_39 ob_0 rfl rfl ?_
      refine s_iload_n dX7_bid_42 rfl ?_
      refine s_iload_n dX7_bid_43 rfl ?_
      refine t_cV (h := 398) (As := [.int p1, .int p2]) (st := []) iv_7_208 dX7_bid_44 ⟨by decide, by decide⟩ rfl (Nat.le_of_ble_eq_true rfl) (by decide) (by decide) rfl ob_398 H (fun r V6 H => ?_)
      obtain ⟨b6, rfl, H⟩ := H
      refine s_if_eq (tgt := 54) dX7_bid_47 (by decide) (fun c => ?_) (fun c => ?_)
      · have H := H.1 (bI_f c)
        exact t_loc [0, 1, 2] rfl (v_X7_bid_54 p1 p2      H)
      · have H := H.2 (bI_t c)
        refine s_iconst (v := 1) dX7_bid_50 (by decide) ?_
        refine s_goto (tgt := 55) dX7_bid_51 (by decide) ?_
        exact t_loc [0, 1, 2] rfl (v_X7_bid_55 p1 p2    1  H)

def F_X7_hammer (J : Nat → Nat → Int64)  (V : Nat → Nat → Int32) (Qr : Option Value → (Nat → Nat → Int32) → Prop) (Qx : String → (Nat → Nat → Int32) → Prop) : Prop :=
CTc J mX0_isOpen [.ref 398] V (fun r V1 =>
  ∃ b1 : Bool, r = some (.int (bI b1)) ∧
  CTc J mX7_needState [.int (bI b1)] V1 (fun r V2 =>
    r = none ∧
    CTc J mX0_strike [.ref 398] V2 (fun r V3 =>
      ∃ r3 : Int32, r = some (.int r3) ∧
      Qr (some (.int r3)) V3) Qx) Qx) Qx
theorem v_X7_hammer {J : Nat → Nat → Int64}  {V : Nat → Nat → Int32} {Qr : Option Value → (Nat → Nat → Int32) → Prop} {Qx : String → (Nat → Nat → Int32) → Prop} (H : F_X7_hammer J  V Qr Qx) : CTc J mX7_hammer [.ref 0] V Qr Qx := by
  refine ctc_of (M := (T0 J, V)) pX7_hammer (fun _ _ => rfl) (Nat.le_of_ble_eq_true rfl) ?_
  unfold F_X7_hammer at H
  show WPc J mX7_hammer Qr Qx 0 [(0, .ref 0)] [] V 1 6
  refine s_aload_n dX7_hammer_0 rfl ?_
  refine t_getR (r := 398) fl_7_33 dX7_hammer_1 ob_0 rfl rfl ?_
  refine t_cV (h := 398) (As := []) (st := []) iv_7_202 dX7_hammer_4 ⟨by decide, by decide⟩ rfl (Nat.le_of_ble_eq_true rfl) (by decide) (by decide) rfl ob_398 H (fun r V1 H => ?_)
  obtain ⟨b1, rfl, H⟩ := H
  refine t_cS (As := [.int (bI b1)]) (st := []) iv_7_53 dX7_hammer_7 ⟨by decide, by decide⟩ rfl (Nat.le_of_ble_eq_true rfl) (by decide) (by decide) rfl H (fun r V2 H => ?_)
  obtain ⟨rfl, H⟩ := H
  refine s_aload_n dX7_hammer_10 rfl ?_
  refine t_getR (r := 398) fl_7_33 dX7_hammer_11 ob_0 rfl rfl ?_
  refine t_cV (h := 398) (As := []) (st := []) iv_7_215 dX7_hammer_14 ⟨by decide, by decide⟩ rfl (Nat.le_of_ble_eq_true rfl) (by decide) (by decide) rfl ob_398 H (fun r V3 H => ?_)
  obtain ⟨r3, rfl, H⟩ := H
  exact s_iret dX7_hammer_17 (Or.inl rfl) ⟨rfl, H⟩

def F_X7_answer (J : Nat → Nat → Int64) (p1 : Int32) (V : Nat → Nat → Int32) (Qr : Option Value → (Nat → Nat → Int32) → Prop) (Qx : String → (Nat → Nat → Int32) → Prop) : Prop :=
CTc J mX0_isAsking [.ref 398] V (fun r V1 =>
  ∃ b1 : Bool, r = some (.int (bI b1)) ∧
  CTc J mX7_needState [.int (bI b1)] V1 (fun r V2 =>
    r = none ∧
    CTc J mX0_settle [.ref 398, .int p1] V2 (fun r V3 =>
      ∃ r3 : Int32, r = some (.int r3) ∧
      Qr (some (.int r3)) V3) Qx) Qx) Qx
theorem v_X7_answer {J : Nat → Nat → Int64} (p1 : Int32) {V : Nat → Nat → Int32} {Qr : Option Value → (Nat → Nat → Int32) → Prop} {Qx : String → (Nat → Nat → Int32) → Prop} (H : F_X7_answer J p1 V Qr Qx) : CTc J mX7_answer [.ref 0, .int p1] V Qr Qx := by
  refine ctc_of (M := (T0 J, V)) pX7_answer (fun _ _ => rfl) (Nat.le_of_ble_eq_true rfl) ?_
  unfold F_X7_answer at H
  show WPc J mX7_answer Qr Qx 0 [(0, .ref 0), (1, .int p1)] [] V 1 6
  refine s_aload_n dX7_answer_0 rfl ?_
  refine t_getR (r := 398) fl_7_33 dX7_answer_1 ob_0 rfl rfl ?_
  refine t_cV (h := 398) (As := []) (st := []) iv_7_218 dX7_answer_4 ⟨by decide, by decide⟩ rfl (Nat.le_of_ble_eq_true rfl) (by decide) (by decide) rfl ob_398 H (fun r V1 H => ?_)
  obtain ⟨b1, rfl, H⟩ := H
  refine t_cS (As := [.int (bI b1)]) (st := []) iv_7_53 dX7_answer_7 ⟨by decide, by decide⟩ rfl (Nat.le_of_ble_eq_true rfl) (by decide) (by decide) rfl H (fun r V2 H => ?_)
  obtain ⟨rfl, H⟩ := H
  refine s_aload_n dX7_answer_10 rfl ?_
  refine t_getR (r := 398) fl_7_33 dX7_answer_11 ob_0 rfl rfl ?_
  refine s_iload_n dX7_answer_14 rfl ?_
  refine t_cV (h := 398) (As := [.int p1]) (st := []) iv_7_221 dX7_answer_15 ⟨by decide, by decide⟩ rfl (Nat.le_of_ble_eq_true rfl) (by decide) (by decide) rfl ob_398 H (fun r V3 H => ?_)
  obtain ⟨r3, rfl, H⟩ := H
  exact s_iret dX7_answer_18 (Or.inl rfl) ⟨rfl, H⟩

def F_X7_lot (J : Nat → Nat → Int64) (p1 : Int32) (p2 : Int32) (V : Nat → Nat → Int32) (Qr : Option Value → (Nat → Nat → Int32) → Prop) (Qx : String → (Nat → Nat → Int32) → Prop) : Prop :=
CTc J mX7_needIndex [.int p1, .int 24] V (fun r V1 =>
  r = none ∧
  CTc J mX7_isWithin [.int p2, .int 0, .int 3] V1 (fun r V2 =>
    ∃ b2 : Bool, r = some (.int (bI b2)) ∧
    CTc J mX7_needArgument [.int (bI b2)] V2 (fun r V3 =>
      r = none ∧
      CTc J mX0_tellOfLot [.ref 398, .int p1, .int p2] V3 (fun r V4 =>
        ∃ r4 : Int32, r = some (.int r4) ∧
        Qr (some (.int r4)) V4) Qx) Qx) Qx) Qx
theorem v_X7_lot {J : Nat → Nat → Int64} (p1 : Int32) (p2 : Int32) {V : Nat → Nat → Int32} {Qr : Option Value → (Nat → Nat → Int32) → Prop} {Qx : String → (Nat → Nat → Int32) → Prop} (H : F_X7_lot J p1 p2 V Qr Qx) : CTc J mX7_lot [.ref 0, .int p1, .int p2] V Qr Qx := by
  refine ctc_of (M := (T0 J, V)) pX7_lot (fun _ _ => rfl) (Nat.le_of_ble_eq_true rfl) ?_
  unfold F_X7_lot at H
  show WPc J mX7_lot Qr Qx 0 [(0, .ref 0), (1, .int p1), (2, .int p2)] [] V 2 12
  refine s_iload_n dX7_lot_0 rfl ?_
  refine s_bipush (v := 24) dX7_lot_1 (by decide) ?_
  refine t_cS (As := [.int p1, .int 24]) (st := []) iv_7_37 dX7_lot_3 ⟨by decide, by decide⟩ rfl (Nat.le_of_ble_eq_true rfl) (by decide) (by decide) rfl H (fun r V1 H => ?_)
  obtain ⟨rfl, H⟩ := H
  refine s_iload_n dX7_lot_6 rfl ?_
  refine s_iconst (v := 0) dX7_lot_7 (by decide) ?_
  refine s_iconst (v := 3) dX7_lot_8 (by decide) ?_
  refine t_cS (As := [.int p2, .int 0, .int 3]) (st := []) iv_7_41 dX7_lot_9 ⟨by decide, by decide⟩ rfl (Nat.le_of_ble_eq_true rfl) (by decide) (by decide) rfl H (fun r V2 H => ?_)
  obtain ⟨b2, rfl, H⟩ := H
  refine t_cS (As := [.int (bI b2)]) (st := []) iv_7_45 dX7_lot_12 ⟨by decide, by decide⟩ rfl (Nat.le_of_ble_eq_true rfl) (by decide) (by decide) rfl H (fun r V3 H => ?_)
  obtain ⟨rfl, H⟩ := H
  refine s_aload_n dX7_lot_15 rfl ?_
  refine t_getR (r := 398) fl_7_33 dX7_lot_16 ob_0 rfl rfl ?_
  refine s_iload_n dX7_lot_19 rfl ?_
  refine s_iload_n dX7_lot_20 rfl ?_
  refine t_cV (h := 398) (As := [.int p1, .int p2]) (st := []) iv_7_225 dX7_lot_21 ⟨by decide, by decide⟩ rfl (Nat.le_of_ble_eq_true rfl) (by decide) (by decide) rfl ob_398 H (fun r V4 H => ?_)
  obtain ⟨r4, rfl, H⟩ := H
  exact s_iret dX7_lot_24 (Or.inl rfl) ⟨rfl, H⟩

def F_X7_squad (J : Nat → Nat → Int64) (p1 : Int32) (p2 : Int32) (V : Nat → Nat → Int32) (Qr : Option Value → (Nat → Nat → Int32) → Prop) (Qx : String → (Nat → Nat → Int32) → Prop) : Prop :=
CTc J mX7_needIndex [.int p1, .int 8] V (fun r V1 =>
  r = none ∧
  CTc J mX7_isWithin [.int p2, .int 0, .int 2] V1 (fun r V2 =>
    ∃ b2 : Bool, r = some (.int (bI b2)) ∧
    CTc J mX7_needArgument [.int (bI b2)] V2 (fun r V3 =>
      r = none ∧
      CTc J mX0_tellOfClub [.ref 398, .int p1, .int p2] V3 (fun r V4 =>
        ∃ r4 : Int32, r = some (.int r4) ∧
        Qr (some (.int r4)) V4) Qx) Qx) Qx) Qx
theorem v_X7_squad {J : Nat → Nat → Int64} (p1 : Int32) (p2 : Int32) {V : Nat → Nat → Int32} {Qr : Option Value → (Nat → Nat → Int32) → Prop} {Qx : String → (Nat → Nat → Int32) → Prop} (H : F_X7_squad J p1 p2 V Qr Qx) : CTc J mX7_squad [.ref 0, .int p1, .int p2] V Qr Qx := by
  refine ctc_of (M := (T0 J, V)) pX7_squad (fun _ _ => rfl) (Nat.le_of_ble_eq_true rfl) ?_
  unfold F_X7_squad at H
  show WPc J mX7_squad Qr Qx 0 [(0, .ref 0), (1, .int p1), (2, .int p2)] [] V 2 12
  refine s_iload_n dX7_squad_0 rfl ?_
  refine s_bipush (v := 8) dX7_squad_1 (by decide) ?_
  refine t_cS (As := [.int p1, .int 8]) (st := []) iv_7_37 dX7_squad_3 ⟨by decide, by decide⟩ rfl (Nat.le_of_ble_eq_true rfl) (by decide) (by decide) rfl H (fun r V1 H => ?_)
  obtain ⟨rfl, H⟩ := H
  refine s_iload_n dX7_squad_6 rfl ?_
  refine s_iconst (v := 0) dX7_squad_7 (by decide) ?_
  refine s_iconst (v := 2) dX7_squad_8 (by decide) ?_
  refine t_cS (As := [.int p2, .int 0, .int 2]) (st := []) iv_7_41 dX7_squad_9 ⟨by decide, by decide⟩ rfl (Nat.le_of_ble_eq_true rfl) (by decide) (by decide) rfl H (fun r V2 H => ?_)
  obtain ⟨b2, rfl, H⟩ := H
  refine t_cS (As := [.int (bI b2)]) (st := []) iv_7_45 dX7_squad_12 ⟨by decide, by decide⟩ rfl (Nat.le_of_ble_eq_true rfl) (by decide) (by decide) rfl H (fun r V3 H => ?_)
  obtain ⟨rfl, H⟩ := H
  refine s_aload_n dX7_squad_15 rfl ?_
  refine t_getR (r := 398) fl_7_33 dX7_squad_16 ob_0 rfl rfl ?_
  refine s_iload_n dX7_squad_19 rfl ?_
  refine s_iload_n dX7_squad_20 rfl ?_
  refine t_cV (h := 398) (As := [.int p1, .int p2]) (st := []) iv_7_228 dX7_squad_21 ⟨by decide, by decide⟩ rfl (Nat.le_of_ble_eq_true rfl) (by decide) (by decide) rfl ob_398 H (fun r V4 H => ?_)
  obtain ⟨r4, rfl, H⟩ := H
  exact s_iret dX7_squad_24 (Or.inl rfl) ⟨rfl, H⟩

def F_X7_isWithin (J : Nat → Nat → Int64) (p1 : Int32) (p2 : Int32) (p3 : Int32) (V : Nat → Nat → Int32) (Qr : Option Value → (Nat → Nat → Int32) → Prop) (Qx : String → (Nat → Nat → Int32) → Prop) : Prop :=
((p1 < p2) →
  Qr (some (.int 0)) V) ∧
((¬ p1 < p2) →
  ((p3 < p1) →
    Qr (some (.int 0)) V) ∧
  ((¬ p3 < p1) →
    Qr (some (.int 1)) V))
theorem v_X7_isWithin {J : Nat → Nat → Int64} (p1 : Int32) (p2 : Int32) (p3 : Int32) {V : Nat → Nat → Int32} {Qr : Option Value → (Nat → Nat → Int32) → Prop} {Qx : String → (Nat → Nat → Int32) → Prop} (H : F_X7_isWithin J p1 p2 p3 V Qr Qx) : CTc J mX7_isWithin [.int p1, .int p2, .int p3] V Qr Qx := by
  refine ctc_of (M := (T0 J, V)) pX7_isWithin (fun _ _ => rfl) (Nat.le_of_ble_eq_true rfl) ?_
  unfold F_X7_isWithin at H
  show WPc J mX7_isWithin Qr Qx 0 [(0, .int p1), (1, .int p2), (2, .int p3)] [] V 0 0
  refine s_iload_n dX7_isWithin_0 rfl ?_
  refine s_iload_n dX7_isWithin_1 rfl ?_
  refine s_icmp_lt (tgt := 14) dX7_isWithin_2 (by decide) (fun c => ?_) (fun c => ?_)
  · have H := H.1 c
    refine s_iconst (v := 0) dX7_isWithin_14 (by decide) ?_
    exact s_iret dX7_isWithin_15 (Or.inr ⟨rfl, (Or.inl rfl)⟩) ⟨rfl, H⟩
  · have H := H.2 c
    refine s_iload_n dX7_isWithin_5 rfl ?_
    refine s_iload_n dX7_isWithin_6 rfl ?_
    refine s_icmp_gt (tgt := 14) dX7_isWithin_7 (by decide) (fun c => ?_) (fun c => ?_)
    · have H := H.1 c
      refine s_iconst (v := 0) dX7_isWithin_14 (by decide) ?_
      exact s_iret dX7_isWithin_15 (Or.inr ⟨rfl, (Or.inl rfl)⟩) ⟨rfl, H⟩
    · have H := H.2 c
      refine s_iconst (v := 1) dX7_isWithin_10 (by decide) ?_
      refine s_goto (tgt := 15) dX7_isWithin_11 (by decide) ?_
      exact s_iret dX7_isWithin_15 (Or.inr ⟨rfl, (Or.inr rfl)⟩) ⟨rfl, H⟩

def F_X7_isPlayer (J : Nat → Nat → Int64) (p1 : Int32) (V : Nat → Nat → Int32) (Qr : Option Value → (Nat → Nat → Int32) → Prop) (Qx : String → (Nat → Nat → Int32) → Prop) : Prop :=
((p1 < 0) →
  Qr (some (.int 0)) V) ∧
((¬ p1 < 0) →
  ((10 ≤ p1) →
    Qr (some (.int 0)) V) ∧
  ((¬ 10 ≤ p1) →
    Qr (some (.int 1)) V))
theorem v_X7_isPlayer {J : Nat → Nat → Int64} (p1 : Int32) {V : Nat → Nat → Int32} {Qr : Option Value → (Nat → Nat → Int32) → Prop} {Qx : String → (Nat → Nat → Int32) → Prop} (H : F_X7_isPlayer J p1 V Qr Qx) : CTc J mX7_isPlayer [.int p1] V Qr Qx := by
  refine ctc_of (M := (T0 J, V)) pX7_isPlayer (fun _ _ => rfl) (Nat.le_of_ble_eq_true rfl) ?_
  unfold F_X7_isPlayer at H
  show WPc J mX7_isPlayer Qr Qx 0 [(0, .int p1)] [] V 0 0
  refine s_iload_n dX7_isPlayer_0 rfl ?_
  refine s_if_lt (tgt := 14) dX7_isPlayer_1 (by decide) (fun c => ?_) (fun c => ?_)
  · have H := H.1 c
    refine s_iconst (v := 0) dX7_isPlayer_14 (by decide) ?_
    exact s_iret dX7_isPlayer_15 (Or.inr ⟨rfl, (Or.inl rfl)⟩) ⟨rfl, H⟩
  · have H := H.2 c
    refine s_iload_n dX7_isPlayer_4 rfl ?_
    refine s_bipush (v := 10) dX7_isPlayer_5 (by decide) ?_
    refine s_icmp_ge (tgt := 14) dX7_isPlayer_7 (by decide) (fun c => ?_) (fun c => ?_)
    · have H := H.1 c
      refine s_iconst (v := 0) dX7_isPlayer_14 (by decide) ?_
      exact s_iret dX7_isPlayer_15 (Or.inr ⟨rfl, (Or.inl rfl)⟩) ⟨rfl, H⟩
    · have H := H.2 c
      refine s_iconst (v := 1) dX7_isPlayer_10 (by decide) ?_
      refine s_goto (tgt := 15) dX7_isPlayer_11 (by decide) ?_
      exact s_iret dX7_isPlayer_15 (Or.inr ⟨rfl, (Or.inr rfl)⟩) ⟨rfl, H⟩

def F_X7_isSide (J : Nat → Nat → Int64) (p1 : Int32) (V : Nat → Nat → Int32) (Qr : Option Value → (Nat → Nat → Int32) → Prop) (Qx : String → (Nat → Nat → Int32) → Prop) : Prop :=
((p1 = 0) →
  Qr (some (.int 1)) V) ∧
((¬ p1 = 0) →
  ((¬ p1 = 1) →
    Qr (some (.int 0)) V) ∧
  ((p1 = 1) →
    Qr (some (.int 1)) V))
theorem v_X7_isSide {J : Nat → Nat → Int64} (p1 : Int32) {V : Nat → Nat → Int32} {Qr : Option Value → (Nat → Nat → Int32) → Prop} {Qx : String → (Nat → Nat → Int32) → Prop} (H : F_X7_isSide J p1 V Qr Qx) : CTc J mX7_isSide [.int p1] V Qr Qx := by
  refine ctc_of (M := (T0 J, V)) pX7_isSide (fun _ _ => rfl) (Nat.le_of_ble_eq_true rfl) ?_
  unfold F_X7_isSide at H
  show WPc J mX7_isSide Qr Qx 0 [(0, .int p1)] [] V 0 0
  refine s_iload_n dX7_isSide_0 rfl ?_
  refine s_if_eq (tgt := 9) dX7_isSide_1 (by decide) (fun c => ?_) (fun c => ?_)
  · have H := H.1 c
    refine s_iconst (v := 1) dX7_isSide_9 (by decide) ?_
    refine s_goto (tgt := 14) dX7_isSide_10 (by decide) ?_
    exact s_iret dX7_isSide_14 (Or.inr ⟨rfl, (Or.inr rfl)⟩) ⟨rfl, H⟩
  · have H := H.2 c
    refine s_iload_n dX7_isSide_4 rfl ?_
    refine s_iconst (v := 1) dX7_isSide_5 (by decide) ?_
    refine s_icmp_ne (tgt := 13) dX7_isSide_6 (by decide) (fun c => ?_) (fun c => ?_)
    · have H := H.1 c
      refine s_iconst (v := 0) dX7_isSide_13 (by decide) ?_
      exact s_iret dX7_isSide_14 (Or.inr ⟨rfl, (Or.inl rfl)⟩) ⟨rfl, H⟩
    · have H := H.2 c
      refine s_iconst (v := 1) dX7_isSide_9 (by decide) ?_
      refine s_goto (tgt := 14) dX7_isSide_10 (by decide) ?_
      exact s_iret dX7_isSide_14 (Or.inr ⟨rfl, (Or.inr rfl)⟩) ⟨rfl, H⟩

def F_X7_isClub (J : Nat → Nat → Int64) (p1 : Int32) (V : Nat → Nat → Int32) (Qr : Option Value → (Nat → Nat → Int32) → Prop) (Qx : String → (Nat → Nat → Int32) → Prop) : Prop :=
CTc J mX7_isWithin [.int p1, .int 0, .int 7] V (fun r V1 =>
  ∃ b1 : Bool, r = some (.int (bI b1)) ∧
  Qr (some (.int (bI b1))) V1) Qx
theorem v_X7_isClub {J : Nat → Nat → Int64} (p1 : Int32) {V : Nat → Nat → Int32} {Qr : Option Value → (Nat → Nat → Int32) → Prop} {Qx : String → (Nat → Nat → Int32) → Prop} (H : F_X7_isClub J p1 V Qr Qx) : CTc J mX7_isClub [.int p1] V Qr Qx := by
  refine ctc_of (M := (T0 J, V)) pX7_isClub (fun _ _ => rfl) (Nat.le_of_ble_eq_true rfl) ?_
  unfold F_X7_isClub at H
  show WPc J mX7_isClub Qr Qx 0 [(0, .int p1)] [] V 0 0
  refine s_iload_n dX7_isClub_0 rfl ?_
  refine s_iconst (v := 0) dX7_isClub_1 (by decide) ?_
  refine s_bipush (v := 7) dX7_isClub_2 (by decide) ?_
  refine t_cS (As := [.int p1, .int 0, .int 7]) (st := []) iv_7_41 dX7_isClub_4 ⟨by decide, by decide⟩ rfl (Nat.le_of_ble_eq_true rfl) (by decide) (by decide) rfl H (fun r V1 H => ?_)
  obtain ⟨b1, rfl, H⟩ := H
  exact s_iret dX7_isClub_7 (Or.inr ⟨rfl, (bI_01 b1)⟩) ⟨rfl, H⟩

def F_X7_isLot (J : Nat → Nat → Int64) (p1 : Int32) (V : Nat → Nat → Int32) (Qr : Option Value → (Nat → Nat → Int32) → Prop) (Qx : String → (Nat → Nat → Int32) → Prop) : Prop :=
CTc J mX7_isWithin [.int p1, .int 0, .int 23] V (fun r V1 =>
  ∃ b1 : Bool, r = some (.int (bI b1)) ∧
  Qr (some (.int (bI b1))) V1) Qx
theorem v_X7_isLot {J : Nat → Nat → Int64} (p1 : Int32) {V : Nat → Nat → Int32} {Qr : Option Value → (Nat → Nat → Int32) → Prop} {Qx : String → (Nat → Nat → Int32) → Prop} (H : F_X7_isLot J p1 V Qr Qx) : CTc J mX7_isLot [.int p1] V Qr Qx := by
  refine ctc_of (M := (T0 J, V)) pX7_isLot (fun _ _ => rfl) (Nat.le_of_ble_eq_true rfl) ?_
  unfold F_X7_isLot at H
  show WPc J mX7_isLot Qr Qx 0 [(0, .int p1)] [] V 0 0
  refine s_iload_n dX7_isLot_0 rfl ?_
  refine s_iconst (v := 0) dX7_isLot_1 (by decide) ?_
  refine s_bipush (v := 23) dX7_isLot_2 (by decide) ?_
  refine t_cS (As := [.int p1, .int 0, .int 23]) (st := []) iv_7_41 dX7_isLot_4 ⟨by decide, by decide⟩ rfl (Nat.le_of_ble_eq_true rfl) (by decide) (by decide) rfl H (fun r V1 H => ?_)
  obtain ⟨b1, rfl, H⟩ := H
  exact s_iret dX7_isLot_7 (Or.inr ⟨rfl, (bI_01 b1)⟩) ⟨rfl, H⟩

def F_X7_isStep (J : Nat → Nat → Int64) (p1 : Int32) (p2 : Int32) (p3 : Int32) (V : Nat → Nat → Int32) (Qr : Option Value → (Nat → Nat → Int32) → Prop) (Qx : String → (Nat → Nat → Int32) → Prop) : Prop :=
CTc J mX7_isWithin [.int p1, .int 0, .int p3] V (fun r V1 =>
  ∃ b1 : Bool, r = some (.int (bI b1)) ∧
  ((b1 = false) →
    Qr (some (.int 0)) V1) ∧
  ((b1 = true) →
    ((¬ p1 = 0) →
      ((¬ p2 = (-1)) →
        Qr (some (.int 0)) V1) ∧
      ((p2 = (-1)) →
        Qr (some (.int 1)) V1)) ∧
    ((p1 = 0) →
      CTc J mX7_isPlayer [.int p2] V1 (fun r V2 =>
        ∃ b2 : Bool, r = some (.int (bI b2)) ∧
        ((b2 = false) →
          Qr (some (.int 0)) V2) ∧
        ((b2 = true) →
          Qr (some (.int 1)) V2)) Qx))) Qx
theorem v_X7_isStep {J : Nat → Nat → Int64} (p1 : Int32) (p2 : Int32) (p3 : Int32) {V : Nat → Nat → Int32} {Qr : Option Value → (Nat → Nat → Int32) → Prop} {Qx : String → (Nat → Nat → Int32) → Prop} (H : F_X7_isStep J p1 p2 p3 V Qr Qx) : CTc J mX7_isStep [.int p1, .int p2, .int p3] V Qr Qx := by
  refine ctc_of (M := (T0 J, V)) pX7_isStep (fun _ _ => rfl) (Nat.le_of_ble_eq_true rfl) ?_
  unfold F_X7_isStep at H
  show WPc J mX7_isStep Qr Qx 0 [(0, .int p1), (1, .int p2), (2, .int p3)] [] V 0 0
  refine s_iload_n dX7_isStep_0 rfl ?_
  refine s_iconst (v := 0) dX7_isStep_1 (by decide) ?_
  refine s_iload_n dX7_isStep_2 rfl ?_
  refine t_cS (As := [.int p1, .int 0, .int p3]) (st := []) iv_7_41 dX7_isStep_3 ⟨by decide, by decide⟩ rfl (Nat.le_of_ble_eq_true rfl) (by decide) (by decide) rfl H (fun r V1 H => ?_)
  obtain ⟨b1, rfl, H⟩ := H
  refine s_if_eq (tgt := 32) dX7_isStep_6 (by decide) (fun c => ?_) (fun c => ?_)
  · have H := H.1 (bI_f c)
    refine s_iconst (v := 0) dX7_isStep_32 (by decide) ?_
    exact s_iret dX7_isStep_33 (Or.inr ⟨rfl, (Or.inl rfl)⟩) ⟨rfl, H⟩
  · have H := H.2 (bI_t c)
    refine s_iload_n dX7_isStep_9 rfl ?_
    refine s_if_ne (tgt := 23) dX7_isStep_10 (by decide) (fun c => ?_) (fun c => ?_)
    · have H := H.1 c
      refine s_iload_n dX7_isStep_23 rfl ?_
      refine s_iconst (v := (-1)) dX7_isStep_24 (by decide) ?_
      refine s_icmp_ne (tgt := 32) dX7_isStep_25 (by decide) (fun c => ?_) (fun c => ?_)
      · have H := H.1 c
        refine s_iconst (v := 0) dX7_isStep_32 (by decide) ?_
        exact s_iret dX7_isStep_33 (Or.inr ⟨rfl, (Or.inl rfl)⟩) ⟨rfl, H⟩
      · have H := H.2 c
        refine s_iconst (v := 1) dX7_isStep_28 (by decide) ?_
        refine s_goto (tgt := 33) dX7_isStep_29 (by decide) ?_
        exact s_iret dX7_isStep_33 (Or.inr ⟨rfl, (Or.inr rfl)⟩) ⟨rfl, H⟩
    · have H := H.2 c
      refine s_iload_n dX7_isStep_13 rfl ?_
      refine t_cS (As := [.int p2]) (st := []) iv_7_248 dX7_isStep_14 ⟨by decide, by decide⟩ rfl (Nat.le_of_ble_eq_true rfl) (by decide) (by decide) rfl H (fun r V2 H => ?_)
      obtain ⟨b2, rfl, H⟩ := H
      refine s_if_eq (tgt := 32) dX7_isStep_17 (by decide) (fun c => ?_) (fun c => ?_)
      · have H := H.1 (bI_f c)
        refine s_iconst (v := 0) dX7_isStep_32 (by decide) ?_
        exact s_iret dX7_isStep_33 (Or.inr ⟨rfl, (Or.inl rfl)⟩) ⟨rfl, H⟩
      · have H := H.2 (bI_t c)
        refine s_goto (tgt := 28) dX7_isStep_20 (by decide) ?_
        refine s_iconst (v := 1) dX7_isStep_28 (by decide) ?_
        refine s_goto (tgt := 33) dX7_isStep_29 (by decide) ?_
        exact s_iret dX7_isStep_33 (Or.inr ⟨rfl, (Or.inr rfl)⟩) ⟨rfl, H⟩

def F_X7_isEnd (J : Nat → Nat → Int64) (p1 : Int32) (V : Nat → Nat → Int32) (Qr : Option Value → (Nat → Nat → Int32) → Prop) (Qx : String → (Nat → Nat → Int32) → Prop) : Prop :=
((p1 < 3) →
  Qr (some (.int 0)) V) ∧
((¬ p1 < 3) →
  Qr (some (.int 1)) V)
theorem v_X7_isEnd {J : Nat → Nat → Int64} (p1 : Int32) {V : Nat → Nat → Int32} {Qr : Option Value → (Nat → Nat → Int32) → Prop} {Qx : String → (Nat → Nat → Int32) → Prop} (H : F_X7_isEnd J p1 V Qr Qx) : CTc J mX7_isEnd [.int p1] V Qr Qx := by
  refine ctc_of (M := (T0 J, V)) pX7_isEnd (fun _ _ => rfl) (Nat.le_of_ble_eq_true rfl) ?_
  unfold F_X7_isEnd at H
  show WPc J mX7_isEnd Qr Qx 0 [(0, .int p1)] [] V 0 0
  refine s_iload_n dX7_isEnd_0 rfl ?_
  refine s_iconst (v := 3) dX7_isEnd_1 (by decide) ?_
  refine s_icmp_lt (tgt := 9) dX7_isEnd_2 (by decide) (fun c => ?_) (fun c => ?_)
  · have H := H.1 c
    refine s_iconst (v := 0) dX7_isEnd_9 (by decide) ?_
    exact s_iret dX7_isEnd_10 (Or.inr ⟨rfl, (Or.inl rfl)⟩) ⟨rfl, H⟩
  · have H := H.2 c
    refine s_iconst (v := 1) dX7_isEnd_5 (by decide) ?_
    refine s_goto (tgt := 10) dX7_isEnd_6 (by decide) ?_
    exact s_iret dX7_isEnd_10 (Or.inr ⟨rfl, (Or.inr rfl)⟩) ⟨rfl, H⟩

def F_X7_isDone (J : Nat → Nat → Int64)  (V : Nat → Nat → Int32) (Qr : Option Value → (Nat → Nat → Int32) → Prop) (Qx : String → (Nat → Nat → Int32) → Prop) : Prop :=
((¬ (V 389 3) = 7) →
  CTc J mX7_isWithin [.int (V 389 5), .int 1, .int 300] V (fun r V1 =>
    ∃ b1 : Bool, r = some (.int (bI b1)) ∧
    ((b1 = false) →
      Qr (some (.int 0)) V1) ∧
    ((b1 = true) →
      CTc J mX1_mayTell [.ref 1, .int (V1 389 3), .int (V1 389 4), .int (V1 389 5)] V1 (fun r V2 =>
        ∃ b2 : Bool, r = some (.int (bI b2)) ∧
        ((b2 = true) →
          CTc J mX1_tell [.ref 1, .int (V2 389 3), .int (V2 389 4), .int (V2 389 5)] V2 (fun r V3 =>
            ∃ r3 : Int32, r = some (.int r3) ∧
            Qr (some (.int 1)) V3) Qx) ∧
        ((b2 = false) →
          Qr (some (.int 0)) V2)) Qx)) Qx) ∧
(((V 389 3) = 7) →
  CTc J mX1_mayStartRaid [.ref 1, .int (V 389 4)] V (fun r V1 =>
    ∃ b1 : Bool, r = some (.int (bI b1)) ∧
    ((b1 = true) →
      CTc J mX1_startRaid [.ref 1, .int (V1 389 4)] V1 (fun r V2 =>
        ∃ r2 : Int32, r = some (.int r2) ∧
        Qr (some (.int 1)) V2) Qx) ∧
    ((b1 = false) →
      Qr (some (.int 0)) V1)) Qx)
theorem v_X7_isDone {J : Nat → Nat → Int64}  {V : Nat → Nat → Int32} {Qr : Option Value → (Nat → Nat → Int32) → Prop} {Qx : String → (Nat → Nat → Int32) → Prop} (H : F_X7_isDone J  V Qr Qx) : CTc J mX7_isDone [.ref 0] V Qr Qx := by
  refine ctc_of (M := (T0 J, V)) pX7_isDone (fun _ _ => rfl) (Nat.le_of_ble_eq_true rfl) ?_
  unfold F_X7_isDone at H
  show WPc J mX7_isDone Qr Qx 0 [(0, .ref 0)] [] V 0 0
  refine s_aload_n dX7_isDone_0 rfl ?_
  refine t_getR (r := 389) fl_7_19 dX7_isDone_1 ob_0 rfl rfl ?_
  refine t_getI fl_7_251 dX7_isDone_4 ob_389 rfl ?_
  refine s_bipush (v := 7) dX7_isDone_7 (by decide) ?_
  refine s_icmp_ne (tgt := 48) dX7_isDone_9 (by decide) (fun c => ?_) (fun c => ?_)
  · have H := H.1 c
    refine s_aload_n dX7_isDone_48 rfl ?_
    refine t_getR (r := 389) fl_7_19 dX7_isDone_49 ob_0 rfl rfl ?_
    refine t_getI fl_7_258 dX7_isDone_52 ob_389 rfl ?_
    refine s_iconst (v := 1) dX7_isDone_55 (by decide) ?_
    refine s_sipush (v := 300) dX7_isDone_56 (by decide) ?_
    refine t_cS (As := [.int (V 389 5), .int 1, .int 300]) (st := []) iv_7_41 dX7_isDone_59 ⟨by decide, by decide⟩ rfl (Nat.le_of_ble_eq_true rfl) (by decide) (by decide) rfl H (fun r V1 H => ?_)
    obtain ⟨b1, rfl, H⟩ := H
    refine s_if_eq (tgt := 96) dX7_isDone_62 (by decide) (fun c => ?_) (fun c => ?_)
    · have H := H.1 (bI_f c)
      refine s_iconst (v := 0) dX7_isDone_96 (by decide) ?_
      exact s_iret dX7_isDone_97 (Or.inr ⟨rfl, (Or.inl rfl)⟩) ⟨rfl, H⟩
    · have H := H.2 (bI_t c)
      refine s_aload_n dX7_isDone_65 rfl ?_
      refine t_getR (r := 1) fl_7_12 dX7_isDone_66 ob_0 rfl rfl ?_
      refine s_aload_n dX7_isDone_69 rfl ?_
      refine t_getR (r := 389) fl_7_19 dX7_isDone_70 ob_0 rfl rfl ?_
      refine t_getI fl_7_251 dX7_isDone_73 ob_389 rfl ?_
      refine s_aload_n dX7_isDone_76 rfl ?_
      refine t_getR (r := 389) fl_7_19 dX7_isDone_77 ob_0 rfl rfl ?_
      refine t_getI fl_7_255 dX7_isDone_80 ob_389 rfl ?_
      refine s_aload_n dX7_isDone_83 rfl ?_
      refine t_getR (r := 389) fl_7_19 dX7_isDone_84 ob_0 rfl rfl ?_
      refine t_getI fl_7_258 dX7_isDone_87 ob_389 rfl ?_
      refine t_cV (h := 1) (As := [.int (V1 389 3), .int (V1 389 4), .int (V1 389 5)]) (st := []) iv_7_71 dX7_isDone_90 ⟨by decide, by decide⟩ rfl (Nat.le_of_ble_eq_true rfl) (by decide) (by decide) rfl ob_1 H (fun r V2 H => ?_)
      obtain ⟨b2, rfl, H⟩ := H
      refine s_if_ne (tgt := 98) dX7_isDone_93 (by decide) (fun c => ?_) (fun c => ?_)
      · have H := H.1 (bI_t c)
        refine s_aload_n dX7_isDone_98 rfl ?_
        refine t_getR (r := 1) fl_7_12 dX7_isDone_99 ob_0 rfl rfl ?_
        refine s_aload_n dX7_isDone_102 rfl ?_
        refine t_getR (r := 389) fl_7_19 dX7_isDone_103 ob_0 rfl rfl ?_
        refine t_getI fl_7_251 dX7_isDone_106 ob_389 rfl ?_
        refine s_aload_n dX7_isDone_109 rfl ?_
        refine t_getR (r := 389) fl_7_19 dX7_isDone_110 ob_0 rfl rfl ?_
        refine t_getI fl_7_255 dX7_isDone_113 ob_389 rfl ?_
        refine s_aload_n dX7_isDone_116 rfl ?_
        refine t_getR (r := 389) fl_7_19 dX7_isDone_117 ob_0 rfl rfl ?_
        refine t_getI fl_7_258 dX7_isDone_120 ob_389 rfl ?_
        refine t_cV (h := 1) (As := [.int (V2 389 3), .int (V2 389 4), .int (V2 389 5)]) (st := []) iv_7_74 dX7_isDone_123 ⟨by decide, by decide⟩ rfl (Nat.le_of_ble_eq_true rfl) (by decide) (by decide) rfl ob_1 H (fun r V3 H => ?_)
        obtain ⟨r3, rfl, H⟩ := H
        refine s_pop dX7_isDone_126 rfl ?_
        refine s_iconst (v := 1) dX7_isDone_127 (by decide) ?_
        exact s_iret dX7_isDone_128 (Or.inr ⟨rfl, (Or.inr rfl)⟩) ⟨rfl, H⟩
      · have H := H.2 (bI_f c)
        refine s_iconst (v := 0) dX7_isDone_96 (by decide) ?_
        exact s_iret dX7_isDone_97 (Or.inr ⟨rfl, (Or.inl rfl)⟩) ⟨rfl, H⟩
  · have H := H.2 c
    refine s_aload_n dX7_isDone_12 rfl ?_
    refine t_getR (r := 1) fl_7_12 dX7_isDone_13 ob_0 rfl rfl ?_
    refine s_aload_n dX7_isDone_16 rfl ?_
    refine t_getR (r := 389) fl_7_19 dX7_isDone_17 ob_0 rfl rfl ?_
    refine t_getI fl_7_255 dX7_isDone_20 ob_389 rfl ?_
    refine t_cV (h := 1) (As := [.int (V 389 4)]) (st := []) iv_7_60 dX7_isDone_23 ⟨by decide, by decide⟩ rfl (Nat.le_of_ble_eq_true rfl) (by decide) (by decide) rfl ob_1 H (fun r V1 H => ?_)
    obtain ⟨b1, rfl, H⟩ := H
    refine s_if_ne (tgt := 31) dX7_isDone_26 (by decide) (fun c => ?_) (fun c => ?_)
    · have H := H.1 (bI_t c)
      refine s_aload_n dX7_isDone_31 rfl ?_
      refine t_getR (r := 1) fl_7_12 dX7_isDone_32 ob_0 rfl rfl ?_
      refine s_aload_n dX7_isDone_35 rfl ?_
      refine t_getR (r := 389) fl_7_19 dX7_isDone_36 ob_0 rfl rfl ?_
      refine t_getI fl_7_255 dX7_isDone_39 ob_389 rfl ?_
      refine t_cV (h := 1) (As := [.int (V1 389 4)]) (st := []) iv_7_64 dX7_isDone_42 ⟨by decide, by decide⟩ rfl (Nat.le_of_ble_eq_true rfl) (by decide) (by decide) rfl ob_1 H (fun r V2 H => ?_)
      obtain ⟨r2, rfl, H⟩ := H
      refine s_pop dX7_isDone_45 rfl ?_
      refine s_iconst (v := 1) dX7_isDone_46 (by decide) ?_
      exact s_iret dX7_isDone_47 (Or.inr ⟨rfl, (Or.inr rfl)⟩) ⟨rfl, H⟩
    · have H := H.2 (bI_f c)
      refine s_iconst (v := 0) dX7_isDone_29 (by decide) ?_
      exact s_iret dX7_isDone_30 (Or.inr ⟨rfl, (Or.inl rfl)⟩) ⟨rfl, H⟩
