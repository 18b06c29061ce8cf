def F_X4_reset (J : Nat → Nat → Int64) (h : Nat) (V : Nat → Nat → Int32) (Qr : Option Value → (Nat → Nat → Int32) → Prop) (Qx : String → (Nat → Nat → Int32) → Prop) : Prop :=
CTc J mX6_reset [.ref (h + 1)] V (fun r V1 =>
  r = none ∧
  CTc J mX6_reset [.ref (h + 7)] V1 (fun r V2 =>
    r = none ∧
    Qr none (up2 (up2 V2 h 2 0) h 3 0)) Qx) Qx
theorem v_X4_reset {J : Nat → Nat → Int64} (h : Nat) (hh : isMats h) {V : Nat → Nat → Int32} {Qr : Option Value → (Nat → Nat → Int32) → Prop} {Qx : String → (Nat → Nat → Int32) → Prop} (H : F_X4_reset J h V Qr Qx) : CTc J mX4_reset [.ref h] V Qr Qx := by
  refine ctc_of (M := (T0 J, V)) pX4_reset (fun _ _ => rfl) (Nat.le_of_ble_eq_true rfl) ?_
  unfold F_X4_reset at H
  show WPc J mX4_reset Qr Qx 0 [(0, .ref h)] [] V 0 0
  refine s_aload_n dX4_reset_0 rfl ?_
  refine t_getR (r := (h + 1)) fl_4_12 dX4_reset_1 (mt_o hh) rfl (mt_r0 hh) ?_
  refine t_cV (h := (h + 1)) (As := []) (st := []) iv_4_21 dX4_reset_4 ⟨by decide, by decide⟩ rfl (Nat.le_of_ble_eq_true rfl) (by decide) (by decide) rfl (sd_o (mt_s0 hh)) H (fun r V1 H => ?_)
  obtain ⟨rfl, H⟩ := H
  refine s_aload_n dX4_reset_7 rfl ?_
  refine t_getR (r := (h + 7)) fl_4_18 dX4_reset_8 (mt_o hh) rfl (mt_r1 hh) ?_
  refine t_cV (h := (h + 7)) (As := []) (st := []) iv_4_21 dX4_reset_11 ⟨by decide, by decide⟩ rfl (Nat.le_of_ble_eq_true rfl) (by decide) (by decide) rfl (sd_o (mt_s1 hh)) H (fun r V2 H => ?_)
  obtain ⟨rfl, H⟩ := H
  refine s_aload_n dX4_reset_14 rfl ?_
  refine s_iconst (v := 0) dX4_reset_15 (by decide) ?_
  refine t_putI fl_4_24 dX4_reset_16 (mt_o hh) (Or.inl rfl) ?_
  refine s_aload_n dX4_reset_19 rfl ?_
  refine s_iconst (v := 0) dX4_reset_20 (by decide) ?_
  refine t_putI fl_4_28 dX4_reset_21 (mt_o hh) (Or.inl rfl) ?_
  exact s_vret dX4_reset_24 rfl ⟨rfl, H⟩

def F_X4_sideAt (J : Nat → Nat → Int64) (h : Nat) (p1 : Int32) (V : Nat → Nat → Int32) (Qr : Option Value → (Nat → Nat → Int32) → Prop) (Qx : String → (Nat → Nat → Int32) → Prop) : Prop :=
((¬ p1 = 0) →
  Qr (some (.ref (h + 7))) V) ∧
((p1 = 0) →
  Qr (some (.ref (h + 1))) V)
theorem v_X4_sideAt {J : Nat → Nat → Int64} (h : Nat) (p1 : Int32) (hh : isMats h) {V : Nat → Nat → Int32} {Qr : Option Value → (Nat → Nat → Int32) → Prop} {Qx : String → (Nat → Nat → Int32) → Prop} (H : F_X4_sideAt J h p1 V Qr Qx) : CTc J mX4_sideAt [.ref h, .int p1] V Qr Qx := by
  refine ctc_of (M := (T0 J, V)) pX4_sideAt (fun _ _ => rfl) (Nat.le_of_ble_eq_true rfl) ?_
  unfold F_X4_sideAt at H
  show WPc J mX4_sideAt Qr Qx 0 [(0, .ref h), (1, .int p1)] [] V 0 0
  refine s_iload_n dX4_sideAt_0 rfl ?_
  refine s_if_ne (tgt := 11) dX4_sideAt_1 (by decide) (fun c => ?_) (fun c => ?_)
  · have H := H.1 c
    refine s_aload_n dX4_sideAt_11 rfl ?_
    refine t_getR (r := (h + 7)) fl_4_18 dX4_sideAt_12 (mt_o hh) rfl (mt_r1 hh) ?_
    exact s_aret dX4_sideAt_15 rfl ⟨rfl, H⟩
  · have H := H.2 c
    refine s_aload_n dX4_sideAt_4 rfl ?_
    refine t_getR (r := (h + 1)) fl_4_12 dX4_sideAt_5 (mt_o hh) rfl (mt_r0 hh) ?_
    refine s_goto (tgt := 15) dX4_sideAt_8 (by decide) ?_
    exact s_aret dX4_sideAt_15 rfl ⟨rfl, H⟩

def F_X4_turn (J : Nat → Nat → Int64) (h : Nat) (V : Nat → Nat → Int32) (Qr : Option Value → (Nat → Nat → Int32) → Prop) (Qx : String → (Nat → Nat → Int32) → Prop) : Prop :=
Qr (some (.int ((V h 3) &&& 1))) V
theorem v_X4_turn {J : Nat → Nat → Int64} (h : Nat) (hh : isMats h) {V : Nat → Nat → Int32} {Qr : Option Value → (Nat → Nat → Int32) → Prop} {Qx : String → (Nat → Nat → Int32) → Prop} (H : F_X4_turn J h V Qr Qx) : CTc J mX4_turn [.ref h] V Qr Qx := by
  refine ctc_of (M := (T0 J, V)) pX4_turn (fun _ _ => rfl) (Nat.le_of_ble_eq_true rfl) ?_
  unfold F_X4_turn at H
  show WPc J mX4_turn Qr Qx 0 [(0, .ref h)] [] V 0 0
  refine s_aload_n dX4_turn_0 rfl ?_
  refine t_getI fl_4_28 dX4_turn_1 (mt_o hh) rfl ?_
  refine s_iconst (v := 1) dX4_turn_4 (by decide) ?_
  refine s_iand dX4_turn_5 ?_
  exact s_iret dX4_turn_6 (Or.inl rfl) ⟨rfl, H⟩

def F_X4_isDoOrDie (J : Nat → Nat → Int64) (h : Nat) (V : Nat → Nat → Int32) (Qr : Option Value → (Nat → Nat → Int32) → Prop) (Qx : String → (Nat → Nat → Int32) → Prop) : Prop :=
CTc J mX4_turn [.ref h] V (fun r V1 =>
  ∃ r1 : Int32, r = some (.int r1) ∧
  CTc J mX4_sideAt [.ref h, .int r1] V1 (fun r V2 =>
    ∃ c2 : Nat, r = some (.ref c2) ∧ isSide c2 ∧
    (((V2 c2 8) < 2) →
      Qr (some (.int 0)) V2) ∧
    ((¬ (V2 c2 8) < 2) →
      Qr (some (.int 1)) V2)) Qx) Qx
theorem v_X4_isDoOrDie {J : Nat → Nat → Int64} (h : Nat) (hh : isMats h) {V : Nat → Nat → Int32} {Qr : Option Value → (Nat → Nat → Int32) → Prop} {Qx : String → (Nat → Nat → Int32) → Prop} (H : F_X4_isDoOrDie J h V Qr Qx) : CTc J mX4_isDoOrDie [.ref h] V Qr Qx := by
  refine ctc_of (M := (T0 J, V)) pX4_isDoOrDie (fun _ _ => rfl) (Nat.le_of_ble_eq_true rfl) ?_
  unfold F_X4_isDoOrDie at H
  show WPc J mX4_isDoOrDie Qr Qx 0 [(0, .ref h)] [] V 0 0
  refine s_aload_n dX4_isDoOrDie_0 rfl ?_
  refine s_aload_n dX4_isDoOrDie_1 rfl ?_
  refine t_cV (h := h) (As := []) (st := [.ref h]) iv_4_31 dX4_isDoOrDie_2 ⟨by decide, by decide⟩ rfl (Nat.le_of_ble_eq_true rfl) (by decide) (by decide) rfl (mt_o hh) H (fun r V1 H => ?_)
  obtain ⟨r1, rfl, H⟩ := H
  refine t_cV (h := h) (As := [.int r1]) (st := []) iv_4_35 dX4_isDoOrDie_5 ⟨by decide, by decide⟩ rfl (Nat.le_of_ble_eq_true rfl) (by decide) (by decide) rfl (mt_o hh) H (fun r V2 H => ?_)
  obtain ⟨c2, rfl, hc2, H⟩ := H
  refine t_getI fl_4_39 dX4_isDoOrDie_8 (sd_o hc2) rfl ?_
  refine s_iconst (v := 2) dX4_isDoOrDie_11 (by decide) ?_
  refine s_icmp_lt (tgt := 19) dX4_isDoOrDie_12 (by decide) (fun c => ?_) (fun c => ?_)
  · have H := H.1 c
    refine s_iconst (v := 0) dX4_isDoOrDie_19 (by decide) ?_
    exact s_iret dX4_isDoOrDie_20 (Or.inr ⟨rfl, (Or.inl rfl)⟩) ⟨rfl, H⟩
  · have H := H.2 c
    refine s_iconst (v := 1) dX4_isDoOrDie_15 (by decide) ?_
    refine s_goto (tgt := 20) dX4_isDoOrDie_16 (by decide) ?_
    exact s_iret dX4_isDoOrDie_20 (Or.inr ⟨rfl, (Or.inr rfl)⟩) ⟨rfl, H⟩

def F_X4_mayStep_53 (J : Nat → Nat → Int64) (h : Nat) (q1 : Nat) (p2 : Int32) (p3 : Int32) (p4 : Int32) (p5 : Int32)  (V : Nat → Nat → Int32) (Qr : Option Value → (Nat → Nat → Int32) → Prop) (Qx : String → (Nat → Nat → Int32) → Prop) : Prop :=
CTc J mX2_hasAmongFirst [.ref q1, .int p2, .int p3, .int p4] V (fun r V1 =>
  ∃ b1 : Bool, r = some (.int (bI b1)) ∧
  ((b1 = true) →
    Qr (some (.int 0)) V1) ∧
  ((b1 = false) →
    Qr (some (.int 1)) V1)) Qx
theorem v_X4_mayStep_53 {J : Nat → Nat → Int64} (h : Nat) (q1 : Nat) (p2 : Int32) (p3 : Int32) (p4 : Int32) (p5 : Int32) (hh : isMats h) (hq1 : isEv q1) {Qr : Option Value → (Nat → Nat → Int32) → Prop} {Qx : String → (Nat → Nat → Int32) → Prop}   {V : Nat → Nat → Int32} (H : F_X4_mayStep_53 J h q1 p2 p3 p4 p5   V Qr Qx) : WPc J mX4_mayStep Qr Qx 53 [(1, .ref q1), (2, .int p2), (3, .int p3), (4, .int p4)] [] V 0 0 := by
  unfold F_X4_mayStep_53 at H
  refine s_aload_n dX4_mayStep_53 rfl ?_
  refine s_iload_n dX4_mayStep_54 rfl ?_
  refine s_iload_n dX4_mayStep_55 rfl ?_
  refine s_iload dX4_mayStep_56 rfl ?_
  refine t_cV (h := q1) (As := [.int p2, .int p3, .int p4]) (st := []) iv_4_49 dX4_mayStep_58 ⟨by decide, by decide⟩ rfl (Nat.le_of_ble_eq_true rfl) (by decide) (by decide) rfl (ev_o hq1) H (fun r V1 H => ?_)
  obtain ⟨b1, rfl, H⟩ := H
  refine s_if_ne (tgt := 68) dX4_mayStep_61 (by decide) (fun c => ?_) (fun c => ?_)
  · have H := H.1 (bI_t c)
    refine s_iconst (v := 0) dX4_mayStep_68 (by decide) ?_
    exact s_iret dX4_mayStep_69 (Or.inr ⟨rfl, (Or.inl rfl)⟩) ⟨rfl, H⟩
  · have H := H.2 (bI_f c)
    refine s_iconst (v := 1) dX4_mayStep_64 (by decide) ?_
    refine s_goto (tgt := 69) dX4_mayStep_65 (by decide) ?_
    exact s_iret dX4_mayStep_69 (Or.inr ⟨rfl, (Or.inr rfl)⟩) ⟨rfl, H⟩
def F_X4_mayStep (J : Nat → Nat → Int64) (h : Nat) (q1 : Nat) (p2 : Int32) (p3 : Int32) (p4 : Int32) (p5 : Int32) (V : Nat → Nat → Int32) (Qr : Option Value → (Nat → Nat → Int32) → Prop) (Qx : String → (Nat → Nat → Int32) → Prop) : Prop :=
((¬ p3 = 6) →
  CTc J mX7_isEnd [.int p3] V (fun r V1 =>
    ∃ b1 : Bool, r = some (.int (bI b1)) ∧
    ((b1 = false) →
      ((¬ p3 = 0) →
        F_X4_mayStep_53 J h q1 p2 p3 p4 p5   V1 Qr Qx) ∧
      ((p3 = 0) →
        CTc J mX4_turn [.ref h] V1 (fun r V2 =>
          ∃ r2 : Int32, r = some (.int r2) ∧
          CTc J mX4_sideAt [.ref h, .int (1 - r2)] V2 (fun r V3 =>
            ∃ c3 : Nat, r = some (.ref c3) ∧ isSide c3 ∧
            CTc J mX6_isOn [.ref c3, .int p4] V3 (fun r V4 =>
              ∃ b4 : Bool, r = some (.int (bI b4)) ∧
              ((b4 = true) →
                F_X4_mayStep_53 J h q1 p2 p3 p4 p5   V4 Qr Qx) ∧
              ((b4 = false) →
                Qr (some (.int 0)) V4)) Qx) Qx) Qx)) ∧
    ((b1 = true) →
      Qr (some (.int 1)) V1)) Qx) ∧
((p3 = 6) →
  ((¬ p5 = 300) →
    Qr (some (.int 0)) V) ∧
  ((p5 = 300) →
    Qr (some (.int 1)) V))
theorem v_X4_mayStep {J : Nat → Nat → Int64} (h : Nat) (q1 : Nat) (p2 : Int32) (p3 : Int32) (p4 : Int32) (p5 : Int32) (hh : isMats h) (hq1 : isEv q1) {V : Nat → Nat → Int32} {Qr : Option Value → (Nat → Nat → Int32) → Prop} {Qx : String → (Nat → Nat → Int32) → Prop} (H : F_X4_mayStep J h q1 p2 p3 p4 p5 V Qr Qx) : CTc J mX4_mayStep [.ref h, .ref q1, .int p2, .int p3, .int p4, .int p5] V Qr Qx := by
  refine ctc_of (M := (T0 J, V)) pX4_mayStep (fun _ _ => rfl) (Nat.le_of_ble_eq_true rfl) ?_
  unfold F_X4_mayStep at H
  show WPc J mX4_mayStep Qr Qx 0 [(0, .ref h), (1, .ref q1), (2, .int p2), (3, .int p3), (4, .int p4), (5, .int p5)] [] V 0 0
  refine s_iload_n dX4_mayStep_0 rfl ?_
  refine s_bipush (v := 6) dX4_mayStep_1 (by decide) ?_
  refine s_icmp_ne (tgt := 20) dX4_mayStep_3 (by decide) (fun c => ?_) (fun c => ?_)
  · have H := H.1 c
    refine s_iload_n dX4_mayStep_20 rfl ?_
    refine t_cN (As := [.int p3]) (st := []) iv_4_42 dX4_mayStep_21 ⟨by decide, by decide⟩ rfl (Nat.le_of_ble_eq_true rfl) (by decide) (by decide) rfl H (fun r V1 H => ?_)
    obtain ⟨b1, rfl, H⟩ := H
    refine s_if_eq (tgt := 29) dX4_mayStep_24 (by decide) (fun c => ?_) (fun c => ?_)
    · have H := H.1 (bI_f c)
      refine s_iload_n dX4_mayStep_29 rfl ?_
      refine s_if_ne (tgt := 53) dX4_mayStep_30 (by decide) (fun c => ?_) (fun c => ?_)
      · have H := H.1 c
        exact t_loc [1, 2, 3, 4] rfl (v_X4_mayStep_53 h q1 p2 p3 p4 p5 hh hq1     H)
      · have H := H.2 c
        refine s_aload_n dX4_mayStep_33 rfl ?_
        refine s_iconst (v := 1) dX4_mayStep_34 (by decide) ?_
        refine s_aload_n dX4_mayStep_35 rfl ?_
        refine t_cV (h := h) (As := []) (st := [.int 1, .ref h]) iv_4_31 dX4_mayStep_36 ⟨by decide, by decide⟩ rfl (Nat.le_of_ble_eq_true rfl) (by decide) (by decide) rfl (mt_o hh) H (fun r V2 H => ?_)
        obtain ⟨r2, rfl, H⟩ := H
        refine s_isub dX4_mayStep_39 ?_
        refine t_cV (h := h) (As := [.int (1 - r2)]) (st := []) iv_4_35 dX4_mayStep_40 ⟨by decide, by decide⟩ rfl (Nat.le_of_ble_eq_true rfl) (by decide) (by decide) rfl (mt_o hh) H (fun r V3 H => ?_)
        obtain ⟨c3, rfl, hc3, H⟩ := H
        refine s_iload dX4_mayStep_43 rfl ?_
        refine t_cV (h := c3) (As := [.int p4]) (st := []) iv_4_46 dX4_mayStep_45 ⟨by decide, by decide⟩ rfl (Nat.le_of_ble_eq_true rfl) (by decide) (by decide) rfl (sd_o hc3) H (fun r V4 H => ?_)
        obtain ⟨b4, rfl, H⟩ := H
        refine s_if_ne (tgt := 53) dX4_mayStep_48 (by decide) (fun c => ?_) (fun c => ?_)
        · have H := H.1 (bI_t c)
          exact t_loc [1, 2, 3, 4] rfl (v_X4_mayStep_53 h q1 p2 p3 p4 p5 hh hq1     H)
        · have H := H.2 (bI_f c)
          refine s_iconst (v := 0) dX4_mayStep_51 (by decide) ?_
          exact s_iret dX4_mayStep_52 (Or.inr ⟨rfl, (Or.inl rfl)⟩) ⟨rfl, H⟩
    · have H := H.2 (bI_t c)
      refine s_iconst (v := 1) dX4_mayStep_27 (by decide) ?_
      exact s_iret dX4_mayStep_28 (Or.inr ⟨rfl, (Or.inr rfl)⟩) ⟨rfl, H⟩
  · have H := H.2 c
    refine s_iload dX4_mayStep_6 rfl ?_
    refine s_sipush (v := 300) dX4_mayStep_8 (by decide) ?_
    refine s_icmp_ne (tgt := 18) dX4_mayStep_11 (by decide) (fun c => ?_) (fun c => ?_)
    · have H := H.1 c
      refine s_iconst (v := 0) dX4_mayStep_18 (by decide) ?_
      exact s_iret dX4_mayStep_19 (Or.inr ⟨rfl, (Or.inl rfl)⟩) ⟨rfl, H⟩
    · have H := H.2 c
      refine s_iconst (v := 1) dX4_mayStep_14 (by decide) ?_
      refine s_goto (tgt := 19) dX4_mayStep_15 (by decide) ?_
      exact s_iret dX4_mayStep_19 (Or.inr ⟨rfl, (Or.inr rfl)⟩) ⟨rfl, H⟩

def F_X4_mayStand (J : Nat → Nat → Int64) (h : Nat) (q1 : Nat) (V : Nat → Nat → Int32) (Qr : Option Value → (Nat → Nat → Int32) → Prop) (Qx : String → (Nat → Nat → Int32) → Prop) : Prop :=
((¬ (V q1 5) = 1) →
  ((¬ (V q1 5) = 2) →
    CTc J mX4_mayStandAsRaid [.ref h, .ref q1] V (fun r V1 =>
      ∃ b1 : Bool, r = some (.int (bI b1)) ∧
      Qr (some (.int (bI b1))) V1) Qx) ∧
  (((V q1 5) = 2) →
    CTc J mX4_sideAt [.ref h, .int (V q1 6)] V (fun r V1 =>
      ∃ c1 : Nat, r = some (.ref c1) ∧ isSide c1 ∧
      CTc J mX6_mayChange [.ref c1, .int (V1 q1 7), .int (V1 q1 8)] V1 (fun r V2 =>
        ∃ b2 : Bool, r = some (.int (bI b2)) ∧
        Qr (some (.int (bI b2))) V2) Qx) Qx)) ∧
(((V q1 5) = 1) →
  CTc J mX4_sideAt [.ref h, .int (V q1 6)] V (fun r V1 =>
    ∃ c1 : Nat, r = some (.ref c1) ∧ isSide c1 ∧
    CTc J mX6_mayGet [.ref c1, .int (V1 q1 7), .int (V1 q1 8)] V1 (fun r V2 =>
      ∃ b2 : Bool, r = some (.int (bI b2)) ∧
      Qr (some (.int (bI b2))) V2) Qx) Qx)
theorem v_X4_mayStand {J : Nat → Nat → Int64} (h : Nat) (q1 : Nat) (hh : isMats h) (hq1 : isEv q1) {V : Nat → Nat → Int32} {Qr : Option Value → (Nat → Nat → Int32) → Prop} {Qx : String → (Nat → Nat → Int32) → Prop} (H : F_X4_mayStand J h q1 V Qr Qx) : CTc J mX4_mayStand [.ref h, .ref q1] V Qr Qx := by
  refine ctc_of (M := (T0 J, V)) pX4_mayStand (fun _ _ => rfl) (Nat.le_of_ble_eq_true rfl) ?_
  unfold F_X4_mayStand at H
  show WPc J mX4_mayStand Qr Qx 0 [(0, .ref h), (1, .ref q1)] [] V 0 0
  refine s_aload_n dX4_mayStand_0 rfl ?_
  refine t_getI fl_4_55 dX4_mayStand_1 (ev_o hq1) rfl ?_
  refine s_iconst (v := 1) dX4_mayStand_4 (by decide) ?_
  refine s_icmp_ne (tgt := 28) dX4_mayStand_5 (by decide) (fun c => ?_) (fun c => ?_)
  · have H := H.1 c
    refine s_aload_n dX4_mayStand_28 rfl ?_
    refine t_getI fl_4_55 dX4_mayStand_29 (ev_o hq1) rfl ?_
    refine s_iconst (v := 2) dX4_mayStand_32 (by decide) ?_
    refine s_icmp_ne (tgt := 56) dX4_mayStand_33 (by decide) (fun c => ?_) (fun c => ?_)
    · have H := H.1 c
      refine s_aload_n dX4_mayStand_56 rfl ?_
      refine s_aload_n dX4_mayStand_57 rfl ?_
      refine t_cV (h := h) (As := [.ref q1]) (st := []) iv_4_74 dX4_mayStand_58 ⟨by decide, by decide⟩ rfl (Nat.le_of_ble_eq_true rfl) (by decide) (by decide) rfl (mt_o hh) H (fun r V1 H => ?_)
      obtain ⟨b1, rfl, H⟩ := H
      exact s_iret dX4_mayStand_61 (Or.inr ⟨rfl, (bI_01 b1)⟩) ⟨rfl, H⟩
    · have H := H.2 c
      refine s_aload_n dX4_mayStand_36 rfl ?_
      refine s_aload_n dX4_mayStand_37 rfl ?_
      refine t_getI fl_4_58 dX4_mayStand_38 (ev_o hq1) rfl ?_
      refine t_cV (h := h) (As := [.int (V q1 6)]) (st := []) iv_4_35 dX4_mayStand_41 ⟨by decide, by decide⟩ rfl (Nat.le_of_ble_eq_true rfl) (by decide) (by decide) rfl (mt_o hh) H (fun r V1 H => ?_)
      obtain ⟨c1, rfl, hc1, H⟩ := H
      refine s_aload_n dX4_mayStand_44 rfl ?_
      refine t_getI fl_4_61 dX4_mayStand_45 (ev_o hq1) rfl ?_
      refine s_aload_n dX4_mayStand_48 rfl ?_
      refine t_getI fl_4_64 dX4_mayStand_49 (ev_o hq1) rfl ?_
      refine t_cV (h := c1) (As := [.int (V1 q1 7), .int (V1 q1 8)]) (st := []) iv_4_71 dX4_mayStand_52 ⟨by decide, by decide⟩ rfl (Nat.le_of_ble_eq_true rfl) (by decide) (by decide) rfl (sd_o hc1) H (fun r V2 H => ?_)
      obtain ⟨b2, rfl, H⟩ := H
      exact s_iret dX4_mayStand_55 (Or.inr ⟨rfl, (bI_01 b2)⟩) ⟨rfl, H⟩
  · have H := H.2 c
    refine s_aload_n dX4_mayStand_8 rfl ?_
    refine s_aload_n dX4_mayStand_9 rfl ?_
    refine t_getI fl_4_58 dX4_mayStand_10 (ev_o hq1) rfl ?_
    refine t_cV (h := h) (As := [.int (V q1 6)]) (st := []) iv_4_35 dX4_mayStand_13 ⟨by decide, by decide⟩ rfl (Nat.le_of_ble_eq_true rfl) (by decide) (by decide) rfl (mt_o hh) H (fun r V1 H => ?_)
    obtain ⟨c1, rfl, hc1, H⟩ := H
    refine s_aload_n dX4_mayStand_16 rfl ?_
    refine t_getI fl_4_61 dX4_mayStand_17 (ev_o hq1) rfl ?_
    refine s_aload_n dX4_mayStand_20 rfl ?_
    refine t_getI fl_4_64 dX4_mayStand_21 (ev_o hq1) rfl ?_
    refine t_cV (h := c1) (As := [.int (V1 q1 7), .int (V1 q1 8)]) (st := []) iv_4_67 dX4_mayStand_24 ⟨by decide, by decide⟩ rfl (Nat.le_of_ble_eq_true rfl) (by decide) (by decide) rfl (sd_o hc1) H (fun r V2 H => ?_)
    obtain ⟨b2, rfl, H⟩ := H
    exact s_iret dX4_mayStand_27 (Or.inr ⟨rfl, (bI_01 b2)⟩) ⟨rfl, H⟩

def B_X4_mayStandAsRaid_22 (J : Nat → Nat → Int64) (h : Nat) (q1 : Nat) (K22 : Int32 → (Nat → Nat → Int32) → Prop) (x2 : Int32) (V : Nat → Nat → Int32) (Qr : Option Value → (Nat → Nat → Int32) → Prop) (Qx : String → (Nat → Nat → Int32) → Prop) : Prop :=
(((V q1 9) ≤ x2) →
  Qr (some (.int 1)) V) ∧
((¬ (V q1 9) ≤ x2) →
  ((10 ≤ x2) →
    Qr (some (.int 1)) V) ∧
  ((¬ 10 ≤ x2) →
    CTc J mX2_kindAt [.ref q1, .int x2] V (fun r V1 =>
      ∃ r1 : Int32, r = some (.int r1) ∧
      CTc J mX2_whoAt [.ref q1, .int x2] V1 (fun r V2 =>
        ∃ r2 : Int32, r = some (.int r2) ∧
        CTc J mX2_tenthAt [.ref q1, .int x2] V2 (fun r V3 =>
          ∃ r3 : Int32, r = some (.int r3) ∧
          CTc J mX4_mayStep [.ref h, .ref q1, .int x2, .int r1, .int r2, .int r3] V3 (fun r V4 =>
            ∃ b4 : Bool, r = some (.int (bI b4)) ∧
            ((b4 = true) →
              K22 (x2 + 1) V4) ∧
            ((b4 = false) →
              Qr (some (.int 0)) V4)) Qx) Qx) Qx) Qx))
def F_X4_mayStandAsRaid_22 (J : Nat → Nat → Int64) (h : Nat) (q1 : Nat) (x2 : Int32) (V : Nat → Nat → Int32) (Qr : Option Value → (Nat → Nat → Int32) → Prop) (Qx : String → (Nat → Nat → Int32) → Prop) : Prop :=
  ∃ I : Nat → Int32 → (Nat → Nat → Int32) → Prop, (∃ n, I n x2 V) ∧ ∀ n (x2 : Int32) (V : Nat → Nat → Int32), I n x2 V → B_X4_mayStandAsRaid_22 J h q1  (fun x2 V => ∃ n', n' < n ∧ I n' x2 V) x2 V Qr Qx
theorem v_X4_mayStandAsRaid_22 {J : Nat → Nat → Int64} (h : Nat) (q1 : Nat) (hh : isMats h) (hq1 : isEv q1) {Qr : Option Value → (Nat → Nat → Int32) → Prop} {Qx : String → (Nat → Nat → Int32) → Prop} (x2 : Int32)  {V : Nat → Nat → Int32} (H : F_X4_mayStandAsRaid_22 J h q1  x2 V Qr Qx) : WPc J mX4_mayStandAsRaid Qr Qx 22 [(0, .ref h), (1, .ref q1), (2, .int x2)] [] V 0 0 := by
  obtain ⟨I, ⟨n0, h0⟩, hs⟩ := H
  have step : ∀ (K22 : Int32 → (Nat → Nat → Int32) → Prop), (∀ (x2 : Int32)  (V : Nat → Nat → Int32), K22 x2 V → WPc J mX4_mayStandAsRaid Qr Qx 22 [(0, .ref h), (1, .ref q1), (2, .int x2)] [] V 0 0) → ∀ (x2 : Int32)  (V : Nat → Nat → Int32), B_X4_mayStandAsRaid_22 J h q1  K22 x2 V Qr Qx → WPc J mX4_mayStandAsRaid Qr Qx 22 [(0, .ref h), (1, .ref q1), (2, .int x2)] [] V 0 0 := by
    intro K22 hK22 x2  V H
    unfold B_X4_mayStandAsRaid_22 at H
    refine s_iload_n dX4_mayStandAsRaid_22 rfl ?_
    refine s_aload_n dX4_mayStandAsRaid_23 rfl ?_
    refine t_getI fl_4_78 dX4_mayStandAsRaid_24 (ev_o hq1) rfl ?_
    refine s_icmp_ge (tgt := 68) dX4_mayStandAsRaid_27 (by decide) (fun c => ?_) (fun c => ?_)
    · have H := H.1 c
      refine s_iconst (v := 1) dX4_mayStandAsRaid_68 (by decide) ?_
      exact s_iret dX4_mayStandAsRaid_69 (Or.inr ⟨rfl, (Or.inr rfl)⟩) ⟨rfl, H⟩
    · have H := H.2 c
      refine s_iload_n dX4_mayStandAsRaid_30 rfl ?_
      refine s_bipush (v := 10) dX4_mayStandAsRaid_31 (by decide) ?_
      refine s_icmp_ge (tgt := 68) dX4_mayStandAsRaid_33 (by decide) (fun c => ?_) (fun c => ?_)
      · have H := H.1 c
        refine s_iconst (v := 1) dX4_mayStandAsRaid_68 (by decide) ?_
        exact s_iret dX4_mayStandAsRaid_69 (Or.inr ⟨rfl, (Or.inr rfl)⟩) ⟨rfl, H⟩
      · have H := H.2 c
        refine s_aload_n dX4_mayStandAsRaid_36 rfl ?_
        refine s_aload_n dX4_mayStandAsRaid_37 rfl ?_
        refine s_iload_n dX4_mayStandAsRaid_38 rfl ?_
        refine s_aload_n dX4_mayStandAsRaid_39 rfl ?_
        refine s_iload_n dX4_mayStandAsRaid_40 rfl ?_
        refine t_cV (h := q1) (As := [.int x2]) (st := [.int x2, .ref q1, .ref h]) iv_4_81 dX4_mayStandAsRaid_41 ⟨by decide, by decide⟩ rfl (Nat.le_of_ble_eq_true rfl) (by decide) (by decide) rfl (ev_o hq1) H (fun r V1 H => ?_)
        obtain ⟨r1, rfl, H⟩ := H
        refine s_aload_n dX4_mayStandAsRaid_44 rfl ?_
        refine s_iload_n dX4_mayStandAsRaid_45 rfl ?_
        refine t_cV (h := q1) (As := [.int x2]) (st := [.int r1, .int x2, .ref q1, .ref h]) iv_4_85 dX4_mayStandAsRaid_46 ⟨by decide, by decide⟩ rfl (Nat.le_of_ble_eq_true rfl) (by decide) (by decide) rfl (ev_o hq1) H (fun r V2 H => ?_)
        obtain ⟨r2, rfl, H⟩ := H
        refine s_aload_n dX4_mayStandAsRaid_49 rfl ?_
        refine s_iload_n dX4_mayStandAsRaid_50 rfl ?_
        refine t_cV (h := q1) (As := [.int x2]) (st := [.int r2, .int r1, .int x2, .ref q1, .ref h]) iv_4_88 dX4_mayStandAsRaid_51 ⟨by decide, by decide⟩ rfl (Nat.le_of_ble_eq_true rfl) (by decide) (by decide) rfl (ev_o hq1) H (fun r V3 H => ?_)
        obtain ⟨r3, rfl, H⟩ := H
        refine t_cV (h := h) (As := [.ref q1, .int x2, .int r1, .int r2, .int r3]) (st := []) iv_4_91 dX4_mayStandAsRaid_54 ⟨by decide, by decide⟩ rfl (Nat.le_of_ble_eq_true rfl) (by decide) (by decide) rfl (mt_o hh) H (fun r V4 H => ?_)
        obtain ⟨b4, rfl, H⟩ := H
        refine s_if_ne (tgt := 62) dX4_mayStandAsRaid_57 (by decide) (fun c => ?_) (fun c => ?_)
        · have H := H.1 (bI_t c)
          refine t_iinc (v := (x2 + 1)) (L' := [(2, .int (x2 + 1)), (0, .ref h), (1, .ref q1)]) dX4_mayStandAsRaid_62 rfl (by rfl) (by decide) rfl ?_
          refine s_goto (tgt := 22) dX4_mayStandAsRaid_65 (by decide) ?_
          exact t_loc [1, 2, 0] rfl (hK22 (x2 + 1)  V4 H)
        · have H := H.2 (bI_f c)
          refine s_iconst (v := 0) dX4_mayStandAsRaid_60 (by decide) ?_
          exact s_iret dX4_mayStandAsRaid_61 (Or.inr ⟨rfl, (Or.inl rfl)⟩) ⟨rfl, H⟩
  have key : ∀ n, ∀ (x2 : Int32)  (V : Nat → Nat → Int32), I n x2 V → WPc J mX4_mayStandAsRaid Qr Qx 22 [(0, .ref h), (1, .ref q1), (2, .int x2)] [] V 0 0 := by
    refine strong (fun n ih => ?_)
    intro x2  V hI
    exact step _ (fun x2  V hz => Exists.elim hz (fun n1 hz => ih n1 hz.1 x2  V hz.2)) x2  V (hs n x2 V hI)
  exact key n0 x2  V h0
def F_X4_mayStandAsRaid (J : Nat → Nat → Int64) (h : Nat) (q1 : Nat) (V : Nat → Nat → Int32) (Qr : Option Value → (Nat → Nat → Int32) → Prop) (Qx : String → (Nat → Nat → Int32) → Prop) : Prop :=
CTc J mX4_turn [.ref h] V (fun r V1 =>
  ∃ r1 : Int32, r = some (.int r1) ∧
  CTc J mX4_sideAt [.ref h, .int r1] V1 (fun r V2 =>
    ∃ c2 : Nat, r = some (.ref c2) ∧ isSide c2 ∧
    CTc J mX6_isOn [.ref c2, .int (V2 q1 7)] V2 (fun r V3 =>
      ∃ b3 : Bool, r = some (.int (bI b3)) ∧
      ((b3 = true) →
        F_X4_mayStandAsRaid_22 J h q1  0 V3 Qr Qx) ∧
      ((b3 = false) →
        Qr (some (.int 0)) V3)) Qx) Qx) Qx
theorem v_X4_mayStandAsRaid {J : Nat → Nat → Int64} (h : Nat) (q1 : Nat) (hh : isMats h) (hq1 : isEv q1) {V : Nat → Nat → Int32} {Qr : Option Value → (Nat → Nat → Int32) → Prop} {Qx : String → (Nat → Nat → Int32) → Prop} (H : F_X4_mayStandAsRaid J h q1 V Qr Qx) : CTc J mX4_mayStandAsRaid [.ref h, .ref q1] V Qr Qx := by
  refine ctc_of (M := (T0 J, V)) pX4_mayStandAsRaid (fun _ _ => rfl) (Nat.le_of_ble_eq_true rfl) ?_
  unfold F_X4_mayStandAsRaid at H
  show WPc J mX4_mayStandAsRaid Qr Qx 0 [(0, .ref h), (1, .ref q1)] [] V 0 0
  refine s_aload_n dX4_mayStandAsRaid_0 rfl ?_
  refine s_aload_n dX4_mayStandAsRaid_1 rfl ?_
  refine t_cV (h := h) (As := []) (st := [.ref h]) iv_4_31 dX4_mayStandAsRaid_2 ⟨by decide, by decide⟩ rfl (Nat.le_of_ble_eq_true rfl) (by decide) (by decide) rfl (mt_o hh) H (fun r V1 H => ?_)
  obtain ⟨r1, rfl, H⟩ := H
  refine t_cV (h := h) (As := [.int r1]) (st := []) iv_4_35 dX4_mayStandAsRaid_5 ⟨by decide, by decide⟩ rfl (Nat.le_of_ble_eq_true rfl) (by decide) (by decide) rfl (mt_o hh) H (fun r V2 H => ?_)
  obtain ⟨c2, rfl, hc2, H⟩ := H
  refine s_aload_n dX4_mayStandAsRaid_8 rfl ?_
  refine t_getI fl_4_61 dX4_mayStandAsRaid_9 (ev_o hq1) rfl ?_
  refine t_cV (h := c2) (As := [.int (V2 q1 7)]) (st := []) iv_4_46 dX4_mayStandAsRaid_12 ⟨by decide, by decide⟩ rfl (Nat.le_of_ble_eq_true rfl) (by decide) (by decide) rfl (sd_o hc2) H (fun r V3 H => ?_)
  obtain ⟨b3, rfl, H⟩ := H
  refine s_if_ne (tgt := 20) dX4_mayStandAsRaid_15 (by decide) (fun c => ?_) (fun c => ?_)
  · have H := H.1 (bI_t c)
    refine s_iconst (v := 0) dX4_mayStandAsRaid_20 (by decide) ?_
    refine t_istore_n (L' := [(2, .int 0), (0, .ref h), (1, .ref q1)]) dX4_mayStandAsRaid_21 (by decide) rfl ?_
    exact t_loc [1, 2, 0] rfl (v_X4_mayStandAsRaid_22 h q1 hh hq1   0  H)
  · have H := H.2 (bI_f c)
    refine s_iconst (v := 0) dX4_mayStandAsRaid_18 (by decide) ?_
    exact s_iret dX4_mayStandAsRaid_19 (Or.inr ⟨rfl, (Or.inl rfl)⟩) ⟨rfl, H⟩

def F_X4_play (J : Nat → Nat → Int64) (h : Nat) (q1 : Nat) (V : Nat → Nat → Int32) (Qr : Option Value → (Nat → Nat → Int32) → Prop) (Qx : String → (Nat → Nat → Int32) → Prop) : Prop :=
((¬ (V q1 5) = 1) →
  ((¬ (V q1 5) = 2) →
    CTc J mX4_playRaid [.ref h, .ref q1] V (fun r V1 =>
      r = none ∧
      Qr none V1) Qx) ∧
  (((V q1 5) = 2) →
    CTc J mX4_sideAt [.ref h, .int (V q1 6)] V (fun r V1 =>
      ∃ c1 : Nat, r = some (.ref c1) ∧ isSide c1 ∧
      CTc J mX6_swapPlayers [.ref c1, .int (V1 q1 7), .int (V1 q1 8)] V1 (fun r V2 =>
        r = none ∧
        Qr none V2) Qx) Qx)) ∧
(((V q1 5) = 1) →
  CTc J mX4_playCard [.ref h, .ref q1] V (fun r V1 =>
    r = none ∧
    Qr none V1) Qx)
theorem v_X4_play {J : Nat → Nat → Int64} (h : Nat) (q1 : Nat) (hh : isMats h) (hq1 : isEv q1) {V : Nat → Nat → Int32} {Qr : Option Value → (Nat → Nat → Int32) → Prop} {Qx : String → (Nat → Nat → Int32) → Prop} (H : F_X4_play J h q1 V Qr Qx) : CTc J mX4_play [.ref h, .ref q1] V Qr Qx := by
  refine ctc_of (M := (T0 J, V)) pX4_play (fun _ _ => rfl) (Nat.le_of_ble_eq_true rfl) ?_
  unfold F_X4_play at H
  show WPc J mX4_play Qr Qx 0 [(0, .ref h), (1, .ref q1)] [] V 0 0
  refine s_aload_n dX4_play_0 rfl ?_
  refine t_getI fl_4_55 dX4_play_1 (ev_o hq1) rfl ?_
  refine s_iconst (v := 1) dX4_play_4 (by decide) ?_
  refine s_icmp_ne (tgt := 16) dX4_play_5 (by decide) (fun c => ?_) (fun c => ?_)
  · have H := H.1 c
    refine s_aload_n dX4_play_16 rfl ?_
    refine t_getI fl_4_55 dX4_play_17 (ev_o hq1) rfl ?_
    refine s_iconst (v := 2) dX4_play_20 (by decide) ?_
    refine s_icmp_ne (tgt := 46) dX4_play_21 (by decide) (fun c => ?_) (fun c => ?_)
    · have H := H.1 c
      refine s_aload_n dX4_play_46 rfl ?_
      refine s_aload_n dX4_play_47 rfl ?_
      refine t_cV (h := h) (As := [.ref q1]) (st := []) iv_4_103 dX4_play_48 ⟨by decide, by decide⟩ rfl (Nat.le_of_ble_eq_true rfl) (by decide) (by decide) rfl (mt_o hh) H (fun r V1 H => ?_)
      obtain ⟨rfl, H⟩ := H
      exact s_vret dX4_play_51 rfl ⟨rfl, H⟩
    · have H := H.2 c
      refine s_aload_n dX4_play_24 rfl ?_
      refine s_aload_n dX4_play_25 rfl ?_
      refine t_getI fl_4_58 dX4_play_26 (ev_o hq1) rfl ?_
      refine t_cV (h := h) (As := [.int (V q1 6)]) (st := []) iv_4_35 dX4_play_29 ⟨by decide, by decide⟩ rfl (Nat.le_of_ble_eq_true rfl) (by decide) (by decide) rfl (mt_o hh) H (fun r V1 H => ?_)
      obtain ⟨c1, rfl, hc1, H⟩ := H
      refine s_aload_n dX4_play_32 rfl ?_
      refine t_getI fl_4_61 dX4_play_33 (ev_o hq1) rfl ?_
      refine s_aload_n dX4_play_36 rfl ?_
      refine t_getI fl_4_64 dX4_play_37 (ev_o hq1) rfl ?_
      refine t_cV (h := c1) (As := [.int (V1 q1 7), .int (V1 q1 8)]) (st := []) iv_4_99 dX4_play_40 ⟨by decide, by decide⟩ rfl (Nat.le_of_ble_eq_true rfl) (by decide) (by decide) rfl (sd_o hc1) H (fun r V2 H => ?_)
      obtain ⟨rfl, H⟩ := H
      refine s_goto (tgt := 51) dX4_play_43 (by decide) ?_
      exact s_vret dX4_play_51 rfl ⟨rfl, H⟩
  · have H := H.2 c
    refine s_aload_n dX4_play_8 rfl ?_
    refine s_aload_n dX4_play_9 rfl ?_
    refine t_cV (h := h) (As := [.ref q1]) (st := []) iv_4_95 dX4_play_10 ⟨by decide, by decide⟩ rfl (Nat.le_of_ble_eq_true rfl) (by decide) (by decide) rfl (mt_o hh) H (fun r V1 H => ?_)
    obtain ⟨rfl, H⟩ := H
    refine s_goto (tgt := 51) dX4_play_13 (by decide) ?_
    exact s_vret dX4_play_51 rfl ⟨rfl, H⟩

def F_X4_playCard (J : Nat → Nat → Int64) (h : Nat) (q1 : Nat) (V : Nat → Nat → Int32) (Qr : Option Value → (Nat → Nat → Int32) → Prop) (Qx : String → (Nat → Nat → Int32) → Prop) : Prop :=
CTc J mX4_sideAt [.ref h, .int (V q1 6)] V (fun r V1 =>
  ∃ c1 : Nat, r = some (.ref c1) ∧ isSide c1 ∧
  CTc J mX6_colourFor [.ref c1, .int (V1 q1 7), .int (V1 q1 8)] V1 (fun r V2 =>
    ∃ r2 : Int32, r = some (.int r2) ∧
    CTc J mX6_takeCard [.ref c1, .int (V2 q1 7), .int r2, .int (V2 h 2)] V2 (fun r V3 =>
      r = none ∧
      ((¬ r2 = 2) →
        CTc J mX4_endAllOut [.ref h, .int (V3 q1 6)] V3 (fun r V4 =>
          r = none ∧
          Qr none V4) Qx) ∧
      ((r2 = 2) →
        CTc J mX4_sideAt [.ref h, .int (1 - (V3 q1 6))] V3 (fun r V4 =>
          ∃ c4 : Nat, r = some (.ref c4) ∧ isSide c4 ∧
          CTc J mX4_endAllOut [.ref h, .int ((up2 V4 c4 7 ((V4 c4 7) + 1)) q1 6)] (up2 V4 c4 7 ((V4 c4 7) + 1)) (fun r V5 =>
            r = none ∧
            Qr none V5) Qx) Qx)) Qx) Qx) Qx
theorem v_X4_playCard {J : Nat → Nat → Int64} (h : Nat) (q1 : Nat) (hh : isMats h) (hq1 : isEv q1) {V : Nat → Nat → Int32} {Qr : Option Value → (Nat → Nat → Int32) → Prop} {Qx : String → (Nat → Nat → Int32) → Prop} (H : F_X4_playCard J h q1 V Qr Qx) : CTc J mX4_playCard [.ref h, .ref q1] V Qr Qx := by
  refine ctc_of (M := (T0 J, V)) pX4_playCard (fun _ _ => rfl) (Nat.le_of_ble_eq_true rfl) ?_
  unfold F_X4_playCard at H
  show WPc J mX4_playCard Qr Qx 0 [(0, .ref h), (1, .ref q1)] [] V 0 0
  refine s_aload_n dX4_playCard_0 rfl ?_
  refine s_aload_n dX4_playCard_1 rfl ?_
  refine t_getI fl_4_58 dX4_playCard_2 (ev_o hq1) rfl ?_
  refine t_cV (h := h) (As := [.int (V q1 6)]) (st := []) iv_4_35 dX4_playCard_5 ⟨by decide, by decide⟩ rfl (Nat.le_of_ble_eq_true rfl) (by decide) (by decide) rfl (mt_o hh) H (fun r V1 H => ?_)
  obtain ⟨c1, rfl, hc1, H⟩ := H
  refine t_astore_n (L' := [(2, .ref c1), (0, .ref h), (1, .ref q1)]) dX4_playCard_8 (by decide) rfl ?_
  refine s_aload_n dX4_playCard_9 rfl ?_
  refine s_aload_n dX4_playCard_10 rfl ?_
  refine t_getI fl_4_61 dX4_playCard_11 (ev_o hq1) rfl ?_
  refine s_aload_n dX4_playCard_14 rfl ?_
  refine t_getI fl_4_64 dX4_playCard_15 (ev_o hq1) rfl ?_
  refine t_cV (h := c1) (As := [.int (V1 q1 7), .int (V1 q1 8)]) (st := []) iv_4_106 dX4_playCard_18 ⟨by decide, by decide⟩ rfl (Nat.le_of_ble_eq_true rfl) (by decide) (by decide) rfl (sd_o hc1) H (fun r V2 H => ?_)
  obtain ⟨r2, rfl, H⟩ := H
  refine t_istore_n (L' := [(3, .int r2), (2, .ref c1), (0, .ref h), (1, .ref q1)]) dX4_playCard_21 (by decide) rfl ?_
  refine s_aload_n dX4_playCard_22 rfl ?_
  refine s_aload_n dX4_playCard_23 rfl ?_
  refine t_getI fl_4_61 dX4_playCard_24 (ev_o hq1) rfl ?_
  refine s_iload_n dX4_playCard_27 rfl ?_
  refine s_aload_n dX4_playCard_28 rfl ?_
  refine t_getI fl_4_24 dX4_playCard_29 (mt_o hh) rfl ?_
  refine t_cV (h := c1) (As := [.int (V2 q1 7), .int r2, .int (V2 h 2)]) (st := []) iv_4_110 dX4_playCard_32 ⟨by decide, by decide⟩ rfl (Nat.le_of_ble_eq_true rfl) (by decide) (by decide) rfl (sd_o hc1) H (fun r V3 H => ?_)
  obtain ⟨rfl, H⟩ := H
  refine s_iload_n dX4_playCard_35 rfl ?_
  refine s_iconst (v := 2) dX4_playCard_36 (by decide) ?_
  refine s_icmp_ne (tgt := 59) dX4_playCard_37 (by decide) (fun c => ?_) (fun c => ?_)
  · have H := H.1 c
    refine s_aload_n dX4_playCard_59 rfl ?_
    refine s_aload_n dX4_playCard_60 rfl ?_
    refine t_getI fl_4_58 dX4_playCard_61 (ev_o hq1) rfl ?_
    refine t_cV (h := h) (As := [.int (V3 q1 6)]) (st := []) iv_4_117 dX4_playCard_64 ⟨by decide, by decide⟩ rfl (Nat.le_of_ble_eq_true rfl) (by decide) (by decide) rfl (mt_o hh) H (fun r V4 H => ?_)
    obtain ⟨rfl, H⟩ := H
    exact s_vret dX4_playCard_67 rfl ⟨rfl, H⟩
  · have H := H.2 c
    refine s_aload_n dX4_playCard_40 rfl ?_
    refine s_iconst (v := 1) dX4_playCard_41 (by decide) ?_
    refine s_aload_n dX4_playCard_42 rfl ?_
    refine t_getI fl_4_58 dX4_playCard_43 (ev_o hq1) rfl ?_
    refine s_isub dX4_playCard_46 ?_
    refine t_cV (h := h) (As := [.int (1 - (V3 q1 6))]) (st := []) iv_4_35 dX4_playCard_47 ⟨by decide, by decide⟩ rfl (Nat.le_of_ble_eq_true rfl) (by decide) (by decide) rfl (mt_o hh) H (fun r V4 H => ?_)
    obtain ⟨c4, rfl, hc4, H⟩ := H
    refine s_dup dX4_playCard_50 rfl ?_
    refine t_getI fl_4_114 dX4_playCard_51 (sd_o hc4) rfl ?_
    refine s_iconst (v := 1) dX4_playCard_54 (by decide) ?_
    refine s_iadd dX4_playCard_55 ?_
    refine t_putI fl_4_114 dX4_playCard_56 (sd_o hc4) (Or.inl rfl) ?_
    refine s_aload_n dX4_playCard_59 rfl ?_
    refine s_aload_n dX4_playCard_60 rfl ?_
    refine t_getI fl_4_58 dX4_playCard_61 (ev_o hq1) rfl ?_
    refine t_cV (h := h) (As := [.int ((up2 V4 c4 7 ((V4 c4 7) + 1)) q1 6)]) (st := []) iv_4_117 dX4_playCard_64 ⟨by decide, by decide⟩ rfl (Nat.le_of_ble_eq_true rfl) (by decide) (by decide) rfl (mt_o hh) H (fun r V5 H => ?_)
    obtain ⟨rfl, H⟩ := H
    exact s_vret dX4_playCard_67 rfl ⟨rfl, H⟩

def F_X4_playRaid_215 (J : Nat → Nat → Int64) (h : Nat) (q1 : Nat) (s0 : Int32) (b1 : Nat) (V : Nat → Nat → Int32) (Qr : Option Value → (Nat → Nat → Int32) → Prop) (Qx : String → (Nat → Nat → Int32) → Prop) : Prop :=
CTc J mX4_endAllOut [.ref h, .int 0] (up2 V b1 8 s0) (fun r V1 =>
  r = none ∧
  CTc J mX4_endAllOut [.ref h, .int 1] V1 (fun r V2 =>
    r = none ∧
    CTc J mX2_lastTenth [.ref q1] V2 (fun r V3 =>
      ∃ r3 : Int32, r = some (.int r3) ∧
      CTc J mX4_passTime [.ref h, .int r3] V3 (fun r V4 =>
        r = none ∧
        Qr none V4) Qx) Qx) Qx) Qx
theorem v_X4_playRaid_215 {J : Nat → Nat → Int64} (h : Nat) (q1 : Nat) (hh : isMats h) (hq1 : isEv q1) {Qr : Option Value → (Nat → Nat → Int32) → Prop} {Qx : String → (Nat → Nat → Int32) → Prop} (s0 : Int32) (b1 : Nat) (hb1 : isSide b1) {V : Nat → Nat → Int32} (H : F_X4_playRaid_215 J h q1  s0 b1 V Qr Qx) : WPc J mX4_playRaid Qr Qx 215 [(0, .ref h), (1, .ref q1)] [.int s0, .ref b1] V 0 0 := by
  unfold F_X4_playRaid_215 at H
  refine t_putI fl_4_39 dX4_playRaid_215 (sd_o hb1) (Or.inl rfl) ?_
  refine s_aload_n dX4_playRaid_218 rfl ?_
  refine s_iconst (v := 0) dX4_playRaid_219 (by decide) ?_
  refine t_cV (h := h) (As := [.int 0]) (st := []) iv_4_117 dX4_playRaid_220 ⟨by decide, by decide⟩ rfl (Nat.le_of_ble_eq_true rfl) (by decide) (by decide) rfl (mt_o hh) H (fun r V1 H => ?_)
  obtain ⟨rfl, H⟩ := H
  refine s_aload_n dX4_playRaid_223 rfl ?_
  refine s_iconst (v := 1) dX4_playRaid_224 (by decide) ?_
  refine t_cV (h := h) (As := [.int 1]) (st := []) iv_4_117 dX4_playRaid_225 ⟨by decide, by decide⟩ rfl (Nat.le_of_ble_eq_true rfl) (by decide) (by decide) rfl (mt_o hh) H (fun r V2 H => ?_)
  obtain ⟨rfl, H⟩ := H
  refine s_aload_n dX4_playRaid_228 rfl ?_
  refine s_aload_n dX4_playRaid_229 rfl ?_
  refine t_cV (h := q1) (As := []) (st := [.ref h]) iv_4_151 dX4_playRaid_230 ⟨by decide, by decide⟩ rfl (Nat.le_of_ble_eq_true rfl) (by decide) (by decide) rfl (ev_o hq1) H (fun r V3 H => ?_)
  obtain ⟨r3, rfl, H⟩ := H
  refine t_cV (h := h) (As := [.int r3]) (st := []) iv_4_154 dX4_playRaid_233 ⟨by decide, by decide⟩ rfl (Nat.le_of_ble_eq_true rfl) (by decide) (by decide) rfl (mt_o hh) H (fun r V4 H => ?_)
  obtain ⟨rfl, H⟩ := H
  exact s_vret dX4_playRaid_236 rfl ⟨rfl, H⟩
def F_X4_playRaid_199 (J : Nat → Nat → Int64) (h : Nat) (q1 : Nat) (a2 : Nat) (x7 : Int32) (V : Nat → Nat → Int32) (Qr : Option Value → (Nat → Nat → Int32) → Prop) (Qx : String → (Nat → Nat → Int32) → Prop) : Prop :=
((x7 = 0) →
  F_X4_playRaid_215 J h q1  0 a2 V Qr Qx) ∧
((¬ x7 = 0) →
  F_X4_playRaid_215 J h q1  ((V a2 8) + 1) a2 V Qr Qx)
theorem v_X4_playRaid_199 {J : Nat → Nat → Int64} (h : Nat) (q1 : Nat) (hh : isMats h) (hq1 : isEv q1) {Qr : Option Value → (Nat → Nat → Int32) → Prop} {Qx : String → (Nat → Nat → Int32) → Prop} (a2 : Nat) (x7 : Int32) (ha2 : isSide a2) {V : Nat → Nat → Int32} (H : F_X4_playRaid_199 J h q1  a2 x7 V Qr Qx) : WPc J mX4_playRaid Qr Qx 199 [(0, .ref h), (1, .ref q1), (2, .ref a2), (7, .int x7)] [] V 0 0 := by
  unfold F_X4_playRaid_199 at H
  refine s_aload_n dX4_playRaid_199 rfl ?_
  refine s_iload dX4_playRaid_200 rfl ?_
  refine s_if_eq (tgt := 214) dX4_playRaid_202 (by decide) (fun c => ?_) (fun c => ?_)
  · have H := H.1 c
    refine s_iconst (v := 0) dX4_playRaid_214 (by decide) ?_
    exact t_loc [0, 1] rfl (v_X4_playRaid_215 h q1 hh hq1   0 a2 ha2 H)
  · have H := H.2 c
    refine s_aload_n dX4_playRaid_205 rfl ?_
    refine t_getI fl_4_39 dX4_playRaid_206 (sd_o ha2) rfl ?_
    refine s_iconst (v := 1) dX4_playRaid_209 (by decide) ?_
    refine s_iadd dX4_playRaid_210 ?_
    refine s_goto (tgt := 215) dX4_playRaid_211 (by decide) ?_
    exact t_loc [0, 1] rfl (v_X4_playRaid_215 h q1 hh hq1   ((V a2 8) + 1) a2 ha2 H)
def F_X4_playRaid_183 (J : Nat → Nat → Int64) (h : Nat) (q1 : Nat) (a2 : Nat) (a3 : Nat) (x7 : Int32) (V : Nat → Nat → Int32) (Qr : Option Value → (Nat → Nat → Int32) → Prop) (Qx : String → (Nat → Nat → Int32) → Prop) : Prop :=
CTc J mX4_loseRaider [.ref a2, .ref a3, .int (V q1 7), .int 1] V (fun r V1 =>
  r = none ∧
  F_X4_playRaid_199 J h q1  a2 x7 V1 Qr Qx) Qx
theorem v_X4_playRaid_183 {J : Nat → Nat → Int64} (h : Nat) (q1 : Nat) (hh : isMats h) (hq1 : isEv q1) {Qr : Option Value → (Nat → Nat → Int32) → Prop} {Qx : String → (Nat → Nat → Int32) → Prop} (a2 : Nat) (a3 : Nat) (x7 : Int32) (ha2 : isSide a2) (ha3 : isSide a3) {V : Nat → Nat → Int32} (H : F_X4_playRaid_183 J h q1  a2 a3 x7 V Qr Qx) : WPc J mX4_playRaid Qr Qx 183 [(0, .ref h), (1, .ref q1), (2, .ref a2), (3, .ref a3), (7, .int x7)] [] V 0 0 := by
  unfold F_X4_playRaid_183 at H
  refine s_aload_n dX4_playRaid_183 rfl ?_
  refine s_aload_n dX4_playRaid_184 rfl ?_
  refine s_aload_n dX4_playRaid_185 rfl ?_
  refine t_getI fl_4_61 dX4_playRaid_186 (ev_o hq1) rfl ?_
  refine s_iconst (v := 1) dX4_playRaid_189 (by decide) ?_
  refine t_cS (As := [.ref a2, .ref a3, .int (V q1 7), .int 1]) (st := []) iv_4_136 dX4_playRaid_190 ⟨by decide, by decide⟩ rfl (Nat.le_of_ble_eq_true rfl) (by decide) (by decide) rfl H (fun r V1 H => ?_)
  obtain ⟨rfl, H⟩ := H
  refine s_goto (tgt := 199) dX4_playRaid_193 (by decide) ?_
  exact t_loc [0, 1, 2, 4] rfl (v_X4_playRaid_199 h q1 hh hq1   a2 x7 ha2 H)
def F_X4_playRaid_110 (J : Nat → Nat → Int64) (h : Nat) (q1 : Nat) (a2 : Nat) (a3 : Nat) (x5 : Int32) (x7 : Int32) (s0 : Int32) (V : Nat → Nat → Int32) (Qr : Option Value → (Nat → Nat → Int32) → Prop) (Qx : String → (Nat → Nat → Int32) → Prop) : Prop :=
CTc J mX6_scoreBy [.ref a2, .int (V q1 7), .int x5] V (fun r V1 =>
  r = none ∧
  CTc J mX4_loseRaider [.ref a2, .ref a3, .int (V1 q1 7), .int s0] V1 (fun r V2 =>
    r = none ∧
    F_X4_playRaid_199 J h q1  a2 x7 V2 Qr Qx) Qx) Qx
theorem v_X4_playRaid_110 {J : Nat → Nat → Int64} (h : Nat) (q1 : Nat) (hh : isMats h) (hq1 : isEv q1) {Qr : Option Value → (Nat → Nat → Int32) → Prop} {Qx : String → (Nat → Nat → Int32) → Prop} (a2 : Nat) (a3 : Nat) (x5 : Int32) (x7 : Int32) (s0 : Int32) (ha2 : isSide a2) (ha3 : isSide a3) {V : Nat → Nat → Int32} (H : F_X4_playRaid_110 J h q1  a2 a3 x5 x7 s0 V Qr Qx) : WPc J mX4_playRaid Qr Qx 110 [(0, .ref h), (1, .ref q1), (2, .ref a2), (3, .ref a3), (5, .int x5), (7, .int x7)] [.int s0] V 0 0 := by
  unfold F_X4_playRaid_110 at H
  refine t_istore (L' := [(8, .int s0), (0, .ref h), (1, .ref q1), (2, .ref a2), (3, .ref a3), (5, .int x5), (7, .int x7)]) dX4_playRaid_110 (by decide) rfl ?_
  refine s_aload_n dX4_playRaid_112 rfl ?_
  refine s_aload_n dX4_playRaid_113 rfl ?_
  refine t_getI fl_4_61 dX4_playRaid_114 (ev_o hq1) rfl ?_
  refine s_iload dX4_playRaid_117 rfl ?_
  refine t_cV (h := a2) (As := [.int (V q1 7), .int x5]) (st := []) iv_4_133 dX4_playRaid_119 ⟨by decide, by decide⟩ rfl (Nat.le_of_ble_eq_true rfl) (by decide) (by decide) rfl (sd_o ha2) H (fun r V1 H => ?_)
  obtain ⟨rfl, H⟩ := H
  refine s_aload_n dX4_playRaid_122 rfl ?_
  refine s_aload_n dX4_playRaid_123 rfl ?_
  refine s_aload_n dX4_playRaid_124 rfl ?_
  refine t_getI fl_4_61 dX4_playRaid_125 (ev_o hq1) rfl ?_
  refine s_iload dX4_playRaid_128 rfl ?_
  refine t_cS (As := [.ref a2, .ref a3, .int (V1 q1 7), .int s0]) (st := []) iv_4_136 dX4_playRaid_130 ⟨by decide, by decide⟩ rfl (Nat.le_of_ble_eq_true rfl) (by decide) (by decide) rfl H (fun r V2 H => ?_)
  obtain ⟨rfl, H⟩ := H
  refine s_goto (tgt := 199) dX4_playRaid_133 (by decide) ?_
  exact t_loc [1, 2, 3, 6] rfl (v_X4_playRaid_199 h q1 hh hq1   a2 x7 ha2 H)
def F_X4_playRaid_109 (J : Nat → Nat → Int64) (h : Nat) (q1 : Nat) (a2 : Nat) (a3 : Nat) (x5 : Int32) (x7 : Int32) (V : Nat → Nat → Int32) (Qr : Option Value → (Nat → Nat → Int32) → Prop) (Qx : String → (Nat → Nat → Int32) → Prop) : Prop :=
F_X4_playRaid_110 J h q1  a2 a3 x5 x7 1 V Qr Qx
theorem v_X4_playRaid_109 {J : Nat → Nat → Int64} (h : Nat) (q1 : Nat) (hh : isMats h) (hq1 : isEv q1) {Qr : Option Value → (Nat → Nat → Int32) → Prop} {Qx : String → (Nat → Nat → Int32) → Prop} (a2 : Nat) (a3 : Nat) (x5 : Int32) (x7 : Int32) (ha2 : isSide a2) (ha3 : isSide a3) {V : Nat → Nat → Int32} (H : F_X4_playRaid_109 J h q1  a2 a3 x5 x7 V Qr Qx) : WPc J mX4_playRaid Qr Qx 109 [(0, .ref h), (1, .ref q1), (2, .ref a2), (3, .ref a3), (5, .int x5), (7, .int x7)] [] V 0 0 := by
  unfold F_X4_playRaid_109 at H
  refine s_iconst (v := 1) dX4_playRaid_109 (by decide) ?_
  exact t_loc [0, 1, 2, 3, 4, 5] rfl (v_X4_playRaid_110 h q1 hh hq1   a2 a3 x5 x7 1 ha2 ha3 H)
def F_X4_playRaid_76 (J : Nat → Nat → Int64) (h : Nat) (q1 : Nat) (a2 : Nat) (a3 : Nat) (x4 : Int32) (x5 : Int32) (s0 : Int32) (V : Nat → Nat → Int32) (Qr : Option Value → (Nat → Nat → Int32) → Prop) (Qx : String → (Nat → Nat → Int32) → Prop) : Prop :=
CTc J mX2_lastKind [.ref q1] V (fun r V1 =>
  ∃ r1 : Int32, r = some (.int r1) ∧
  ((r1 = 3) →
    (((x4 + x5) ≤ 0) →
      ((¬ s0 = 0) →
        F_X4_playRaid_183 J h q1  a2 a3 0 V1 Qr Qx) ∧
      ((s0 = 0) →
        CTc J mX4_isDoOrDie [.ref h] V1 (fun r V2 =>
          ∃ b2 : Bool, r = some (.int (bI b2)) ∧
          ((b2 = false) →
            F_X4_playRaid_199 J h q1  a2 1 V2 Qr Qx) ∧
          ((b2 = true) →
            F_X4_playRaid_183 J h q1  a2 a3 0 V2 Qr Qx)) Qx)) ∧
    ((¬ (x4 + x5) ≤ 0) →
      CTc J mX6_scoreBy [.ref a2, .int (V1 q1 7), .int (x4 + x5)] V1 (fun r V2 =>
        r = none ∧
        CTc J mX4_sendTouchedOut [.ref q1, .ref a3] V2 (fun r V3 =>
          r = none ∧
          CTc J mX6_comeBack [.ref a2, .int x4] V3 (fun r V4 =>
            r = none ∧
            F_X4_playRaid_199 J h q1  a2 0 V4 Qr Qx) Qx) Qx) Qx)) ∧
  ((¬ r1 = 3) →
    CTc J mX2_lastKind [.ref q1] V1 (fun r V2 =>
      ∃ r2 : Int32, r = some (.int r2) ∧
      ((¬ r2 = 4) →
        F_X4_playRaid_109 J h q1  a2 a3 x5 0 V2 Qr Qx) ∧
      ((r2 = 4) →
        CTc J mX6_countStanding [.ref a3] V2 (fun r V3 =>
          ∃ r3 : Int32, r = some (.int r3) ∧
          ((3 < r3) →
            F_X4_playRaid_109 J h q1  a2 a3 x5 0 V3 Qr Qx) ∧
          ((¬ 3 < r3) →
            F_X4_playRaid_110 J h q1  a2 a3 x5 0 2 V3 Qr Qx)) Qx)) Qx)) Qx
theorem v_X4_playRaid_76 {J : Nat → Nat → Int64} (h : Nat) (q1 : Nat) (hh : isMats h) (hq1 : isEv q1) {Qr : Option Value → (Nat → Nat → Int32) → Prop} {Qx : String → (Nat → Nat → Int32) → Prop} (a2 : Nat) (a3 : Nat) (x4 : Int32) (x5 : Int32) (s0 : Int32) (ha2 : isSide a2) (ha3 : isSide a3) {V : Nat → Nat → Int32} (H : F_X4_playRaid_76 J h q1  a2 a3 x4 x5 s0 V Qr Qx) : WPc J mX4_playRaid Qr Qx 76 [(0, .ref h), (1, .ref q1), (2, .ref a2), (3, .ref a3), (4, .int x4), (5, .int x5)] [.int s0] V 0 0 := by
  unfold F_X4_playRaid_76 at H
  refine t_istore (L' := [(6, .int s0), (0, .ref h), (1, .ref q1), (2, .ref a2), (3, .ref a3), (4, .int x4), (5, .int x5)]) dX4_playRaid_76 (by decide) rfl ?_
  refine s_iconst (v := 0) dX4_playRaid_78 (by decide) ?_
  refine t_istore (L' := [(7, .int 0), (6, .int s0), (0, .ref h), (1, .ref q1), (2, .ref a2), (3, .ref a3), (4, .int x4), (5, .int x5)]) dX4_playRaid_79 (by decide) rfl ?_
  refine s_aload_n dX4_playRaid_81 rfl ?_
  refine t_cV (h := q1) (As := []) (st := []) iv_4_130 dX4_playRaid_82 ⟨by decide, by decide⟩ rfl (Nat.le_of_ble_eq_true rfl) (by decide) (by decide) rfl (ev_o hq1) H (fun r V1 H => ?_)
  obtain ⟨r1, rfl, H⟩ := H
  refine s_iconst (v := 3) dX4_playRaid_85 (by decide) ?_
  refine s_icmp_eq (tgt := 136) dX4_playRaid_86 (by decide) (fun c => ?_) (fun c => ?_)
  · have H := H.1 c
    refine s_iload dX4_playRaid_136 rfl ?_
    refine s_iload dX4_playRaid_138 rfl ?_
    refine s_iadd dX4_playRaid_140 ?_
    refine s_if_le (tgt := 171) dX4_playRaid_141 (by decide) (fun c => ?_) (fun c => ?_)
    · have H := H.1 c
      refine s_iload dX4_playRaid_171 rfl ?_
      refine s_if_ne (tgt := 183) dX4_playRaid_173 (by decide) (fun c => ?_) (fun c => ?_)
      · have H := H.1 c
        exact t_loc [2, 3, 4, 5, 0] rfl (v_X4_playRaid_183 h q1 hh hq1   a2 a3 0 ha2 ha3 H)
      · have H := H.2 c
        refine s_aload_n dX4_playRaid_176 rfl ?_
        refine t_cV (h := h) (As := []) (st := []) iv_4_147 dX4_playRaid_177 ⟨by decide, by decide⟩ rfl (Nat.le_of_ble_eq_true rfl) (by decide) (by decide) rfl (mt_o hh) H (fun r V2 H => ?_)
        obtain ⟨b2, rfl, H⟩ := H
        refine s_if_eq (tgt := 196) dX4_playRaid_180 (by decide) (fun c => ?_) (fun c => ?_)
        · have H := H.1 (bI_f c)
          refine s_iconst (v := 1) dX4_playRaid_196 (by decide) ?_
          refine t_istore (L' := [(7, .int 1), (6, .int s0), (0, .ref h), (1, .ref q1), (2, .ref a2), (3, .ref a3), (4, .int x4), (5, .int x5)]) dX4_playRaid_197 (by decide) rfl ?_
          exact t_loc [2, 3, 4, 0] rfl (v_X4_playRaid_199 h q1 hh hq1   a2 1 ha2 H)
        · have H := H.2 (bI_t c)
          exact t_loc [2, 3, 4, 5, 0] rfl (v_X4_playRaid_183 h q1 hh hq1   a2 a3 0 ha2 ha3 H)
    · have H := H.2 c
      refine s_aload_n dX4_playRaid_144 rfl ?_
      refine s_aload_n dX4_playRaid_145 rfl ?_
      refine t_getI fl_4_61 dX4_playRaid_146 (ev_o hq1) rfl ?_
      refine s_iload dX4_playRaid_149 rfl ?_
      refine s_iload dX4_playRaid_151 rfl ?_
      refine s_iadd dX4_playRaid_153 ?_
      refine t_cV (h := a2) (As := [.int (V1 q1 7), .int (x4 + x5)]) (st := []) iv_4_133 dX4_playRaid_154 ⟨by decide, by decide⟩ rfl (Nat.le_of_ble_eq_true rfl) (by decide) (by decide) rfl (sd_o ha2) H (fun r V2 H => ?_)
      obtain ⟨rfl, H⟩ := H
      refine s_aload_n dX4_playRaid_157 rfl ?_
      refine s_aload_n dX4_playRaid_158 rfl ?_
      refine t_cS (As := [.ref q1, .ref a3]) (st := []) iv_4_140 dX4_playRaid_159 ⟨by decide, by decide⟩ rfl (Nat.le_of_ble_eq_true rfl) (by decide) (by decide) rfl H (fun r V3 H => ?_)
      obtain ⟨rfl, H⟩ := H
      refine s_aload_n dX4_playRaid_162 rfl ?_
      refine s_iload dX4_playRaid_163 rfl ?_
      refine t_cV (h := a2) (As := [.int x4]) (st := []) iv_4_144 dX4_playRaid_165 ⟨by decide, by decide⟩ rfl (Nat.le_of_ble_eq_true rfl) (by decide) (by decide) rfl (sd_o ha2) H (fun r V4 H => ?_)
      obtain ⟨rfl, H⟩ := H
      refine s_goto (tgt := 199) dX4_playRaid_168 (by decide) ?_
      exact t_loc [2, 3, 4, 0] rfl (v_X4_playRaid_199 h q1 hh hq1   a2 0 ha2 H)
  · have H := H.2 c
    refine s_aload_n dX4_playRaid_89 rfl ?_
    refine t_cV (h := q1) (As := []) (st := []) iv_4_130 dX4_playRaid_90 ⟨by decide, by decide⟩ rfl (Nat.le_of_ble_eq_true rfl) (by decide) (by decide) rfl (ev_o hq1) H (fun r V2 H => ?_)
    obtain ⟨r2, rfl, H⟩ := H
    refine s_iconst (v := 4) dX4_playRaid_93 (by decide) ?_
    refine s_icmp_ne (tgt := 109) dX4_playRaid_94 (by decide) (fun c => ?_) (fun c => ?_)
    · have H := H.1 c
      exact t_loc [2, 3, 4, 5, 7, 0] rfl (v_X4_playRaid_109 h q1 hh hq1   a2 a3 x5 0 ha2 ha3 H)
    · have H := H.2 c
      refine s_aload_n dX4_playRaid_97 rfl ?_
      refine t_cV (h := a3) (As := []) (st := []) iv_4_127 dX4_playRaid_98 ⟨by decide, by decide⟩ rfl (Nat.le_of_ble_eq_true rfl) (by decide) (by decide) rfl (sd_o ha3) H (fun r V3 H => ?_)
      obtain ⟨r3, rfl, H⟩ := H
      refine s_iconst (v := 3) dX4_playRaid_101 (by decide) ?_
      refine s_icmp_gt (tgt := 109) dX4_playRaid_102 (by decide) (fun c => ?_) (fun c => ?_)
      · have H := H.1 c
        exact t_loc [2, 3, 4, 5, 7, 0] rfl (v_X4_playRaid_109 h q1 hh hq1   a2 a3 x5 0 ha2 ha3 H)
      · have H := H.2 c
        refine s_iconst (v := 2) dX4_playRaid_105 (by decide) ?_
        refine s_goto (tgt := 110) dX4_playRaid_106 (by decide) ?_
        exact t_loc [2, 3, 4, 5, 7, 0] rfl (v_X4_playRaid_110 h q1 hh hq1   a2 a3 x5 0 2 ha2 ha3 H)
def F_X4_playRaid_75 (J : Nat → Nat → Int64) (h : Nat) (q1 : Nat) (a2 : Nat) (a3 : Nat) (x4 : Int32) (x5 : Int32) (V : Nat → Nat → Int32) (Qr : Option Value → (Nat → Nat → Int32) → Prop) (Qx : String → (Nat → Nat → Int32) → Prop) : Prop :=
F_X4_playRaid_76 J h q1  a2 a3 x4 x5 0 V Qr Qx
theorem v_X4_playRaid_75 {J : Nat → Nat → Int64} (h : Nat) (q1 : Nat) (hh : isMats h) (hq1 : isEv q1) {Qr : Option Value → (Nat → Nat → Int32) → Prop} {Qx : String → (Nat → Nat → Int32) → Prop} (a2 : Nat) (a3 : Nat) (x4 : Int32) (x5 : Int32) (ha2 : isSide a2) (ha3 : isSide a3) {V : Nat → Nat → Int32} (H : F_X4_playRaid_75 J h q1  a2 a3 x4 x5 V Qr Qx) : WPc J mX4_playRaid Qr Qx 75 [(0, .ref h), (1, .ref q1), (2, .ref a2), (3, .ref a3), (4, .int x4), (5, .int x5)] [] V 0 0 := by
  unfold F_X4_playRaid_75 at H
  refine s_iconst (v := 0) dX4_playRaid_75 (by decide) ?_
  exact t_loc [0, 1, 2, 3, 4, 5] rfl (v_X4_playRaid_76 h q1 hh hq1   a2 a3 x4 x5 0 ha2 ha3 H)
def F_X4_playRaid_48 (J : Nat → Nat → Int64) (h : Nat) (q1 : Nat) (a2 : Nat) (a3 : Nat) (x4 : Int32) (s0 : Int32) (V : Nat → Nat → Int32) (Qr : Option Value → (Nat → Nat → Int32) → Prop) (Qx : String → (Nat → Nat → Int32) → Prop) : Prop :=
((¬ x4 = 0) →
  F_X4_playRaid_75 J h q1  a2 a3 x4 s0 V Qr Qx) ∧
((x4 = 0) →
  CTc J mX2_has [.ref q1, .int 1] V (fun r V1 =>
    ∃ b1 : Bool, r = some (.int (bI b1)) ∧
    ((b1 = true) →
      F_X4_playRaid_75 J h q1  a2 a3 x4 s0 V1 Qr Qx) ∧
    ((b1 = false) →
      CTc J mX2_has [.ref q1, .int 2] V1 (fun r V2 =>
        ∃ b2 : Bool, r = some (.int (bI b2)) ∧
        ((b2 = true) →
          F_X4_playRaid_75 J h q1  a2 a3 x4 s0 V2 Qr Qx) ∧
        ((b2 = false) →
          F_X4_playRaid_76 J h q1  a2 a3 x4 s0 1 V2 Qr Qx)) Qx)) Qx)
theorem v_X4_playRaid_48 {J : Nat → Nat → Int64} (h : Nat) (q1 : Nat) (hh : isMats h) (hq1 : isEv q1) {Qr : Option Value → (Nat → Nat → Int32) → Prop} {Qx : String → (Nat → Nat → Int32) → Prop} (a2 : Nat) (a3 : Nat) (x4 : Int32) (s0 : Int32) (ha2 : isSide a2) (ha3 : isSide a3) {V : Nat → Nat → Int32} (H : F_X4_playRaid_48 J h q1  a2 a3 x4 s0 V Qr Qx) : WPc J mX4_playRaid Qr Qx 48 [(0, .ref h), (1, .ref q1), (2, .ref a2), (3, .ref a3), (4, .int x4)] [.int s0] V 0 0 := by
  unfold F_X4_playRaid_48 at H
  refine t_istore (L' := [(5, .int s0), (0, .ref h), (1, .ref q1), (2, .ref a2), (3, .ref a3), (4, .int x4)]) dX4_playRaid_48 (by decide) rfl ?_
  refine s_iload dX4_playRaid_50 rfl ?_
  refine s_if_ne (tgt := 75) dX4_playRaid_52 (by decide) (fun c => ?_) (fun c => ?_)
  · have H := H.1 c
    exact t_loc [1, 2, 3, 4, 5, 0] rfl (v_X4_playRaid_75 h q1 hh hq1   a2 a3 x4 s0 ha2 ha3 H)
  · have H := H.2 c
    refine s_aload_n dX4_playRaid_55 rfl ?_
    refine s_iconst (v := 1) dX4_playRaid_56 (by decide) ?_
    refine t_cV (h := q1) (As := [.int 1]) (st := []) iv_4_124 dX4_playRaid_57 ⟨by decide, by decide⟩ rfl (Nat.le_of_ble_eq_true rfl) (by decide) (by decide) rfl (ev_o hq1) H (fun r V1 H => ?_)
    obtain ⟨b1, rfl, H⟩ := H
    refine s_if_ne (tgt := 75) dX4_playRaid_60 (by decide) (fun c => ?_) (fun c => ?_)
    · have H := H.1 (bI_t c)
      exact t_loc [1, 2, 3, 4, 5, 0] rfl (v_X4_playRaid_75 h q1 hh hq1   a2 a3 x4 s0 ha2 ha3 H)
    · have H := H.2 (bI_f c)
      refine s_aload_n dX4_playRaid_63 rfl ?_
      refine s_iconst (v := 2) dX4_playRaid_64 (by decide) ?_
      refine t_cV (h := q1) (As := [.int 2]) (st := []) iv_4_124 dX4_playRaid_65 ⟨by decide, by decide⟩ rfl (Nat.le_of_ble_eq_true rfl) (by decide) (by decide) rfl (ev_o hq1) H (fun r V2 H => ?_)
      obtain ⟨b2, rfl, H⟩ := H
      refine s_if_ne (tgt := 75) dX4_playRaid_68 (by decide) (fun c => ?_) (fun c => ?_)
      · have H := H.1 (bI_t c)
        exact t_loc [1, 2, 3, 4, 5, 0] rfl (v_X4_playRaid_75 h q1 hh hq1   a2 a3 x4 s0 ha2 ha3 H)
      · have H := H.2 (bI_f c)
        refine s_iconst (v := 1) dX4_playRaid_71 (by decide) ?_
        refine s_goto (tgt := 76) dX4_playRaid_72 (by decide) ?_
        exact t_loc [1, 2, 3, 4, 5, 0] rfl (v_X4_playRaid_76 h q1 hh hq1   a2 a3 x4 s0 1 ha2 ha3 H)
def F_X4_playRaid_47 (J : Nat → Nat → Int64) (h : Nat) (q1 : Nat) (a2 : Nat) (a3 : Nat) (x4 : Int32) (V : Nat → Nat → Int32) (Qr : Option Value → (Nat → Nat → Int32) → Prop) (Qx : String → (Nat → Nat → Int32) → Prop) : Prop :=
F_X4_playRaid_48 J h q1  a2 a3 x4 0 V Qr Qx
theorem v_X4_playRaid_47 {J : Nat → Nat → Int64} (h : Nat) (q1 : Nat) (hh : isMats h) (hq1 : isEv q1) {Qr : Option Value → (Nat → Nat → Int32) → Prop} {Qx : String → (Nat → Nat → Int32) → Prop} (a2 : Nat) (a3 : Nat) (x4 : Int32) (ha2 : isSide a2) (ha3 : isSide a3) {V : Nat → Nat → Int32} (H : F_X4_playRaid_47 J h q1  a2 a3 x4 V Qr Qx) : WPc J mX4_playRaid Qr Qx 47 [(0, .ref h), (1, .ref q1), (2, .ref a2), (3, .ref a3), (4, .int x4)] [] V 0 0 := by
  unfold F_X4_playRaid_47 at H
  refine s_iconst (v := 0) dX4_playRaid_47 (by decide) ?_
  exact t_loc [0, 1, 2, 3, 4] rfl (v_X4_playRaid_48 h q1 hh hq1   a2 a3 x4 0 ha2 ha3 H)
def F_X4_playRaid (J : Nat → Nat → Int64) (h : Nat) (q1 : Nat) (V : Nat → Nat → Int32) (Qr : Option Value → (Nat → Nat → Int32) → Prop) (Qx : String → (Nat → Nat → Int32) → Prop) : Prop :=
CTc J mX4_turn [.ref h] V (fun r V1 =>
  ∃ r1 : Int32, r = some (.int r1) ∧
  CTc J mX4_sideAt [.ref h, .int r1] V1 (fun r V2 =>
    ∃ c2 : Nat, r = some (.ref c2) ∧ isSide c2 ∧
    CTc J mX4_turn [.ref h] V2 (fun r V3 =>
      ∃ r3 : Int32, r = some (.int r3) ∧
      CTc J mX4_sideAt [.ref h, .int (1 - r3)] V3 (fun r V4 =>
        ∃ c4 : Nat, r = some (.ref c4) ∧ isSide c4 ∧
        CTc J mX2_countTouches [.ref q1] V4 (fun r V5 =>
          ∃ r5 : Int32, r = some (.int r5) ∧
          CTc J mX2_has [.ref q1, .int 1] V5 (fun r V6 =>
            ∃ b6 : Bool, r = some (.int (bI b6)) ∧
            ((b6 = false) →
              F_X4_playRaid_47 J h q1  c2 c4 r5 V6 Qr Qx) ∧
            ((b6 = true) →
              CTc J mX6_countStanding [.ref c4] V6 (fun r V7 =>
                ∃ r7 : Int32, r = some (.int r7) ∧
                ((r7 < 6) →
                  F_X4_playRaid_47 J h q1  c2 c4 r5 V7 Qr Qx) ∧
                ((¬ r7 < 6) →
                  F_X4_playRaid_48 J h q1  c2 c4 r5 1 V7 Qr Qx)) Qx)) Qx) Qx) Qx) Qx) Qx) Qx
theorem v_X4_playRaid {J : Nat → Nat → Int64} (h : Nat) (q1 : Nat) (hh : isMats h) (hq1 : isEv q1) {V : Nat → Nat → Int32} {Qr : Option Value → (Nat → Nat → Int32) → Prop} {Qx : String → (Nat → Nat → Int32) → Prop} (H : F_X4_playRaid J h q1 V Qr Qx) : CTc J mX4_playRaid [.ref h, .ref q1] V Qr Qx := by
  refine ctc_of (M := (T0 J, V)) pX4_playRaid (fun _ _ => rfl) (Nat.le_of_ble_eq_true rfl) ?_
  unfold F_X4_playRaid at H
  show WPc J mX4_playRaid Qr Qx 0 [(0, .ref h), (1, .ref q1)] [] V 0 0
  refine s_aload_n dX4_playRaid_0 rfl ?_
  refine s_aload_n dX4_playRaid_1 rfl ?_
  refine t_cV (h := h) (As := []) (st := [.ref h]) iv_4_31 dX4_playRaid_2 ⟨by decide, by decide⟩ rfl (Nat.le_of_ble_eq_true rfl) (by decide) (by decide) rfl (mt_o hh) H (fun r V1 H => ?_)
  obtain ⟨r1, rfl, H⟩ := H
  refine t_cV (h := h) (As := [.int r1]) (st := []) iv_4_35 dX4_playRaid_5 ⟨by decide, by decide⟩ rfl (Nat.le_of_ble_eq_true rfl) (by decide) (by decide) rfl (mt_o hh) H (fun r V2 H => ?_)
  obtain ⟨c2, rfl, hc2, H⟩ := H
  refine t_astore_n (L' := [(2, .ref c2), (0, .ref h), (1, .ref q1)]) dX4_playRaid_8 (by decide) rfl ?_
  refine s_aload_n dX4_playRaid_9 rfl ?_
  refine s_iconst (v := 1) dX4_playRaid_10 (by decide) ?_
  refine s_aload_n dX4_playRaid_11 rfl ?_
  refine t_cV (h := h) (As := []) (st := [.int 1, .ref h]) iv_4_31 dX4_playRaid_12 ⟨by decide, by decide⟩ rfl (Nat.le_of_ble_eq_true rfl) (by decide) (by decide) rfl (mt_o hh) H (fun r V3 H => ?_)
  obtain ⟨r3, rfl, H⟩ := H
  refine s_isub dX4_playRaid_15 ?_
  refine t_cV (h := h) (As := [.int (1 - r3)]) (st := []) iv_4_35 dX4_playRaid_16 ⟨by decide, by decide⟩ rfl (Nat.le_of_ble_eq_true rfl) (by decide) (by decide) rfl (mt_o hh) H (fun r V4 H => ?_)
  obtain ⟨c4, rfl, hc4, H⟩ := H
  refine t_astore_n (L' := [(3, .ref c4), (2, .ref c2), (0, .ref h), (1, .ref q1)]) dX4_playRaid_19 (by decide) rfl ?_
  refine s_aload_n dX4_playRaid_20 rfl ?_
  refine t_cV (h := q1) (As := []) (st := []) iv_4_121 dX4_playRaid_21 ⟨by decide, by decide⟩ rfl (Nat.le_of_ble_eq_true rfl) (by decide) (by decide) rfl (ev_o hq1) H (fun r V5 H => ?_)
  obtain ⟨r5, rfl, H⟩ := H
  refine t_istore (L' := [(4, .int r5), (3, .ref c4), (2, .ref c2), (0, .ref h), (1, .ref q1)]) dX4_playRaid_24 (by decide) rfl ?_
  refine s_aload_n dX4_playRaid_26 rfl ?_
  refine s_iconst (v := 1) dX4_playRaid_27 (by decide) ?_
  refine t_cV (h := q1) (As := [.int 1]) (st := []) iv_4_124 dX4_playRaid_28 ⟨by decide, by decide⟩ rfl (Nat.le_of_ble_eq_true rfl) (by decide) (by decide) rfl (ev_o hq1) H (fun r V6 H => ?_)
  obtain ⟨b6, rfl, H⟩ := H
  refine s_if_eq (tgt := 47) dX4_playRaid_31 (by decide) (fun c => ?_) (fun c => ?_)
  · have H := H.1 (bI_f c)
    exact t_loc [3, 4, 2, 1, 0] rfl (v_X4_playRaid_47 h q1 hh hq1   c2 c4 r5 hc2 hc4 H)
  · have H := H.2 (bI_t c)
    refine s_aload_n dX4_playRaid_34 rfl ?_
    refine t_cV (h := c4) (As := []) (st := []) iv_4_127 dX4_playRaid_35 ⟨by decide, by decide⟩ rfl (Nat.le_of_ble_eq_true rfl) (by decide) (by decide) rfl (sd_o hc4) H (fun r V7 H => ?_)
    obtain ⟨r7, rfl, H⟩ := H
    refine s_bipush (v := 6) dX4_playRaid_38 (by decide) ?_
    refine s_icmp_lt (tgt := 47) dX4_playRaid_40 (by decide) (fun c => ?_) (fun c => ?_)
    · have H := H.1 c
      exact t_loc [3, 4, 2, 1, 0] rfl (v_X4_playRaid_47 h q1 hh hq1   c2 c4 r5 hc2 hc4 H)
    · have H := H.2 c
      refine s_iconst (v := 1) dX4_playRaid_43 (by decide) ?_
      refine s_goto (tgt := 48) dX4_playRaid_44 (by decide) ?_
      exact t_loc [3, 4, 2, 1, 0] rfl (v_X4_playRaid_48 h q1 hh hq1   c2 c4 r5 1 hc2 hc4 H)

def F_X4_loseRaider (J : Nat → Nat → Int64) (q1 : Nat) (q2 : Nat) (p3 : Int32) (p4 : Int32) (V : Nat → Nat → Int32) (Qr : Option Value → (Nat → Nat → Int32) → Prop) (Qx : String → (Nat → Nat → Int32) → Prop) : Prop :=
CTc J mX6_sendOut [.ref q1, .int p3] V (fun r V1 =>
  r = none ∧
  CTc J mX6_comeBack [.ref q2, .int 1] (up2 V1 q2 7 ((V1 q2 7) + p4)) (fun r V2 =>
    r = none ∧
    Qr none V2) Qx) Qx
theorem v_X4_loseRaider {J : Nat → Nat → Int64} (q1 : Nat) (q2 : Nat) (p3 : Int32) (p4 : Int32) (hq1 : isSide q1) (hq2 : isSide q2) {V : Nat → Nat → Int32} {Qr : Option Value → (Nat → Nat → Int32) → Prop} {Qx : String → (Nat → Nat → Int32) → Prop} (H : F_X4_loseRaider J q1 q2 p3 p4 V Qr Qx) : CTc J mX4_loseRaider [.ref q1, .ref q2, .int p3, .int p4] V Qr Qx := by
  refine ctc_of (M := (T0 J, V)) pX4_loseRaider (fun _ _ => rfl) (Nat.le_of_ble_eq_true rfl) ?_
  unfold F_X4_loseRaider at H
  show WPc J mX4_loseRaider Qr Qx 0 [(0, .ref q1), (1, .ref q2), (2, .int p3), (3, .int p4)] [] V 0 0
  refine s_aload_n dX4_loseRaider_0 rfl ?_
  refine s_iload_n dX4_loseRaider_1 rfl ?_
  refine t_cV (h := q1) (As := [.int p3]) (st := []) iv_4_157 dX4_loseRaider_2 ⟨by decide, by decide⟩ rfl (Nat.le_of_ble_eq_true rfl) (by decide) (by decide) rfl (sd_o hq1) H (fun r V1 H => ?_)
  obtain ⟨rfl, H⟩ := H
  refine s_aload_n dX4_loseRaider_5 rfl ?_
  refine s_dup dX4_loseRaider_6 rfl ?_
  refine t_getI fl_4_114 dX4_loseRaider_7 (sd_o hq2) rfl ?_
  refine s_iload_n dX4_loseRaider_10 rfl ?_
  refine s_iadd dX4_loseRaider_11 ?_
  refine t_putI fl_4_114 dX4_loseRaider_12 (sd_o hq2) (Or.inl rfl) ?_
  refine s_aload_n dX4_loseRaider_15 rfl ?_
  refine s_iconst (v := 1) dX4_loseRaider_16 (by decide) ?_
  refine t_cV (h := q2) (As := [.int 1]) (st := []) iv_4_144 dX4_loseRaider_17 ⟨by decide, by decide⟩ rfl (Nat.le_of_ble_eq_true rfl) (by decide) (by decide) rfl (sd_o hq2) H (fun r V2 H => ?_)
  obtain ⟨rfl, H⟩ := H
  exact s_vret dX4_loseRaider_20 rfl ⟨rfl, H⟩

def F_X4_sendTouchedOut_33 (J : Nat → Nat → Int64) (q1 : Nat) (q2 : Nat) (K2 : Int32 → (Nat → Nat → Int32) → Prop) (x2 : Int32) (V : Nat → Nat → Int32) (Qr : Option Value → (Nat → Nat → Int32) → Prop) (Qx : String → (Nat → Nat → Int32) → Prop) : Prop :=
K2 (x2 + 1) V
theorem v_X4_sendTouchedOut_33 {J : Nat → Nat → Int64} (q1 : Nat) (q2 : Nat) (hq1 : isEv q1) (hq2 : isSide q2) {Qr : Option Value → (Nat → Nat → Int32) → Prop} {Qx : String → (Nat → Nat → Int32) → Prop} (K2 : Int32 → (Nat → Nat → Int32) → Prop) (hK2 : ∀ (x2 : Int32)  (V : Nat → Nat → Int32), K2 x2 V → WPc J mX4_sendTouchedOut Qr Qx 2 [(0, .ref q1), (1, .ref q2), (2, .int x2)] [] V 0 0) (x2 : Int32)  {V : Nat → Nat → Int32} (H : F_X4_sendTouchedOut_33 J q1 q2 K2 x2 V Qr Qx) : WPc J mX4_sendTouchedOut Qr Qx 33 [(0, .ref q1), (1, .ref q2), (2, .int x2)] [] V 0 0 := by
  unfold F_X4_sendTouchedOut_33 at H
  refine t_iinc (v := (x2 + 1)) (L' := [(2, .int (x2 + 1)), (0, .ref q1), (1, .ref q2)]) dX4_sendTouchedOut_33 rfl (by rfl) (by decide) rfl ?_
  refine s_goto (tgt := 2) dX4_sendTouchedOut_36 (by decide) ?_
  exact t_loc [1, 2, 0] rfl (hK2 (x2 + 1)  V H)
def B_X4_sendTouchedOut_2 (J : Nat → Nat → Int64) (q1 : Nat) (q2 : Nat) (K2 : Int32 → (Nat → Nat → Int32) → Prop) (x2 : Int32) (V : Nat → Nat → Int32) (Qr : Option Value → (Nat → Nat → Int32) → Prop) (Qx : String → (Nat → Nat → Int32) → Prop) : Prop :=
(((V q1 9) ≤ x2) →
  Qr none V) ∧
((¬ (V q1 9) ≤ x2) →
  ((10 ≤ x2) →
    Qr none V) ∧
  ((¬ 10 ≤ x2) →
    CTc J mX2_kindAt [.ref q1, .int x2] V (fun r V1 =>
      ∃ r1 : Int32, r = some (.int r1) ∧
      ((¬ r1 = 0) →
        F_X4_sendTouchedOut_33 J q1 q2 K2 x2 V1 Qr Qx) ∧
      ((r1 = 0) →
        CTc J mX2_whoAt [.ref q1, .int x2] V1 (fun r V2 =>
          ∃ r2 : Int32, r = some (.int r2) ∧
          CTc J mX6_sendOut [.ref q2, .int r2] V2 (fun r V3 =>
            r = none ∧
            F_X4_sendTouchedOut_33 J q1 q2 K2 x2 V3 Qr Qx) Qx) Qx)) Qx))
def F_X4_sendTouchedOut_2 (J : Nat → Nat → Int64) (q1 : Nat) (q2 : Nat) (x2 : Int32) (V : Nat → Nat → Int32) (Qr : Option Value → (Nat → Nat → Int32) → Prop) (Qx : String → (Nat → Nat → Int32) → Prop) : Prop :=
  ∃ I : Nat → Int32 → (Nat → Nat → Int32) → Prop, (∃ n, I n x2 V) ∧ ∀ n (x2 : Int32) (V : Nat → Nat → Int32), I n x2 V → B_X4_sendTouchedOut_2 J q1 q2  (fun x2 V => ∃ n', n' < n ∧ I n' x2 V) x2 V Qr Qx
theorem v_X4_sendTouchedOut_2 {J : Nat → Nat → Int64} (q1 : Nat) (q2 : Nat) (hq1 : isEv q1) (hq2 : isSide q2) {Qr : Option Value → (Nat → Nat → Int32) → Prop} {Qx : String → (Nat → Nat → Int32) → Prop} (x2 : Int32)  {V : Nat → Nat → Int32} (H : F_X4_sendTouchedOut_2 J q1 q2  x2 V Qr Qx) : WPc J mX4_sendTouchedOut Qr Qx 2 [(0, .ref q1), (1, .ref q2), (2, .int x2)] [] V 0 0 := by
  obtain ⟨I, ⟨n0, h0⟩, hs⟩ := H
  have step : ∀ (K2 : Int32 → (Nat → Nat → Int32) → Prop), (∀ (x2 : Int32)  (V : Nat → Nat → Int32), K2 x2 V → WPc J mX4_sendTouchedOut Qr Qx 2 [(0, .ref q1), (1, .ref q2), (2, .int x2)] [] V 0 0) → ∀ (x2 : Int32)  (V : Nat → Nat → Int32), B_X4_sendTouchedOut_2 J q1 q2  K2 x2 V Qr Qx → WPc J mX4_sendTouchedOut Qr Qx 2 [(0, .ref q1), (1, .ref q2), (2, .int x2)] [] V 0 0 := by
    intro K2 hK2 x2  V H
    unfold B_X4_sendTouchedOut_2 at H
    refine s_iload_n dX4_sendTouchedOut_2 rfl ?_
    refine s_aload_n dX4_sendTouchedOut_3 rfl ?_
    refine t_getI fl_4_78 dX4_sendTouchedOut_4 (ev_o hq1) rfl ?_
    refine s_icmp_ge (tgt := 39) dX4_sendTouchedOut_7 (by decide) (fun c => ?_) (fun c => ?_)
    · have H := H.1 c
      exact s_vret dX4_sendTouchedOut_39 rfl ⟨rfl, H⟩
    · have H := H.2 c
      refine s_iload_n dX4_sendTouchedOut_10 rfl ?_
      refine s_bipush (v := 10) dX4_sendTouchedOut_11 (by decide) ?_
      refine s_icmp_ge (tgt := 39) dX4_sendTouchedOut_13 (by decide) (fun c => ?_) (fun c => ?_)
      · have H := H.1 c
        exact s_vret dX4_sendTouchedOut_39 rfl ⟨rfl, H⟩
      · have H := H.2 c
        refine s_aload_n dX4_sendTouchedOut_16 rfl ?_
        refine s_iload_n dX4_sendTouchedOut_17 rfl ?_
        refine t_cV (h := q1) (As := [.int x2]) (st := []) iv_4_81 dX4_sendTouchedOut_18 ⟨by decide, by decide⟩ rfl (Nat.le_of_ble_eq_true rfl) (by decide) (by decide) rfl (ev_o hq1) H (fun r V1 H => ?_)
        obtain ⟨r1, rfl, H⟩ := H
        refine s_if_ne (tgt := 33) dX4_sendTouchedOut_21 (by decide) (fun c => ?_) (fun c => ?_)
        · have H := H.1 c
          exact t_loc [0, 1, 2] rfl (v_X4_sendTouchedOut_33 q1 q2 hq1 hq2 K2 hK2 x2  H)
        · have H := H.2 c
          refine s_aload_n dX4_sendTouchedOut_24 rfl ?_
          refine s_aload_n dX4_sendTouchedOut_25 rfl ?_
          refine s_iload_n dX4_sendTouchedOut_26 rfl ?_
          refine t_cV (h := q1) (As := [.int x2]) (st := [.ref q2]) iv_4_85 dX4_sendTouchedOut_27 ⟨by decide, by decide⟩ rfl (Nat.le_of_ble_eq_true rfl) (by decide) (by decide) rfl (ev_o hq1) H (fun r V2 H => ?_)
          obtain ⟨r2, rfl, H⟩ := H
          refine t_cV (h := q2) (As := [.int r2]) (st := []) iv_4_157 dX4_sendTouchedOut_30 ⟨by decide, by decide⟩ rfl (Nat.le_of_ble_eq_true rfl) (by decide) (by decide) rfl (sd_o hq2) H (fun r V3 H => ?_)
          obtain ⟨rfl, H⟩ := H
          exact t_loc [0, 1, 2] rfl (v_X4_sendTouchedOut_33 q1 q2 hq1 hq2 K2 hK2 x2  H)
  have key : ∀ n, ∀ (x2 : Int32)  (V : Nat → Nat → Int32), I n x2 V → WPc J mX4_sendTouchedOut Qr Qx 2 [(0, .ref q1), (1, .ref q2), (2, .int x2)] [] V 0 0 := by
    refine strong (fun n ih => ?_)
    intro x2  V hI
    exact step _ (fun x2  V hz => Exists.elim hz (fun n1 hz => ih n1 hz.1 x2  V hz.2)) x2  V (hs n x2 V hI)
  exact key n0 x2  V h0
def F_X4_sendTouchedOut (J : Nat → Nat → Int64) (q1 : Nat) (q2 : Nat) (V : Nat → Nat → Int32) (Qr : Option Value → (Nat → Nat → Int32) → Prop) (Qx : String → (Nat → Nat → Int32) → Prop) : Prop :=
F_X4_sendTouchedOut_2 J q1 q2  0 V Qr Qx
theorem v_X4_sendTouchedOut {J : Nat → Nat → Int64} (q1 : Nat) (q2 : Nat) (hq1 : isEv q1) (hq2 : isSide q2) {V : Nat → Nat → Int32} {Qr : Option Value → (Nat → Nat → Int32) → Prop} {Qx : String → (Nat → Nat → Int32) → Prop} (H : F_X4_sendTouchedOut J q1 q2 V Qr Qx) : CTc J mX4_sendTouchedOut [.ref q1, .ref q2] V Qr Qx := by
  refine ctc_of (M := (T0 J, V)) pX4_sendTouchedOut (fun _ _ => rfl) (Nat.le_of_ble_eq_true rfl) ?_
  unfold F_X4_sendTouchedOut at H
  show WPc J mX4_sendTouchedOut Qr Qx 0 [(0, .ref q1), (1, .ref q2)] [] V 0 0
  refine s_iconst (v := 0) dX4_sendTouchedOut_0 (by decide) ?_
  refine t_istore_n (L' := [(2, .int 0), (0, .ref q1), (1, .ref q2)]) dX4_sendTouchedOut_1 (by decide) rfl ?_
  exact t_loc [1, 2, 0] rfl (v_X4_sendTouchedOut_2 q1 q2 hq1 hq2   0  H)

def F_X4_passTime (J : Nat → Nat → Int64) (h : Nat) (p1 : Int32) (V : Nat → Nat → Int32) (Qr : Option Value → (Nat → Nat → Int32) → Prop) (Qx : String → (Nat → Nat → Int32) → Prop) : Prop :=
CTc J mX6_endSuspensions [.ref (h + 1), .int ((up2 (up2 V h 2 ((V h 2) + p1)) h 3 (((up2 V h 2 ((V h 2) + p1)) h 3) + 1)) h 2)] (up2 (up2 V h 2 ((V h 2) + p1)) h 3 (((up2 V h 2 ((V h 2) + p1)) h 3) + 1)) (fun r V1 =>
  r = none ∧
  CTc J mX6_endSuspensions [.ref (h + 7), .int (V1 h 2)] V1 (fun r V2 =>
    r = none ∧
    Qr none V2) Qx) Qx
theorem v_X4_passTime {J : Nat → Nat → Int64} (h : Nat) (p1 : Int32) (hh : isMats h) {V : Nat → Nat → Int32} {Qr : Option Value → (Nat → Nat → Int32) → Prop} {Qx : String → (Nat → Nat → Int32) → Prop} (H : F_X4_passTime J h p1 V Qr Qx) : CTc J mX4_passTime [.ref h, .int p1] V Qr Qx := by
  refine ctc_of (M := (T0 J, V)) pX4_passTime (fun _ _ => rfl) (Nat.le_of_ble_eq_true rfl) ?_
  unfold F_X4_passTime at H
  show WPc J mX4_passTime Qr Qx 0 [(0, .ref h), (1, .int p1)] [] V 0 0
  refine s_aload_n dX4_passTime_0 rfl ?_
  refine s_dup dX4_passTime_1 rfl ?_
  refine t_getI fl_4_24 dX4_passTime_2 (mt_o hh) rfl ?_
  refine s_iload_n dX4_passTime_5 rfl ?_
  refine s_iadd dX4_passTime_6 ?_
  refine t_putI fl_4_24 dX4_passTime_7 (mt_o hh) (Or.inl rfl) ?_
  refine s_aload_n dX4_passTime_10 rfl ?_
  refine s_dup dX4_passTime_11 rfl ?_
  refine t_getI fl_4_28 dX4_passTime_12 (mt_o hh) rfl ?_
  refine s_iconst (v := 1) dX4_passTime_15 (by decide) ?_
  refine s_iadd dX4_passTime_16 ?_
  refine t_putI fl_4_28 dX4_passTime_17 (mt_o hh) (Or.inl rfl) ?_
  refine s_aload_n dX4_passTime_20 rfl ?_
  refine t_getR (r := (h + 1)) fl_4_12 dX4_passTime_21 (mt_o hh) rfl (mt_r0 hh) ?_
  refine s_aload_n dX4_passTime_24 rfl ?_
  refine t_getI fl_4_24 dX4_passTime_25 (mt_o hh) rfl ?_
  refine t_cV (h := (h + 1)) (As := [.int ((up2 (up2 V h 2 ((V h 2) + p1)) h 3 (((up2 V h 2 ((V h 2) + p1)) h 3) + 1)) h 2)]) (st := []) iv_4_160 dX4_passTime_28 ⟨by decide, by decide⟩ rfl (Nat.le_of_ble_eq_true rfl) (by decide) (by decide) rfl (sd_o (mt_s0 hh)) H (fun r V1 H => ?_)
  obtain ⟨rfl, H⟩ := H
  refine s_aload_n dX4_passTime_31 rfl ?_
  refine t_getR (r := (h + 7)) fl_4_18 dX4_passTime_32 (mt_o hh) rfl (mt_r1 hh) ?_
  refine s_aload_n dX4_passTime_35 rfl ?_
  refine t_getI fl_4_24 dX4_passTime_36 (mt_o hh) rfl ?_
  refine t_cV (h := (h + 7)) (As := [.int (V1 h 2)]) (st := []) iv_4_160 dX4_passTime_39 ⟨by decide, by decide⟩ rfl (Nat.le_of_ble_eq_true rfl) (by decide) (by decide) rfl (sd_o (mt_s1 hh)) H (fun r V2 H => ?_)
  obtain ⟨rfl, H⟩ := H
  exact s_vret dX4_passTime_42 rfl ⟨rfl, H⟩

def F_X4_endAllOut (J : Nat → Nat → Int64) (h : Nat) (p1 : Int32) (V : Nat → Nat → Int32) (Qr : Option Value → (Nat → Nat → Int32) → Prop) (Qx : String → (Nat → Nat → Int32) → Prop) : Prop :=
CTc J mX4_sideAt [.ref h, .int p1] V (fun r V1 =>
  ∃ c1 : Nat, r = some (.ref c1) ∧ isSide c1 ∧
  CTc J mX6_count [.ref c1, .int 0] V1 (fun r V2 =>
    ∃ r2 : Int32, r = some (.int r2) ∧
    ((¬ r2 = 0) →
      Qr none V2) ∧
    ((r2 = 0) →
      CTc J mX4_sideAt [.ref h, .int (1 - p1)] V2 (fun r V3 =>
        ∃ c3 : Nat, r = some (.ref c3) ∧ isSide c3 ∧
        CTc J mX6_comeBack [.ref c1, .int 10] (up2 V3 c3 7 ((V3 c3 7) + 2)) (fun r V4 =>
          r = none ∧
          Qr none V4) Qx) Qx)) Qx) Qx
theorem v_X4_endAllOut {J : Nat → Nat → Int64} (h : Nat) (p1 : Int32) (hh : isMats h) {V : Nat → Nat → Int32} {Qr : Option Value → (Nat → Nat → Int32) → Prop} {Qx : String → (Nat → Nat → Int32) → Prop} (H : F_X4_endAllOut J h p1 V Qr Qx) : CTc J mX4_endAllOut [.ref h, .int p1] V Qr Qx := by
  refine ctc_of (M := (T0 J, V)) pX4_endAllOut (fun _ _ => rfl) (Nat.le_of_ble_eq_true rfl) ?_
  unfold F_X4_endAllOut at H
  show WPc J mX4_endAllOut Qr Qx 0 [(0, .ref h), (1, .int p1)] [] V 0 0
  refine s_aload_n dX4_endAllOut_0 rfl ?_
  refine s_iload_n dX4_endAllOut_1 rfl ?_
  refine t_cV (h := h) (As := [.int p1]) (st := []) iv_4_35 dX4_endAllOut_2 ⟨by decide, by decide⟩ rfl (Nat.le_of_ble_eq_true rfl) (by decide) (by decide) rfl (mt_o hh) H (fun r V1 H => ?_)
  obtain ⟨c1, rfl, hc1, H⟩ := H
  refine t_astore_n (L' := [(2, .ref c1), (0, .ref h), (1, .int p1)]) dX4_endAllOut_5 (by decide) rfl ?_
  refine s_aload_n dX4_endAllOut_6 rfl ?_
  refine s_iconst (v := 0) dX4_endAllOut_7 (by decide) ?_
  refine t_cV (h := c1) (As := [.int 0]) (st := []) iv_4_163 dX4_endAllOut_8 ⟨by decide, by decide⟩ rfl (Nat.le_of_ble_eq_true rfl) (by decide) (by decide) rfl (sd_o hc1) H (fun r V2 H => ?_)
  obtain ⟨r2, rfl, H⟩ := H
  refine s_if_ne (tgt := 36) dX4_endAllOut_11 (by decide) (fun c => ?_) (fun c => ?_)
  · have H := H.1 c
    exact s_vret dX4_endAllOut_36 rfl ⟨rfl, H⟩
  · have H := H.2 c
    refine s_aload_n dX4_endAllOut_14 rfl ?_
    refine s_iconst (v := 1) dX4_endAllOut_15 (by decide) ?_
    refine s_iload_n dX4_endAllOut_16 rfl ?_
    refine s_isub dX4_endAllOut_17 ?_
    refine t_cV (h := h) (As := [.int (1 - p1)]) (st := []) iv_4_35 dX4_endAllOut_18 ⟨by decide, by decide⟩ rfl (Nat.le_of_ble_eq_true rfl) (by decide) (by decide) rfl (mt_o hh) H (fun r V3 H => ?_)
    obtain ⟨c3, rfl, hc3, H⟩ := H
    refine s_dup dX4_endAllOut_21 rfl ?_
    refine t_getI fl_4_114 dX4_endAllOut_22 (sd_o hc3) rfl ?_
    refine s_iconst (v := 2) dX4_endAllOut_25 (by decide) ?_
    refine s_iadd dX4_endAllOut_26 ?_
    refine t_putI fl_4_114 dX4_endAllOut_27 (sd_o hc3) (Or.inl rfl) ?_
    refine s_aload_n dX4_endAllOut_30 rfl ?_
    refine s_bipush (v := 10) dX4_endAllOut_31 (by decide) ?_
    refine t_cV (h := c1) (As := [.int 10]) (st := []) iv_4_144 dX4_endAllOut_33 ⟨by decide, by decide⟩ rfl (Nat.le_of_ble_eq_true rfl) (by decide) (by decide) rfl (sd_o hc1) H (fun r V4 H => ?_)
    obtain ⟨rfl, H⟩ := H
    exact s_vret dX4_endAllOut_36 rfl ⟨rfl, H⟩
