def F_X1_isThere (J : Nat → Nat → Int64)  (V : Nat → Nat → Int32) (Qr : Option Value → (Nat → Nat → Int32) → Prop) (Qx : String → (Nat → Nat → Int32) → Prop) : Prop :=
((V 1 4) = 0 ∨ (V 1 4) = 1) ∧ Qr (some (.int (V 1 4))) V
theorem v_X1_isThere {J : Nat → Nat → Int64}  {V : Nat → Nat → Int32} {Qr : Option Value → (Nat → Nat → Int32) → Prop} {Qx : String → (Nat → Nat → Int32) → Prop} (H : F_X1_isThere J  V Qr Qx) : CTc J mX1_isThere [.ref 1] V Qr Qx := by
  refine ctc_of (M := (T0 J, V)) pX1_isThere (fun _ _ => rfl) (Nat.le_of_ble_eq_true rfl) ?_
  unfold F_X1_isThere at H
  show WPc J mX1_isThere Qr Qx 0 [(0, .ref 1)] [] V 0 0
  refine s_aload_n dX1_isThere_0 rfl ?_
  refine t_getI fl_1_28 dX1_isThere_1 ob_1 rfl ?_
  exact s_iret dX1_isThere_4 (Or.inr ⟨rfl, H.1⟩) ⟨rfl, H.2⟩

def F_X1_open (J : Nat → Nat → Int64) (p1 : Int32) (p2 : Int32) (p3 : Int32) (V : Nat → Nat → Int32) (Qr : Option Value → (Nat → Nat → Int32) → Prop) (Qx : String → (Nat → Nat → Int32) → Prop) : Prop :=
CTc J mX4_reset [.ref 3] (up2 (up2 (up2 (up2 (up2 (up2 (up2 V 1 4 1) 1 5 0) 1 3 0) 1 6 p1) 1 7 p2) 1 8 p3) 1 10 0) (fun r V1 =>
  r = none ∧
  Qr (some (.int ((up2 V1 1 9 ((V1 1 9) + 1)) 1 9))) (up2 V1 1 9 ((V1 1 9) + 1))) Qx
theorem v_X1_open {J : Nat → Nat → Int64} (p1 : Int32) (p2 : Int32) (p3 : Int32) {V : Nat → Nat → Int32} {Qr : Option Value → (Nat → Nat → Int32) → Prop} {Qx : String → (Nat → Nat → Int32) → Prop} (H : F_X1_open J p1 p2 p3 V Qr Qx) : CTc J mX1_open [.ref 1, .int p1, .int p2, .int p3] V Qr Qx := by
  refine ctc_of (M := (T0 J, V)) pX1_open (fun _ _ => rfl) (Nat.le_of_ble_eq_true rfl) ?_
  unfold F_X1_open at H
  show WPc J mX1_open Qr Qx 0 [(0, .ref 1), (1, .int p1), (2, .int p2), (3, .int p3)] [] V 0 0
  refine s_aload_n dX1_open_0 rfl ?_
  refine s_iconst (v := 1) dX1_open_1 (by decide) ?_
  refine t_putI fl_1_28 dX1_open_2 ob_1 (Or.inr ⟨rfl, (Or.inr rfl)⟩) ?_
  refine s_aload_n dX1_open_5 rfl ?_
  refine s_iconst (v := 0) dX1_open_6 (by decide) ?_
  refine t_putI fl_1_32 dX1_open_7 ob_1 (Or.inr ⟨rfl, (Or.inl rfl)⟩) ?_
  refine s_aload_n dX1_open_10 rfl ?_
  refine s_iconst (v := 0) dX1_open_11 (by decide) ?_
  refine t_putI fl_1_35 dX1_open_12 ob_1 (Or.inl rfl) ?_
  refine s_aload_n dX1_open_15 rfl ?_
  refine s_iload_n dX1_open_16 rfl ?_
  refine t_putI fl_1_39 dX1_open_17 ob_1 (Or.inl rfl) ?_
  refine s_aload_n dX1_open_20 rfl ?_
  refine s_iload_n dX1_open_21 rfl ?_
  refine t_putI fl_1_42 dX1_open_22 ob_1 (Or.inl rfl) ?_
  refine s_aload_n dX1_open_25 rfl ?_
  refine s_iload_n dX1_open_26 rfl ?_
  refine t_putI fl_1_45 dX1_open_27 ob_1 (Or.inl rfl) ?_
  refine s_aload_n dX1_open_30 rfl ?_
  refine s_iconst (v := 0) dX1_open_31 (by decide) ?_
  refine t_putI fl_1_48 dX1_open_32 ob_1 (Or.inl rfl) ?_
  refine s_aload_n dX1_open_35 rfl ?_
  refine t_getR (r := 3) fl_1_20 dX1_open_36 ob_1 rfl rfl ?_
  refine t_cV (h := 3) (As := []) (st := []) iv_1_51 dX1_open_39 ⟨by decide, by decide⟩ rfl (Nat.le_of_ble_eq_true rfl) (by decide) (by decide) rfl (mt_o mt_3) H (fun r V1 H => ?_)
  obtain ⟨rfl, H⟩ := H
  refine s_aload_n dX1_open_42 rfl ?_
  refine s_dup dX1_open_43 rfl ?_
  refine t_getI fl_1_54 dX1_open_44 ob_1 rfl ?_
  refine s_iconst (v := 1) dX1_open_47 (by decide) ?_
  refine s_iadd dX1_open_48 ?_
  refine t_putI fl_1_54 dX1_open_49 ob_1 (Or.inl rfl) ?_
  refine s_aload_n dX1_open_52 rfl ?_
  refine t_getI fl_1_54 dX1_open_53 ob_1 rfl ?_
  exact s_iret dX1_open_56 (Or.inl rfl) ⟨rfl, H⟩

def F_X1_close (J : Nat → Nat → Int64)  (V : Nat → Nat → Int32) (Qr : Option Value → (Nat → Nat → Int32) → Prop) (Qx : String → (Nat → Nat → Int32) → Prop) : Prop :=
Qr none (up2 (up2 V 1 4 0) 1 3 0)
theorem v_X1_close {J : Nat → Nat → Int64}  {V : Nat → Nat → Int32} {Qr : Option Value → (Nat → Nat → Int32) → Prop} {Qx : String → (Nat → Nat → Int32) → Prop} (H : F_X1_close J  V Qr Qx) : CTc J mX1_close [.ref 1] V Qr Qx := by
  refine ctc_of (M := (T0 J, V)) pX1_close (fun _ _ => rfl) (Nat.le_of_ble_eq_true rfl) ?_
  unfold F_X1_close at H
  show WPc J mX1_close Qr Qx 0 [(0, .ref 1)] [] V 0 0
  refine s_aload_n dX1_close_0 rfl ?_
  refine s_iconst (v := 0) dX1_close_1 (by decide) ?_
  refine t_putI fl_1_28 dX1_close_2 ob_1 (Or.inr ⟨rfl, (Or.inl rfl)⟩) ?_
  refine s_aload_n dX1_close_5 rfl ?_
  refine s_iconst (v := 0) dX1_close_6 (by decide) ?_
  refine t_putI fl_1_35 dX1_close_7 ob_1 (Or.inl rfl) ?_
  exact s_vret dX1_close_10 rfl ⟨rfl, H⟩

def F_X1_countEvents (J : Nat → Nat → Int64)  (V : Nat → Nat → Int32) (Qr : Option Value → (Nat → Nat → Int32) → Prop) (Qx : String → (Nat → Nat → Int32) → Prop) : Prop :=
Qr (some (.int (V 1 3))) V
theorem v_X1_countEvents {J : Nat → Nat → Int64}  {V : Nat → Nat → Int32} {Qr : Option Value → (Nat → Nat → Int32) → Prop} {Qx : String → (Nat → Nat → Int32) → Prop} (H : F_X1_countEvents J  V Qr Qx) : CTc J mX1_countEvents [.ref 1] V Qr Qx := by
  refine ctc_of (M := (T0 J, V)) pX1_countEvents (fun _ _ => rfl) (Nat.le_of_ble_eq_true rfl) ?_
  unfold F_X1_countEvents at H
  show WPc J mX1_countEvents Qr Qx 0 [(0, .ref 1)] [] V 0 0
  refine s_aload_n dX1_countEvents_0 rfl ?_
  refine t_getI fl_1_35 dX1_countEvents_1 ob_1 rfl ?_
  exact s_iret dX1_countEvents_4 (Or.inl rfl) ⟨rfl, H⟩

def F_X1_countEnded (J : Nat → Nat → Int64)  (V : Nat → Nat → Int32) (Qr : Option Value → (Nat → Nat → Int32) → Prop) (Qx : String → (Nat → Nat → Int32) → Prop) : Prop :=
(((V 1 5) = 0) →
  Qr (some (.int (V 1 3))) V) ∧
((¬ (V 1 5) = 0) →
  Qr (some (.int ((V 1 3) - 1))) V)
theorem v_X1_countEnded {J : Nat → Nat → Int64}  {V : Nat → Nat → Int32} {Qr : Option Value → (Nat → Nat → Int32) → Prop} {Qx : String → (Nat → Nat → Int32) → Prop} (H : F_X1_countEnded J  V Qr Qx) : CTc J mX1_countEnded [.ref 1] V Qr Qx := by
  refine ctc_of (M := (T0 J, V)) pX1_countEnded (fun _ _ => rfl) (Nat.le_of_ble_eq_true rfl) ?_
  unfold F_X1_countEnded at H
  show WPc J mX1_countEnded Qr Qx 0 [(0, .ref 1)] [] V 0 0
  refine s_aload_n dX1_countEnded_0 rfl ?_
  refine t_getI fl_1_32 dX1_countEnded_1 ob_1 rfl ?_
  refine s_if_eq (tgt := 16) dX1_countEnded_4 (by decide) (fun c => ?_) (fun c => ?_)
  · have H := H.1 c
    refine s_aload_n dX1_countEnded_16 rfl ?_
    refine t_getI fl_1_35 dX1_countEnded_17 ob_1 rfl ?_
    exact s_iret dX1_countEnded_20 (Or.inl rfl) ⟨rfl, H⟩
  · have H := H.2 c
    refine s_aload_n dX1_countEnded_7 rfl ?_
    refine t_getI fl_1_35 dX1_countEnded_8 ob_1 rfl ?_
    refine s_iconst (v := 1) dX1_countEnded_11 (by decide) ?_
    refine s_isub dX1_countEnded_12 ?_
    refine s_goto (tgt := 20) dX1_countEnded_13 (by decide) ?_
    exact s_iret dX1_countEnded_20 (Or.inl rfl) ⟨rfl, H⟩

def F_X1_isBetweenRaids (J : Nat → Nat → Int64)  (V : Nat → Nat → Int32) (Qr : Option Value → (Nat → Nat → Int32) → Prop) (Qx : String → (Nat → Nat → Int32) → Prop) : Prop :=
(((V 1 4) = 0) →
  Qr (some (.int 0)) V) ∧
((¬ (V 1 4) = 0) →
  ((¬ (V 1 5) = 0) →
    Qr (some (.int 0)) V) ∧
  (((V 1 5) = 0) →
    Qr (some (.int 1)) V))
theorem v_X1_isBetweenRaids {J : Nat → Nat → Int64}  {V : Nat → Nat → Int32} {Qr : Option Value → (Nat → Nat → Int32) → Prop} {Qx : String → (Nat → Nat → Int32) → Prop} (H : F_X1_isBetweenRaids J  V Qr Qx) : CTc J mX1_isBetweenRaids [.ref 1] V Qr Qx := by
  refine ctc_of (M := (T0 J, V)) pX1_isBetweenRaids (fun _ _ => rfl) (Nat.le_of_ble_eq_true rfl) ?_
  unfold F_X1_isBetweenRaids at H
  show WPc J mX1_isBetweenRaids Qr Qx 0 [(0, .ref 1)] [] V 0 0
  refine s_aload_n dX1_isBetweenRaids_0 rfl ?_
  refine t_getI fl_1_28 dX1_isBetweenRaids_1 ob_1 rfl ?_
  refine s_if_eq (tgt := 18) dX1_isBetweenRaids_4 (by decide) (fun c => ?_) (fun c => ?_)
  · have H := H.1 c
    refine s_iconst (v := 0) dX1_isBetweenRaids_18 (by decide) ?_
    exact s_iret dX1_isBetweenRaids_19 (Or.inr ⟨rfl, (Or.inl rfl)⟩) ⟨rfl, H⟩
  · have H := H.2 c
    refine s_aload_n dX1_isBetweenRaids_7 rfl ?_
    refine t_getI fl_1_32 dX1_isBetweenRaids_8 ob_1 rfl ?_
    refine s_if_ne (tgt := 18) dX1_isBetweenRaids_11 (by decide) (fun c => ?_) (fun c => ?_)
    · have H := H.1 c
      refine s_iconst (v := 0) dX1_isBetweenRaids_18 (by decide) ?_
      exact s_iret dX1_isBetweenRaids_19 (Or.inr ⟨rfl, (Or.inl rfl)⟩) ⟨rfl, H⟩
    · have H := H.2 c
      refine s_iconst (v := 1) dX1_isBetweenRaids_14 (by decide) ?_
      refine s_goto (tgt := 19) dX1_isBetweenRaids_15 (by decide) ?_
      exact s_iret dX1_isBetweenRaids_19 (Or.inr ⟨rfl, (Or.inr rfl)⟩) ⟨rfl, H⟩

def F_X1_isOver (J : Nat → Nat → Int64)  (V : Nat → Nat → Int32) (Qr : Option Value → (Nat → Nat → Int32) → Prop) (Qx : String → (Nat → Nat → Int32) → Prop) : Prop :=
CTc J mX1_isBetweenRaids [.ref 1] V (fun r V1 =>
  ∃ b1 : Bool, r = some (.int (bI b1)) ∧
  ((b1 = false) →
    Qr (some (.int 0)) V1) ∧
  ((b1 = true) →
    (((V1 3 2) < (V1 1 8)) →
      Qr (some (.int 0)) V1) ∧
    ((¬ (V1 3 2) < (V1 1 8)) →
      Qr (some (.int 1)) V1))) Qx
theorem v_X1_isOver {J : Nat → Nat → Int64}  {V : Nat → Nat → Int32} {Qr : Option Value → (Nat → Nat → Int32) → Prop} {Qx : String → (Nat → Nat → Int32) → Prop} (H : F_X1_isOver J  V Qr Qx) : CTc J mX1_isOver [.ref 1] V Qr Qx := by
  refine ctc_of (M := (T0 J, V)) pX1_isOver (fun _ _ => rfl) (Nat.le_of_ble_eq_true rfl) ?_
  unfold F_X1_isOver at H
  show WPc J mX1_isOver Qr Qx 0 [(0, .ref 1)] [] V 0 0
  refine s_aload_n dX1_isOver_0 rfl ?_
  refine t_cV (h := 1) (As := []) (st := []) iv_1_57 dX1_isOver_1 ⟨by decide, by decide⟩ rfl (Nat.le_of_ble_eq_true rfl) (by decide) (by decide) rfl ob_1 H (fun r V1 H => ?_)
  obtain ⟨b1, rfl, H⟩ := H
  refine s_if_eq (tgt := 25) dX1_isOver_4 (by decide) (fun c => ?_) (fun c => ?_)
  · have H := H.1 (bI_f c)
    refine s_iconst (v := 0) dX1_isOver_25 (by decide) ?_
    exact s_iret dX1_isOver_26 (Or.inr ⟨rfl, (Or.inl rfl)⟩) ⟨rfl, H⟩
  · have H := H.2 (bI_t c)
    refine s_aload_n dX1_isOver_7 rfl ?_
    refine t_getR (r := 3) fl_1_20 dX1_isOver_8 ob_1 rfl rfl ?_
    refine t_getI fl_1_61 dX1_isOver_11 (mt_o mt_3) rfl ?_
    refine s_aload_n dX1_isOver_14 rfl ?_
    refine t_getI fl_1_45 dX1_isOver_15 ob_1 rfl ?_
    refine s_icmp_lt (tgt := 25) dX1_isOver_18 (by decide) (fun c => ?_) (fun c => ?_)
    · have H := H.1 c
      refine s_iconst (v := 0) dX1_isOver_25 (by decide) ?_
      exact s_iret dX1_isOver_26 (Or.inr ⟨rfl, (Or.inl rfl)⟩) ⟨rfl, H⟩
    · have H := H.2 c
      refine s_iconst (v := 1) dX1_isOver_21 (by decide) ?_
      refine s_goto (tgt := 26) dX1_isOver_22 (by decide) ?_
      exact s_iret dX1_isOver_26 (Or.inr ⟨rfl, (Or.inr rfl)⟩) ⟨rfl, H⟩

def F_X1_eventAt (J : Nat → Nat → Int64) (p1 : Int32) (V : Nat → Nat → Int32) (Qr : Option Value → (Nat → Nat → Int32) → Prop) (Qx : String → (Nat → Nat → Int32) → Prop) : Prop :=
((p1 < 0) →
  Qr (some .null) V) ∧
((¬ p1 < 0) →
  (((V 1 3) ≤ p1) →
    Qr (some .null) V) ∧
  ((¬ (V 1 3) ≤ p1) →
    ((60 ≤ p1) →
      Qr (some .null) V) ∧
    ((¬ 60 ≤ p1) →
      vp_in p1 60 ∧
      Qr (some (.ref (29 + 6 * p1.toNatClampNeg))) V)))
theorem v_X1_eventAt {J : Nat → Nat → Int64} (p1 : Int32) {V : Nat → Nat → Int32} {Qr : Option Value → (Nat → Nat → Int32) → Prop} {Qx : String → (Nat → Nat → Int32) → Prop} (H : F_X1_eventAt J p1 V Qr Qx) : CTc J mX1_eventAt [.ref 1, .int p1] V Qr Qx := by
  refine ctc_of (M := (T0 J, V)) pX1_eventAt (fun _ _ => rfl) (Nat.le_of_ble_eq_true rfl) ?_
  unfold F_X1_eventAt at H
  show WPc J mX1_eventAt Qr Qx 0 [(0, .ref 1), (1, .int p1)] [] V 0 0
  refine s_iload_n dX1_eventAt_0 rfl ?_
  refine s_if_lt (tgt := 27) dX1_eventAt_1 (by decide) (fun c => ?_) (fun c => ?_)
  · have H := H.1 c
    refine s_null dX1_eventAt_27 ?_
    exact s_aretN dX1_eventAt_28 rfl ⟨rfl, H⟩
  · have H := H.2 c
    refine s_iload_n dX1_eventAt_4 rfl ?_
    refine s_aload_n dX1_eventAt_5 rfl ?_
    refine t_getI fl_1_35 dX1_eventAt_6 ob_1 rfl ?_
    refine s_icmp_ge (tgt := 27) dX1_eventAt_9 (by decide) (fun c => ?_) (fun c => ?_)
    · have H := H.1 c
      refine s_null dX1_eventAt_27 ?_
      exact s_aretN dX1_eventAt_28 rfl ⟨rfl, H⟩
    · have H := H.2 c
      refine s_iload_n dX1_eventAt_12 rfl ?_
      refine s_bipush (v := 60) dX1_eventAt_13 (by decide) ?_
      refine s_icmp_ge (tgt := 27) dX1_eventAt_15 (by decide) (fun c => ?_) (fun c => ?_)
      · have H := H.1 c
        refine s_null dX1_eventAt_27 ?_
        exact s_aretN dX1_eventAt_28 rfl ⟨rfl, H⟩
      · have H := H.2 c
        refine s_aload_n dX1_eventAt_18 rfl ?_
        refine t_getR (r := 2) fl_1_11 dX1_eventAt_19 ob_1 rfl rfl ?_
        refine s_iload_n dX1_eventAt_22 rfl ?_
        have hv23 := ev_of (vp_lt H.1)
        refine t_aald dX1_eventAt_23 H.1 ?_
        have H := H.2
        refine s_goto (tgt := 28) dX1_eventAt_24 (by decide) ?_
        exact s_aret dX1_eventAt_28 rfl ⟨rfl, H⟩

def F_X1_raidGoingOn (J : Nat → Nat → Int64)  (V : Nat → Nat → Int32) (Qr : Option Value → (Nat → Nat → Int32) → Prop) (Qx : String → (Nat → Nat → Int32) → Prop) : Prop :=
(((V 1 5) = 0) →
  Qr (some .null) V) ∧
((¬ (V 1 5) = 0) →
  CTc J mX1_eventAt [.ref 1, .int ((V 1 3) - 1)] V (fun r V1 =>
    (r = some .null ∧
      Qr (some .null) V1) ∨
    (∃ c1 : Nat, r = some (.ref c1) ∧ isEv c1 ∧
    Qr (some (.ref c1)) V1)) Qx)
theorem v_X1_raidGoingOn {J : Nat → Nat → Int64}  {V : Nat → Nat → Int32} {Qr : Option Value → (Nat → Nat → Int32) → Prop} {Qx : String → (Nat → Nat → Int32) → Prop} (H : F_X1_raidGoingOn J  V Qr Qx) : CTc J mX1_raidGoingOn [.ref 1] V Qr Qx := by
  refine ctc_of (M := (T0 J, V)) pX1_raidGoingOn (fun _ _ => rfl) (Nat.le_of_ble_eq_true rfl) ?_
  unfold F_X1_raidGoingOn at H
  show WPc J mX1_raidGoingOn Qr Qx 0 [(0, .ref 1)] [] V 0 0
  refine s_aload_n dX1_raidGoingOn_0 rfl ?_
  refine t_getI fl_1_32 dX1_raidGoingOn_1 ob_1 rfl ?_
  refine s_if_eq (tgt := 20) dX1_raidGoingOn_4 (by decide) (fun c => ?_) (fun c => ?_)
  · have H := H.1 c
    refine s_null dX1_raidGoingOn_20 ?_
    exact s_aretN dX1_raidGoingOn_21 rfl ⟨rfl, H⟩
  · have H := H.2 c
    refine s_aload_n dX1_raidGoingOn_7 rfl ?_
    refine s_aload_n dX1_raidGoingOn_8 rfl ?_
    refine t_getI fl_1_35 dX1_raidGoingOn_9 ob_1 rfl ?_
    refine s_iconst (v := 1) dX1_raidGoingOn_12 (by decide) ?_
    refine s_isub dX1_raidGoingOn_13 ?_
    refine t_cV (h := 1) (As := [.int ((V 1 3) - 1)]) (st := []) iv_1_64 dX1_raidGoingOn_14 ⟨by decide, by decide⟩ rfl (Nat.le_of_ble_eq_true rfl) (by decide) (by decide) rfl ob_1 H (fun r V1 H => ?_)
    rcases H with H | H
    · obtain ⟨rfl, H⟩ := H
      refine s_goto (tgt := 21) dX1_raidGoingOn_17 (by decide) ?_
      exact s_aretN dX1_raidGoingOn_21 rfl ⟨rfl, H⟩
    · obtain ⟨c1, rfl, hc1, H⟩ := H
      refine s_goto (tgt := 21) dX1_raidGoingOn_17 (by decide) ?_
      exact s_aret dX1_raidGoingOn_21 rfl ⟨rfl, H⟩

def F_X1_addEvent (J : Nat → Nat → Int64) (p1 : Int32) (p2 : Int32) (p3 : Int32) (p4 : Int32) (V : Nat → Nat → Int32) (Qr : Option Value → (Nat → Nat → Int32) → Prop) (Qx : String → (Nat → Nat → Int32) → Prop) : Prop :=
(((V 1 3) < 0) →
  Qr (some .null) V) ∧
((¬ (V 1 3) < 0) →
  (((V 1 3) < 60) →
    vp_in (V 1 3) 60 ∧
    CTc J mX2_fill [.ref (29 + 6 * (V 1 3).toNatClampNeg), .int p1, .int p2, .int p3, .int p4] V (fun r V1 =>
      r = none ∧
      Qr (some (.ref (29 + 6 * (V 1 3).toNatClampNeg))) (up2 V1 1 3 ((V1 1 3) + 1))) Qx) ∧
  ((¬ (V 1 3) < 60) →
    Qr (some .null) V))
theorem v_X1_addEvent {J : Nat → Nat → Int64} (p1 : Int32) (p2 : Int32) (p3 : Int32) (p4 : Int32) {V : Nat → Nat → Int32} {Qr : Option Value → (Nat → Nat → Int32) → Prop} {Qx : String → (Nat → Nat → Int32) → Prop} (H : F_X1_addEvent J p1 p2 p3 p4 V Qr Qx) : CTc J mX1_addEvent [.ref 1, .int p1, .int p2, .int p3, .int p4] V Qr Qx := by
  refine ctc_of (M := (T0 J, V)) pX1_addEvent (fun _ _ => rfl) (Nat.le_of_ble_eq_true rfl) ?_
  unfold F_X1_addEvent at H
  show WPc J mX1_addEvent Qr Qx 0 [(0, .ref 1), (1, .int p1), (2, .int p2), (3, .int p3), (4, .int p4)] [] V 0 0
  refine s_aload_n dX1_addEvent_0 rfl ?_
  refine t_getI fl_1_35 dX1_addEvent_1 ob_1 rfl ?_
  refine s_if_lt (tgt := 16) dX1_addEvent_4 (by decide) (fun c => ?_) (fun c => ?_)
  · have H := H.1 c
    refine s_null dX1_addEvent_16 ?_
    exact s_aretN dX1_addEvent_17 rfl ⟨rfl, H⟩
  · have H := H.2 c
    refine s_aload_n dX1_addEvent_7 rfl ?_
    refine t_getI fl_1_35 dX1_addEvent_8 ob_1 rfl ?_
    refine s_bipush (v := 60) dX1_addEvent_11 (by decide) ?_
    refine s_icmp_lt (tgt := 18) dX1_addEvent_13 (by decide) (fun c => ?_) (fun c => ?_)
    · have H := H.1 c
      refine s_aload_n dX1_addEvent_18 rfl ?_
      refine t_getR (r := 2) fl_1_11 dX1_addEvent_19 ob_1 rfl rfl ?_
      refine s_aload_n dX1_addEvent_22 rfl ?_
      refine t_getI fl_1_35 dX1_addEvent_23 ob_1 rfl ?_
      have hv26 := ev_of (vp_lt H.1)
      refine t_aald dX1_addEvent_26 H.1 ?_
      have H := H.2
      refine t_astore (L' := [(5, .ref (29 + 6 * (V 1 3).toNatClampNeg)), (0, .ref 1), (1, .int p1), (2, .int p2), (3, .int p3), (4, .int p4)]) dX1_addEvent_27 (by decide) rfl ?_
      refine s_aload dX1_addEvent_29 rfl ?_
      refine s_ifnull dX1_addEvent_31 ?_
      refine s_aload dX1_addEvent_34 rfl ?_
      refine s_iload_n dX1_addEvent_36 rfl ?_
      refine s_iload_n dX1_addEvent_37 rfl ?_
      refine s_iload_n dX1_addEvent_38 rfl ?_
      refine s_iload dX1_addEvent_39 rfl ?_
      refine t_cV (h := (29 + 6 * (V 1 3).toNatClampNeg)) (As := [.int p1, .int p2, .int p3, .int p4]) (st := []) iv_1_68 dX1_addEvent_41 ⟨by decide, by decide⟩ rfl (Nat.le_of_ble_eq_true rfl) (by decide) (by decide) rfl (ev_o hv26) H (fun r V1 H => ?_)
      obtain ⟨rfl, H⟩ := H
      refine s_aload_n dX1_addEvent_44 rfl ?_
      refine s_dup dX1_addEvent_45 rfl ?_
      refine t_getI fl_1_35 dX1_addEvent_46 ob_1 rfl ?_
      refine s_iconst (v := 1) dX1_addEvent_49 (by decide) ?_
      refine s_iadd dX1_addEvent_50 ?_
      refine t_putI fl_1_35 dX1_addEvent_51 ob_1 (Or.inl rfl) ?_
      refine s_aload dX1_addEvent_54 rfl ?_
      exact s_aret dX1_addEvent_56 rfl ⟨rfl, H⟩
    · have H := H.2 c
      refine s_null dX1_addEvent_16 ?_
      exact s_aretN dX1_addEvent_17 rfl ⟨rfl, H⟩

def F_X1_mayAdd (J : Nat → Nat → Int64)  (V : Nat → Nat → Int32) (Qr : Option Value → (Nat → Nat → Int32) → Prop) (Qx : String → (Nat → Nat → Int32) → Prop) : Prop :=
CTc J mX1_isBetweenRaids [.ref 1] V (fun r V1 =>
  ∃ b1 : Bool, r = some (.int (bI b1)) ∧
  ((b1 = false) →
    Qr (some (.int 0)) V1) ∧
  ((b1 = true) →
    ((60 ≤ (V1 1 3)) →
      Qr (some (.int 0)) V1) ∧
    ((¬ 60 ≤ (V1 1 3)) →
      Qr (some (.int 1)) V1))) Qx
theorem v_X1_mayAdd {J : Nat → Nat → Int64}  {V : Nat → Nat → Int32} {Qr : Option Value → (Nat → Nat → Int32) → Prop} {Qx : String → (Nat → Nat → Int32) → Prop} (H : F_X1_mayAdd J  V Qr Qx) : CTc J mX1_mayAdd [.ref 1] V Qr Qx := by
  refine ctc_of (M := (T0 J, V)) pX1_mayAdd (fun _ _ => rfl) (Nat.le_of_ble_eq_true rfl) ?_
  unfold F_X1_mayAdd at H
  show WPc J mX1_mayAdd Qr Qx 0 [(0, .ref 1)] [] V 0 0
  refine s_aload_n dX1_mayAdd_0 rfl ?_
  refine t_cV (h := 1) (As := []) (st := []) iv_1_57 dX1_mayAdd_1 ⟨by decide, by decide⟩ rfl (Nat.le_of_ble_eq_true rfl) (by decide) (by decide) rfl ob_1 H (fun r V1 H => ?_)
  obtain ⟨b1, rfl, H⟩ := H
  refine s_if_eq (tgt := 20) dX1_mayAdd_4 (by decide) (fun c => ?_) (fun c => ?_)
  · have H := H.1 (bI_f c)
    refine s_iconst (v := 0) dX1_mayAdd_20 (by decide) ?_
    exact s_iret dX1_mayAdd_21 (Or.inr ⟨rfl, (Or.inl rfl)⟩) ⟨rfl, H⟩
  · have H := H.2 (bI_t c)
    refine s_aload_n dX1_mayAdd_7 rfl ?_
    refine t_getI fl_1_35 dX1_mayAdd_8 ob_1 rfl ?_
    refine s_bipush (v := 60) dX1_mayAdd_11 (by decide) ?_
    refine s_icmp_ge (tgt := 20) dX1_mayAdd_13 (by decide) (fun c => ?_) (fun c => ?_)
    · have H := H.1 c
      refine s_iconst (v := 0) dX1_mayAdd_20 (by decide) ?_
      exact s_iret dX1_mayAdd_21 (Or.inr ⟨rfl, (Or.inl rfl)⟩) ⟨rfl, H⟩
    · have H := H.2 c
      refine s_iconst (v := 1) dX1_mayAdd_16 (by decide) ?_
      refine s_goto (tgt := 21) dX1_mayAdd_17 (by decide) ?_
      exact s_iret dX1_mayAdd_21 (Or.inr ⟨rfl, (Or.inr rfl)⟩) ⟨rfl, H⟩

def F_X1_mayStartRaid (J : Nat → Nat → Int64) (p1 : Int32) (V : Nat → Nat → Int32) (Qr : Option Value → (Nat → Nat → Int32) → Prop) (Qx : String → (Nat → Nat → Int32) → Prop) : Prop :=
CTc J mX1_mayAdd [.ref 1] V (fun r V1 =>
  ∃ b1 : Bool, r = some (.int (bI b1)) ∧
  ((b1 = false) →
    Qr (some (.int 0)) V1) ∧
  ((b1 = true) →
    (((V1 1 8) ≤ (V1 3 2)) →
      Qr (some (.int 0)) V1) ∧
    ((¬ (V1 1 8) ≤ (V1 3 2)) →
      CTc J mX4_turn [.ref 3] V1 (fun r V2 =>
        ∃ r2 : Int32, r = some (.int r2) ∧
        CTc J mX4_sideAt [.ref 3, .int r2] V2 (fun r V3 =>
          ∃ c3 : Nat, r = some (.ref c3) ∧ isSide c3 ∧
          CTc J mX6_isOn [.ref c3, .int p1] V3 (fun r V4 =>
            ∃ b4 : Bool, r = some (.int (bI b4)) ∧
            ((b4 = false) →
              Qr (some (.int 0)) V4) ∧
            ((b4 = true) →
              Qr (some (.int 1)) V4)) Qx) Qx) Qx))) Qx
theorem v_X1_mayStartRaid {J : Nat → Nat → Int64} (p1 : Int32) {V : Nat → Nat → Int32} {Qr : Option Value → (Nat → Nat → Int32) → Prop} {Qx : String → (Nat → Nat → Int32) → Prop} (H : F_X1_mayStartRaid J p1 V Qr Qx) : CTc J mX1_mayStartRaid [.ref 1, .int p1] V Qr Qx := by
  refine ctc_of (M := (T0 J, V)) pX1_mayStartRaid (fun _ _ => rfl) (Nat.le_of_ble_eq_true rfl) ?_
  unfold F_X1_mayStartRaid at H
  show WPc J mX1_mayStartRaid Qr Qx 0 [(0, .ref 1), (1, .int p1)] [] V 0 0
  refine s_aload_n dX1_mayStartRaid_0 rfl ?_
  refine t_cV (h := 1) (As := []) (st := []) iv_1_72 dX1_mayStartRaid_1 ⟨by decide, by decide⟩ rfl (Nat.le_of_ble_eq_true rfl) (by decide) (by decide) rfl ob_1 H (fun r V1 H => ?_)
  obtain ⟨b1, rfl, H⟩ := H
  refine s_if_eq (tgt := 46) dX1_mayStartRaid_4 (by decide) (fun c => ?_) (fun c => ?_)
  · have H := H.1 (bI_f c)
    refine s_iconst (v := 0) dX1_mayStartRaid_46 (by decide) ?_
    exact s_iret dX1_mayStartRaid_47 (Or.inr ⟨rfl, (Or.inl rfl)⟩) ⟨rfl, H⟩
  · have H := H.2 (bI_t c)
    refine s_aload_n dX1_mayStartRaid_7 rfl ?_
    refine t_getR (r := 3) fl_1_20 dX1_mayStartRaid_8 ob_1 rfl rfl ?_
    refine t_getI fl_1_61 dX1_mayStartRaid_11 (mt_o mt_3) rfl ?_
    refine s_aload_n dX1_mayStartRaid_14 rfl ?_
    refine t_getI fl_1_45 dX1_mayStartRaid_15 ob_1 rfl ?_
    refine s_icmp_ge (tgt := 46) dX1_mayStartRaid_18 (by decide) (fun c => ?_) (fun c => ?_)
    · have H := H.1 c
      refine s_iconst (v := 0) dX1_mayStartRaid_46 (by decide) ?_
      exact s_iret dX1_mayStartRaid_47 (Or.inr ⟨rfl, (Or.inl rfl)⟩) ⟨rfl, H⟩
    · have H := H.2 c
      refine s_aload_n dX1_mayStartRaid_21 rfl ?_
      refine t_getR (r := 3) fl_1_20 dX1_mayStartRaid_22 ob_1 rfl rfl ?_
      refine s_aload_n dX1_mayStartRaid_25 rfl ?_
      refine t_getR (r := 3) fl_1_20 dX1_mayStartRaid_26 ob_1 rfl rfl ?_
      refine t_cV (h := 3) (As := []) (st := [.ref 3]) iv_1_75 dX1_mayStartRaid_29 ⟨by decide, by decide⟩ rfl (Nat.le_of_ble_eq_true rfl) (by decide) (by decide) rfl (mt_o mt_3) H (fun r V2 H => ?_)
      obtain ⟨r2, rfl, H⟩ := H
      refine t_cV (h := 3) (As := [.int r2]) (st := []) iv_1_79 dX1_mayStartRaid_32 ⟨by decide, by decide⟩ rfl (Nat.le_of_ble_eq_true rfl) (by decide) (by decide) rfl (mt_o mt_3) H (fun r V3 H => ?_)
      obtain ⟨c3, rfl, hc3, H⟩ := H
      refine s_iload_n dX1_mayStartRaid_35 rfl ?_
      refine t_cV (h := c3) (As := [.int p1]) (st := []) iv_1_83 dX1_mayStartRaid_36 ⟨by decide, by decide⟩ rfl (Nat.le_of_ble_eq_true rfl) (by decide) (by decide) rfl (sd_o hc3) H (fun r V4 H => ?_)
      obtain ⟨b4, rfl, H⟩ := H
      refine s_if_eq (tgt := 46) dX1_mayStartRaid_39 (by decide) (fun c => ?_) (fun c => ?_)
      · have H := H.1 (bI_f c)
        refine s_iconst (v := 0) dX1_mayStartRaid_46 (by decide) ?_
        exact s_iret dX1_mayStartRaid_47 (Or.inr ⟨rfl, (Or.inl rfl)⟩) ⟨rfl, H⟩
      · have H := H.2 (bI_t c)
        refine s_iconst (v := 1) dX1_mayStartRaid_42 (by decide) ?_
        refine s_goto (tgt := 47) dX1_mayStartRaid_43 (by decide) ?_
        exact s_iret dX1_mayStartRaid_47 (Or.inr ⟨rfl, (Or.inr rfl)⟩) ⟨rfl, H⟩

def F_X1_startRaid (J : Nat → Nat → Int64) (p1 : Int32) (V : Nat → Nat → Int32) (Qr : Option Value → (Nat → Nat → Int32) → Prop) (Qx : String → (Nat → Nat → Int32) → Prop) : Prop :=
CTc J mX4_turn [.ref 3] V (fun r V1 =>
  ∃ r1 : Int32, r = some (.int r1) ∧
  CTc J mX1_addEvent [.ref 1, .int 0, .int r1, .int p1, .int (-1)] V1 (fun r V2 =>
    (r = some .null ∧
      Qr (some (.int (((up2 V2 1 5 1) 1 3) - 1))) (up2 V2 1 5 1)) ∨
    (∃ c2 : Nat, r = some (.ref c2) ∧ isEv c2 ∧
    Qr (some (.int (((up2 V2 1 5 1) 1 3) - 1))) (up2 V2 1 5 1))) Qx) Qx
theorem v_X1_startRaid {J : Nat → Nat → Int64} (p1 : Int32) {V : Nat → Nat → Int32} {Qr : Option Value → (Nat → Nat → Int32) → Prop} {Qx : String → (Nat → Nat → Int32) → Prop} (H : F_X1_startRaid J p1 V Qr Qx) : CTc J mX1_startRaid [.ref 1, .int p1] V Qr Qx := by
  refine ctc_of (M := (T0 J, V)) pX1_startRaid (fun _ _ => rfl) (Nat.le_of_ble_eq_true rfl) ?_
  unfold F_X1_startRaid at H
  show WPc J mX1_startRaid Qr Qx 0 [(0, .ref 1), (1, .int p1)] [] V 0 0
  refine s_aload_n dX1_startRaid_0 rfl ?_
  refine s_iconst (v := 0) dX1_startRaid_1 (by decide) ?_
  refine s_aload_n dX1_startRaid_2 rfl ?_
  refine t_getR (r := 3) fl_1_20 dX1_startRaid_3 ob_1 rfl rfl ?_
  refine t_cV (h := 3) (As := []) (st := [.int 0, .ref 1]) iv_1_75 dX1_startRaid_6 ⟨by decide, by decide⟩ rfl (Nat.le_of_ble_eq_true rfl) (by decide) (by decide) rfl (mt_o mt_3) H (fun r V1 H => ?_)
  obtain ⟨r1, rfl, H⟩ := H
  refine s_iload_n dX1_startRaid_9 rfl ?_
  refine s_iconst (v := (-1)) dX1_startRaid_10 (by decide) ?_
  refine t_cV (h := 1) (As := [.int 0, .int r1, .int p1, .int (-1)]) (st := []) iv_1_89 dX1_startRaid_11 ⟨by decide, by decide⟩ rfl (Nat.le_of_ble_eq_true rfl) (by decide) (by decide) rfl ob_1 H (fun r V2 H => ?_)
  rcases H with H | H
  · obtain ⟨rfl, H⟩ := H
    refine s_pop dX1_startRaid_14 rfl ?_
    refine s_aload_n dX1_startRaid_15 rfl ?_
    refine s_iconst (v := 1) dX1_startRaid_16 (by decide) ?_
    refine t_putI fl_1_32 dX1_startRaid_17 ob_1 (Or.inr ⟨rfl, (Or.inr rfl)⟩) ?_
    refine s_aload_n dX1_startRaid_20 rfl ?_
    refine t_getI fl_1_35 dX1_startRaid_21 ob_1 rfl ?_
    refine s_iconst (v := 1) dX1_startRaid_24 (by decide) ?_
    refine s_isub dX1_startRaid_25 ?_
    exact s_iret dX1_startRaid_26 (Or.inl rfl) ⟨rfl, H⟩
  · obtain ⟨c2, rfl, hc2, H⟩ := H
    refine s_pop dX1_startRaid_14 rfl ?_
    refine s_aload_n dX1_startRaid_15 rfl ?_
    refine s_iconst (v := 1) dX1_startRaid_16 (by decide) ?_
    refine t_putI fl_1_32 dX1_startRaid_17 ob_1 (Or.inr ⟨rfl, (Or.inr rfl)⟩) ?_
    refine s_aload_n dX1_startRaid_20 rfl ?_
    refine t_getI fl_1_35 dX1_startRaid_21 ob_1 rfl ?_
    refine s_iconst (v := 1) dX1_startRaid_24 (by decide) ?_
    refine s_isub dX1_startRaid_25 ?_
    exact s_iret dX1_startRaid_26 (Or.inl rfl) ⟨rfl, H⟩

def F_X1_mayTell (J : Nat → Nat → Int64) (p1 : Int32) (p2 : Int32) (p3 : Int32) (V : Nat → Nat → Int32) (Qr : Option Value → (Nat → Nat → Int32) → Prop) (Qx : String → (Nat → Nat → Int32) → Prop) : Prop :=
CTc J mX1_raidGoingOn [.ref 1] V (fun r V1 =>
  (r = some .null ∧
    Qr (some (.int 0)) V1) ∨
  (∃ c1 : Nat, r = some (.ref c1) ∧ isEv c1 ∧
  CTc J mX2_lastTenth [.ref c1] V1 (fun r V2 =>
    ∃ r2 : Int32, r = some (.int r2) ∧
    ((p3 ≤ r2) →
      Qr (some (.int 0)) V2) ∧
    ((¬ p3 ≤ r2) →
      CTc J mX4_mayStep [.ref 3, .ref c1, .int (V2 c1 9), .int p1, .int p2, .int p3] V2 (fun r V3 =>
        ∃ b3 : Bool, r = some (.int (bI b3)) ∧
        ((b3 = false) →
          Qr (some (.int 0)) V3) ∧
        ((b3 = true) →
          Qr (some (.int 1)) V3)) Qx)) Qx)) Qx
theorem v_X1_mayTell {J : Nat → Nat → Int64} (p1 : Int32) (p2 : Int32) (p3 : Int32) {V : Nat → Nat → Int32} {Qr : Option Value → (Nat → Nat → Int32) → Prop} {Qx : String → (Nat → Nat → Int32) → Prop} (H : F_X1_mayTell J p1 p2 p3 V Qr Qx) : CTc J mX1_mayTell [.ref 1, .int p1, .int p2, .int p3] V Qr Qx := by
  refine ctc_of (M := (T0 J, V)) pX1_mayTell (fun _ _ => rfl) (Nat.le_of_ble_eq_true rfl) ?_
  unfold F_X1_mayTell at H
  show WPc J mX1_mayTell Qr Qx 0 [(0, .ref 1), (1, .int p1), (2, .int p2), (3, .int p3)] [] V 0 0
  refine s_aload_n dX1_mayTell_0 rfl ?_
  refine t_cV (h := 1) (As := []) (st := []) iv_1_93 dX1_mayTell_1 ⟨by decide, by decide⟩ rfl (Nat.le_of_ble_eq_true rfl) (by decide) (by decide) rfl ob_1 H (fun r V1 H => ?_)
  rcases H with H | H
  · obtain ⟨rfl, H⟩ := H
    refine t_astoreN (L' := [(4, .null), (0, .ref 1), (1, .int p1), (2, .int p2), (3, .int p3)]) dX1_mayTell_4 (by decide) rfl ?_
    refine s_aloadN dX1_mayTell_6 rfl ?_
    refine s_ifnullN (tgt := 44) dX1_mayTell_8 (by decide) ?_
    refine s_iconst (v := 0) dX1_mayTell_44 (by decide) ?_
    exact s_iret dX1_mayTell_45 (Or.inr ⟨rfl, (Or.inl rfl)⟩) ⟨rfl, H⟩
  · obtain ⟨c1, rfl, hc1, H⟩ := H
    refine t_astore (L' := [(4, .ref c1), (0, .ref 1), (1, .int p1), (2, .int p2), (3, .int p3)]) dX1_mayTell_4 (by decide) rfl ?_
    refine s_aload dX1_mayTell_6 rfl ?_
    refine s_ifnull dX1_mayTell_8 ?_
    refine s_iload_n dX1_mayTell_11 rfl ?_
    refine s_aload dX1_mayTell_12 rfl ?_
    refine t_cV (h := c1) (As := []) (st := [.int p3]) iv_1_97 dX1_mayTell_14 ⟨by decide, by decide⟩ rfl (Nat.le_of_ble_eq_true rfl) (by decide) (by decide) rfl (ev_o hc1) H (fun r V2 H => ?_)
    obtain ⟨r2, rfl, H⟩ := H
    refine s_icmp_le (tgt := 44) dX1_mayTell_17 (by decide) (fun c => ?_) (fun c => ?_)
    · have H := H.1 c
      refine s_iconst (v := 0) dX1_mayTell_44 (by decide) ?_
      exact s_iret dX1_mayTell_45 (Or.inr ⟨rfl, (Or.inl rfl)⟩) ⟨rfl, H⟩
    · have H := H.2 c
      refine s_aload_n dX1_mayTell_20 rfl ?_
      refine t_getR (r := 3) fl_1_20 dX1_mayTell_21 ob_1 rfl rfl ?_
      refine s_aload dX1_mayTell_24 rfl ?_
      refine s_aload dX1_mayTell_26 rfl ?_
      refine t_getI fl_1_100 dX1_mayTell_28 (ev_o hc1) rfl ?_
      refine s_iload_n dX1_mayTell_31 rfl ?_
      refine s_iload_n dX1_mayTell_32 rfl ?_
      refine s_iload_n dX1_mayTell_33 rfl ?_
      refine t_cV (h := 3) (As := [.ref c1, .int (V2 c1 9), .int p1, .int p2, .int p3]) (st := []) iv_1_101 dX1_mayTell_34 ⟨by decide, by decide⟩ rfl (Nat.le_of_ble_eq_true rfl) (by decide) (by decide) rfl (mt_o mt_3) H (fun r V3 H => ?_)
      obtain ⟨b3, rfl, H⟩ := H
      refine s_if_eq (tgt := 44) dX1_mayTell_37 (by decide) (fun c => ?_) (fun c => ?_)
      · have H := H.1 (bI_f c)
        refine s_iconst (v := 0) dX1_mayTell_44 (by decide) ?_
        exact s_iret dX1_mayTell_45 (Or.inr ⟨rfl, (Or.inl rfl)⟩) ⟨rfl, H⟩
      · have H := H.2 (bI_t c)
        refine s_iconst (v := 1) dX1_mayTell_40 (by decide) ?_
        refine s_goto (tgt := 45) dX1_mayTell_41 (by decide) ?_
        exact s_iret dX1_mayTell_45 (Or.inr ⟨rfl, (Or.inr rfl)⟩) ⟨rfl, H⟩

def F_X1_tell (J : Nat → Nat → Int64) (p1 : Int32) (p2 : Int32) (p3 : Int32) (V : Nat → Nat → Int32) (Qr : Option Value → (Nat → Nat → Int32) → Prop) (Qx : String → (Nat → Nat → Int32) → Prop) : Prop :=
CTc J mX1_raidGoingOn [.ref 1] V (fun r V1 =>
  (r = some .null ∧
    Qr (some (.int (-1))) V1) ∨
  (∃ c1 : Nat, r = some (.ref c1) ∧ isEv c1 ∧
  CTc J mX2_add [.ref c1, .int p1, .int p2, .int p3] V1 (fun r V2 =>
    r = none ∧
    CTc J mX7_isEnd [.int p1] V2 (fun r V3 =>
      ∃ b3 : Bool, r = some (.int (bI b3)) ∧
      ((b3 = true) →
        CTc J mX4_turn [.ref 3] V3 (fun r V4 =>
          ∃ r4 : Int32, r = some (.int r4) ∧
          CTc J mX1_pointsOf [.ref 1, .int r4] V4 (fun r V5 =>
            ∃ r5 : Int32, r = some (.int r5) ∧
            CTc J mX1_pointsOf [.ref 1, .int (1 - r4)] V5 (fun r V6 =>
              ∃ r6 : Int32, r = some (.int r6) ∧
              CTc J mX4_play [.ref 3, .ref c1] V6 (fun r V7 =>
                r = none ∧
                CTc J mX2_keepWhatStands [.ref c1, .ref 3] V7 (fun r V8 =>
                  r = none ∧
                  CTc J mX1_pointsOf [.ref 1, .int r4] (up2 V8 1 5 0) (fun r V9 =>
                    ∃ r9 : Int32, r = some (.int r9) ∧
                    CTc J mX1_pointsOf [.ref 1, .int (1 - r4)] V9 (fun r V10 =>
                      ∃ r10 : Int32, r = some (.int r10) ∧
                      Qr (some (.int (((10 * r9) + r10) - ((10 * r5) + r6)))) V10) Qx) Qx) Qx) Qx) Qx) Qx) Qx) ∧
      ((b3 = false) →
        Qr (some (.int (-1))) V3)) Qx) Qx)) Qx
theorem v_X1_tell {J : Nat → Nat → Int64} (p1 : Int32) (p2 : Int32) (p3 : Int32) {V : Nat → Nat → Int32} {Qr : Option Value → (Nat → Nat → Int32) → Prop} {Qx : String → (Nat → Nat → Int32) → Prop} (H : F_X1_tell J p1 p2 p3 V Qr Qx) : CTc J mX1_tell [.ref 1, .int p1, .int p2, .int p3] V Qr Qx := by
  refine ctc_of (M := (T0 J, V)) pX1_tell (fun _ _ => rfl) (Nat.le_of_ble_eq_true rfl) ?_
  unfold F_X1_tell at H
  show WPc J mX1_tell Qr Qx 0 [(0, .ref 1), (1, .int p1), (2, .int p2), (3, .int p3)] [] V 0 0
  refine s_aload_n dX1_tell_0 rfl ?_
  refine t_cV (h := 1) (As := []) (st := []) iv_1_93 dX1_tell_1 ⟨by decide, by decide⟩ rfl (Nat.le_of_ble_eq_true rfl) (by decide) (by decide) rfl ob_1 H (fun r V1 H => ?_)
  rcases H with H | H
  · obtain ⟨rfl, H⟩ := H
    refine t_astoreN (L' := [(4, .null), (0, .ref 1), (1, .int p1), (2, .int p2), (3, .int p3)]) dX1_tell_4 (by decide) rfl ?_
    refine s_aloadN dX1_tell_6 rfl ?_
    refine s_ifnonnullN dX1_tell_8 ?_
    refine s_iconst (v := (-1)) dX1_tell_11 (by decide) ?_
    exact s_iret dX1_tell_12 (Or.inl rfl) ⟨rfl, H⟩
  · obtain ⟨c1, rfl, hc1, H⟩ := H
    refine t_astore (L' := [(4, .ref c1), (0, .ref 1), (1, .int p1), (2, .int p2), (3, .int p3)]) dX1_tell_4 (by decide) rfl ?_
    refine s_aload dX1_tell_6 rfl ?_
    refine s_ifnonnull (tgt := 13) dX1_tell_8 (by decide) ?_
    refine s_aload dX1_tell_13 rfl ?_
    refine s_iload_n dX1_tell_15 rfl ?_
    refine s_iload_n dX1_tell_16 rfl ?_
    refine s_iload_n dX1_tell_17 rfl ?_
    refine t_cV (h := c1) (As := [.int p1, .int p2, .int p3]) (st := []) iv_1_105 dX1_tell_18 ⟨by decide, by decide⟩ rfl (Nat.le_of_ble_eq_true rfl) (by decide) (by decide) rfl (ev_o hc1) H (fun r V2 H => ?_)
    obtain ⟨rfl, H⟩ := H
    refine s_iload_n dX1_tell_21 rfl ?_
    refine t_cN (As := [.int p1]) (st := []) iv_1_109 dX1_tell_22 ⟨by decide, by decide⟩ rfl (Nat.le_of_ble_eq_true rfl) (by decide) (by decide) rfl H (fun r V3 H => ?_)
    obtain ⟨b3, rfl, H⟩ := H
    refine s_if_ne (tgt := 30) dX1_tell_25 (by decide) (fun c => ?_) (fun c => ?_)
    · have H := H.1 (bI_t c)
      refine s_aload_n dX1_tell_30 rfl ?_
      refine t_getR (r := 3) fl_1_20 dX1_tell_31 ob_1 rfl rfl ?_
      refine t_cV (h := 3) (As := []) (st := []) iv_1_75 dX1_tell_34 ⟨by decide, by decide⟩ rfl (Nat.le_of_ble_eq_true rfl) (by decide) (by decide) rfl (mt_o mt_3) H (fun r V4 H => ?_)
      obtain ⟨r4, rfl, H⟩ := H
      refine t_istore (L' := [(5, .int r4), (4, .ref c1), (0, .ref 1), (1, .int p1), (2, .int p2), (3, .int p3)]) dX1_tell_37 (by decide) rfl ?_
      refine s_bipush (v := 10) dX1_tell_39 (by decide) ?_
      refine s_aload_n dX1_tell_41 rfl ?_
      refine s_iload dX1_tell_42 rfl ?_
      refine t_cV (h := 1) (As := [.int r4]) (st := [.int 10]) iv_1_112 dX1_tell_44 ⟨by decide, by decide⟩ rfl (Nat.le_of_ble_eq_true rfl) (by decide) (by decide) rfl ob_1 H (fun r V5 H => ?_)
      obtain ⟨r5, rfl, H⟩ := H
      refine s_imul dX1_tell_47 ?_
      refine s_aload_n dX1_tell_48 rfl ?_
      refine s_iconst (v := 1) dX1_tell_49 (by decide) ?_
      refine s_iload dX1_tell_50 rfl ?_
      refine s_isub dX1_tell_52 ?_
      refine t_cV (h := 1) (As := [.int (1 - r4)]) (st := [.int (10 * r5)]) iv_1_112 dX1_tell_53 ⟨by decide, by decide⟩ rfl (Nat.le_of_ble_eq_true rfl) (by decide) (by decide) rfl ob_1 H (fun r V6 H => ?_)
      obtain ⟨r6, rfl, H⟩ := H
      refine s_iadd dX1_tell_56 ?_
      refine t_istore (L' := [(6, .int ((10 * r5) + r6)), (5, .int r4), (4, .ref c1), (0, .ref 1), (1, .int p1), (2, .int p2), (3, .int p3)]) dX1_tell_57 (by decide) rfl ?_
      refine s_aload_n dX1_tell_59 rfl ?_
      refine t_getR (r := 3) fl_1_20 dX1_tell_60 ob_1 rfl rfl ?_
      refine s_aload dX1_tell_63 rfl ?_
      refine t_cV (h := 3) (As := [.ref c1]) (st := []) iv_1_116 dX1_tell_65 ⟨by decide, by decide⟩ rfl (Nat.le_of_ble_eq_true rfl) (by decide) (by decide) rfl (mt_o mt_3) H (fun r V7 H => ?_)
      obtain ⟨rfl, H⟩ := H
      refine s_aload dX1_tell_68 rfl ?_
      refine s_aload_n dX1_tell_70 rfl ?_
      refine t_getR (r := 3) fl_1_20 dX1_tell_71 ob_1 rfl rfl ?_
      refine t_cV (h := c1) (As := [.ref 3]) (st := []) iv_1_120 dX1_tell_74 ⟨by decide, by decide⟩ rfl (Nat.le_of_ble_eq_true rfl) (by decide) (by decide) rfl (ev_o hc1) H (fun r V8 H => ?_)
      obtain ⟨rfl, H⟩ := H
      refine s_aload_n dX1_tell_77 rfl ?_
      refine s_iconst (v := 0) dX1_tell_78 (by decide) ?_
      refine t_putI fl_1_32 dX1_tell_79 ob_1 (Or.inr ⟨rfl, (Or.inl rfl)⟩) ?_
      refine s_bipush (v := 10) dX1_tell_82 (by decide) ?_
      refine s_aload_n dX1_tell_84 rfl ?_
      refine s_iload dX1_tell_85 rfl ?_
      refine t_cV (h := 1) (As := [.int r4]) (st := [.int 10]) iv_1_112 dX1_tell_87 ⟨by decide, by decide⟩ rfl (Nat.le_of_ble_eq_true rfl) (by decide) (by decide) rfl ob_1 H (fun r V9 H => ?_)
      obtain ⟨r9, rfl, H⟩ := H
      refine s_imul dX1_tell_90 ?_
      refine s_aload_n dX1_tell_91 rfl ?_
      refine s_iconst (v := 1) dX1_tell_92 (by decide) ?_
      refine s_iload dX1_tell_93 rfl ?_
      refine s_isub dX1_tell_95 ?_
      refine t_cV (h := 1) (As := [.int (1 - r4)]) (st := [.int (10 * r9)]) iv_1_112 dX1_tell_96 ⟨by decide, by decide⟩ rfl (Nat.le_of_ble_eq_true rfl) (by decide) (by decide) rfl ob_1 H (fun r V10 H => ?_)
      obtain ⟨r10, rfl, H⟩ := H
      refine s_iadd dX1_tell_99 ?_
      refine s_iload dX1_tell_100 rfl ?_
      refine s_isub dX1_tell_102 ?_
      exact s_iret dX1_tell_103 (Or.inl rfl) ⟨rfl, H⟩
    · have H := H.2 (bI_f c)
      refine s_iconst (v := (-1)) dX1_tell_28 (by decide) ?_
      exact s_iret dX1_tell_29 (Or.inl rfl) ⟨rfl, H⟩

def F_X1_mayShowCard (J : Nat → Nat → Int64) (p1 : Int32) (p2 : Int32) (p3 : Int32) (V : Nat → Nat → Int32) (Qr : Option Value → (Nat → Nat → Int32) → Prop) (Qx : String → (Nat → Nat → Int32) → Prop) : Prop :=
CTc J mX1_mayAdd [.ref 1] V (fun r V1 =>
  ∃ b1 : Bool, r = some (.int (bI b1)) ∧
  ((b1 = false) →
    Qr (some (.int 0)) V1) ∧
  ((b1 = true) →
    CTc J mX4_sideAt [.ref 3, .int p1] V1 (fun r V2 =>
      ∃ c2 : Nat, r = some (.ref c2) ∧ isSide c2 ∧
      CTc J mX6_mayGet [.ref c2, .int p2, .int p3] V2 (fun r V3 =>
        ∃ b3 : Bool, r = some (.int (bI b3)) ∧
        ((b3 = false) →
          Qr (some (.int 0)) V3) ∧
        ((b3 = true) →
          Qr (some (.int 1)) V3)) Qx) Qx)) Qx
theorem v_X1_mayShowCard {J : Nat → Nat → Int64} (p1 : Int32) (p2 : Int32) (p3 : Int32) {V : Nat → Nat → Int32} {Qr : Option Value → (Nat → Nat → Int32) → Prop} {Qx : String → (Nat → Nat → Int32) → Prop} (H : F_X1_mayShowCard J p1 p2 p3 V Qr Qx) : CTc J mX1_mayShowCard [.ref 1, .int p1, .int p2, .int p3] V Qr Qx := by
  refine ctc_of (M := (T0 J, V)) pX1_mayShowCard (fun _ _ => rfl) (Nat.le_of_ble_eq_true rfl) ?_
  unfold F_X1_mayShowCard at H
  show WPc J mX1_mayShowCard Qr Qx 0 [(0, .ref 1), (1, .int p1), (2, .int p2), (3, .int p3)] [] V 0 0
  refine s_aload_n dX1_mayShowCard_0 rfl ?_
  refine t_cV (h := 1) (As := []) (st := []) iv_1_72 dX1_mayShowCard_1 ⟨by decide, by decide⟩ rfl (Nat.le_of_ble_eq_true rfl) (by decide) (by decide) rfl ob_1 H (fun r V1 H => ?_)
  obtain ⟨b1, rfl, H⟩ := H
  refine s_if_eq (tgt := 27) dX1_mayShowCard_4 (by decide) (fun c => ?_) (fun c => ?_)
  · have H := H.1 (bI_f c)
    refine s_iconst (v := 0) dX1_mayShowCard_27 (by decide) ?_
    exact s_iret dX1_mayShowCard_28 (Or.inr ⟨rfl, (Or.inl rfl)⟩) ⟨rfl, H⟩
  · have H := H.2 (bI_t c)
    refine s_aload_n dX1_mayShowCard_7 rfl ?_
    refine t_getR (r := 3) fl_1_20 dX1_mayShowCard_8 ob_1 rfl rfl ?_
    refine s_iload_n dX1_mayShowCard_11 rfl ?_
    refine t_cV (h := 3) (As := [.int p1]) (st := []) iv_1_79 dX1_mayShowCard_12 ⟨by decide, by decide⟩ rfl (Nat.le_of_ble_eq_true rfl) (by decide) (by decide) rfl (mt_o mt_3) H (fun r V2 H => ?_)
    obtain ⟨c2, rfl, hc2, H⟩ := H
    refine s_iload_n dX1_mayShowCard_15 rfl ?_
    refine s_iload_n dX1_mayShowCard_16 rfl ?_
    refine t_cV (h := c2) (As := [.int p2, .int p3]) (st := []) iv_1_124 dX1_mayShowCard_17 ⟨by decide, by decide⟩ rfl (Nat.le_of_ble_eq_true rfl) (by decide) (by decide) rfl (sd_o hc2) H (fun r V3 H => ?_)
    obtain ⟨b3, rfl, H⟩ := H
    refine s_if_eq (tgt := 27) dX1_mayShowCard_20 (by decide) (fun c => ?_) (fun c => ?_)
    · have H := H.1 (bI_f c)
      refine s_iconst (v := 0) dX1_mayShowCard_27 (by decide) ?_
      exact s_iret dX1_mayShowCard_28 (Or.inr ⟨rfl, (Or.inl rfl)⟩) ⟨rfl, H⟩
    · have H := H.2 (bI_t c)
      refine s_iconst (v := 1) dX1_mayShowCard_23 (by decide) ?_
      refine s_goto (tgt := 28) dX1_mayShowCard_24 (by decide) ?_
      exact s_iret dX1_mayShowCard_28 (Or.inr ⟨rfl, (Or.inr rfl)⟩) ⟨rfl, H⟩

def F_X1_showCard (J : Nat → Nat → Int64) (p1 : Int32) (p2 : Int32) (p3 : Int32) (V : Nat → Nat → Int32) (Qr : Option Value → (Nat → Nat → Int32) → Prop) (Qx : String → (Nat → Nat → Int32) → Prop) : Prop :=
CTc J mX4_sideAt [.ref 3, .int p1] V (fun r V1 =>
  ∃ c1 : Nat, r = some (.ref c1) ∧ isSide c1 ∧
  CTc J mX6_colourFor [.ref c1, .int p2, .int p3] V1 (fun r V2 =>
    ∃ r2 : Int32, r = some (.int r2) ∧
    CTc J mX1_addEvent [.ref 1, .int 1, .int p1, .int p2, .int p3] V2 (fun r V3 =>
      (r = some .null ∧
        Qr (some (.int r2)) V3) ∨
      (∃ c3 : Nat, r = some (.ref c3) ∧ isEv c3 ∧
      CTc J mX4_play [.ref 3, .ref c3] V3 (fun r V4 =>
        r = none ∧
        CTc J mX2_keepWhatStands [.ref c3, .ref 3] V4 (fun r V5 =>
          r = none ∧
          Qr (some (.int r2)) V5) Qx) Qx)) Qx) Qx) Qx
theorem v_X1_showCard {J : Nat → Nat → Int64} (p1 : Int32) (p2 : Int32) (p3 : Int32) {V : Nat → Nat → Int32} {Qr : Option Value → (Nat → Nat → Int32) → Prop} {Qx : String → (Nat → Nat → Int32) → Prop} (H : F_X1_showCard J p1 p2 p3 V Qr Qx) : CTc J mX1_showCard [.ref 1, .int p1, .int p2, .int p3] V Qr Qx := by
  refine ctc_of (M := (T0 J, V)) pX1_showCard (fun _ _ => rfl) (Nat.le_of_ble_eq_true rfl) ?_
  unfold F_X1_showCard at H
  show WPc J mX1_showCard Qr Qx 0 [(0, .ref 1), (1, .int p1), (2, .int p2), (3, .int p3)] [] V 0 0
  refine s_aload_n dX1_showCard_0 rfl ?_
  refine t_getR (r := 3) fl_1_20 dX1_showCard_1 ob_1 rfl rfl ?_
  refine s_iload_n dX1_showCard_4 rfl ?_
  refine t_cV (h := 3) (As := [.int p1]) (st := []) iv_1_79 dX1_showCard_5 ⟨by decide, by decide⟩ rfl (Nat.le_of_ble_eq_true rfl) (by decide) (by decide) rfl (mt_o mt_3) H (fun r V1 H => ?_)
  obtain ⟨c1, rfl, hc1, H⟩ := H
  refine s_iload_n dX1_showCard_8 rfl ?_
  refine s_iload_n dX1_showCard_9 rfl ?_
  refine t_cV (h := c1) (As := [.int p2, .int p3]) (st := []) iv_1_128 dX1_showCard_10 ⟨by decide, by decide⟩ rfl (Nat.le_of_ble_eq_true rfl) (by decide) (by decide) rfl (sd_o hc1) H (fun r V2 H => ?_)
  obtain ⟨r2, rfl, H⟩ := H
  refine t_istore (L' := [(4, .int r2), (0, .ref 1), (1, .int p1), (2, .int p2), (3, .int p3)]) dX1_showCard_13 (by decide) rfl ?_
  refine s_aload_n dX1_showCard_15 rfl ?_
  refine s_iconst (v := 1) dX1_showCard_16 (by decide) ?_
  refine s_iload_n dX1_showCard_17 rfl ?_
  refine s_iload_n dX1_showCard_18 rfl ?_
  refine s_iload_n dX1_showCard_19 rfl ?_
  refine t_cV (h := 1) (As := [.int 1, .int p1, .int p2, .int p3]) (st := []) iv_1_89 dX1_showCard_20 ⟨by decide, by decide⟩ rfl (Nat.le_of_ble_eq_true rfl) (by decide) (by decide) rfl ob_1 H (fun r V3 H => ?_)
  rcases H with H | H
  · obtain ⟨rfl, H⟩ := H
    refine t_astoreN (L' := [(5, .null), (4, .int r2), (0, .ref 1), (1, .int p1), (2, .int p2), (3, .int p3)]) dX1_showCard_23 (by decide) rfl ?_
    refine s_aloadN dX1_showCard_25 rfl ?_
    refine s_ifnullN (tgt := 48) dX1_showCard_27 (by decide) ?_
    refine s_iload dX1_showCard_48 rfl ?_
    exact s_iret dX1_showCard_50 (Or.inl rfl) ⟨rfl, H⟩
  · obtain ⟨c3, rfl, hc3, H⟩ := H
    refine t_astore (L' := [(5, .ref c3), (4, .int r2), (0, .ref 1), (1, .int p1), (2, .int p2), (3, .int p3)]) dX1_showCard_23 (by decide) rfl ?_
    refine s_aload dX1_showCard_25 rfl ?_
    refine s_ifnull dX1_showCard_27 ?_
    refine s_aload_n dX1_showCard_30 rfl ?_
    refine t_getR (r := 3) fl_1_20 dX1_showCard_31 ob_1 rfl rfl ?_
    refine s_aload dX1_showCard_34 rfl ?_
    refine t_cV (h := 3) (As := [.ref c3]) (st := []) iv_1_116 dX1_showCard_36 ⟨by decide, by decide⟩ rfl (Nat.le_of_ble_eq_true rfl) (by decide) (by decide) rfl (mt_o mt_3) H (fun r V4 H => ?_)
    obtain ⟨rfl, H⟩ := H
    refine s_aload dX1_showCard_39 rfl ?_
    refine s_aload_n dX1_showCard_41 rfl ?_
    refine t_getR (r := 3) fl_1_20 dX1_showCard_42 ob_1 rfl rfl ?_
    refine t_cV (h := c3) (As := [.ref 3]) (st := []) iv_1_120 dX1_showCard_45 ⟨by decide, by decide⟩ rfl (Nat.le_of_ble_eq_true rfl) (by decide) (by decide) rfl (ev_o hc3) H (fun r V5 H => ?_)
    obtain ⟨rfl, H⟩ := H
    refine s_iload dX1_showCard_48 rfl ?_
    exact s_iret dX1_showCard_50 (Or.inl rfl) ⟨rfl, H⟩

def F_X1_maySwap (J : Nat → Nat → Int64) (p1 : Int32) (p2 : Int32) (p3 : Int32) (V : Nat → Nat → Int32) (Qr : Option Value → (Nat → Nat → Int32) → Prop) (Qx : String → (Nat → Nat → Int32) → Prop) : Prop :=
CTc J mX1_mayAdd [.ref 1] V (fun r V1 =>
  ∃ b1 : Bool, r = some (.int (bI b1)) ∧
  ((b1 = false) →
    Qr (some (.int 0)) V1) ∧
  ((b1 = true) →
    CTc J mX4_sideAt [.ref 3, .int p1] V1 (fun r V2 =>
      ∃ c2 : Nat, r = some (.ref c2) ∧ isSide c2 ∧
      CTc J mX6_mayChange [.ref c2, .int p2, .int p3] V2 (fun r V3 =>
        ∃ b3 : Bool, r = some (.int (bI b3)) ∧
        ((b3 = false) →
          Qr (some (.int 0)) V3) ∧
        ((b3 = true) →
          Qr (some (.int 1)) V3)) Qx) Qx)) Qx
theorem v_X1_maySwap {J : Nat → Nat → Int64} (p1 : Int32) (p2 : Int32) (p3 : Int32) {V : Nat → Nat → Int32} {Qr : Option Value → (Nat → Nat → Int32) → Prop} {Qx : String → (Nat → Nat → Int32) → Prop} (H : F_X1_maySwap J p1 p2 p3 V Qr Qx) : CTc J mX1_maySwap [.ref 1, .int p1, .int p2, .int p3] V Qr Qx := by
  refine ctc_of (M := (T0 J, V)) pX1_maySwap (fun _ _ => rfl) (Nat.le_of_ble_eq_true rfl) ?_
  unfold F_X1_maySwap at H
  show WPc J mX1_maySwap Qr Qx 0 [(0, .ref 1), (1, .int p1), (2, .int p2), (3, .int p3)] [] V 0 0
  refine s_aload_n dX1_maySwap_0 rfl ?_
  refine t_cV (h := 1) (As := []) (st := []) iv_1_72 dX1_maySwap_1 ⟨by decide, by decide⟩ rfl (Nat.le_of_ble_eq_true rfl) (by decide) (by decide) rfl ob_1 H (fun r V1 H => ?_)
  obtain ⟨b1, rfl, H⟩ := H
  refine s_if_eq (tgt := 27) dX1_maySwap_4 (by decide) (fun c => ?_) (fun c => ?_)
  · have H := H.1 (bI_f c)
    refine s_iconst (v := 0) dX1_maySwap_27 (by decide) ?_
    exact s_iret dX1_maySwap_28 (Or.inr ⟨rfl, (Or.inl rfl)⟩) ⟨rfl, H⟩
  · have H := H.2 (bI_t c)
    refine s_aload_n dX1_maySwap_7 rfl ?_
    refine t_getR (r := 3) fl_1_20 dX1_maySwap_8 ob_1 rfl rfl ?_
    refine s_iload_n dX1_maySwap_11 rfl ?_
    refine t_cV (h := 3) (As := [.int p1]) (st := []) iv_1_79 dX1_maySwap_12 ⟨by decide, by decide⟩ rfl (Nat.le_of_ble_eq_true rfl) (by decide) (by decide) rfl (mt_o mt_3) H (fun r V2 H => ?_)
    obtain ⟨c2, rfl, hc2, H⟩ := H
    refine s_iload_n dX1_maySwap_15 rfl ?_
    refine s_iload_n dX1_maySwap_16 rfl ?_
    refine t_cV (h := c2) (As := [.int p2, .int p3]) (st := []) iv_1_132 dX1_maySwap_17 ⟨by decide, by decide⟩ rfl (Nat.le_of_ble_eq_true rfl) (by decide) (by decide) rfl (sd_o hc2) H (fun r V3 H => ?_)
    obtain ⟨b3, rfl, H⟩ := H
    refine s_if_eq (tgt := 27) dX1_maySwap_20 (by decide) (fun c => ?_) (fun c => ?_)
    · have H := H.1 (bI_f c)
      refine s_iconst (v := 0) dX1_maySwap_27 (by decide) ?_
      exact s_iret dX1_maySwap_28 (Or.inr ⟨rfl, (Or.inl rfl)⟩) ⟨rfl, H⟩
    · have H := H.2 (bI_t c)
      refine s_iconst (v := 1) dX1_maySwap_23 (by decide) ?_
      refine s_goto (tgt := 28) dX1_maySwap_24 (by decide) ?_
      exact s_iret dX1_maySwap_28 (Or.inr ⟨rfl, (Or.inr rfl)⟩) ⟨rfl, H⟩

def F_X1_swap_33 (J : Nat → Nat → Int64) (p1 : Int32) (p2 : Int32) (p3 : Int32)  (V : Nat → Nat → Int32) (Qr : Option Value → (Nat → Nat → Int32) → Prop) (Qx : String → (Nat → Nat → Int32) → Prop) : Prop :=
CTc J mX4_sideAt [.ref 3, .int p1] V (fun r V1 =>
  ∃ c1 : Nat, r = some (.ref c1) ∧ isSide c1 ∧
  Qr (some (.int (V1 c1 6))) V1) Qx
theorem v_X1_swap_33 {J : Nat → Nat → Int64} (p1 : Int32) (p2 : Int32) (p3 : Int32) {Qr : Option Value → (Nat → Nat → Int32) → Prop} {Qx : String → (Nat → Nat → Int32) → Prop}   {V : Nat → Nat → Int32} (H : F_X1_swap_33 J p1 p2 p3   V Qr Qx) : WPc J mX1_swap Qr Qx 33 [(0, .ref 1), (1, .int p1)] [] V 0 0 := by
  unfold F_X1_swap_33 at H
  refine s_aload_n dX1_swap_33 rfl ?_
  refine t_getR (r := 3) fl_1_20 dX1_swap_34 ob_1 rfl rfl ?_
  refine s_iload_n dX1_swap_37 rfl ?_
  refine t_cV (h := 3) (As := [.int p1]) (st := []) iv_1_79 dX1_swap_38 ⟨by decide, by decide⟩ rfl (Nat.le_of_ble_eq_true rfl) (by decide) (by decide) rfl (mt_o mt_3) H (fun r V1 H => ?_)
  obtain ⟨c1, rfl, hc1, H⟩ := H
  refine t_getI fl_1_135 dX1_swap_41 (sd_o hc1) rfl ?_
  exact s_iret dX1_swap_44 (Or.inl rfl) ⟨rfl, H⟩
def F_X1_swap (J : Nat → Nat → Int64) (p1 : Int32) (p2 : Int32) (p3 : Int32) (V : Nat → Nat → Int32) (Qr : Option Value → (Nat → Nat → Int32) → Prop) (Qx : String → (Nat → Nat → Int32) → Prop) : Prop :=
CTc J mX1_addEvent [.ref 1, .int 2, .int p1, .int p2, .int p3] V (fun r V1 =>
  (r = some .null ∧
    F_X1_swap_33 J p1 p2 p3   V1 Qr Qx) ∨
  (∃ c1 : Nat, r = some (.ref c1) ∧ isEv c1 ∧
  CTc J mX4_play [.ref 3, .ref c1] V1 (fun r V2 =>
    r = none ∧
    CTc J mX2_keepWhatStands [.ref c1, .ref 3] V2 (fun r V3 =>
      r = none ∧
      F_X1_swap_33 J p1 p2 p3   V3 Qr Qx) Qx) Qx)) Qx
theorem v_X1_swap {J : Nat → Nat → Int64} (p1 : Int32) (p2 : Int32) (p3 : Int32) {V : Nat → Nat → Int32} {Qr : Option Value → (Nat → Nat → Int32) → Prop} {Qx : String → (Nat → Nat → Int32) → Prop} (H : F_X1_swap J p1 p2 p3 V Qr Qx) : CTc J mX1_swap [.ref 1, .int p1, .int p2, .int p3] V Qr Qx := by
  refine ctc_of (M := (T0 J, V)) pX1_swap (fun _ _ => rfl) (Nat.le_of_ble_eq_true rfl) ?_
  unfold F_X1_swap at H
  show WPc J mX1_swap Qr Qx 0 [(0, .ref 1), (1, .int p1), (2, .int p2), (3, .int p3)] [] V 0 0
  refine s_aload_n dX1_swap_0 rfl ?_
  refine s_iconst (v := 2) dX1_swap_1 (by decide) ?_
  refine s_iload_n dX1_swap_2 rfl ?_
  refine s_iload_n dX1_swap_3 rfl ?_
  refine s_iload_n dX1_swap_4 rfl ?_
  refine t_cV (h := 1) (As := [.int 2, .int p1, .int p2, .int p3]) (st := []) iv_1_89 dX1_swap_5 ⟨by decide, by decide⟩ rfl (Nat.le_of_ble_eq_true rfl) (by decide) (by decide) rfl ob_1 H (fun r V1 H => ?_)
  rcases H with H | H
  · obtain ⟨rfl, H⟩ := H
    refine t_astoreN (L' := [(4, .null), (0, .ref 1), (1, .int p1), (2, .int p2), (3, .int p3)]) dX1_swap_8 (by decide) rfl ?_
    refine s_aloadN dX1_swap_10 rfl ?_
    refine s_ifnullN (tgt := 33) dX1_swap_12 (by decide) ?_
    exact t_loc [1, 2] rfl (v_X1_swap_33 p1 p2 p3      H)
  · obtain ⟨c1, rfl, hc1, H⟩ := H
    refine t_astore (L' := [(4, .ref c1), (0, .ref 1), (1, .int p1), (2, .int p2), (3, .int p3)]) dX1_swap_8 (by decide) rfl ?_
    refine s_aload dX1_swap_10 rfl ?_
    refine s_ifnull dX1_swap_12 ?_
    refine s_aload_n dX1_swap_15 rfl ?_
    refine t_getR (r := 3) fl_1_20 dX1_swap_16 ob_1 rfl rfl ?_
    refine s_aload dX1_swap_19 rfl ?_
    refine t_cV (h := 3) (As := [.ref c1]) (st := []) iv_1_116 dX1_swap_21 ⟨by decide, by decide⟩ rfl (Nat.le_of_ble_eq_true rfl) (by decide) (by decide) rfl (mt_o mt_3) H (fun r V2 H => ?_)
    obtain ⟨rfl, H⟩ := H
    refine s_aload dX1_swap_24 rfl ?_
    refine s_aload_n dX1_swap_26 rfl ?_
    refine t_getR (r := 3) fl_1_20 dX1_swap_27 ob_1 rfl rfl ?_
    refine t_cV (h := c1) (As := [.ref 3]) (st := []) iv_1_120 dX1_swap_30 ⟨by decide, by decide⟩ rfl (Nat.le_of_ble_eq_true rfl) (by decide) (by decide) rfl (ev_o hc1) H (fun r V3 H => ?_)
    obtain ⟨rfl, H⟩ := H
    exact t_loc [1, 2] rfl (v_X1_swap_33 p1 p2 p3      H)

def F_X1_stepsOf (J : Nat → Nat → Int64) (p1 : Int32) (V : Nat → Nat → Int32) (Qr : Option Value → (Nat → Nat → Int32) → Prop) (Qx : String → (Nat → Nat → Int32) → Prop) : Prop :=
CTc J mX1_countEnded [.ref 1] V (fun r V1 =>
  ∃ r1 : Int32, r = some (.int r1) ∧
  ((r1 ≤ p1) →
    Qr (some (.int 0)) V1) ∧
  ((¬ r1 ≤ p1) →
    CTc J mX1_eventAt [.ref 1, .int p1] V1 (fun r V2 =>
      (r = some .null ∧
        Qr (some (.int 0)) V2) ∨
      (∃ c2 : Nat, r = some (.ref c2) ∧ isEv c2 ∧
      CTc J mX2_isRaid [.ref c2] V2 (fun r V3 =>
        ∃ b3 : Bool, r = some (.int (bI b3)) ∧
        ((b3 = false) →
          Qr (some (.int 0)) V3) ∧
        ((b3 = true) →
          Qr (some (.int (V3 c2 9))) V3)) Qx)) Qx)) Qx
theorem v_X1_stepsOf {J : Nat → Nat → Int64} (p1 : Int32) {V : Nat → Nat → Int32} {Qr : Option Value → (Nat → Nat → Int32) → Prop} {Qx : String → (Nat → Nat → Int32) → Prop} (H : F_X1_stepsOf J p1 V Qr Qx) : CTc J mX1_stepsOf [.ref 1, .int p1] V Qr Qx := by
  refine ctc_of (M := (T0 J, V)) pX1_stepsOf (fun _ _ => rfl) (Nat.le_of_ble_eq_true rfl) ?_
  unfold F_X1_stepsOf at H
  show WPc J mX1_stepsOf Qr Qx 0 [(0, .ref 1), (1, .int p1)] [] V 0 0
  refine s_iload_n dX1_stepsOf_0 rfl ?_
  refine s_aload_n dX1_stepsOf_1 rfl ?_
  refine t_cV (h := 1) (As := []) (st := [.int p1]) iv_1_138 dX1_stepsOf_2 ⟨by decide, by decide⟩ rfl (Nat.le_of_ble_eq_true rfl) (by decide) (by decide) rfl ob_1 H (fun r V1 H => ?_)
  obtain ⟨r1, rfl, H⟩ := H
  refine s_icmp_ge (tgt := 16) dX1_stepsOf_5 (by decide) (fun c => ?_) (fun c => ?_)
  · have H := H.1 c
    refine s_null dX1_stepsOf_16 ?_
    refine t_astore_nN (L' := [(2, .null), (0, .ref 1), (1, .int p1)]) dX1_stepsOf_17 (by decide) rfl ?_
    refine s_aload_nN dX1_stepsOf_18 rfl ?_
    refine s_ifnullN (tgt := 36) dX1_stepsOf_19 (by decide) ?_
    refine s_iconst (v := 0) dX1_stepsOf_36 (by decide) ?_
    exact s_iret dX1_stepsOf_37 (Or.inl rfl) ⟨rfl, H⟩
  · have H := H.2 c
    refine s_aload_n dX1_stepsOf_8 rfl ?_
    refine s_iload_n dX1_stepsOf_9 rfl ?_
    refine t_cV (h := 1) (As := [.int p1]) (st := []) iv_1_64 dX1_stepsOf_10 ⟨by decide, by decide⟩ rfl (Nat.le_of_ble_eq_true rfl) (by decide) (by decide) rfl ob_1 H (fun r V2 H => ?_)
    rcases H with H | H
    · obtain ⟨rfl, H⟩ := H
      refine s_goto (tgt := 17) dX1_stepsOf_13 (by decide) ?_
      refine t_astore_nN (L' := [(2, .null), (0, .ref 1), (1, .int p1)]) dX1_stepsOf_17 (by decide) rfl ?_
      refine s_aload_nN dX1_stepsOf_18 rfl ?_
      refine s_ifnullN (tgt := 36) dX1_stepsOf_19 (by decide) ?_
      refine s_iconst (v := 0) dX1_stepsOf_36 (by decide) ?_
      exact s_iret dX1_stepsOf_37 (Or.inl rfl) ⟨rfl, H⟩
    · obtain ⟨c2, rfl, hc2, H⟩ := H
      refine s_goto (tgt := 17) dX1_stepsOf_13 (by decide) ?_
      refine t_astore_n (L' := [(2, .ref c2), (0, .ref 1), (1, .int p1)]) dX1_stepsOf_17 (by decide) rfl ?_
      refine s_aload_n dX1_stepsOf_18 rfl ?_
      refine s_ifnull dX1_stepsOf_19 ?_
      refine s_aload_n dX1_stepsOf_22 rfl ?_
      refine t_cV (h := c2) (As := []) (st := []) iv_1_141 dX1_stepsOf_23 ⟨by decide, by decide⟩ rfl (Nat.le_of_ble_eq_true rfl) (by decide) (by decide) rfl (ev_o hc2) H (fun r V3 H => ?_)
      obtain ⟨b3, rfl, H⟩ := H
      refine s_if_eq (tgt := 36) dX1_stepsOf_26 (by decide) (fun c => ?_) (fun c => ?_)
      · have H := H.1 (bI_f c)
        refine s_iconst (v := 0) dX1_stepsOf_36 (by decide) ?_
        exact s_iret dX1_stepsOf_37 (Or.inl rfl) ⟨rfl, H⟩
      · have H := H.2 (bI_t c)
        refine s_aload_n dX1_stepsOf_29 rfl ?_
        refine t_getI fl_1_100 dX1_stepsOf_30 (ev_o hc2) rfl ?_
        refine s_goto (tgt := 37) dX1_stepsOf_33 (by decide) ?_
        exact s_iret dX1_stepsOf_37 (Or.inl rfl) ⟨rfl, H⟩

def F_X1_keepsReview (J : Nat → Nat → Int64) (p1 : Int32) (V : Nat → Nat → Int32) (Qr : Option Value → (Nat → Nat → Int32) → Prop) (Qx : String → (Nat → Nat → Int32) → Prop) : Prop :=
((¬ (((V 1 10) >>> (p1 &&& 31)) &&& 1) = 0) →
  Qr (some (.int 0)) V) ∧
(((((V 1 10) >>> (p1 &&& 31)) &&& 1) = 0) →
  Qr (some (.int 1)) V)
theorem v_X1_keepsReview {J : Nat → Nat → Int64} (p1 : Int32) {V : Nat → Nat → Int32} {Qr : Option Value → (Nat → Nat → Int32) → Prop} {Qx : String → (Nat → Nat → Int32) → Prop} (H : F_X1_keepsReview J p1 V Qr Qx) : CTc J mX1_keepsReview [.ref 1, .int p1] V Qr Qx := by
  refine ctc_of (M := (T0 J, V)) pX1_keepsReview (fun _ _ => rfl) (Nat.le_of_ble_eq_true rfl) ?_
  unfold F_X1_keepsReview at H
  show WPc J mX1_keepsReview Qr Qx 0 [(0, .ref 1), (1, .int p1)] [] V 0 0
  refine s_aload_n dX1_keepsReview_0 rfl ?_
  refine t_getI fl_1_48 dX1_keepsReview_1 ob_1 rfl ?_
  refine s_iload_n dX1_keepsReview_4 rfl ?_
  refine s_ishr dX1_keepsReview_5 ?_
  refine s_iconst (v := 1) dX1_keepsReview_6 (by decide) ?_
  refine s_iand dX1_keepsReview_7 ?_
  refine s_if_ne (tgt := 15) dX1_keepsReview_8 (by decide) (fun c => ?_) (fun c => ?_)
  · have H := H.1 c
    refine s_iconst (v := 0) dX1_keepsReview_15 (by decide) ?_
    exact s_iret dX1_keepsReview_16 (Or.inr ⟨rfl, (Or.inl rfl)⟩) ⟨rfl, H⟩
  · have H := H.2 c
    refine s_iconst (v := 1) dX1_keepsReview_11 (by decide) ?_
    refine s_goto (tgt := 16) dX1_keepsReview_12 (by decide) ?_
    exact s_iret dX1_keepsReview_16 (Or.inr ⟨rfl, (Or.inr rfl)⟩) ⟨rfl, H⟩

def F_X1_firstFallen (J : Nat → Nat → Int64) (p1 : Int32) (p2 : Int32) (p3 : Int32) (p4 : Int32) (V : Nat → Nat → Int32) (Qr : Option Value → (Nat → Nat → Int32) → Prop) (Qx : String → (Nat → Nat → Int32) → Prop) : Prop :=
CTc J mX1_eventAt [.ref 1, .int p1] V (fun r V1 =>
  (r = some .null ∧
    Qr (some (.int p1)) V1) ∨
  (∃ c1 : Nat, r = some (.ref c1) ∧ isEv c1 ∧
  CTc J mX2_kindAt [.ref c1, .int p2] V1 (fun r V2 =>
    ∃ r2 : Int32, r = some (.int r2) ∧
    CTc J mX7_isEnd [.int r2] V2 (fun r V3 =>
      ∃ b3 : Bool, r = some (.int (bI b3)) ∧
      CTc J mX7_isEnd [.int p3] V3 (fun r V4 =>
        ∃ b4 : Bool, r = some (.int (bI b4)) ∧
        (((bI b3) = (bI b4)) →
          CTc J mX2_kindAt [.ref c1, .int p2] V4 (fun r V5 =>
            ∃ r5 : Int32, r = some (.int r5) ∧
            CTc J mX2_whoAt [.ref c1, .int p2] V5 (fun r V6 =>
              ∃ r6 : Int32, r = some (.int r6) ∧
              CTc J mX2_correct [.ref c1, .int p2, .int p3, .int p4] V6 (fun r V7 =>
                r = none ∧
                CTc J mX1_countEnded [.ref 1] V7 (fun r V8 =>
                  ∃ r8 : Int32, r = some (.int r8) ∧
                  CTc J mX1_goThrough [.ref 1, .int r8] V8 (fun r V9 =>
                    ∃ r9 : Int32, r = some (.int r9) ∧
                    CTc J mX2_correct [.ref c1, .int p2, .int r5, .int r6] V9 (fun r V10 =>
                      r = none ∧
                      Qr (some (.int r9)) V10) Qx) Qx) Qx) Qx) Qx) Qx) ∧
        ((¬ (bI b3) = (bI b4)) →
          Qr (some (.int p1)) V4)) Qx) Qx) Qx)) Qx
theorem v_X1_firstFallen {J : Nat → Nat → Int64} (p1 : Int32) (p2 : Int32) (p3 : Int32) (p4 : Int32) {V : Nat → Nat → Int32} {Qr : Option Value → (Nat → Nat → Int32) → Prop} {Qx : String → (Nat → Nat → Int32) → Prop} (H : F_X1_firstFallen J p1 p2 p3 p4 V Qr Qx) : CTc J mX1_firstFallen [.ref 1, .int p1, .int p2, .int p3, .int p4] V Qr Qx := by
  refine ctc_of (M := (T0 J, V)) pX1_firstFallen (fun _ _ => rfl) (Nat.le_of_ble_eq_true rfl) ?_
  unfold F_X1_firstFallen at H
  show WPc J mX1_firstFallen Qr Qx 0 [(0, .ref 1), (1, .int p1), (2, .int p2), (3, .int p3), (4, .int p4)] [] V 0 0
  refine s_aload_n dX1_firstFallen_0 rfl ?_
  refine s_iload_n dX1_firstFallen_1 rfl ?_
  refine t_cV (h := 1) (As := [.int p1]) (st := []) iv_1_64 dX1_firstFallen_2 ⟨by decide, by decide⟩ rfl (Nat.le_of_ble_eq_true rfl) (by decide) (by decide) rfl ob_1 H (fun r V1 H => ?_)
  rcases H with H | H
  · obtain ⟨rfl, H⟩ := H
    refine t_astoreN (L' := [(5, .null), (0, .ref 1), (1, .int p1), (2, .int p2), (3, .int p3), (4, .int p4)]) dX1_firstFallen_5 (by decide) rfl ?_
    refine s_aloadN dX1_firstFallen_7 rfl ?_
    refine s_ifnullN (tgt := 28) dX1_firstFallen_9 (by decide) ?_
    refine s_iload_n dX1_firstFallen_28 rfl ?_
    exact s_iret dX1_firstFallen_29 (Or.inl rfl) ⟨rfl, H⟩
  · obtain ⟨c1, rfl, hc1, H⟩ := H
    refine t_astore (L' := [(5, .ref c1), (0, .ref 1), (1, .int p1), (2, .int p2), (3, .int p3), (4, .int p4)]) dX1_firstFallen_5 (by decide) rfl ?_
    refine s_aload dX1_firstFallen_7 rfl ?_
    refine s_ifnull dX1_firstFallen_9 ?_
    refine s_aload dX1_firstFallen_12 rfl ?_
    refine s_iload_n dX1_firstFallen_14 rfl ?_
    refine t_cV (h := c1) (As := [.int p2]) (st := []) iv_1_144 dX1_firstFallen_15 ⟨by decide, by decide⟩ rfl (Nat.le_of_ble_eq_true rfl) (by decide) (by decide) rfl (ev_o hc1) H (fun r V2 H => ?_)
    obtain ⟨r2, rfl, H⟩ := H
    refine t_cN (As := [.int r2]) (st := []) iv_1_109 dX1_firstFallen_18 ⟨by decide, by decide⟩ rfl (Nat.le_of_ble_eq_true rfl) (by decide) (by decide) rfl H (fun r V3 H => ?_)
    obtain ⟨b3, rfl, H⟩ := H
    refine s_iload_n dX1_firstFallen_21 rfl ?_
    refine t_cN (As := [.int p3]) (st := [.int (bI b3)]) iv_1_109 dX1_firstFallen_22 ⟨by decide, by decide⟩ rfl (Nat.le_of_ble_eq_true rfl) (by decide) (by decide) rfl H (fun r V4 H => ?_)
    obtain ⟨b4, rfl, H⟩ := H
    refine s_icmp_eq (tgt := 30) dX1_firstFallen_25 (by decide) (fun c => ?_) (fun c => ?_)
    · have H := H.1 c
      refine s_aload dX1_firstFallen_30 rfl ?_
      refine s_iload_n dX1_firstFallen_32 rfl ?_
      refine t_cV (h := c1) (As := [.int p2]) (st := []) iv_1_144 dX1_firstFallen_33 ⟨by decide, by decide⟩ rfl (Nat.le_of_ble_eq_true rfl) (by decide) (by decide) rfl (ev_o hc1) H (fun r V5 H => ?_)
      obtain ⟨r5, rfl, H⟩ := H
      refine t_istore (L' := [(6, .int r5), (5, .ref c1), (0, .ref 1), (1, .int p1), (2, .int p2), (3, .int p3), (4, .int p4)]) dX1_firstFallen_36 (by decide) rfl ?_
      refine s_aload dX1_firstFallen_38 rfl ?_
      refine s_iload_n dX1_firstFallen_40 rfl ?_
      refine t_cV (h := c1) (As := [.int p2]) (st := []) iv_1_147 dX1_firstFallen_41 ⟨by decide, by decide⟩ rfl (Nat.le_of_ble_eq_true rfl) (by decide) (by decide) rfl (ev_o hc1) H (fun r V6 H => ?_)
      obtain ⟨r6, rfl, H⟩ := H
      refine t_istore (L' := [(7, .int r6), (6, .int r5), (5, .ref c1), (0, .ref 1), (1, .int p1), (2, .int p2), (3, .int p3), (4, .int p4)]) dX1_firstFallen_44 (by decide) rfl ?_
      refine s_aload dX1_firstFallen_46 rfl ?_
      refine s_iload_n dX1_firstFallen_48 rfl ?_
      refine s_iload_n dX1_firstFallen_49 rfl ?_
      refine s_iload dX1_firstFallen_50 rfl ?_
      refine t_cV (h := c1) (As := [.int p2, .int p3, .int p4]) (st := []) iv_1_150 dX1_firstFallen_52 ⟨by decide, by decide⟩ rfl (Nat.le_of_ble_eq_true rfl) (by decide) (by decide) rfl (ev_o hc1) H (fun r V7 H => ?_)
      obtain ⟨rfl, H⟩ := H
      refine s_aload_n dX1_firstFallen_55 rfl ?_
      refine s_aload_n dX1_firstFallen_56 rfl ?_
      refine t_cV (h := 1) (As := []) (st := [.ref 1]) iv_1_138 dX1_firstFallen_57 ⟨by decide, by decide⟩ rfl (Nat.le_of_ble_eq_true rfl) (by decide) (by decide) rfl ob_1 H (fun r V8 H => ?_)
      obtain ⟨r8, rfl, H⟩ := H
      refine t_cV (h := 1) (As := [.int r8]) (st := []) iv_1_153 dX1_firstFallen_60 ⟨by decide, by decide⟩ rfl (Nat.le_of_ble_eq_true rfl) (by decide) (by decide) rfl ob_1 H (fun r V9 H => ?_)
      obtain ⟨r9, rfl, H⟩ := H
      refine t_istore (L' := [(8, .int r9), (7, .int r6), (6, .int r5), (5, .ref c1), (0, .ref 1), (1, .int p1), (2, .int p2), (3, .int p3), (4, .int p4)]) dX1_firstFallen_63 (by decide) rfl ?_
      refine s_aload dX1_firstFallen_65 rfl ?_
      refine s_iload_n dX1_firstFallen_67 rfl ?_
      refine s_iload dX1_firstFallen_68 rfl ?_
      refine s_iload dX1_firstFallen_70 rfl ?_
      refine t_cV (h := c1) (As := [.int p2, .int r5, .int r6]) (st := []) iv_1_150 dX1_firstFallen_72 ⟨by decide, by decide⟩ rfl (Nat.le_of_ble_eq_true rfl) (by decide) (by decide) rfl (ev_o hc1) H (fun r V10 H => ?_)
      obtain ⟨rfl, H⟩ := H
      refine s_iload dX1_firstFallen_75 rfl ?_
      exact s_iret dX1_firstFallen_77 (Or.inl rfl) ⟨rfl, H⟩
    · have H := H.2 c
      refine s_iload_n dX1_firstFallen_28 rfl ?_
      exact s_iret dX1_firstFallen_29 (Or.inl rfl) ⟨rfl, H⟩

def B_X1_goThrough_9 (J : Nat → Nat → Int64) (p1 : Int32) (K9 : Int32 → (Nat → Nat → Int32) → Prop) (x2 : Int32) (V : Nat → Nat → Int32) (Qr : Option Value → (Nat → Nat → Int32) → Prop) (Qx : String → (Nat → Nat → Int32) → Prop) : Prop :=
((p1 ≤ x2) →
  Qr (some (.int (-1))) V) ∧
((¬ p1 ≤ x2) →
  ((60 ≤ x2) →
    Qr (some (.int (-1))) V) ∧
  ((¬ 60 ≤ x2) →
    vp_in x2 60 ∧
    CTc J mX4_mayStand [.ref 16, .ref (29 + 6 * x2.toNatClampNeg)] V (fun r V1 =>
      ∃ b1 : Bool, r = some (.int (bI b1)) ∧
      ((b1 = true) →
        CTc J mX4_play [.ref 16, .ref (29 + 6 * x2.toNatClampNeg)] V1 (fun r V2 =>
          r = none ∧
          K9 (x2 + 1) V2) Qx) ∧
      ((b1 = false) →
        Qr (some (.int x2)) V1)) Qx))
def F_X1_goThrough_9 (J : Nat → Nat → Int64) (p1 : Int32) (x2 : Int32) (V : Nat → Nat → Int32) (Qr : Option Value → (Nat → Nat → Int32) → Prop) (Qx : String → (Nat → Nat → Int32) → Prop) : Prop :=
  ∃ I : Nat → Int32 → (Nat → Nat → Int32) → Prop, (∃ n, I n x2 V) ∧ ∀ n (x2 : Int32) (V : Nat → Nat → Int32), I n x2 V → B_X1_goThrough_9 J p1  (fun x2 V => ∃ n', n' < n ∧ I n' x2 V) x2 V Qr Qx
theorem v_X1_goThrough_9 {J : Nat → Nat → Int64} (p1 : Int32) {Qr : Option Value → (Nat → Nat → Int32) → Prop} {Qx : String → (Nat → Nat → Int32) → Prop} (x2 : Int32)  {V : Nat → Nat → Int32} (H : F_X1_goThrough_9 J p1  x2 V Qr Qx) : WPc J mX1_goThrough Qr Qx 9 [(0, .ref 1), (1, .int p1), (2, .int x2)] [] V 0 0 := by
  obtain ⟨I, ⟨n0, h0⟩, hs⟩ := H
  have step : ∀ (K9 : Int32 → (Nat → Nat → Int32) → Prop), (∀ (x2 : Int32)  (V : Nat → Nat → Int32), K9 x2 V → WPc J mX1_goThrough Qr Qx 9 [(0, .ref 1), (1, .int p1), (2, .int x2)] [] V 0 0) → ∀ (x2 : Int32)  (V : Nat → Nat → Int32), B_X1_goThrough_9 J p1  K9 x2 V Qr Qx → WPc J mX1_goThrough Qr Qx 9 [(0, .ref 1), (1, .int p1), (2, .int x2)] [] V 0 0 := by
    intro K9 hK9 x2  V H
    unfold B_X1_goThrough_9 at H
    refine s_iload_n dX1_goThrough_9 rfl ?_
    refine s_iload_n dX1_goThrough_10 rfl ?_
    refine s_icmp_ge (tgt := 58) dX1_goThrough_11 (by decide) (fun c => ?_) (fun c => ?_)
    · have H := H.1 c
      refine s_iconst (v := (-1)) dX1_goThrough_58 (by decide) ?_
      exact s_iret dX1_goThrough_59 (Or.inl rfl) ⟨rfl, H⟩
    · have H := H.2 c
      refine s_iload_n dX1_goThrough_14 rfl ?_
      refine s_bipush (v := 60) dX1_goThrough_15 (by decide) ?_
      refine s_icmp_ge (tgt := 58) dX1_goThrough_17 (by decide) (fun c => ?_) (fun c => ?_)
      · have H := H.1 c
        refine s_iconst (v := (-1)) dX1_goThrough_58 (by decide) ?_
        exact s_iret dX1_goThrough_59 (Or.inl rfl) ⟨rfl, H⟩
      · have H := H.2 c
        refine s_aload_n dX1_goThrough_20 rfl ?_
        refine t_getR (r := 2) fl_1_11 dX1_goThrough_21 ob_1 rfl rfl ?_
        refine s_iload_n dX1_goThrough_24 rfl ?_
        have hv25 := ev_of (vp_lt H.1)
        refine t_aald dX1_goThrough_25 H.1 ?_
        have H := H.2
        refine t_astore_n (L' := [(3, .ref (29 + 6 * x2.toNatClampNeg)), (0, .ref 1), (1, .int p1), (2, .int x2)]) dX1_goThrough_26 (by decide) rfl ?_
        refine s_aload_n dX1_goThrough_27 rfl ?_
        refine s_ifnull dX1_goThrough_28 ?_
        refine s_aload_n dX1_goThrough_31 rfl ?_
        refine t_getR (r := 16) fl_1_24 dX1_goThrough_32 ob_1 rfl rfl ?_
        refine s_aload_n dX1_goThrough_35 rfl ?_
        refine t_cV (h := 16) (As := [.ref (29 + 6 * x2.toNatClampNeg)]) (st := []) iv_1_156 dX1_goThrough_36 ⟨by decide, by decide⟩ rfl (Nat.le_of_ble_eq_true rfl) (by decide) (by decide) rfl (mt_o mt_16) H (fun r V1 H => ?_)
        obtain ⟨b1, rfl, H⟩ := H
        refine s_if_ne (tgt := 44) dX1_goThrough_39 (by decide) (fun c => ?_) (fun c => ?_)
        · have H := H.1 (bI_t c)
          refine s_aload_n dX1_goThrough_44 rfl ?_
          refine t_getR (r := 16) fl_1_24 dX1_goThrough_45 ob_1 rfl rfl ?_
          refine s_aload_n dX1_goThrough_48 rfl ?_
          refine t_cV (h := 16) (As := [.ref (29 + 6 * x2.toNatClampNeg)]) (st := []) iv_1_116 dX1_goThrough_49 ⟨by decide, by decide⟩ rfl (Nat.le_of_ble_eq_true rfl) (by decide) (by decide) rfl (mt_o mt_16) H (fun r V2 H => ?_)
          obtain ⟨rfl, H⟩ := H
          refine t_iinc (v := (x2 + 1)) (L' := [(2, .int (x2 + 1)), (3, .ref (29 + 6 * x2.toNatClampNeg)), (0, .ref 1), (1, .int p1)]) dX1_goThrough_52 rfl (by rfl) (by decide) rfl ?_
          refine s_goto (tgt := 9) dX1_goThrough_55 (by decide) ?_
          exact t_loc [2, 3, 0] rfl (hK9 (x2 + 1)  V2 H)
        · have H := H.2 (bI_f c)
          refine s_iload_n dX1_goThrough_42 rfl ?_
          exact s_iret dX1_goThrough_43 (Or.inl rfl) ⟨rfl, H⟩
  have key : ∀ n, ∀ (x2 : Int32)  (V : Nat → Nat → Int32), I n x2 V → WPc J mX1_goThrough Qr Qx 9 [(0, .ref 1), (1, .int p1), (2, .int x2)] [] V 0 0 := by
    refine strong (fun n ih => ?_)
    intro x2  V hI
    exact step _ (fun x2  V hz => Exists.elim hz (fun n1 hz => ih n1 hz.1 x2  V hz.2)) x2  V (hs n x2 V hI)
  exact key n0 x2  V h0
def F_X1_goThrough (J : Nat → Nat → Int64) (p1 : Int32) (V : Nat → Nat → Int32) (Qr : Option Value → (Nat → Nat → Int32) → Prop) (Qx : String → (Nat → Nat → Int32) → Prop) : Prop :=
CTc J mX4_reset [.ref 16] V (fun r V1 =>
  r = none ∧
  F_X1_goThrough_9 J p1  0 V1 Qr Qx) Qx
theorem v_X1_goThrough {J : Nat → Nat → Int64} (p1 : Int32) {V : Nat → Nat → Int32} {Qr : Option Value → (Nat → Nat → Int32) → Prop} {Qx : String → (Nat → Nat → Int32) → Prop} (H : F_X1_goThrough J p1 V Qr Qx) : CTc J mX1_goThrough [.ref 1, .int p1] V Qr Qx := by
  refine ctc_of (M := (T0 J, V)) pX1_goThrough (fun _ _ => rfl) (Nat.le_of_ble_eq_true rfl) ?_
  unfold F_X1_goThrough at H
  show WPc J mX1_goThrough Qr Qx 0 [(0, .ref 1), (1, .int p1)] [] V 0 0
  refine s_aload_n dX1_goThrough_0 rfl ?_
  refine t_getR (r := 16) fl_1_24 dX1_goThrough_1 ob_1 rfl rfl ?_
  refine t_cV (h := 16) (As := []) (st := []) iv_1_51 dX1_goThrough_4 ⟨by decide, by decide⟩ rfl (Nat.le_of_ble_eq_true rfl) (by decide) (by decide) rfl (mt_o mt_16) H (fun r V1 H => ?_)
  obtain ⟨rfl, H⟩ := H
  refine s_iconst (v := 0) dX1_goThrough_7 (by decide) ?_
  refine t_istore_n (L' := [(2, .int 0), (0, .ref 1), (1, .int p1)]) dX1_goThrough_8 (by decide) rfl ?_
  exact t_loc [1, 2, 0] rfl (v_X1_goThrough_9 p1    0  H)

def F_X1_playAllAnew_50 (J : Nat → Nat → Int64)  (K9 : Int32 → (Nat → Nat → Int32) → Prop) (x1 : Int32) (V : Nat → Nat → Int32) (Qr : Option Value → (Nat → Nat → Int32) → Prop) (Qx : String → (Nat → Nat → Int32) → Prop) : Prop :=
K9 (x1 + 1) V
theorem v_X1_playAllAnew_50 {J : Nat → Nat → Int64}  {Qr : Option Value → (Nat → Nat → Int32) → Prop} {Qx : String → (Nat → Nat → Int32) → Prop} (K9 : Int32 → (Nat → Nat → Int32) → Prop) (hK9 : ∀ (x1 : Int32)  (V : Nat → Nat → Int32), K9 x1 V → WPc J mX1_playAllAnew Qr Qx 9 [(0, .ref 1), (1, .int x1)] [] V 0 0) (x1 : Int32)  {V : Nat → Nat → Int32} (H : F_X1_playAllAnew_50 J  K9 x1 V Qr Qx) : WPc J mX1_playAllAnew Qr Qx 50 [(0, .ref 1), (1, .int x1)] [] V 0 0 := by
  unfold F_X1_playAllAnew_50 at H
  refine t_iinc (v := (x1 + 1)) (L' := [(1, .int (x1 + 1)), (0, .ref 1)]) dX1_playAllAnew_50 rfl (by rfl) (by decide) rfl ?_
  refine s_goto (tgt := 9) dX1_playAllAnew_53 (by decide) ?_
  exact t_loc [1, 0] rfl (hK9 (x1 + 1)  V H)
def B_X1_playAllAnew_9 (J : Nat → Nat → Int64)  (K9 : Int32 → (Nat → Nat → Int32) → Prop) (x1 : Int32) (V : Nat → Nat → Int32) (Qr : Option Value → (Nat → Nat → Int32) → Prop) (Qx : String → (Nat → Nat → Int32) → Prop) : Prop :=
(((V 1 3) ≤ x1) →
  Qr none V) ∧
((¬ (V 1 3) ≤ x1) →
  ((60 ≤ x1) →
    Qr none V) ∧
  ((¬ 60 ≤ x1) →
    vp_in x1 60 ∧
    CTc J mX4_play [.ref 3, .ref (29 + 6 * x1.toNatClampNeg)] V (fun r V1 =>
      r = none ∧
      CTc J mX2_keepWhatStands [.ref (29 + 6 * x1.toNatClampNeg), .ref 3] V1 (fun r V2 =>
        r = none ∧
        F_X1_playAllAnew_50 J  K9 x1 V2 Qr Qx) Qx) Qx))
def F_X1_playAllAnew_9 (J : Nat → Nat → Int64)  (x1 : Int32) (V : Nat → Nat → Int32) (Qr : Option Value → (Nat → Nat → Int32) → Prop) (Qx : String → (Nat → Nat → Int32) → Prop) : Prop :=
  ∃ I : Nat → Int32 → (Nat → Nat → Int32) → Prop, (∃ n, I n x1 V) ∧ ∀ n (x1 : Int32) (V : Nat → Nat → Int32), I n x1 V → B_X1_playAllAnew_9 J   (fun x1 V => ∃ n', n' < n ∧ I n' x1 V) x1 V Qr Qx
theorem v_X1_playAllAnew_9 {J : Nat → Nat → Int64}  {Qr : Option Value → (Nat → Nat → Int32) → Prop} {Qx : String → (Nat → Nat → Int32) → Prop} (x1 : Int32)  {V : Nat → Nat → Int32} (H : F_X1_playAllAnew_9 J   x1 V Qr Qx) : WPc J mX1_playAllAnew Qr Qx 9 [(0, .ref 1), (1, .int x1)] [] V 0 0 := by
  obtain ⟨I, ⟨n0, h0⟩, hs⟩ := H
  have step : ∀ (K9 : Int32 → (Nat → Nat → Int32) → Prop), (∀ (x1 : Int32)  (V : Nat → Nat → Int32), K9 x1 V → WPc J mX1_playAllAnew Qr Qx 9 [(0, .ref 1), (1, .int x1)] [] V 0 0) → ∀ (x1 : Int32)  (V : Nat → Nat → Int32), B_X1_playAllAnew_9 J   K9 x1 V Qr Qx → WPc J mX1_playAllAnew Qr Qx 9 [(0, .ref 1), (1, .int x1)] [] V 0 0 := by
    intro K9 hK9 x1  V H
    unfold B_X1_playAllAnew_9 at H
    refine s_iload_n dX1_playAllAnew_9 rfl ?_
    refine s_aload_n dX1_playAllAnew_10 rfl ?_
    refine t_getI fl_1_35 dX1_playAllAnew_11 ob_1 rfl ?_
    refine s_icmp_ge (tgt := 56) dX1_playAllAnew_14 (by decide) (fun c => ?_) (fun c => ?_)
    · have H := H.1 c
      exact s_vret dX1_playAllAnew_56 rfl ⟨rfl, H⟩
    · have H := H.2 c
      refine s_iload_n dX1_playAllAnew_17 rfl ?_
      refine s_bipush (v := 60) dX1_playAllAnew_18 (by decide) ?_
      refine s_icmp_ge (tgt := 56) dX1_playAllAnew_20 (by decide) (fun c => ?_) (fun c => ?_)
      · have H := H.1 c
        exact s_vret dX1_playAllAnew_56 rfl ⟨rfl, H⟩
      · have H := H.2 c
        refine s_aload_n dX1_playAllAnew_23 rfl ?_
        refine t_getR (r := 2) fl_1_11 dX1_playAllAnew_24 ob_1 rfl rfl ?_
        refine s_iload_n dX1_playAllAnew_27 rfl ?_
        have hv28 := ev_of (vp_lt H.1)
        refine t_aald dX1_playAllAnew_28 H.1 ?_
        have H := H.2
        refine t_astore_n (L' := [(2, .ref (29 + 6 * x1.toNatClampNeg)), (0, .ref 1), (1, .int x1)]) dX1_playAllAnew_29 (by decide) rfl ?_
        refine s_aload_n dX1_playAllAnew_30 rfl ?_
        refine s_ifnull dX1_playAllAnew_31 ?_
        refine s_aload_n dX1_playAllAnew_34 rfl ?_
        refine t_getR (r := 3) fl_1_20 dX1_playAllAnew_35 ob_1 rfl rfl ?_
        refine s_aload_n dX1_playAllAnew_38 rfl ?_
        refine t_cV (h := 3) (As := [.ref (29 + 6 * x1.toNatClampNeg)]) (st := []) iv_1_116 dX1_playAllAnew_39 ⟨by decide, by decide⟩ rfl (Nat.le_of_ble_eq_true rfl) (by decide) (by decide) rfl (mt_o mt_3) H (fun r V1 H => ?_)
        obtain ⟨rfl, H⟩ := H
        refine s_aload_n dX1_playAllAnew_42 rfl ?_
        refine s_aload_n dX1_playAllAnew_43 rfl ?_
        refine t_getR (r := 3) fl_1_20 dX1_playAllAnew_44 ob_1 rfl rfl ?_
        refine t_cV (h := (29 + 6 * x1.toNatClampNeg)) (As := [.ref 3]) (st := []) iv_1_120 dX1_playAllAnew_47 ⟨by decide, by decide⟩ rfl (Nat.le_of_ble_eq_true rfl) (by decide) (by decide) rfl (ev_o hv28) H (fun r V2 H => ?_)
        obtain ⟨rfl, H⟩ := H
        exact t_loc [1, 2] rfl (v_X1_playAllAnew_50   K9 hK9 x1  H)
  have key : ∀ n, ∀ (x1 : Int32)  (V : Nat → Nat → Int32), I n x1 V → WPc J mX1_playAllAnew Qr Qx 9 [(0, .ref 1), (1, .int x1)] [] V 0 0 := by
    refine strong (fun n ih => ?_)
    intro x1  V hI
    exact step _ (fun x1  V hz => Exists.elim hz (fun n1 hz => ih n1 hz.1 x1  V hz.2)) x1  V (hs n x1 V hI)
  exact key n0 x1  V h0
def F_X1_playAllAnew (J : Nat → Nat → Int64)  (V : Nat → Nat → Int32) (Qr : Option Value → (Nat → Nat → Int32) → Prop) (Qx : String → (Nat → Nat → Int32) → Prop) : Prop :=
CTc J mX4_reset [.ref 3] V (fun r V1 =>
  r = none ∧
  F_X1_playAllAnew_9 J   0 V1 Qr Qx) Qx
theorem v_X1_playAllAnew {J : Nat → Nat → Int64}  {V : Nat → Nat → Int32} {Qr : Option Value → (Nat → Nat → Int32) → Prop} {Qx : String → (Nat → Nat → Int32) → Prop} (H : F_X1_playAllAnew J  V Qr Qx) : CTc J mX1_playAllAnew [.ref 1] V Qr Qx := by
  refine ctc_of (M := (T0 J, V)) pX1_playAllAnew (fun _ _ => rfl) (Nat.le_of_ble_eq_true rfl) ?_
  unfold F_X1_playAllAnew at H
  show WPc J mX1_playAllAnew Qr Qx 0 [(0, .ref 1)] [] V 0 0
  refine s_aload_n dX1_playAllAnew_0 rfl ?_
  refine t_getR (r := 3) fl_1_20 dX1_playAllAnew_1 ob_1 rfl rfl ?_
  refine t_cV (h := 3) (As := []) (st := []) iv_1_51 dX1_playAllAnew_4 ⟨by decide, by decide⟩ rfl (Nat.le_of_ble_eq_true rfl) (by decide) (by decide) rfl (mt_o mt_3) H (fun r V1 H => ?_)
  obtain ⟨rfl, H⟩ := H
  refine s_iconst (v := 0) dX1_playAllAnew_7 (by decide) ?_
  refine t_istore_n (L' := [(1, .int 0), (0, .ref 1)]) dX1_playAllAnew_8 (by decide) rfl ?_
  exact t_loc [1, 0] rfl (v_X1_playAllAnew_9     0  H)

def F_X1_amend_33 (J : Nat → Nat → Int64) (p1 : Int32) (p2 : Int32) (p3 : Int32) (p4 : Int32) (p5 : Int32) (x6 : Int32) (V : Nat → Nat → Int32) (Qr : Option Value → (Nat → Nat → Int32) → Prop) (Qx : String → (Nat → Nat → Int32) → Prop) : Prop :=
CTc J mX1_leadOf [.ref 1, .int p1] V (fun r V1 =>
  ∃ r1 : Int32, r = some (.int r1) ∧
  ((0 < (r1 - x6)) →
    Qr (some (.int (r1 - x6))) V1) ∧
  ((¬ 0 < (r1 - x6)) →
    Qr (some (.int (r1 - x6))) (up2 V1 1 10 ((V1 1 10) ||| (1 <<< (p1 &&& 31)))))) Qx
theorem v_X1_amend_33 {J : Nat → Nat → Int64} (p1 : Int32) (p2 : Int32) (p3 : Int32) (p4 : Int32) (p5 : Int32) {Qr : Option Value → (Nat → Nat → Int32) → Prop} {Qx : String → (Nat → Nat → Int32) → Prop} (x6 : Int32)  {V : Nat → Nat → Int32} (H : F_X1_amend_33 J p1 p2 p3 p4 p5  x6 V Qr Qx) : WPc J mX1_amend Qr Qx 33 [(0, .ref 1), (1, .int p1), (6, .int x6)] [] V 0 0 := by
  unfold F_X1_amend_33 at H
  refine s_aload_n dX1_amend_33 rfl ?_
  refine s_iload_n dX1_amend_34 rfl ?_
  refine t_cV (h := 1) (As := [.int p1]) (st := []) iv_1_160 dX1_amend_35 ⟨by decide, by decide⟩ rfl (Nat.le_of_ble_eq_true rfl) (by decide) (by decide) rfl ob_1 H (fun r V1 H => ?_)
  obtain ⟨r1, rfl, H⟩ := H
  refine s_iload dX1_amend_38 rfl ?_
  refine s_isub dX1_amend_40 ?_
  refine t_istore (L' := [(8, .int (r1 - x6)), (0, .ref 1), (1, .int p1), (6, .int x6)]) dX1_amend_41 (by decide) rfl ?_
  refine s_iload dX1_amend_43 rfl ?_
  refine s_if_gt (tgt := 60) dX1_amend_45 (by decide) (fun c => ?_) (fun c => ?_)
  · have H := H.1 c
    refine s_iload dX1_amend_60 rfl ?_
    exact s_iret dX1_amend_62 (Or.inl rfl) ⟨rfl, H⟩
  · have H := H.2 c
    refine s_aload_n dX1_amend_48 rfl ?_
    refine s_dup dX1_amend_49 rfl ?_
    refine t_getI fl_1_48 dX1_amend_50 ob_1 rfl ?_
    refine s_iconst (v := 1) dX1_amend_53 (by decide) ?_
    refine s_iload_n dX1_amend_54 rfl ?_
    refine s_ishl dX1_amend_55 ?_
    refine s_ior dX1_amend_56 ?_
    refine t_putI fl_1_48 dX1_amend_57 ob_1 (Or.inl rfl) ?_
    refine s_iload dX1_amend_60 rfl ?_
    exact s_iret dX1_amend_62 (Or.inl rfl) ⟨rfl, H⟩
def F_X1_amend (J : Nat → Nat → Int64) (p1 : Int32) (p2 : Int32) (p3 : Int32) (p4 : Int32) (p5 : Int32) (V : Nat → Nat → Int32) (Qr : Option Value → (Nat → Nat → Int32) → Prop) (Qx : String → (Nat → Nat → Int32) → Prop) : Prop :=
CTc J mX1_leadOf [.ref 1, .int p1] V (fun r V1 =>
  ∃ r1 : Int32, r = some (.int r1) ∧
  CTc J mX1_eventAt [.ref 1, .int p2] V1 (fun r V2 =>
    (r = some .null ∧
      F_X1_amend_33 J p1 p2 p3 p4 p5  r1 V2 Qr Qx) ∨
    (∃ c2 : Nat, r = some (.ref c2) ∧ isEv c2 ∧
    CTc J mX2_correct [.ref c2, .int p3, .int p4, .int p5] V2 (fun r V3 =>
      r = none ∧
      CTc J mX1_playAllAnew [.ref 1] V3 (fun r V4 =>
        r = none ∧
        F_X1_amend_33 J p1 p2 p3 p4 p5  r1 V4 Qr Qx) Qx) Qx)) Qx) Qx
theorem v_X1_amend {J : Nat → Nat → Int64} (p1 : Int32) (p2 : Int32) (p3 : Int32) (p4 : Int32) (p5 : Int32) {V : Nat → Nat → Int32} {Qr : Option Value → (Nat → Nat → Int32) → Prop} {Qx : String → (Nat → Nat → Int32) → Prop} (H : F_X1_amend J p1 p2 p3 p4 p5 V Qr Qx) : CTc J mX1_amend [.ref 1, .int p1, .int p2, .int p3, .int p4, .int p5] V Qr Qx := by
  refine ctc_of (M := (T0 J, V)) pX1_amend (fun _ _ => rfl) (Nat.le_of_ble_eq_true rfl) ?_
  unfold F_X1_amend at H
  show WPc J mX1_amend Qr Qx 0 [(0, .ref 1), (1, .int p1), (2, .int p2), (3, .int p3), (4, .int p4), (5, .int p5)] [] V 0 0
  refine s_aload_n dX1_amend_0 rfl ?_
  refine s_iload_n dX1_amend_1 rfl ?_
  refine t_cV (h := 1) (As := [.int p1]) (st := []) iv_1_160 dX1_amend_2 ⟨by decide, by decide⟩ rfl (Nat.le_of_ble_eq_true rfl) (by decide) (by decide) rfl ob_1 H (fun r V1 H => ?_)
  obtain ⟨r1, rfl, H⟩ := H
  refine t_istore (L' := [(6, .int r1), (0, .ref 1), (1, .int p1), (2, .int p2), (3, .int p3), (4, .int p4), (5, .int p5)]) dX1_amend_5 (by decide) rfl ?_
  refine s_aload_n dX1_amend_7 rfl ?_
  refine s_iload_n dX1_amend_8 rfl ?_
  refine t_cV (h := 1) (As := [.int p2]) (st := []) iv_1_64 dX1_amend_9 ⟨by decide, by decide⟩ rfl (Nat.le_of_ble_eq_true rfl) (by decide) (by decide) rfl ob_1 H (fun r V2 H => ?_)
  rcases H with H | H
  · obtain ⟨rfl, H⟩ := H
    refine t_astoreN (L' := [(7, .null), (6, .int r1), (0, .ref 1), (1, .int p1), (2, .int p2), (3, .int p3), (4, .int p4), (5, .int p5)]) dX1_amend_12 (by decide) rfl ?_
    refine s_aloadN dX1_amend_14 rfl ?_
    refine s_ifnullN (tgt := 33) dX1_amend_16 (by decide) ?_
    exact t_loc [2, 3, 1] rfl (v_X1_amend_33 p1 p2 p3 p4 p5    r1  H)
  · obtain ⟨c2, rfl, hc2, H⟩ := H
    refine t_astore (L' := [(7, .ref c2), (6, .int r1), (0, .ref 1), (1, .int p1), (2, .int p2), (3, .int p3), (4, .int p4), (5, .int p5)]) dX1_amend_12 (by decide) rfl ?_
    refine s_aload dX1_amend_14 rfl ?_
    refine s_ifnull dX1_amend_16 ?_
    refine s_aload dX1_amend_19 rfl ?_
    refine s_iload_n dX1_amend_21 rfl ?_
    refine s_iload dX1_amend_22 rfl ?_
    refine s_iload dX1_amend_24 rfl ?_
    refine t_cV (h := c2) (As := [.int p3, .int p4, .int p5]) (st := []) iv_1_150 dX1_amend_26 ⟨by decide, by decide⟩ rfl (Nat.le_of_ble_eq_true rfl) (by decide) (by decide) rfl (ev_o hc2) H (fun r V3 H => ?_)
    obtain ⟨rfl, H⟩ := H
    refine s_aload_n dX1_amend_29 rfl ?_
    refine t_cV (h := 1) (As := []) (st := []) iv_1_163 dX1_amend_30 ⟨by decide, by decide⟩ rfl (Nat.le_of_ble_eq_true rfl) (by decide) (by decide) rfl ob_1 H (fun r V4 H => ?_)
    obtain ⟨rfl, H⟩ := H
    exact t_loc [2, 3, 1] rfl (v_X1_amend_33 p1 p2 p3 p4 p5    r1  H)

def F_X1_leadOf (J : Nat → Nat → Int64) (p1 : Int32) (V : Nat → Nat → Int32) (Qr : Option Value → (Nat → Nat → Int32) → Prop) (Qx : String → (Nat → Nat → Int32) → Prop) : Prop :=
CTc J mX1_pointsOf [.ref 1, .int p1] V (fun r V1 =>
  ∃ r1 : Int32, r = some (.int r1) ∧
  CTc J mX1_pointsOf [.ref 1, .int (1 - p1)] V1 (fun r V2 =>
    ∃ r2 : Int32, r = some (.int r2) ∧
    Qr (some (.int (r1 - r2))) V2) Qx) Qx
theorem v_X1_leadOf {J : Nat → Nat → Int64} (p1 : Int32) {V : Nat → Nat → Int32} {Qr : Option Value → (Nat → Nat → Int32) → Prop} {Qx : String → (Nat → Nat → Int32) → Prop} (H : F_X1_leadOf J p1 V Qr Qx) : CTc J mX1_leadOf [.ref 1, .int p1] V Qr Qx := by
  refine ctc_of (M := (T0 J, V)) pX1_leadOf (fun _ _ => rfl) (Nat.le_of_ble_eq_true rfl) ?_
  unfold F_X1_leadOf at H
  show WPc J mX1_leadOf Qr Qx 0 [(0, .ref 1), (1, .int p1)] [] V 0 0
  refine s_aload_n dX1_leadOf_0 rfl ?_
  refine s_iload_n dX1_leadOf_1 rfl ?_
  refine t_cV (h := 1) (As := [.int p1]) (st := []) iv_1_112 dX1_leadOf_2 ⟨by decide, by decide⟩ rfl (Nat.le_of_ble_eq_true rfl) (by decide) (by decide) rfl ob_1 H (fun r V1 H => ?_)
  obtain ⟨r1, rfl, H⟩ := H
  refine s_aload_n dX1_leadOf_5 rfl ?_
  refine s_iconst (v := 1) dX1_leadOf_6 (by decide) ?_
  refine s_iload_n dX1_leadOf_7 rfl ?_
  refine s_isub dX1_leadOf_8 ?_
  refine t_cV (h := 1) (As := [.int (1 - p1)]) (st := [.int r1]) iv_1_112 dX1_leadOf_9 ⟨by decide, by decide⟩ rfl (Nat.le_of_ble_eq_true rfl) (by decide) (by decide) rfl ob_1 H (fun r V2 H => ?_)
  obtain ⟨r2, rfl, H⟩ := H
  refine s_isub dX1_leadOf_12 ?_
  exact s_iret dX1_leadOf_13 (Or.inl rfl) ⟨rfl, H⟩

def F_X1_dropFrom (J : Nat → Nat → Int64) (p1 : Int32) (V : Nat → Nat → Int32) (Qr : Option Value → (Nat → Nat → Int32) → Prop) (Qx : String → (Nat → Nat → Int32) → Prop) : Prop :=
CTc J mX1_playAllAnew [.ref 1] (up2 (up2 V 1 3 p1) 1 5 0) (fun r V1 =>
  r = none ∧
  Qr (some (.int ((V 1 3) - p1))) V1) Qx
theorem v_X1_dropFrom {J : Nat → Nat → Int64} (p1 : Int32) {V : Nat → Nat → Int32} {Qr : Option Value → (Nat → Nat → Int32) → Prop} {Qx : String → (Nat → Nat → Int32) → Prop} (H : F_X1_dropFrom J p1 V Qr Qx) : CTc J mX1_dropFrom [.ref 1, .int p1] V Qr Qx := by
  refine ctc_of (M := (T0 J, V)) pX1_dropFrom (fun _ _ => rfl) (Nat.le_of_ble_eq_true rfl) ?_
  unfold F_X1_dropFrom at H
  show WPc J mX1_dropFrom Qr Qx 0 [(0, .ref 1), (1, .int p1)] [] V 0 0
  refine s_aload_n dX1_dropFrom_0 rfl ?_
  refine t_getI fl_1_35 dX1_dropFrom_1 ob_1 rfl ?_
  refine s_iload_n dX1_dropFrom_4 rfl ?_
  refine s_isub dX1_dropFrom_5 ?_
  refine t_istore_n (L' := [(2, .int ((V 1 3) - p1)), (0, .ref 1), (1, .int p1)]) dX1_dropFrom_6 (by decide) rfl ?_
  refine s_aload_n dX1_dropFrom_7 rfl ?_
  refine s_iload_n dX1_dropFrom_8 rfl ?_
  refine t_putI fl_1_35 dX1_dropFrom_9 ob_1 (Or.inl rfl) ?_
  refine s_aload_n dX1_dropFrom_12 rfl ?_
  refine s_iconst (v := 0) dX1_dropFrom_13 (by decide) ?_
  refine t_putI fl_1_32 dX1_dropFrom_14 ob_1 (Or.inr ⟨rfl, (Or.inl rfl)⟩) ?_
  refine s_aload_n dX1_dropFrom_17 rfl ?_
  refine t_cV (h := 1) (As := []) (st := []) iv_1_163 dX1_dropFrom_18 ⟨by decide, by decide⟩ rfl (Nat.le_of_ble_eq_true rfl) (by decide) (by decide) rfl ob_1 H (fun r V1 H => ?_)
  obtain ⟨rfl, H⟩ := H
  refine s_iload_n dX1_dropFrom_21 rfl ?_
  exact s_iret dX1_dropFrom_22 (Or.inl rfl) ⟨rfl, H⟩

def F_X1_sideNow (J : Nat → Nat → Int64) (p1 : Int32) (V : Nat → Nat → Int32) (Qr : Option Value → (Nat → Nat → Int32) → Prop) (Qx : String → (Nat → Nat → Int32) → Prop) : Prop :=
CTc J mX4_sideAt [.ref 3, .int p1] V (fun r V1 =>
  ∃ c1 : Nat, r = some (.ref c1) ∧ isSide c1 ∧
  Qr (some (.ref c1)) V1) Qx
theorem v_X1_sideNow {J : Nat → Nat → Int64} (p1 : Int32) {V : Nat → Nat → Int32} {Qr : Option Value → (Nat → Nat → Int32) → Prop} {Qx : String → (Nat → Nat → Int32) → Prop} (H : F_X1_sideNow J p1 V Qr Qx) : CTc J mX1_sideNow [.ref 1, .int p1] V Qr Qx := by
  refine ctc_of (M := (T0 J, V)) pX1_sideNow (fun _ _ => rfl) (Nat.le_of_ble_eq_true rfl) ?_
  unfold F_X1_sideNow at H
  show WPc J mX1_sideNow Qr Qx 0 [(0, .ref 1), (1, .int p1)] [] V 0 0
  refine s_aload_n dX1_sideNow_0 rfl ?_
  refine t_getR (r := 3) fl_1_20 dX1_sideNow_1 ob_1 rfl rfl ?_
  refine s_iload_n dX1_sideNow_4 rfl ?_
  refine t_cV (h := 3) (As := [.int p1]) (st := []) iv_1_79 dX1_sideNow_5 ⟨by decide, by decide⟩ rfl (Nat.le_of_ble_eq_true rfl) (by decide) (by decide) rfl (mt_o mt_3) H (fun r V1 H => ?_)
  obtain ⟨c1, rfl, hc1, H⟩ := H
  exact s_aret dX1_sideNow_8 rfl ⟨rfl, H⟩

def F_X1_pointsOf (J : Nat → Nat → Int64) (p1 : Int32) (V : Nat → Nat → Int32) (Qr : Option Value → (Nat → Nat → Int32) → Prop) (Qx : String → (Nat → Nat → Int32) → Prop) : Prop :=
CTc J mX4_sideAt [.ref 3, .int p1] V (fun r V1 =>
  ∃ c1 : Nat, r = some (.ref c1) ∧ isSide c1 ∧
  Qr (some (.int (V1 c1 7))) V1) Qx
theorem v_X1_pointsOf {J : Nat → Nat → Int64} (p1 : Int32) {V : Nat → Nat → Int32} {Qr : Option Value → (Nat → Nat → Int32) → Prop} {Qx : String → (Nat → Nat → Int32) → Prop} (H : F_X1_pointsOf J p1 V Qr Qx) : CTc J mX1_pointsOf [.ref 1, .int p1] V Qr Qx := by
  refine ctc_of (M := (T0 J, V)) pX1_pointsOf (fun _ _ => rfl) (Nat.le_of_ble_eq_true rfl) ?_
  unfold F_X1_pointsOf at H
  show WPc J mX1_pointsOf Qr Qx 0 [(0, .ref 1), (1, .int p1)] [] V 0 0
  refine s_aload_n dX1_pointsOf_0 rfl ?_
  refine t_getR (r := 3) fl_1_20 dX1_pointsOf_1 ob_1 rfl rfl ?_
  refine s_iload_n dX1_pointsOf_4 rfl ?_
  refine t_cV (h := 3) (As := [.int p1]) (st := []) iv_1_79 dX1_pointsOf_5 ⟨by decide, by decide⟩ rfl (Nat.le_of_ble_eq_true rfl) (by decide) (by decide) rfl (mt_o mt_3) H (fun r V1 H => ?_)
  obtain ⟨c1, rfl, hc1, H⟩ := H
  refine t_getI fl_1_166 dX1_pointsOf_8 (sd_o hc1) rfl ?_
  exact s_iret dX1_pointsOf_11 (Or.inl rfl) ⟨rfl, H⟩

def F_X1_clubOf (J : Nat → Nat → Int64) (p1 : Int32) (V : Nat → Nat → Int32) (Qr : Option Value → (Nat → Nat → Int32) → Prop) (Qx : String → (Nat → Nat → Int32) → Prop) : Prop :=
((¬ p1 = 0) →
  Qr (some (.int (V 1 7))) V) ∧
((p1 = 0) →
  Qr (some (.int (V 1 6))) V)
theorem v_X1_clubOf {J : Nat → Nat → Int64} (p1 : Int32) {V : Nat → Nat → Int32} {Qr : Option Value → (Nat → Nat → Int32) → Prop} {Qx : String → (Nat → Nat → Int32) → Prop} (H : F_X1_clubOf J p1 V Qr Qx) : CTc J mX1_clubOf [.ref 1, .int p1] V Qr Qx := by
  refine ctc_of (M := (T0 J, V)) pX1_clubOf (fun _ _ => rfl) (Nat.le_of_ble_eq_true rfl) ?_
  unfold F_X1_clubOf at H
  show WPc J mX1_clubOf Qr Qx 0 [(0, .ref 1), (1, .int p1)] [] V 0 0
  refine s_iload_n dX1_clubOf_0 rfl ?_
  refine s_if_ne (tgt := 11) dX1_clubOf_1 (by decide) (fun c => ?_) (fun c => ?_)
  · have H := H.1 c
    refine s_aload_n dX1_clubOf_11 rfl ?_
    refine t_getI fl_1_42 dX1_clubOf_12 ob_1 rfl ?_
    exact s_iret dX1_clubOf_15 (Or.inl rfl) ⟨rfl, H⟩
  · have H := H.2 c
    refine s_aload_n dX1_clubOf_4 rfl ?_
    refine t_getI fl_1_39 dX1_clubOf_5 ob_1 rfl ?_
    refine s_goto (tgt := 15) dX1_clubOf_8 (by decide) ?_
    exact s_iret dX1_clubOf_15 (Or.inl rfl) ⟨rfl, H⟩

def F_X1_tellOf (J : Nat → Nat → Int64) (p1 : Int32) (V : Nat → Nat → Int32) (Qr : Option Value → (Nat → Nat → Int32) → Prop) (Qx : String → (Nat → Nat → Int32) → Prop) : Prop :=
((p1 = 0) →
  Qr (some (.int (V 3 2))) V) ∧
((p1 = 1) →
  CTc J mX4_turn [.ref 3] V (fun r V1 =>
    ∃ r1 : Int32, r = some (.int r1) ∧
    Qr (some (.int r1)) V1) Qx) ∧
((p1 = 2) →
  Qr (some (.int (V 1 3))) V) ∧
((p1 = 3) →
  (((V 1 5) = 0) →
    Qr (some (.int 0)) V) ∧
  ((¬ (V 1 5) = 0) →
    Qr (some (.int 1)) V)) ∧
((p1 = 4) →
  CTc J mX4_isDoOrDie [.ref 3] V (fun r V1 =>
    ∃ b1 : Bool, r = some (.int (bI b1)) ∧
    ((b1 = false) →
      Qr (some (.int 0)) V1) ∧
    ((b1 = true) →
      Qr (some (.int 1)) V1)) Qx) ∧
((p1 = 5) →
  CTc J mX1_isOver [.ref 1] V (fun r V1 =>
    ∃ b1 : Bool, r = some (.int (bI b1)) ∧
    ((b1 = false) →
      Qr (some (.int 0)) V1) ∧
    ((b1 = true) →
      Qr (some (.int 1)) V1)) Qx) ∧
(((p1).toInt < 0 ∨ 5 < (p1).toInt) →
  CTc J mX1_clubOf [.ref 1, .int (p1 - 6)] V (fun r V1 =>
    ∃ r1 : Int32, r = some (.int r1) ∧
    Qr (some (.int r1)) V1) Qx)
theorem v_X1_tellOf {J : Nat → Nat → Int64} (p1 : Int32) {V : Nat → Nat → Int32} {Qr : Option Value → (Nat → Nat → Int32) → Prop} {Qx : String → (Nat → Nat → Int32) → Prop} (H : F_X1_tellOf J p1 V Qr Qx) : CTc J mX1_tellOf [.ref 1, .int p1] V Qr Qx := by
  refine ctc_of (M := (T0 J, V)) pX1_tellOf (fun _ _ => rfl) (Nat.le_of_ble_eq_true rfl) ?_
  unfold F_X1_tellOf at H
  show WPc J mX1_tellOf Qr Qx 0 [(0, .ref 1), (1, .int p1)] [] V 0 0
  refine s_iload_n dX1_tellOf_0 rfl ?_
  by_cases c0 : p1 = 0
  · have H := H.1 c0
    rw [c0]
    refine s_tabI (tgt := 40) dX1_tellOf_1 (by decide) (by decide) rfl (by decide) ?_
    refine s_aload_n dX1_tellOf_40 rfl ?_
    refine t_getR (r := 3) fl_1_20 dX1_tellOf_41 ob_1 rfl rfl ?_
    refine t_getI fl_1_61 dX1_tellOf_44 (mt_o mt_3) rfl ?_
    exact s_iret dX1_tellOf_47 (Or.inl rfl) ⟨rfl, H⟩
  by_cases c1 : p1 = 1
  · have H := H.2.1 c1
    rw [c1]
    refine s_tabI (tgt := 48) dX1_tellOf_1 (by decide) (by decide) rfl (by decide) ?_
    refine s_aload_n dX1_tellOf_48 rfl ?_
    refine t_getR (r := 3) fl_1_20 dX1_tellOf_49 ob_1 rfl rfl ?_
    refine t_cV (h := 3) (As := []) (st := []) iv_1_75 dX1_tellOf_52 ⟨by decide, by decide⟩ rfl (Nat.le_of_ble_eq_true rfl) (by decide) (by decide) rfl (mt_o mt_3) H (fun r V1 H => ?_)
    obtain ⟨r1, rfl, H⟩ := H
    exact s_iret dX1_tellOf_55 (Or.inl rfl) ⟨rfl, H⟩
  by_cases c2 : p1 = 2
  · have H := H.2.2.1 c2
    rw [c2]
    refine s_tabI (tgt := 56) dX1_tellOf_1 (by decide) (by decide) rfl (by decide) ?_
    refine s_aload_n dX1_tellOf_56 rfl ?_
    refine t_getI fl_1_35 dX1_tellOf_57 ob_1 rfl ?_
    exact s_iret dX1_tellOf_60 (Or.inl rfl) ⟨rfl, H⟩
  by_cases c3 : p1 = 3
  · have H := H.2.2.2.1 c3
    rw [c3]
    refine s_tabI (tgt := 61) dX1_tellOf_1 (by decide) (by decide) rfl (by decide) ?_
    refine s_aload_n dX1_tellOf_61 rfl ?_
    refine t_getI fl_1_32 dX1_tellOf_62 ob_1 rfl ?_
    refine s_if_eq (tgt := 72) dX1_tellOf_65 (by decide) (fun c => ?_) (fun c => ?_)
    · have H := H.1 c
      refine s_iconst (v := 0) dX1_tellOf_72 (by decide) ?_
      exact s_iret dX1_tellOf_73 (Or.inl rfl) ⟨rfl, H⟩
    · have H := H.2 c
      refine s_iconst (v := 1) dX1_tellOf_68 (by decide) ?_
      refine s_goto (tgt := 73) dX1_tellOf_69 (by decide) ?_
      exact s_iret dX1_tellOf_73 (Or.inl rfl) ⟨rfl, H⟩
  by_cases c4 : p1 = 4
  · have H := H.2.2.2.2.1 c4
    rw [c4]
    refine s_tabI (tgt := 74) dX1_tellOf_1 (by decide) (by decide) rfl (by decide) ?_
    refine s_aload_n dX1_tellOf_74 rfl ?_
    refine t_getR (r := 3) fl_1_20 dX1_tellOf_75 ob_1 rfl rfl ?_
    refine t_cV (h := 3) (As := []) (st := []) iv_1_169 dX1_tellOf_78 ⟨by decide, by decide⟩ rfl (Nat.le_of_ble_eq_true rfl) (by decide) (by decide) rfl (mt_o mt_3) H (fun r V1 H => ?_)
    obtain ⟨b1, rfl, H⟩ := H
    refine s_if_eq (tgt := 88) dX1_tellOf_81 (by decide) (fun c => ?_) (fun c => ?_)
    · have H := H.1 (bI_f c)
      refine s_iconst (v := 0) dX1_tellOf_88 (by decide) ?_
      exact s_iret dX1_tellOf_89 (Or.inl rfl) ⟨rfl, H⟩
    · have H := H.2 (bI_t c)
      refine s_iconst (v := 1) dX1_tellOf_84 (by decide) ?_
      refine s_goto (tgt := 89) dX1_tellOf_85 (by decide) ?_
      exact s_iret dX1_tellOf_89 (Or.inl rfl) ⟨rfl, H⟩
  by_cases c5 : p1 = 5
  · have H := H.2.2.2.2.2.1 c5
    rw [c5]
    refine s_tabI (tgt := 90) dX1_tellOf_1 (by decide) (by decide) rfl (by decide) ?_
    refine s_aload_n dX1_tellOf_90 rfl ?_
    refine t_cV (h := 1) (As := []) (st := []) iv_1_172 dX1_tellOf_91 ⟨by decide, by decide⟩ rfl (Nat.le_of_ble_eq_true rfl) (by decide) (by decide) rfl ob_1 H (fun r V1 H => ?_)
    obtain ⟨b1, rfl, H⟩ := H
    refine s_if_eq (tgt := 101) dX1_tellOf_94 (by decide) (fun c => ?_) (fun c => ?_)
    · have H := H.1 (bI_f c)
      refine s_iconst (v := 0) dX1_tellOf_101 (by decide) ?_
      exact s_iret dX1_tellOf_102 (Or.inl rfl) ⟨rfl, H⟩
    · have H := H.2 (bI_t c)
      refine s_iconst (v := 1) dX1_tellOf_97 (by decide) ?_
      refine s_goto (tgt := 102) dX1_tellOf_98 (by decide) ?_
      exact s_iret dX1_tellOf_102 (Or.inl rfl) ⟨rfl, H⟩
  have hout : (p1).toInt < 0 ∨ 5 < (p1).toInt := sw_out (x := p1) (lo := 0) (n := 6) (by intro k hk; exact match k, hk with | 0, _ => c0 | 1, _ => c1 | 2, _ => c2 | 3, _ => c3 | 4, _ => c4 | 5, _ => c5 | n + 6, h => absurd h (by omega)) (by decide) (by decide)
  have H := H.2.2.2.2.2.2 hout
  refine s_tabO (tgt := 103) dX1_tellOf_1 hout (by decide) ?_
  refine s_aload_n dX1_tellOf_103 rfl ?_
  refine s_iload_n dX1_tellOf_104 rfl ?_
  refine s_bipush (v := 6) dX1_tellOf_105 (by decide) ?_
  refine s_isub dX1_tellOf_107 ?_
  refine t_cV (h := 1) (As := [.int (p1 - 6)]) (st := []) iv_1_175 dX1_tellOf_108 ⟨by decide, by decide⟩ rfl (Nat.le_of_ble_eq_true rfl) (by decide) (by decide) rfl ob_1 H (fun r V1 H => ?_)
  obtain ⟨r1, rfl, H⟩ := H
  exact s_iret dX1_tellOf_111 (Or.inl rfl) ⟨rfl, H⟩

def F_X1_onAfter (J : Nat → Nat → Int64) (p1 : Int32) (p2 : Int32) (V : Nat → Nat → Int32) (Qr : Option Value → (Nat → Nat → Int32) → Prop) (Qx : String → (Nat → Nat → Int32) → Prop) : Prop :=
CTc J mX1_eventAt [.ref 1, .int p1] V (fun r V1 =>
  (r = some .null ∧
    Qr (some (.int 0)) V1) ∨
  (∃ c1 : Nat, r = some (.ref c1) ∧ isEv c1 ∧
  CTc J mX2_onBitsOf [.ref c1, .int p2] V1 (fun r V2 =>
    ∃ r2 : Int32, r = some (.int r2) ∧
    Qr (some (.int r2)) V2) Qx)) Qx
theorem v_X1_onAfter {J : Nat → Nat → Int64} (p1 : Int32) (p2 : Int32) {V : Nat → Nat → Int32} {Qr : Option Value → (Nat → Nat → Int32) → Prop} {Qx : String → (Nat → Nat → Int32) → Prop} (H : F_X1_onAfter J p1 p2 V Qr Qx) : CTc J mX1_onAfter [.ref 1, .int p1, .int p2] V Qr Qx := by
  refine ctc_of (M := (T0 J, V)) pX1_onAfter (fun _ _ => rfl) (Nat.le_of_ble_eq_true rfl) ?_
  unfold F_X1_onAfter at H
  show WPc J mX1_onAfter Qr Qx 0 [(0, .ref 1), (1, .int p1), (2, .int p2)] [] V 0 0
  refine s_aload_n dX1_onAfter_0 rfl ?_
  refine s_iload_n dX1_onAfter_1 rfl ?_
  refine t_cV (h := 1) (As := [.int p1]) (st := []) iv_1_64 dX1_onAfter_2 ⟨by decide, by decide⟩ rfl (Nat.le_of_ble_eq_true rfl) (by decide) (by decide) rfl ob_1 H (fun r V1 H => ?_)
  rcases H with H | H
  · obtain ⟨rfl, H⟩ := H
    refine t_astore_nN (L' := [(3, .null), (0, .ref 1), (1, .int p1), (2, .int p2)]) dX1_onAfter_5 (by decide) rfl ?_
    refine s_aload_nN dX1_onAfter_6 rfl ?_
    refine s_ifnonnullN dX1_onAfter_7 ?_
    refine s_iconst (v := 0) dX1_onAfter_10 (by decide) ?_
    refine s_goto (tgt := 19) dX1_onAfter_11 (by decide) ?_
    exact s_iret dX1_onAfter_19 (Or.inl rfl) ⟨rfl, H⟩
  · obtain ⟨c1, rfl, hc1, H⟩ := H
    refine t_astore_n (L' := [(3, .ref c1), (0, .ref 1), (1, .int p1), (2, .int p2)]) dX1_onAfter_5 (by decide) rfl ?_
    refine s_aload_n dX1_onAfter_6 rfl ?_
    refine s_ifnonnull (tgt := 14) dX1_onAfter_7 (by decide) ?_
    refine s_aload_n dX1_onAfter_14 rfl ?_
    refine s_iload_n dX1_onAfter_15 rfl ?_
    refine t_cV (h := c1) (As := [.int p2]) (st := []) iv_1_178 dX1_onAfter_16 ⟨by decide, by decide⟩ rfl (Nat.le_of_ble_eq_true rfl) (by decide) (by decide) rfl (ev_o hc1) H (fun r V2 H => ?_)
    obtain ⟨r2, rfl, H⟩ := H
    exact s_iret dX1_onAfter_19 (Or.inl rfl) ⟨rfl, H⟩

def F_X1_onAnew (J : Nat → Nat → Int64) (p1 : Int32) (p2 : Int32) (V : Nat → Nat → Int32) (Qr : Option Value → (Nat → Nat → Int32) → Prop) (Qx : String → (Nat → Nat → Int32) → Prop) : Prop :=
CTc J mX1_goThrough [.ref 1, .int (p1 + 1)] V (fun r V1 =>
  ∃ r1 : Int32, r = some (.int r1) ∧
  CTc J mX4_sideAt [.ref 16, .int p2] V1 (fun r V2 =>
    ∃ c2 : Nat, r = some (.ref c2) ∧ isSide c2 ∧
    CTc J mX6_onBits [.ref c2] V2 (fun r V3 =>
      ∃ r3 : Int32, r = some (.int r3) ∧
      Qr (some (.int r3)) V3) Qx) Qx) Qx
theorem v_X1_onAnew {J : Nat → Nat → Int64} (p1 : Int32) (p2 : Int32) {V : Nat → Nat → Int32} {Qr : Option Value → (Nat → Nat → Int32) → Prop} {Qx : String → (Nat → Nat → Int32) → Prop} (H : F_X1_onAnew J p1 p2 V Qr Qx) : CTc J mX1_onAnew [.ref 1, .int p1, .int p2] V Qr Qx := by
  refine ctc_of (M := (T0 J, V)) pX1_onAnew (fun _ _ => rfl) (Nat.le_of_ble_eq_true rfl) ?_
  unfold F_X1_onAnew at H
  show WPc J mX1_onAnew Qr Qx 0 [(0, .ref 1), (1, .int p1), (2, .int p2)] [] V 0 0
  refine s_aload_n dX1_onAnew_0 rfl ?_
  refine s_iload_n dX1_onAnew_1 rfl ?_
  refine s_iconst (v := 1) dX1_onAnew_2 (by decide) ?_
  refine s_iadd dX1_onAnew_3 ?_
  refine t_cV (h := 1) (As := [.int (p1 + 1)]) (st := []) iv_1_153 dX1_onAnew_4 ⟨by decide, by decide⟩ rfl (Nat.le_of_ble_eq_true rfl) (by decide) (by decide) rfl ob_1 H (fun r V1 H => ?_)
  obtain ⟨r1, rfl, H⟩ := H
  refine s_pop dX1_onAnew_7 rfl ?_
  refine s_aload_n dX1_onAnew_8 rfl ?_
  refine t_getR (r := 16) fl_1_24 dX1_onAnew_9 ob_1 rfl rfl ?_
  refine s_iload_n dX1_onAnew_12 rfl ?_
  refine t_cV (h := 16) (As := [.int p2]) (st := []) iv_1_79 dX1_onAnew_13 ⟨by decide, by decide⟩ rfl (Nat.le_of_ble_eq_true rfl) (by decide) (by decide) rfl (mt_o mt_16) H (fun r V2 H => ?_)
  obtain ⟨c2, rfl, hc2, H⟩ := H
  refine t_cV (h := c2) (As := []) (st := []) iv_1_181 dX1_onAnew_16 ⟨by decide, by decide⟩ rfl (Nat.le_of_ble_eq_true rfl) (by decide) (by decide) rfl (sd_o hc2) H (fun r V3 H => ?_)
  obtain ⟨r3, rfl, H⟩ := H
  exact s_iret dX1_onAnew_19 (Or.inl rfl) ⟨rfl, H⟩

def F_X1_pointsBehind (J : Nat → Nat → Int64) (p1 : Int32) (p2 : Int32) (V : Nat → Nat → Int32) (Qr : Option Value → (Nat → Nat → Int32) → Prop) (Qx : String → (Nat → Nat → Int32) → Prop) : Prop :=
CTc J mX1_eventAt [.ref 1, .int p1] V (fun r V1 =>
  (r = some .null ∧
    Qr (some (.int 0)) V1) ∨
  (∃ c1 : Nat, r = some (.ref c1) ∧ isEv c1 ∧
  CTc J mX2_scoreOf [.ref c1, .int p2] V1 (fun r V2 =>
    ∃ r2 : Int32, r = some (.int r2) ∧
    Qr (some (.int r2)) V2) Qx)) Qx
theorem v_X1_pointsBehind {J : Nat → Nat → Int64} (p1 : Int32) (p2 : Int32) {V : Nat → Nat → Int32} {Qr : Option Value → (Nat → Nat → Int32) → Prop} {Qx : String → (Nat → Nat → Int32) → Prop} (H : F_X1_pointsBehind J p1 p2 V Qr Qx) : CTc J mX1_pointsBehind [.ref 1, .int p1, .int p2] V Qr Qx := by
  refine ctc_of (M := (T0 J, V)) pX1_pointsBehind (fun _ _ => rfl) (Nat.le_of_ble_eq_true rfl) ?_
  unfold F_X1_pointsBehind at H
  show WPc J mX1_pointsBehind Qr Qx 0 [(0, .ref 1), (1, .int p1), (2, .int p2)] [] V 0 0
  refine s_aload_n dX1_pointsBehind_0 rfl ?_
  refine s_iload_n dX1_pointsBehind_1 rfl ?_
  refine t_cV (h := 1) (As := [.int p1]) (st := []) iv_1_64 dX1_pointsBehind_2 ⟨by decide, by decide⟩ rfl (Nat.le_of_ble_eq_true rfl) (by decide) (by decide) rfl ob_1 H (fun r V1 H => ?_)
  rcases H with H | H
  · obtain ⟨rfl, H⟩ := H
    refine t_astore_nN (L' := [(3, .null), (0, .ref 1), (1, .int p1), (2, .int p2)]) dX1_pointsBehind_5 (by decide) rfl ?_
    refine s_aload_nN dX1_pointsBehind_6 rfl ?_
    refine s_ifnonnullN dX1_pointsBehind_7 ?_
    refine s_iconst (v := 0) dX1_pointsBehind_10 (by decide) ?_
    refine s_goto (tgt := 19) dX1_pointsBehind_11 (by decide) ?_
    exact s_iret dX1_pointsBehind_19 (Or.inl rfl) ⟨rfl, H⟩
  · obtain ⟨c1, rfl, hc1, H⟩ := H
    refine t_astore_n (L' := [(3, .ref c1), (0, .ref 1), (1, .int p1), (2, .int p2)]) dX1_pointsBehind_5 (by decide) rfl ?_
    refine s_aload_n dX1_pointsBehind_6 rfl ?_
    refine s_ifnonnull (tgt := 14) dX1_pointsBehind_7 (by decide) ?_
    refine s_aload_n dX1_pointsBehind_14 rfl ?_
    refine s_iload_n dX1_pointsBehind_15 rfl ?_
    refine t_cV (h := c1) (As := [.int p2]) (st := []) iv_1_184 dX1_pointsBehind_16 ⟨by decide, by decide⟩ rfl (Nat.le_of_ble_eq_true rfl) (by decide) (by decide) rfl (ev_o hc1) H (fun r V2 H => ?_)
    obtain ⟨r2, rfl, H⟩ := H
    exact s_iret dX1_pointsBehind_19 (Or.inl rfl) ⟨rfl, H⟩
