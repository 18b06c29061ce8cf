def F_X8_thrown (J : Nat → Nat → Int64)  (V : Nat → Nat → Int32) (Qr : Option Value → (Nat → Nat → Int32) → Prop) (Qx : String → (Nat → Nat → Int32) → Prop) : Prop :=
Qr (some (.int (V 405 0))) V
theorem v_X8_thrown {J : Nat → Nat → Int64}  {V : Nat → Nat → Int32} {Qr : Option Value → (Nat → Nat → Int32) → Prop} {Qx : String → (Nat → Nat → Int32) → Prop} (H : F_X8_thrown J  V Qr Qx) : CTc J mX8_thrown [.ref 405] V Qr Qx := by
  refine ctc_of (M := (T0 J, V)) pX8_thrown (fun _ _ => rfl) (Nat.le_of_ble_eq_true rfl) ?_
  unfold F_X8_thrown at H
  show WPc J mX8_thrown Qr Qx 0 [(0, .ref 405)] [] V 0 0
  refine s_aload_n dX8_thrown_0 rfl ?_
  refine t_getI fl_8_78 dX8_thrown_1 ob_405 rfl ?_
  exact s_iret dX8_thrown_4 (Or.inl rfl) ⟨rfl, H⟩

def F_X8_holds (J : Nat → Nat → Int64) (p1 : Int32) (V : Nat → Nat → Int32) (Qr : Option Value → (Nat → Nat → Int32) → Prop) (Qx : String → (Nat → Nat → Int32) → Prop) : Prop :=
((¬ p1 = 0) →
  Qr (some (.int 0)) (up2 V 405 0 p1)) ∧
((p1 = 0) →
  Qr (some (.int 1)) (up2 V 405 0 p1))
theorem v_X8_holds {J : Nat → Nat → Int64} (p1 : Int32) {V : Nat → Nat → Int32} {Qr : Option Value → (Nat → Nat → Int32) → Prop} {Qx : String → (Nat → Nat → Int32) → Prop} (H : F_X8_holds J p1 V Qr Qx) : CTc J mX8_holds [.ref 405, .int p1] V Qr Qx := by
  refine ctc_of (M := (T0 J, V)) pX8_holds (fun _ _ => rfl) (Nat.le_of_ble_eq_true rfl) ?_
  unfold F_X8_holds at H
  show WPc J mX8_holds Qr Qx 0 [(0, .ref 405), (1, .int p1)] [] V 0 0
  refine s_aload_n dX8_holds_0 rfl ?_
  refine s_iload_n dX8_holds_1 rfl ?_
  refine t_putI fl_8_78 dX8_holds_2 ob_405 (Or.inl rfl) ?_
  refine s_iload_n dX8_holds_5 rfl ?_
  refine s_if_ne (tgt := 13) dX8_holds_6 (by decide) (fun c => ?_) (fun c => ?_)
  · have H := H.1 c
    refine s_iconst (v := 0) dX8_holds_13 (by decide) ?_
    exact s_iret dX8_holds_14 (Or.inr ⟨rfl, (Or.inl rfl)⟩) ⟨rfl, H⟩
  · have H := H.2 c
    refine s_iconst (v := 1) dX8_holds_9 (by decide) ?_
    refine s_goto (tgt := 14) dX8_holds_10 (by decide) ?_
    exact s_iret dX8_holds_14 (Or.inr ⟨rfl, (Or.inr rfl)⟩) ⟨rfl, H⟩

def F_X8_in (J : Nat → Nat → Int64) (p1 : Int32) (p2 : Int32) (p3 : Int32) (V : Nat → Nat → Int32) (Qr : Option Value → (Nat → Nat → Int32) → Prop) (Qx : String → (Nat → Nat → Int32) → Prop) : Prop :=
((p1 < p2) →
  Qr (some (.int 0)) V) ∧
((¬ p1 < p2) →
  ((p3 < p1) →
    Qr (some (.int 0)) V) ∧
  ((¬ p3 < p1) →
    Qr (some (.int 1)) V))
theorem v_X8_in {J : Nat → Nat → Int64} (p1 : Int32) (p2 : Int32) (p3 : Int32) {V : Nat → Nat → Int32} {Qr : Option Value → (Nat → Nat → Int32) → Prop} {Qx : String → (Nat → Nat → Int32) → Prop} (H : F_X8_in J p1 p2 p3 V Qr Qx) : CTc J mX8_in [.int p1, .int p2, .int p3] V Qr Qx := by
  refine ctc_of (M := (T0 J, V)) pX8_in (fun _ _ => rfl) (Nat.le_of_ble_eq_true rfl) ?_
  unfold F_X8_in at H
  show WPc J mX8_in Qr Qx 0 [(0, .int p1), (1, .int p2), (2, .int p3)] [] V 0 0
  refine s_iload_n dX8_in_0 rfl ?_
  refine s_iload_n dX8_in_1 rfl ?_
  refine s_icmp_lt (tgt := 14) dX8_in_2 (by decide) (fun c => ?_) (fun c => ?_)
  · have H := H.1 c
    refine s_iconst (v := 0) dX8_in_14 (by decide) ?_
    exact s_iret dX8_in_15 (Or.inr ⟨rfl, (Or.inl rfl)⟩) ⟨rfl, H⟩
  · have H := H.2 c
    refine s_iload_n dX8_in_5 rfl ?_
    refine s_iload_n dX8_in_6 rfl ?_
    refine s_icmp_gt (tgt := 14) dX8_in_7 (by decide) (fun c => ?_) (fun c => ?_)
    · have H := H.1 c
      refine s_iconst (v := 0) dX8_in_14 (by decide) ?_
      exact s_iret dX8_in_15 (Or.inr ⟨rfl, (Or.inl rfl)⟩) ⟨rfl, H⟩
    · have H := H.2 c
      refine s_iconst (v := 1) dX8_in_10 (by decide) ?_
      refine s_goto (tgt := 15) dX8_in_11 (by decide) ?_
      exact s_iret dX8_in_15 (Or.inr ⟨rfl, (Or.inr rfl)⟩) ⟨rfl, H⟩

def F_X8_isClub (J : Nat → Nat → Int64) (p1 : Int32) (V : Nat → Nat → Int32) (Qr : Option Value → (Nat → Nat → Int32) → Prop) (Qx : String → (Nat → Nat → Int32) → Prop) : Prop :=
CTc J mX8_in [.int p1, .int 0, .int 7] V (fun r V1 =>
  ∃ b1 : Bool, r = some (.int (bI b1)) ∧
  Qr (some (.int (bI b1))) V1) Qx
theorem v_X8_isClub {J : Nat → Nat → Int64} (p1 : Int32) {V : Nat → Nat → Int32} {Qr : Option Value → (Nat → Nat → Int32) → Prop} {Qx : String → (Nat → Nat → Int32) → Prop} (H : F_X8_isClub J p1 V Qr Qx) : CTc J mX8_isClub [.int p1] V Qr Qx := by
  refine ctc_of (M := (T0 J, V)) pX8_isClub (fun _ _ => rfl) (Nat.le_of_ble_eq_true rfl) ?_
  unfold F_X8_isClub at H
  show WPc J mX8_isClub Qr Qx 0 [(0, .int p1)] [] V 0 0
  refine s_iload_n dX8_isClub_0 rfl ?_
  refine s_iconst (v := 0) dX8_isClub_1 (by decide) ?_
  refine s_bipush (v := 7) dX8_isClub_2 (by decide) ?_
  refine t_cS (As := [.int p1, .int 0, .int 7]) (st := []) iv_8_81 dX8_isClub_4 ⟨by decide, by decide⟩ rfl (Nat.le_of_ble_eq_true rfl) (by decide) (by decide) rfl H (fun r V1 H => ?_)
  obtain ⟨b1, rfl, H⟩ := H
  exact s_iret dX8_isClub_7 (Or.inr ⟨rfl, (bI_01 b1)⟩) ⟨rfl, H⟩

def F_X8_isSide (J : Nat → Nat → Int64) (p1 : Int32) (V : Nat → Nat → Int32) (Qr : Option Value → (Nat → Nat → Int32) → Prop) (Qx : String → (Nat → Nat → Int32) → Prop) : Prop :=
CTc J mX8_in [.int p1, .int 0, .int 1] V (fun r V1 =>
  ∃ b1 : Bool, r = some (.int (bI b1)) ∧
  Qr (some (.int (bI b1))) V1) Qx
theorem v_X8_isSide {J : Nat → Nat → Int64} (p1 : Int32) {V : Nat → Nat → Int32} {Qr : Option Value → (Nat → Nat → Int32) → Prop} {Qx : String → (Nat → Nat → Int32) → Prop} (H : F_X8_isSide J p1 V Qr Qx) : CTc J mX8_isSide [.int p1] V Qr Qx := by
  refine ctc_of (M := (T0 J, V)) pX8_isSide (fun _ _ => rfl) (Nat.le_of_ble_eq_true rfl) ?_
  unfold F_X8_isSide at H
  show WPc J mX8_isSide Qr Qx 0 [(0, .int p1)] [] V 0 0
  refine s_iload_n dX8_isSide_0 rfl ?_
  refine s_iconst (v := 0) dX8_isSide_1 (by decide) ?_
  refine s_iconst (v := 1) dX8_isSide_2 (by decide) ?_
  refine t_cS (As := [.int p1, .int 0, .int 1]) (st := []) iv_8_81 dX8_isSide_3 ⟨by decide, by decide⟩ rfl (Nat.le_of_ble_eq_true rfl) (by decide) (by decide) rfl H (fun r V1 H => ?_)
  obtain ⟨b1, rfl, H⟩ := H
  exact s_iret dX8_isSide_6 (Or.inr ⟨rfl, (bI_01 b1)⟩) ⟨rfl, H⟩

def F_X8_isPlayer (J : Nat → Nat → Int64) (p1 : Int32) (V : Nat → Nat → Int32) (Qr : Option Value → (Nat → Nat → Int32) → Prop) (Qx : String → (Nat → Nat → Int32) → Prop) : Prop :=
CTc J mX8_in [.int p1, .int 0, .int 9] V (fun r V1 =>
  ∃ b1 : Bool, r = some (.int (bI b1)) ∧
  Qr (some (.int (bI b1))) V1) Qx
theorem v_X8_isPlayer {J : Nat → Nat → Int64} (p1 : Int32) {V : Nat → Nat → Int32} {Qr : Option Value → (Nat → Nat → Int32) → Prop} {Qx : String → (Nat → Nat → Int32) → Prop} (H : F_X8_isPlayer J p1 V Qr Qx) : CTc J mX8_isPlayer [.int p1] V Qr Qx := by
  refine ctc_of (M := (T0 J, V)) pX8_isPlayer (fun _ _ => rfl) (Nat.le_of_ble_eq_true rfl) ?_
  unfold F_X8_isPlayer at H
  show WPc J mX8_isPlayer Qr Qx 0 [(0, .int p1)] [] V 0 0
  refine s_iload_n dX8_isPlayer_0 rfl ?_
  refine s_iconst (v := 0) dX8_isPlayer_1 (by decide) ?_
  refine s_bipush (v := 9) dX8_isPlayer_2 (by decide) ?_
  refine t_cS (As := [.int p1, .int 0, .int 9]) (st := []) iv_8_81 dX8_isPlayer_4 ⟨by decide, by decide⟩ rfl (Nat.le_of_ble_eq_true rfl) (by decide) (by decide) rfl H (fun r V1 H => ?_)
  obtain ⟨b1, rfl, H⟩ := H
  exact s_iret dX8_isPlayer_7 (Or.inr ⟨rfl, (bI_01 b1)⟩) ⟨rfl, H⟩

def F_X8_isLot (J : Nat → Nat → Int64) (p1 : Int32) (V : Nat → Nat → Int32) (Qr : Option Value → (Nat → Nat → Int32) → Prop) (Qx : String → (Nat → Nat → Int32) → Prop) : Prop :=
CTc J mX8_in [.int p1, .int 0, .int 23] V (fun r V1 =>
  ∃ b1 : Bool, r = some (.int (bI b1)) ∧
  Qr (some (.int (bI b1))) V1) Qx
theorem v_X8_isLot {J : Nat → Nat → Int64} (p1 : Int32) {V : Nat → Nat → Int32} {Qr : Option Value → (Nat → Nat → Int32) → Prop} {Qx : String → (Nat → Nat → Int32) → Prop} (H : F_X8_isLot J p1 V Qr Qx) : CTc J mX8_isLot [.int p1] V Qr Qx := by
  refine ctc_of (M := (T0 J, V)) pX8_isLot (fun _ _ => rfl) (Nat.le_of_ble_eq_true rfl) ?_
  unfold F_X8_isLot at H
  show WPc J mX8_isLot Qr Qx 0 [(0, .int p1)] [] V 0 0
  refine s_iload_n dX8_isLot_0 rfl ?_
  refine s_iconst (v := 0) dX8_isLot_1 (by decide) ?_
  refine s_bipush (v := 23) dX8_isLot_2 (by decide) ?_
  refine t_cS (As := [.int p1, .int 0, .int 23]) (st := []) iv_8_81 dX8_isLot_4 ⟨by decide, by decide⟩ rfl (Nat.le_of_ble_eq_true rfl) (by decide) (by decide) rfl H (fun r V1 H => ?_)
  obtain ⟨b1, rfl, H⟩ := H
  exact s_iret dX8_isLot_7 (Or.inr ⟨rfl, (bI_01 b1)⟩) ⟨rfl, H⟩

def F_X8_starts_33 (J : Nat → Nat → Int64)  (K2 : Int32 → (Nat → Nat → Int32) → Prop) (x1 : Int32) (s0 : Int32) (s1 : Int32) (V : Nat → Nat → Int32) (Qr : Option Value → (Nat → Nat → Int32) → Prop) (Qx : String → (Nat → Nat → Int32) → Prop) : Prop :=
vp_in s1 110 ∧
K2 (x1 + 1) (up2 V 416 s1.toNatClampNeg s0)
theorem v_X8_starts_33 {J : Nat → Nat → Int64}  {Qr : Option Value → (Nat → Nat → Int32) → Prop} {Qx : String → (Nat → Nat → Int32) → Prop} (K2 : Int32 → (Nat → Nat → Int32) → Prop) (hK2 : ∀ (x1 : Int32)  (V : Nat → Nat → Int32), K2 x1 V → WPc J mX8_starts Qr Qx 2 [(0, .ref 405), (1, .int x1)] [] V 0 0) (x1 : Int32) (s0 : Int32) (s1 : Int32)  {V : Nat → Nat → Int32} (H : F_X8_starts_33 J  K2 x1 s0 s1 V Qr Qx) : WPc J mX8_starts Qr Qx 33 [(0, .ref 405), (1, .int x1)] [.int s0, .int s1, .ref 416] V 0 0 := by
  unfold F_X8_starts_33 at H
  refine t_iast dX8_starts_33 ap_416 H.1 ?_
  have H := H.2
  refine t_iinc (v := (x1 + 1)) (L' := [(1, .int (x1 + 1)), (0, .ref 405)]) dX8_starts_34 rfl (by rfl) (by decide) rfl ?_
  refine s_goto (tgt := 2) dX8_starts_37 (by decide) ?_
  exact t_loc [1, 0] rfl (hK2 (x1 + 1)  (up2 V 416 s1.toNatClampNeg s0) H)
def F_X8_starts_32 (J : Nat → Nat → Int64)  (K2 : Int32 → (Nat → Nat → Int32) → Prop) (x1 : Int32) (s0 : Int32) (V : Nat → Nat → Int32) (Qr : Option Value → (Nat → Nat → Int32) → Prop) (Qx : String → (Nat → Nat → Int32) → Prop) : Prop :=
F_X8_starts_33 J  K2 x1 0 s0 V Qr Qx
theorem v_X8_starts_32 {J : Nat → Nat → Int64}  {Qr : Option Value → (Nat → Nat → Int32) → Prop} {Qx : String → (Nat → Nat → Int32) → Prop} (K2 : Int32 → (Nat → Nat → Int32) → Prop) (hK2 : ∀ (x1 : Int32)  (V : Nat → Nat → Int32), K2 x1 V → WPc J mX8_starts Qr Qx 2 [(0, .ref 405), (1, .int x1)] [] V 0 0) (x1 : Int32) (s0 : Int32)  {V : Nat → Nat → Int32} (H : F_X8_starts_32 J  K2 x1 s0 V Qr Qx) : WPc J mX8_starts Qr Qx 32 [(0, .ref 405), (1, .int x1)] [.int s0, .ref 416] V 0 0 := by
  unfold F_X8_starts_32 at H
  refine s_iconst (v := 0) dX8_starts_32 (by decide) ?_
  exact t_loc [0, 1] rfl (v_X8_starts_33   K2 hK2 x1 0 s0  H)
def B_X8_starts_2 (J : Nat → Nat → Int64)  (K2 : Int32 → (Nat → Nat → Int32) → Prop) (x1 : Int32) (V : Nat → Nat → Int32) (Qr : Option Value → (Nat → Nat → Int32) → Prop) (Qx : String → (Nat → Nat → Int32) → Prop) : Prop :=
((110 ≤ x1) →
  Qr none V) ∧
((¬ 110 ≤ x1) →
  ((20 ≤ x1) →
    F_X8_starts_32 J  K2 x1 x1 V Qr Qx) ∧
  ((¬ 20 ≤ x1) →
    (((x1 - x1 / 10 * 10) ≤ 6) →
      F_X8_starts_32 J  K2 x1 x1 V Qr Qx) ∧
    ((¬ (x1 - x1 / 10 * 10) ≤ 6) →
      F_X8_starts_33 J  K2 x1 1 x1 V Qr Qx)))
def F_X8_starts_2 (J : Nat → Nat → Int64)  (x1 : Int32) (V : Nat → Nat → Int32) (Qr : Option Value → (Nat → Nat → Int32) → Prop) (Qx : String → (Nat → Nat → Int32) → Prop) : Prop :=
  ∃ I : Nat → Int32 → (Nat → Nat → Int32) → Prop, (∃ n, I n x1 V) ∧ ∀ n (x1 : Int32) (V : Nat → Nat → Int32), I n x1 V → B_X8_starts_2 J   (fun x1 V => ∃ n', n' < n ∧ I n' x1 V) x1 V Qr Qx
theorem v_X8_starts_2 {J : Nat → Nat → Int64}  {Qr : Option Value → (Nat → Nat → Int32) → Prop} {Qx : String → (Nat → Nat → Int32) → Prop} (x1 : Int32)  {V : Nat → Nat → Int32} (H : F_X8_starts_2 J   x1 V Qr Qx) : WPc J mX8_starts Qr Qx 2 [(0, .ref 405), (1, .int x1)] [] V 0 0 := by
  obtain ⟨I, ⟨n0, h0⟩, hs⟩ := H
  have step : ∀ (K2 : Int32 → (Nat → Nat → Int32) → Prop), (∀ (x1 : Int32)  (V : Nat → Nat → Int32), K2 x1 V → WPc J mX8_starts Qr Qx 2 [(0, .ref 405), (1, .int x1)] [] V 0 0) → ∀ (x1 : Int32)  (V : Nat → Nat → Int32), B_X8_starts_2 J   K2 x1 V Qr Qx → WPc J mX8_starts Qr Qx 2 [(0, .ref 405), (1, .int x1)] [] V 0 0 := by
    intro K2 hK2 x1  V H
    unfold B_X8_starts_2 at H
    refine s_iload_n dX8_starts_2 rfl ?_
    refine s_bipush (v := 110) dX8_starts_3 (by decide) ?_
    refine s_icmp_ge (tgt := 40) dX8_starts_5 (by decide) (fun c => ?_) (fun c => ?_)
    · have H := H.1 c
      exact s_vret dX8_starts_40 rfl ⟨rfl, H⟩
    · have H := H.2 c
      refine s_aload_n dX8_starts_8 rfl ?_
      refine t_getR (r := 416) fl_8_41 dX8_starts_9 ob_405 rfl rfl ?_
      refine s_iload_n dX8_starts_12 rfl ?_
      refine s_iload_n dX8_starts_13 rfl ?_
      refine s_bipush (v := 20) dX8_starts_14 (by decide) ?_
      refine s_icmp_ge (tgt := 32) dX8_starts_16 (by decide) (fun c => ?_) (fun c => ?_)
      · have H := H.1 c
        exact t_loc [0, 1] rfl (v_X8_starts_32   K2 hK2 x1 x1  H)
      · have H := H.2 c
        refine s_iload_n dX8_starts_19 rfl ?_
        refine s_bipush (v := 10) dX8_starts_20 (by decide) ?_
        refine s_irem dX8_starts_22 (by decide) ?_
        refine s_bipush (v := 6) dX8_starts_23 (by decide) ?_
        refine s_icmp_le (tgt := 32) dX8_starts_25 (by decide) (fun c => ?_) (fun c => ?_)
        · have H := H.1 c
          exact t_loc [0, 1] rfl (v_X8_starts_32   K2 hK2 x1 x1  H)
        · have H := H.2 c
          refine s_iconst (v := 1) dX8_starts_28 (by decide) ?_
          refine s_goto (tgt := 33) dX8_starts_29 (by decide) ?_
          exact t_loc [0, 1] rfl (v_X8_starts_33   K2 hK2 x1 1 x1  H)
  have key : ∀ n, ∀ (x1 : Int32)  (V : Nat → Nat → Int32), I n x1 V → WPc J mX8_starts Qr Qx 2 [(0, .ref 405), (1, .int x1)] [] V 0 0 := by
    refine strong (fun n ih => ?_)
    intro x1  V hI
    exact step _ (fun x1  V hz => Exists.elim hz (fun n1 hz => ih n1 hz.1 x1  V hz.2)) x1  V (hs n x1 V hI)
  exact key n0 x1  V h0
def F_X8_starts (J : Nat → Nat → Int64)  (V : Nat → Nat → Int32) (Qr : Option Value → (Nat → Nat → Int32) → Prop) (Qx : String → (Nat → Nat → Int32) → Prop) : Prop :=
F_X8_starts_2 J   0 V Qr Qx
theorem v_X8_starts {J : Nat → Nat → Int64}  {V : Nat → Nat → Int32} {Qr : Option Value → (Nat → Nat → Int32) → Prop} {Qx : String → (Nat → Nat → Int32) → Prop} (H : F_X8_starts J  V Qr Qx) : CTc J mX8_starts [.ref 405] V Qr Qx := by
  refine ctc_of (M := (T0 J, V)) pX8_starts (fun _ _ => rfl) (Nat.le_of_ble_eq_true rfl) ?_
  unfold F_X8_starts at H
  show WPc J mX8_starts Qr Qx 0 [(0, .ref 405)] [] V 0 0
  refine s_iconst (v := 0) dX8_starts_0 (by decide) ?_
  refine t_istore_n (L' := [(1, .int 0), (0, .ref 405)]) dX8_starts_1 (by decide) rfl ?_
  exact t_loc [1, 0] rfl (v_X8_starts_2     0  H)

def F_X8_is (J : Nat → Nat → Int64) (p1 : Int32) (p2 : Int32) (p3 : Int32) (V : Nat → Nat → Int32) (Qr : Option Value → (Nat → Nat → Int32) → Prop) (Qx : String → (Nat → Nat → Int32) → Prop) : Prop :=
vp_in ((10 * p1) + p2) 110 ∧
((¬ (V 416 ((10 * p1) + p2).toNatClampNeg) = p3) →
  Qr (some (.int 0)) V) ∧
(((V 416 ((10 * p1) + p2).toNatClampNeg) = p3) →
  Qr (some (.int 1)) V)
theorem v_X8_is {J : Nat → Nat → Int64} (p1 : Int32) (p2 : Int32) (p3 : Int32) {V : Nat → Nat → Int32} {Qr : Option Value → (Nat → Nat → Int32) → Prop} {Qx : String → (Nat → Nat → Int32) → Prop} (H : F_X8_is J p1 p2 p3 V Qr Qx) : CTc J mX8_is [.ref 405, .int p1, .int p2, .int p3] V Qr Qx := by
  refine ctc_of (M := (T0 J, V)) pX8_is (fun _ _ => rfl) (Nat.le_of_ble_eq_true rfl) ?_
  unfold F_X8_is at H
  show WPc J mX8_is Qr Qx 0 [(0, .ref 405), (1, .int p1), (2, .int p2), (3, .int p3)] [] V 0 0
  refine s_aload_n dX8_is_0 rfl ?_
  refine t_getR (r := 416) fl_8_41 dX8_is_1 ob_405 rfl rfl ?_
  refine s_bipush (v := 10) dX8_is_4 (by decide) ?_
  refine s_iload_n dX8_is_6 rfl ?_
  refine s_imul dX8_is_7 ?_
  refine s_iload_n dX8_is_8 rfl ?_
  refine s_iadd dX8_is_9 ?_
  refine t_iald dX8_is_10 ap_416 H.1 ?_
  have H := H.2
  refine s_iload_n dX8_is_11 rfl ?_
  refine s_icmp_ne (tgt := 19) dX8_is_12 (by decide) (fun c => ?_) (fun c => ?_)
  · have H := H.1 c
    refine s_iconst (v := 0) dX8_is_19 (by decide) ?_
    exact s_iret dX8_is_20 (Or.inr ⟨rfl, (Or.inl rfl)⟩) ⟨rfl, H⟩
  · have H := H.2 c
    refine s_iconst (v := 1) dX8_is_15 (by decide) ?_
    refine s_goto (tgt := 20) dX8_is_16 (by decide) ?_
    exact s_iret dX8_is_20 (Or.inr ⟨rfl, (Or.inr rfl)⟩) ⟨rfl, H⟩

def F_X8_manyThat_42 (J : Nat → Nat → Int64) (p1 : Int32) (p2 : Int32) (p3 : Int32) (K6 : Int32 → Int32 → (Nat → Nat → Int32) → Prop) (x5 : Int32) (s0 : Int32) (s1 : Int32) (V : Nat → Nat → Int32) (Qr : Option Value → (Nat → Nat → Int32) → Prop) (Qx : String → (Nat → Nat → Int32) → Prop) : Prop :=
K6 (s1 + s0) (x5 + 1) V
theorem v_X8_manyThat_42 {J : Nat → Nat → Int64} (p1 : Int32) (p2 : Int32) (p3 : Int32) {Qr : Option Value → (Nat → Nat → Int32) → Prop} {Qx : String → (Nat → Nat → Int32) → Prop} (K6 : Int32 → Int32 → (Nat → Nat → Int32) → Prop) (hK6 : ∀ (x4 : Int32) (x5 : Int32)  (V : Nat → Nat → Int32), K6 x4 x5 V → WPc J mX8_manyThat Qr Qx 6 [(0, .ref 405), (1, .int p1), (2, .int p2), (3, .int p3), (4, .int x4), (5, .int x5)] [] V 0 0) (x5 : Int32) (s0 : Int32) (s1 : Int32)  {V : Nat → Nat → Int32} (H : F_X8_manyThat_42 J p1 p2 p3 K6 x5 s0 s1 V Qr Qx) : WPc J mX8_manyThat Qr Qx 42 [(0, .ref 405), (1, .int p1), (2, .int p2), (3, .int p3), (5, .int x5)] [.int s0, .int s1] V 0 0 := by
  unfold F_X8_manyThat_42 at H
  refine s_iadd dX8_manyThat_42 ?_
  refine t_istore (L' := [(4, .int (s1 + s0)), (0, .ref 405), (1, .int p1), (2, .int p2), (3, .int p3), (5, .int x5)]) dX8_manyThat_43 (by decide) rfl ?_
  refine t_iinc (v := (x5 + 1)) (L' := [(5, .int (x5 + 1)), (4, .int (s1 + s0)), (0, .ref 405), (1, .int p1), (2, .int p2), (3, .int p3)]) dX8_manyThat_45 rfl (by rfl) (by decide) rfl ?_
  refine s_goto (tgt := 6) dX8_manyThat_48 (by decide) ?_
  exact t_loc [2, 3, 4, 5, 1, 0] rfl (hK6 (s1 + s0) (x5 + 1)  V H)
def F_X8_manyThat_37 (J : Nat → Nat → Int64) (p1 : Int32) (p2 : Int32) (p3 : Int32) (K6 : Int32 → Int32 → (Nat → Nat → Int32) → Prop) (x5 : Int32) (s0 : Int32) (V : Nat → Nat → Int32) (Qr : Option Value → (Nat → Nat → Int32) → Prop) (Qx : String → (Nat → Nat → Int32) → Prop) : Prop :=
F_X8_manyThat_42 J p1 p2 p3 K6 x5 1 s0 V Qr Qx
theorem v_X8_manyThat_37 {J : Nat → Nat → Int64} (p1 : Int32) (p2 : Int32) (p3 : Int32) {Qr : Option Value → (Nat → Nat → Int32) → Prop} {Qx : String → (Nat → Nat → Int32) → Prop} (K6 : Int32 → Int32 → (Nat → Nat → Int32) → Prop) (hK6 : ∀ (x4 : Int32) (x5 : Int32)  (V : Nat → Nat → Int32), K6 x4 x5 V → WPc J mX8_manyThat Qr Qx 6 [(0, .ref 405), (1, .int p1), (2, .int p2), (3, .int p3), (4, .int x4), (5, .int x5)] [] V 0 0) (x5 : Int32) (s0 : Int32)  {V : Nat → Nat → Int32} (H : F_X8_manyThat_37 J p1 p2 p3 K6 x5 s0 V Qr Qx) : WPc J mX8_manyThat Qr Qx 37 [(0, .ref 405), (1, .int p1), (2, .int p2), (3, .int p3), (5, .int x5)] [.int s0] V 0 0 := by
  unfold F_X8_manyThat_37 at H
  refine s_iconst (v := 1) dX8_manyThat_37 (by decide) ?_
  refine s_goto (tgt := 42) dX8_manyThat_38 (by decide) ?_
  exact t_loc [0, 1, 2, 3, 4] rfl (v_X8_manyThat_42 p1 p2 p3  K6 hK6 x5 1 s0  H)
def B_X8_manyThat_6 (J : Nat → Nat → Int64) (p1 : Int32) (p2 : Int32) (p3 : Int32) (K6 : Int32 → Int32 → (Nat → Nat → Int32) → Prop) (x4 : Int32) (x5 : Int32) (V : Nat → Nat → Int32) (Qr : Option Value → (Nat → Nat → Int32) → Prop) (Qx : String → (Nat → Nat → Int32) → Prop) : Prop :=
((10 ≤ x5) →
  Qr (some (.int x4)) V) ∧
((¬ 10 ≤ x5) →
  CTc J mX8_is [.ref 405, .int p1, .int x5, .int p2] V (fun r V1 =>
    ∃ b1 : Bool, r = some (.int (bI b1)) ∧
    ((b1 = true) →
      F_X8_manyThat_37 J p1 p2 p3 K6 x5 x4 V1 Qr Qx) ∧
    ((b1 = false) →
      CTc J mX8_is [.ref 405, .int p1, .int x5, .int p3] V1 (fun r V2 =>
        ∃ b2 : Bool, r = some (.int (bI b2)) ∧
        ((b2 = false) →
          F_X8_manyThat_42 J p1 p2 p3 K6 x5 0 x4 V2 Qr Qx) ∧
        ((b2 = true) →
          F_X8_manyThat_37 J p1 p2 p3 K6 x5 x4 V2 Qr Qx)) Qx)) Qx)
def F_X8_manyThat_6 (J : Nat → Nat → Int64) (p1 : Int32) (p2 : Int32) (p3 : Int32) (x4 : Int32) (x5 : Int32) (V : Nat → Nat → Int32) (Qr : Option Value → (Nat → Nat → Int32) → Prop) (Qx : String → (Nat → Nat → Int32) → Prop) : Prop :=
  ∃ I : Nat → Int32 → Int32 → (Nat → Nat → Int32) → Prop, (∃ n, I n x4 x5 V) ∧ ∀ n (x4 : Int32) (x5 : Int32) (V : Nat → Nat → Int32), I n x4 x5 V → B_X8_manyThat_6 J p1 p2 p3  (fun x4 x5 V => ∃ n', n' < n ∧ I n' x4 x5 V) x4 x5 V Qr Qx
theorem v_X8_manyThat_6 {J : Nat → Nat → Int64} (p1 : Int32) (p2 : Int32) (p3 : Int32) {Qr : Option Value → (Nat → Nat → Int32) → Prop} {Qx : String → (Nat → Nat → Int32) → Prop} (x4 : Int32) (x5 : Int32)  {V : Nat → Nat → Int32} (H : F_X8_manyThat_6 J p1 p2 p3  x4 x5 V Qr Qx) : WPc J mX8_manyThat Qr Qx 6 [(0, .ref 405), (1, .int p1), (2, .int p2), (3, .int p3), (4, .int x4), (5, .int x5)] [] V 0 0 := by
  obtain ⟨I, ⟨n0, h0⟩, hs⟩ := H
  have step : ∀ (K6 : Int32 → Int32 → (Nat → Nat → Int32) → Prop), (∀ (x4 : Int32) (x5 : Int32)  (V : Nat → Nat → Int32), K6 x4 x5 V → WPc J mX8_manyThat Qr Qx 6 [(0, .ref 405), (1, .int p1), (2, .int p2), (3, .int p3), (4, .int x4), (5, .int x5)] [] V 0 0) → ∀ (x4 : Int32) (x5 : Int32)  (V : Nat → Nat → Int32), B_X8_manyThat_6 J p1 p2 p3  K6 x4 x5 V Qr Qx → WPc J mX8_manyThat Qr Qx 6 [(0, .ref 405), (1, .int p1), (2, .int p2), (3, .int p3), (4, .int x4), (5, .int x5)] [] V 0 0 := by
    intro K6 hK6 x4 x5  V H
    unfold B_X8_manyThat_6 at H
    refine s_iload dX8_manyThat_6 rfl ?_
    refine s_bipush (v := 10) dX8_manyThat_8 (by decide) ?_
    refine s_icmp_ge (tgt := 51) dX8_manyThat_10 (by decide) (fun c => ?_) (fun c => ?_)
    · have H := H.1 c
      refine s_iload dX8_manyThat_51 rfl ?_
      exact s_iret dX8_manyThat_53 (Or.inl rfl) ⟨rfl, H⟩
    · have H := H.2 c
      refine s_iload dX8_manyThat_13 rfl ?_
      refine s_aload_n dX8_manyThat_15 rfl ?_
      refine s_iload_n dX8_manyThat_16 rfl ?_
      refine s_iload dX8_manyThat_17 rfl ?_
      refine s_iload_n dX8_manyThat_19 rfl ?_
      refine t_cV (h := 405) (As := [.int p1, .int x5, .int p2]) (st := [.int x4]) iv_8_85 dX8_manyThat_20 ⟨by decide, by decide⟩ rfl (Nat.le_of_ble_eq_true rfl) (by decide) (by decide) rfl ob_405 H (fun r V1 H => ?_)
      obtain ⟨b1, rfl, H⟩ := H
      refine s_if_ne (tgt := 37) dX8_manyThat_23 (by decide) (fun c => ?_) (fun c => ?_)
      · have H := H.1 (bI_t c)
        exact t_loc [0, 1, 2, 3, 5] rfl (v_X8_manyThat_37 p1 p2 p3  K6 hK6 x5 x4  H)
      · have H := H.2 (bI_f c)
        refine s_aload_n dX8_manyThat_26 rfl ?_
        refine s_iload_n dX8_manyThat_27 rfl ?_
        refine s_iload dX8_manyThat_28 rfl ?_
        refine s_iload_n dX8_manyThat_30 rfl ?_
        refine t_cV (h := 405) (As := [.int p1, .int x5, .int p3]) (st := [.int x4]) iv_8_85 dX8_manyThat_31 ⟨by decide, by decide⟩ rfl (Nat.le_of_ble_eq_true rfl) (by decide) (by decide) rfl ob_405 H (fun r V2 H => ?_)
        obtain ⟨b2, rfl, H⟩ := H
        refine s_if_eq (tgt := 41) dX8_manyThat_34 (by decide) (fun c => ?_) (fun c => ?_)
        · have H := H.1 (bI_f c)
          refine s_iconst (v := 0) dX8_manyThat_41 (by decide) ?_
          exact t_loc [0, 1, 2, 3, 5] rfl (v_X8_manyThat_42 p1 p2 p3  K6 hK6 x5 0 x4  H)
        · have H := H.2 (bI_t c)
          exact t_loc [0, 1, 2, 3, 5] rfl (v_X8_manyThat_37 p1 p2 p3  K6 hK6 x5 x4  H)
  have key : ∀ n, ∀ (x4 : Int32) (x5 : Int32)  (V : Nat → Nat → Int32), I n x4 x5 V → WPc J mX8_manyThat Qr Qx 6 [(0, .ref 405), (1, .int p1), (2, .int p2), (3, .int p3), (4, .int x4), (5, .int x5)] [] V 0 0 := by
    refine strong (fun n ih => ?_)
    intro x4 x5  V hI
    exact step _ (fun x4 x5  V hz => Exists.elim hz (fun n1 hz => ih n1 hz.1 x4 x5  V hz.2)) x4 x5  V (hs n x4 x5 V hI)
  exact key n0 x4 x5  V h0
def F_X8_manyThat (J : Nat → Nat → Int64) (p1 : Int32) (p2 : Int32) (p3 : Int32) (V : Nat → Nat → Int32) (Qr : Option Value → (Nat → Nat → Int32) → Prop) (Qx : String → (Nat → Nat → Int32) → Prop) : Prop :=
F_X8_manyThat_6 J p1 p2 p3  0 0 V Qr Qx
theorem v_X8_manyThat {J : Nat → Nat → Int64} (p1 : Int32) (p2 : Int32) (p3 : Int32) {V : Nat → Nat → Int32} {Qr : Option Value → (Nat → Nat → Int32) → Prop} {Qx : String → (Nat → Nat → Int32) → Prop} (H : F_X8_manyThat J p1 p2 p3 V Qr Qx) : CTc J mX8_manyThat [.ref 405, .int p1, .int p2, .int p3] V Qr Qx := by
  refine ctc_of (M := (T0 J, V)) pX8_manyThat (fun _ _ => rfl) (Nat.le_of_ble_eq_true rfl) ?_
  unfold F_X8_manyThat at H
  show WPc J mX8_manyThat Qr Qx 0 [(0, .ref 405), (1, .int p1), (2, .int p2), (3, .int p3)] [] V 0 0
  refine s_iconst (v := 0) dX8_manyThat_0 (by decide) ?_
  refine t_istore (L' := [(4, .int 0), (0, .ref 405), (1, .int p1), (2, .int p2), (3, .int p3)]) dX8_manyThat_1 (by decide) rfl ?_
  refine s_iconst (v := 0) dX8_manyThat_3 (by decide) ?_
  refine t_istore (L' := [(5, .int 0), (4, .int 0), (0, .ref 405), (1, .int p1), (2, .int p2), (3, .int p3)]) dX8_manyThat_4 (by decide) rfl ?_
  exact t_loc [2, 3, 4, 5, 1, 0] rfl (v_X8_manyThat_6 p1 p2 p3    0 0  H)

def F_X8_turn (J : Nat → Nat → Int64)  (V : Nat → Nat → Int32) (Qr : Option Value → (Nat → Nat → Int32) → Prop) (Qx : String → (Nat → Nat → Int32) → Prop) : Prop :=
Qr (some (.int ((V 416 109) - (V 416 109) / 2 * 2))) V
theorem v_X8_turn {J : Nat → Nat → Int64}  {V : Nat → Nat → Int32} {Qr : Option Value → (Nat → Nat → Int32) → Prop} {Qx : String → (Nat → Nat → Int32) → Prop} (H : F_X8_turn J  V Qr Qx) : CTc J mX8_turn [.ref 405] V Qr Qx := by
  refine ctc_of (M := (T0 J, V)) pX8_turn (fun _ _ => rfl) (Nat.le_of_ble_eq_true rfl) ?_
  unfold F_X8_turn at H
  show WPc J mX8_turn Qr Qx 0 [(0, .ref 405)] [] V 0 0
  refine s_aload_n dX8_turn_0 rfl ?_
  refine t_getR (r := 416) fl_8_41 dX8_turn_1 ob_405 rfl rfl ?_
  refine s_bipush (v := 109) dX8_turn_4 (by decide) ?_
  refine t_iald dX8_turn_6 ap_416 (vp_of (by decide)) ?_
  refine s_iconst (v := 2) dX8_turn_7 (by decide) ?_
  refine s_irem dX8_turn_8 (by decide) ?_
  exact s_iret dX8_turn_9 (Or.inl rfl) ⟨rfl, H⟩

def F_X8_goesOut (J : Nat → Nat → Int64) (p1 : Int32) (p2 : Int32) (V : Nat → Nat → Int32) (Qr : Option Value → (Nat → Nat → Int32) → Prop) (Qx : String → (Nat → Nat → Int32) → Prop) : Prop :=
vp_in ((10 * p1) + p2) 110 ∧
vp_in (100 + p1) 110 ∧
vp_in ((80 + (10 * p1)) + ((up2 V 416 ((10 * p1) + p2).toNatClampNeg 2) 416 (100 + p1).toNatClampNeg)) 110 ∧
vp_in (100 + p1) 110 ∧
vp_in (100 + p1) 110 ∧
Qr none (up2 (up2 (up2 V 416 ((10 * p1) + p2).toNatClampNeg 2) 416 ((80 + (10 * p1)) + ((up2 V 416 ((10 * p1) + p2).toNatClampNeg 2) 416 (100 + p1).toNatClampNeg)).toNatClampNeg p2) 416 (100 + p1).toNatClampNeg (((up2 (up2 V 416 ((10 * p1) + p2).toNatClampNeg 2) 416 ((80 + (10 * p1)) + ((up2 V 416 ((10 * p1) + p2).toNatClampNeg 2) 416 (100 + p1).toNatClampNeg)).toNatClampNeg p2) 416 (100 + p1).toNatClampNeg) + 1))
theorem v_X8_goesOut {J : Nat → Nat → Int64} (p1 : Int32) (p2 : Int32) {V : Nat → Nat → Int32} {Qr : Option Value → (Nat → Nat → Int32) → Prop} {Qx : String → (Nat → Nat → Int32) → Prop} (H : F_X8_goesOut J p1 p2 V Qr Qx) : CTc J mX8_goesOut [.ref 405, .int p1, .int p2] V Qr Qx := by
  refine ctc_of (M := (T0 J, V)) pX8_goesOut (fun _ _ => rfl) (Nat.le_of_ble_eq_true rfl) ?_
  unfold F_X8_goesOut at H
  show WPc J mX8_goesOut Qr Qx 0 [(0, .ref 405), (1, .int p1), (2, .int p2)] [] V 0 0
  refine s_aload_n dX8_goesOut_0 rfl ?_
  refine t_getR (r := 416) fl_8_41 dX8_goesOut_1 ob_405 rfl rfl ?_
  refine s_bipush (v := 10) dX8_goesOut_4 (by decide) ?_
  refine s_iload_n dX8_goesOut_6 rfl ?_
  refine s_imul dX8_goesOut_7 ?_
  refine s_iload_n dX8_goesOut_8 rfl ?_
  refine s_iadd dX8_goesOut_9 ?_
  refine s_iconst (v := 2) dX8_goesOut_10 (by decide) ?_
  refine t_iast dX8_goesOut_11 ap_416 H.1 ?_
  have H := H.2
  refine s_aload_n dX8_goesOut_12 rfl ?_
  refine t_getR (r := 416) fl_8_41 dX8_goesOut_13 ob_405 rfl rfl ?_
  refine s_bipush (v := 80) dX8_goesOut_16 (by decide) ?_
  refine s_bipush (v := 10) dX8_goesOut_18 (by decide) ?_
  refine s_iload_n dX8_goesOut_20 rfl ?_
  refine s_imul dX8_goesOut_21 ?_
  refine s_iadd dX8_goesOut_22 ?_
  refine s_aload_n dX8_goesOut_23 rfl ?_
  refine t_getR (r := 416) fl_8_41 dX8_goesOut_24 ob_405 rfl rfl ?_
  refine s_bipush (v := 100) dX8_goesOut_27 (by decide) ?_
  refine s_iload_n dX8_goesOut_29 rfl ?_
  refine s_iadd dX8_goesOut_30 ?_
  refine t_iald dX8_goesOut_31 ap_416 H.1 ?_
  have H := H.2
  refine s_iadd dX8_goesOut_32 ?_
  refine s_iload_n dX8_goesOut_33 rfl ?_
  refine t_iast dX8_goesOut_34 ap_416 H.1 ?_
  have H := H.2
  refine s_aload_n dX8_goesOut_35 rfl ?_
  refine t_getR (r := 416) fl_8_41 dX8_goesOut_36 ob_405 rfl rfl ?_
  refine s_bipush (v := 100) dX8_goesOut_39 (by decide) ?_
  refine s_iload_n dX8_goesOut_41 rfl ?_
  refine s_iadd dX8_goesOut_42 ?_
  refine s_dup2 dX8_goesOut_43 rfl rfl ?_
  refine t_iald dX8_goesOut_44 ap_416 H.1 ?_
  have H := H.2
  refine s_iconst (v := 1) dX8_goesOut_45 (by decide) ?_
  refine s_iadd dX8_goesOut_46 ?_
  refine t_iast dX8_goesOut_47 ap_416 H.1 ?_
  have H := H.2
  exact s_vret dX8_goesOut_48 rfl ⟨rfl, H⟩

def B_X8_comesBack_50 (J : Nat → Nat → Int64) (p1 : Int32) (K50 : Int32 → (Nat → Nat → Int32) → Prop) (x2 : Int32) (V : Nat → Nat → Int32) (Qr : Option Value → (Nat → Nat → Int32) → Prop) (Qx : String → (Nat → Nat → Int32) → Prop) : Prop :=
vp_in (100 + p1) 110 ∧
(((V 416 (100 + p1).toNatClampNeg) ≤ x2) →
  Qr none V) ∧
((¬ (V 416 (100 + p1).toNatClampNeg) ≤ x2) →
  vp_in (((80 + (10 * p1)) + x2) + 1) 110 ∧
  vp_in ((80 + (10 * p1)) + x2) 110 ∧
  K50 (x2 + 1) (up2 V 416 ((80 + (10 * p1)) + x2).toNatClampNeg (V 416 (((80 + (10 * p1)) + x2) + 1).toNatClampNeg)))
def F_X8_comesBack_50 (J : Nat → Nat → Int64) (p1 : Int32) (x2 : Int32) (V : Nat → Nat → Int32) (Qr : Option Value → (Nat → Nat → Int32) → Prop) (Qx : String → (Nat → Nat → Int32) → Prop) : Prop :=
  ∃ I : Nat → Int32 → (Nat → Nat → Int32) → Prop, (∃ n, I n x2 V) ∧ ∀ n (x2 : Int32) (V : Nat → Nat → Int32), I n x2 V → B_X8_comesBack_50 J p1  (fun x2 V => ∃ n', n' < n ∧ I n' x2 V) x2 V Qr Qx
theorem v_X8_comesBack_50 {J : Nat → Nat → Int64} (p1 : Int32) {Qr : Option Value → (Nat → Nat → Int32) → Prop} {Qx : String → (Nat → Nat → Int32) → Prop} (x2 : Int32)  {V : Nat → Nat → Int32} (H : F_X8_comesBack_50 J p1  x2 V Qr Qx) : WPc J mX8_comesBack Qr Qx 50 [(0, .ref 405), (1, .int p1), (2, .int x2)] [] V 0 0 := by
  obtain ⟨I, ⟨n0, h0⟩, hs⟩ := H
  have step : ∀ (K50 : Int32 → (Nat → Nat → Int32) → Prop), (∀ (x2 : Int32)  (V : Nat → Nat → Int32), K50 x2 V → WPc J mX8_comesBack Qr Qx 50 [(0, .ref 405), (1, .int p1), (2, .int x2)] [] V 0 0) → ∀ (x2 : Int32)  (V : Nat → Nat → Int32), B_X8_comesBack_50 J p1  K50 x2 V Qr Qx → WPc J mX8_comesBack Qr Qx 50 [(0, .ref 405), (1, .int p1), (2, .int x2)] [] V 0 0 := by
    intro K50 hK50 x2  V H
    unfold B_X8_comesBack_50 at H
    refine s_iload_n dX8_comesBack_50 rfl ?_
    refine s_aload_n dX8_comesBack_51 rfl ?_
    refine t_getR (r := 416) fl_8_41 dX8_comesBack_52 ob_405 rfl rfl ?_
    refine s_bipush (v := 100) dX8_comesBack_55 (by decide) ?_
    refine s_iload_n dX8_comesBack_57 rfl ?_
    refine s_iadd dX8_comesBack_58 ?_
    refine t_iald dX8_comesBack_59 ap_416 H.1 ?_
    have H := H.2
    refine s_icmp_ge (tgt := 99) dX8_comesBack_60 (by decide) (fun c => ?_) (fun c => ?_)
    · have H := H.1 c
      exact s_vret dX8_comesBack_99 rfl ⟨rfl, H⟩
    · have H := H.2 c
      refine s_aload_n dX8_comesBack_63 rfl ?_
      refine t_getR (r := 416) fl_8_41 dX8_comesBack_64 ob_405 rfl rfl ?_
      refine s_bipush (v := 80) dX8_comesBack_67 (by decide) ?_
      refine s_bipush (v := 10) dX8_comesBack_69 (by decide) ?_
      refine s_iload_n dX8_comesBack_71 rfl ?_
      refine s_imul dX8_comesBack_72 ?_
      refine s_iadd dX8_comesBack_73 ?_
      refine s_iload_n dX8_comesBack_74 rfl ?_
      refine s_iadd dX8_comesBack_75 ?_
      refine s_aload_n dX8_comesBack_76 rfl ?_
      refine t_getR (r := 416) fl_8_41 dX8_comesBack_77 ob_405 rfl rfl ?_
      refine s_bipush (v := 80) dX8_comesBack_80 (by decide) ?_
      refine s_bipush (v := 10) dX8_comesBack_82 (by decide) ?_
      refine s_iload_n dX8_comesBack_84 rfl ?_
      refine s_imul dX8_comesBack_85 ?_
      refine s_iadd dX8_comesBack_86 ?_
      refine s_iload_n dX8_comesBack_87 rfl ?_
      refine s_iadd dX8_comesBack_88 ?_
      refine s_iconst (v := 1) dX8_comesBack_89 (by decide) ?_
      refine s_iadd dX8_comesBack_90 ?_
      refine t_iald dX8_comesBack_91 ap_416 H.1 ?_
      have H := H.2
      refine t_iast dX8_comesBack_92 ap_416 H.1 ?_
      have H := H.2
      refine t_iinc (v := (x2 + 1)) (L' := [(2, .int (x2 + 1)), (0, .ref 405), (1, .int p1)]) dX8_comesBack_93 rfl (by rfl) (by decide) rfl ?_
      refine s_goto (tgt := 50) dX8_comesBack_96 (by decide) ?_
      exact t_loc [1, 2, 0] rfl (hK50 (x2 + 1)  (up2 V 416 ((80 + (10 * p1)) + x2).toNatClampNeg (V 416 (((80 + (10 * p1)) + x2) + 1).toNatClampNeg)) H)
  have key : ∀ n, ∀ (x2 : Int32)  (V : Nat → Nat → Int32), I n x2 V → WPc J mX8_comesBack Qr Qx 50 [(0, .ref 405), (1, .int p1), (2, .int x2)] [] V 0 0 := by
    refine strong (fun n ih => ?_)
    intro x2  V hI
    exact step _ (fun x2  V hz => Exists.elim hz (fun n1 hz => ih n1 hz.1 x2  V hz.2)) x2  V (hs n x2 V hI)
  exact key n0 x2  V h0
def F_X8_comesBack (J : Nat → Nat → Int64) (p1 : Int32) (V : Nat → Nat → Int32) (Qr : Option Value → (Nat → Nat → Int32) → Prop) (Qx : String → (Nat → Nat → Int32) → Prop) : Prop :=
vp_in (100 + p1) 110 ∧
(((V 416 (100 + p1).toNatClampNeg) ≤ 0) →
  Qr none V) ∧
((¬ (V 416 (100 + p1).toNatClampNeg) ≤ 0) →
  vp_in (80 + (10 * p1)) 110 ∧
  vp_in ((10 * p1) + (V 416 (80 + (10 * p1)).toNatClampNeg)) 110 ∧
  vp_in (100 + p1) 110 ∧
  vp_in (100 + p1) 110 ∧
  F_X8_comesBack_50 J p1  0 (up2 (up2 V 416 ((10 * p1) + (V 416 (80 + (10 * p1)).toNatClampNeg)).toNatClampNeg 0) 416 (100 + p1).toNatClampNeg (((up2 V 416 ((10 * p1) + (V 416 (80 + (10 * p1)).toNatClampNeg)).toNatClampNeg 0) 416 (100 + p1).toNatClampNeg) - 1)) Qr Qx)
theorem v_X8_comesBack {J : Nat → Nat → Int64} (p1 : Int32) {V : Nat → Nat → Int32} {Qr : Option Value → (Nat → Nat → Int32) → Prop} {Qx : String → (Nat → Nat → Int32) → Prop} (H : F_X8_comesBack J p1 V Qr Qx) : CTc J mX8_comesBack [.ref 405, .int p1] V Qr Qx := by
  refine ctc_of (M := (T0 J, V)) pX8_comesBack (fun _ _ => rfl) (Nat.le_of_ble_eq_true rfl) ?_
  unfold F_X8_comesBack at H
  show WPc J mX8_comesBack Qr Qx 0 [(0, .ref 405), (1, .int p1)] [] V 0 0
  refine s_aload_n dX8_comesBack_0 rfl ?_
  refine t_getR (r := 416) fl_8_41 dX8_comesBack_1 ob_405 rfl rfl ?_
  refine s_bipush (v := 100) dX8_comesBack_4 (by decide) ?_
  refine s_iload_n dX8_comesBack_6 rfl ?_
  refine s_iadd dX8_comesBack_7 ?_
  refine t_iald dX8_comesBack_8 ap_416 H.1 ?_
  have H := H.2
  refine s_if_le (tgt := 99) dX8_comesBack_9 (by decide) (fun c => ?_) (fun c => ?_)
  · have H := H.1 c
    exact s_vret dX8_comesBack_99 rfl ⟨rfl, H⟩
  · have H := H.2 c
    refine s_aload_n dX8_comesBack_12 rfl ?_
    refine t_getR (r := 416) fl_8_41 dX8_comesBack_13 ob_405 rfl rfl ?_
    refine s_bipush (v := 10) dX8_comesBack_16 (by decide) ?_
    refine s_iload_n dX8_comesBack_18 rfl ?_
    refine s_imul dX8_comesBack_19 ?_
    refine s_aload_n dX8_comesBack_20 rfl ?_
    refine t_getR (r := 416) fl_8_41 dX8_comesBack_21 ob_405 rfl rfl ?_
    refine s_bipush (v := 80) dX8_comesBack_24 (by decide) ?_
    refine s_bipush (v := 10) dX8_comesBack_26 (by decide) ?_
    refine s_iload_n dX8_comesBack_28 rfl ?_
    refine s_imul dX8_comesBack_29 ?_
    refine s_iadd dX8_comesBack_30 ?_
    refine t_iald dX8_comesBack_31 ap_416 H.1 ?_
    have H := H.2
    refine s_iadd dX8_comesBack_32 ?_
    refine s_iconst (v := 0) dX8_comesBack_33 (by decide) ?_
    refine t_iast dX8_comesBack_34 ap_416 H.1 ?_
    have H := H.2
    refine s_aload_n dX8_comesBack_35 rfl ?_
    refine t_getR (r := 416) fl_8_41 dX8_comesBack_36 ob_405 rfl rfl ?_
    refine s_bipush (v := 100) dX8_comesBack_39 (by decide) ?_
    refine s_iload_n dX8_comesBack_41 rfl ?_
    refine s_iadd dX8_comesBack_42 ?_
    refine s_dup2 dX8_comesBack_43 rfl rfl ?_
    refine t_iald dX8_comesBack_44 ap_416 H.1 ?_
    have H := H.2
    refine s_iconst (v := 1) dX8_comesBack_45 (by decide) ?_
    refine s_isub dX8_comesBack_46 ?_
    refine t_iast dX8_comesBack_47 ap_416 H.1 ?_
    have H := H.2
    refine s_iconst (v := 0) dX8_comesBack_48 (by decide) ?_
    refine t_istore_n (L' := [(2, .int 0), (0, .ref 405), (1, .int p1)]) dX8_comesBack_49 (by decide) rfl ?_
    exact t_loc [1, 2, 0] rfl (v_X8_comesBack_50 p1    0  H)

def B_X8_looksAtMat_23 (J : Nat → Nat → Int64) (p1 : Int32) (K23 : (Nat → Nat → Int32) → Prop)  (V : Nat → Nat → Int32) (Qr : Option Value → (Nat → Nat → Int32) → Prop) (Qx : String → (Nat → Nat → Int32) → Prop) : Prop :=
vp_in (100 + p1) 110 ∧
(((V 416 (100 + p1).toNatClampNeg) ≤ 0) →
  Qr none V) ∧
((¬ (V 416 (100 + p1).toNatClampNeg) ≤ 0) →
  CTc J mX8_comesBack [.ref 405, .int p1] V (fun r V1 =>
    r = none ∧
    K23  V1) Qx)
def F_X8_looksAtMat_23 (J : Nat → Nat → Int64) (p1 : Int32)  (V : Nat → Nat → Int32) (Qr : Option Value → (Nat → Nat → Int32) → Prop) (Qx : String → (Nat → Nat → Int32) → Prop) : Prop :=
  ∃ I : Nat → (Nat → Nat → Int32) → Prop, (∃ n, I n  V) ∧ ∀ n  (V : Nat → Nat → Int32), I n  V → B_X8_looksAtMat_23 J p1  (fun  V => ∃ n', n' < n ∧ I n'  V)  V Qr Qx
theorem v_X8_looksAtMat_23 {J : Nat → Nat → Int64} (p1 : Int32) {Qr : Option Value → (Nat → Nat → Int32) → Prop} {Qx : String → (Nat → Nat → Int32) → Prop}   {V : Nat → Nat → Int32} (H : F_X8_looksAtMat_23 J p1   V Qr Qx) : WPc J mX8_looksAtMat Qr Qx 23 [(0, .ref 405), (1, .int p1)] [] V 0 0 := by
  obtain ⟨I, ⟨n0, h0⟩, hs⟩ := H
  have step : ∀ (K23 : (Nat → Nat → Int32) → Prop), (∀   (V : Nat → Nat → Int32), K23  V → WPc J mX8_looksAtMat Qr Qx 23 [(0, .ref 405), (1, .int p1)] [] V 0 0) → ∀   (V : Nat → Nat → Int32), B_X8_looksAtMat_23 J p1  K23  V Qr Qx → WPc J mX8_looksAtMat Qr Qx 23 [(0, .ref 405), (1, .int p1)] [] V 0 0 := by
    intro K23 hK23   V H
    unfold B_X8_looksAtMat_23 at H
    refine s_aload_n dX8_looksAtMat_23 rfl ?_
    refine t_getR (r := 416) fl_8_41 dX8_looksAtMat_24 ob_405 rfl rfl ?_
    refine s_bipush (v := 100) dX8_looksAtMat_27 (by decide) ?_
    refine s_iload_n dX8_looksAtMat_29 rfl ?_
    refine s_iadd dX8_looksAtMat_30 ?_
    refine t_iald dX8_looksAtMat_31 ap_416 H.1 ?_
    have H := H.2
    refine s_if_le (tgt := 43) dX8_looksAtMat_32 (by decide) (fun c => ?_) (fun c => ?_)
    · have H := H.1 c
      exact s_vret dX8_looksAtMat_43 rfl ⟨rfl, H⟩
    · have H := H.2 c
      refine s_aload_n dX8_looksAtMat_35 rfl ?_
      refine s_iload_n dX8_looksAtMat_36 rfl ?_
      refine t_cV (h := 405) (As := [.int p1]) (st := []) iv_8_92 dX8_looksAtMat_37 ⟨by decide, by decide⟩ rfl (Nat.le_of_ble_eq_true rfl) (by decide) (by decide) rfl ob_405 H (fun r V1 H => ?_)
      obtain ⟨rfl, H⟩ := H
      refine s_goto (tgt := 23) dX8_looksAtMat_40 (by decide) ?_
      exact t_loc [0, 1] rfl (hK23   V1 H)
  have key : ∀ n, ∀   (V : Nat → Nat → Int32), I n  V → WPc J mX8_looksAtMat Qr Qx 23 [(0, .ref 405), (1, .int p1)] [] V 0 0 := by
    refine strong (fun n ih => ?_)
    intro   V hI
    exact step _ (fun   V hz => Exists.elim hz (fun n1 hz => ih n1 hz.1   V hz.2))   V (hs n  V hI)
  exact key n0   V h0
def F_X8_looksAtMat (J : Nat → Nat → Int64) (p1 : Int32) (V : Nat → Nat → Int32) (Qr : Option Value → (Nat → Nat → Int32) → Prop) (Qx : String → (Nat → Nat → Int32) → Prop) : Prop :=
CTc J mX8_manyThat [.ref 405, .int p1, .int 0, .int 0] V (fun r V1 =>
  ∃ r1 : Int32, r = some (.int r1) ∧
  ((¬ r1 = 0) →
    Qr none V1) ∧
  ((r1 = 0) →
    vp_in (105 - p1) 110 ∧
    vp_in (105 - p1) 110 ∧
    F_X8_looksAtMat_23 J p1   (up2 V1 416 (105 - p1).toNatClampNeg ((V1 416 (105 - p1).toNatClampNeg) + 2)) Qr Qx)) Qx
theorem v_X8_looksAtMat {J : Nat → Nat → Int64} (p1 : Int32) {V : Nat → Nat → Int32} {Qr : Option Value → (Nat → Nat → Int32) → Prop} {Qx : String → (Nat → Nat → Int32) → Prop} (H : F_X8_looksAtMat J p1 V Qr Qx) : CTc J mX8_looksAtMat [.ref 405, .int p1] V Qr Qx := by
  refine ctc_of (M := (T0 J, V)) pX8_looksAtMat (fun _ _ => rfl) (Nat.le_of_ble_eq_true rfl) ?_
  unfold F_X8_looksAtMat at H
  show WPc J mX8_looksAtMat Qr Qx 0 [(0, .ref 405), (1, .int p1)] [] V 0 0
  refine s_aload_n dX8_looksAtMat_0 rfl ?_
  refine s_iload_n dX8_looksAtMat_1 rfl ?_
  refine s_iconst (v := 0) dX8_looksAtMat_2 (by decide) ?_
  refine s_iconst (v := 0) dX8_looksAtMat_3 (by decide) ?_
  refine t_cV (h := 405) (As := [.int p1, .int 0, .int 0]) (st := []) iv_8_88 dX8_looksAtMat_4 ⟨by decide, by decide⟩ rfl (Nat.le_of_ble_eq_true rfl) (by decide) (by decide) rfl ob_405 H (fun r V1 H => ?_)
  obtain ⟨r1, rfl, H⟩ := H
  refine s_if_ne (tgt := 43) dX8_looksAtMat_7 (by decide) (fun c => ?_) (fun c => ?_)
  · have H := H.1 c
    exact s_vret dX8_looksAtMat_43 rfl ⟨rfl, H⟩
  · have H := H.2 c
    refine s_aload_n dX8_looksAtMat_10 rfl ?_
    refine t_getR (r := 416) fl_8_41 dX8_looksAtMat_11 ob_405 rfl rfl ?_
    refine s_bipush (v := 105) dX8_looksAtMat_14 (by decide) ?_
    refine s_iload_n dX8_looksAtMat_16 rfl ?_
    refine s_isub dX8_looksAtMat_17 ?_
    refine s_dup2 dX8_looksAtMat_18 rfl rfl ?_
    refine t_iald dX8_looksAtMat_19 ap_416 H.1 ?_
    have H := H.2
    refine s_iconst (v := 2) dX8_looksAtMat_20 (by decide) ?_
    refine s_iadd dX8_looksAtMat_21 ?_
    refine t_iast dX8_looksAtMat_22 ap_416 H.1 ?_
    have H := H.2
    exact t_loc [0, 1] rfl (v_X8_looksAtMat_23 p1      H)

def F_X8_stepsThat_38 (J : Nat → Nat → Int64) (p1 : Int32) (p2 : Int32) (K5 : Int32 → Int32 → (Nat → Nat → Int32) → Prop) (x4 : Int32) (s0 : Int32) (s1 : Int32) (V : Nat → Nat → Int32) (Qr : Option Value → (Nat → Nat → Int32) → Prop) (Qx : String → (Nat → Nat → Int32) → Prop) : Prop :=
K5 (s1 + s0) (x4 + 1) V
theorem v_X8_stepsThat_38 {J : Nat → Nat → Int64} (p1 : Int32) (p2 : Int32) {Qr : Option Value → (Nat → Nat → Int32) → Prop} {Qx : String → (Nat → Nat → Int32) → Prop} (K5 : Int32 → Int32 → (Nat → Nat → Int32) → Prop) (hK5 : ∀ (x3 : Int32) (x4 : Int32)  (V : Nat → Nat → Int32), K5 x3 x4 V → WPc J mX8_stepsThat Qr Qx 5 [(0, .ref 405), (1, .int p1), (2, .int p2), (3, .int x3), (4, .int x4)] [] V 0 0) (x4 : Int32) (s0 : Int32) (s1 : Int32)  {V : Nat → Nat → Int32} (H : F_X8_stepsThat_38 J p1 p2 K5 x4 s0 s1 V Qr Qx) : WPc J mX8_stepsThat Qr Qx 38 [(0, .ref 405), (1, .int p1), (2, .int p2), (4, .int x4)] [.int s0, .int s1] V 0 0 := by
  unfold F_X8_stepsThat_38 at H
  refine s_iadd dX8_stepsThat_38 ?_
  refine t_istore_n (L' := [(3, .int (s1 + s0)), (0, .ref 405), (1, .int p1), (2, .int p2), (4, .int x4)]) dX8_stepsThat_39 (by decide) rfl ?_
  refine t_iinc (v := (x4 + 1)) (L' := [(4, .int (x4 + 1)), (3, .int (s1 + s0)), (0, .ref 405), (1, .int p1), (2, .int p2)]) dX8_stepsThat_40 rfl (by rfl) (by decide) rfl ?_
  refine s_goto (tgt := 5) dX8_stepsThat_43 (by decide) ?_
  exact t_loc [2, 3, 4, 1, 0] rfl (hK5 (s1 + s0) (x4 + 1)  V H)
def B_X8_stepsThat_5 (J : Nat → Nat → Int64) (p1 : Int32) (p2 : Int32) (K5 : Int32 → Int32 → (Nat → Nat → Int32) → Prop) (x3 : Int32) (x4 : Int32) (V : Nat → Nat → Int32) (Qr : Option Value → (Nat → Nat → Int32) → Prop) (Qx : String → (Nat → Nat → Int32) → Prop) : Prop :=
vp_in p1 60 ∧
(((V 412 p1.toNatClampNeg) ≤ x4) →
  Qr (some (.int x3)) V) ∧
((¬ (V 412 p1.toNatClampNeg) ≤ x4) →
  vp_in ((14 * p1) + x4) 840 ∧
  ((¬ (V 413 ((14 * p1) + x4).toNatClampNeg) = p2) →
    F_X8_stepsThat_38 J p1 p2 K5 x4 0 x3 V Qr Qx) ∧
  (((V 413 ((14 * p1) + x4).toNatClampNeg) = p2) →
    F_X8_stepsThat_38 J p1 p2 K5 x4 1 x3 V Qr Qx))
def F_X8_stepsThat_5 (J : Nat → Nat → Int64) (p1 : Int32) (p2 : Int32) (x3 : Int32) (x4 : Int32) (V : Nat → Nat → Int32) (Qr : Option Value → (Nat → Nat → Int32) → Prop) (Qx : String → (Nat → Nat → Int32) → Prop) : Prop :=
  ∃ I : Nat → Int32 → Int32 → (Nat → Nat → Int32) → Prop, (∃ n, I n x3 x4 V) ∧ ∀ n (x3 : Int32) (x4 : Int32) (V : Nat → Nat → Int32), I n x3 x4 V → B_X8_stepsThat_5 J p1 p2  (fun x3 x4 V => ∃ n', n' < n ∧ I n' x3 x4 V) x3 x4 V Qr Qx
theorem v_X8_stepsThat_5 {J : Nat → Nat → Int64} (p1 : Int32) (p2 : Int32) {Qr : Option Value → (Nat → Nat → Int32) → Prop} {Qx : String → (Nat → Nat → Int32) → Prop} (x3 : Int32) (x4 : Int32)  {V : Nat → Nat → Int32} (H : F_X8_stepsThat_5 J p1 p2  x3 x4 V Qr Qx) : WPc J mX8_stepsThat Qr Qx 5 [(0, .ref 405), (1, .int p1), (2, .int p2), (3, .int x3), (4, .int x4)] [] V 0 0 := by
  obtain ⟨I, ⟨n0, h0⟩, hs⟩ := H
  have step : ∀ (K5 : Int32 → Int32 → (Nat → Nat → Int32) → Prop), (∀ (x3 : Int32) (x4 : Int32)  (V : Nat → Nat → Int32), K5 x3 x4 V → WPc J mX8_stepsThat Qr Qx 5 [(0, .ref 405), (1, .int p1), (2, .int p2), (3, .int x3), (4, .int x4)] [] V 0 0) → ∀ (x3 : Int32) (x4 : Int32)  (V : Nat → Nat → Int32), B_X8_stepsThat_5 J p1 p2  K5 x3 x4 V Qr Qx → WPc J mX8_stepsThat Qr Qx 5 [(0, .ref 405), (1, .int p1), (2, .int p2), (3, .int x3), (4, .int x4)] [] V 0 0 := by
    intro K5 hK5 x3 x4  V H
    unfold B_X8_stepsThat_5 at H
    refine s_iload dX8_stepsThat_5 rfl ?_
    refine s_aload_n dX8_stepsThat_7 rfl ?_
    refine t_getR (r := 412) fl_8_29 dX8_stepsThat_8 ob_405 rfl rfl ?_
    refine s_iload_n dX8_stepsThat_11 rfl ?_
    refine t_iald dX8_stepsThat_12 ap_412 H.1 ?_
    have H := H.2
    refine s_icmp_ge (tgt := 46) dX8_stepsThat_13 (by decide) (fun c => ?_) (fun c => ?_)
    · have H := H.1 c
      refine s_iload_n dX8_stepsThat_46 rfl ?_
      exact s_iret dX8_stepsThat_47 (Or.inl rfl) ⟨rfl, H⟩
    · have H := H.2 c
      refine s_iload_n dX8_stepsThat_16 rfl ?_
      refine s_aload_n dX8_stepsThat_17 rfl ?_
      refine t_getR (r := 413) fl_8_32 dX8_stepsThat_18 ob_405 rfl rfl ?_
      refine s_bipush (v := 14) dX8_stepsThat_21 (by decide) ?_
      refine s_iload_n dX8_stepsThat_23 rfl ?_
      refine s_imul dX8_stepsThat_24 ?_
      refine s_iload dX8_stepsThat_25 rfl ?_
      refine s_iadd dX8_stepsThat_27 ?_
      refine t_iald dX8_stepsThat_28 ap_413 H.1 ?_
      have H := H.2
      refine s_iload_n dX8_stepsThat_29 rfl ?_
      refine s_icmp_ne (tgt := 37) dX8_stepsThat_30 (by decide) (fun c => ?_) (fun c => ?_)
      · have H := H.1 c
        refine s_iconst (v := 0) dX8_stepsThat_37 (by decide) ?_
        exact t_loc [0, 1, 2, 4] rfl (v_X8_stepsThat_38 p1 p2  K5 hK5 x4 0 x3  H)
      · have H := H.2 c
        refine s_iconst (v := 1) dX8_stepsThat_33 (by decide) ?_
        refine s_goto (tgt := 38) dX8_stepsThat_34 (by decide) ?_
        exact t_loc [0, 1, 2, 4] rfl (v_X8_stepsThat_38 p1 p2  K5 hK5 x4 1 x3  H)
  have key : ∀ n, ∀ (x3 : Int32) (x4 : Int32)  (V : Nat → Nat → Int32), I n x3 x4 V → WPc J mX8_stepsThat Qr Qx 5 [(0, .ref 405), (1, .int p1), (2, .int p2), (3, .int x3), (4, .int x4)] [] V 0 0 := by
    refine strong (fun n ih => ?_)
    intro x3 x4  V hI
    exact step _ (fun x3 x4  V hz => Exists.elim hz (fun n1 hz => ih n1 hz.1 x3 x4  V hz.2)) x3 x4  V (hs n x3 x4 V hI)
  exact key n0 x3 x4  V h0
def F_X8_stepsThat (J : Nat → Nat → Int64) (p1 : Int32) (p2 : Int32) (V : Nat → Nat → Int32) (Qr : Option Value → (Nat → Nat → Int32) → Prop) (Qx : String → (Nat → Nat → Int32) → Prop) : Prop :=
F_X8_stepsThat_5 J p1 p2  0 0 V Qr Qx
theorem v_X8_stepsThat {J : Nat → Nat → Int64} (p1 : Int32) (p2 : Int32) {V : Nat → Nat → Int32} {Qr : Option Value → (Nat → Nat → Int32) → Prop} {Qx : String → (Nat → Nat → Int32) → Prop} (H : F_X8_stepsThat J p1 p2 V Qr Qx) : CTc J mX8_stepsThat [.ref 405, .int p1, .int p2] V Qr Qx := by
  refine ctc_of (M := (T0 J, V)) pX8_stepsThat (fun _ _ => rfl) (Nat.le_of_ble_eq_true rfl) ?_
  unfold F_X8_stepsThat at H
  show WPc J mX8_stepsThat Qr Qx 0 [(0, .ref 405), (1, .int p1), (2, .int p2)] [] V 0 0
  refine s_iconst (v := 0) dX8_stepsThat_0 (by decide) ?_
  refine t_istore_n (L' := [(3, .int 0), (0, .ref 405), (1, .int p1), (2, .int p2)]) dX8_stepsThat_1 (by decide) rfl ?_
  refine s_iconst (v := 0) dX8_stepsThat_2 (by decide) ?_
  refine t_istore (L' := [(4, .int 0), (3, .int 0), (0, .ref 405), (1, .int p1), (2, .int p2)]) dX8_stepsThat_3 (by decide) rfl ?_
  exact t_loc [2, 3, 4, 1, 0] rfl (v_X8_stepsThat_5 p1 p2    0 0  H)

def F_X8_raiderIsOut (J : Nat → Nat → Int64) (p1 : Int32) (p2 : Int32) (p3 : Int32) (V : Nat → Nat → Int32) (Qr : Option Value → (Nat → Nat → Int32) → Prop) (Qx : String → (Nat → Nat → Int32) → Prop) : Prop :=
CTc J mX8_goesOut [.ref 405, .int p1, .int p2] V (fun r V1 =>
  r = none ∧
  vp_in (105 - p1) 110 ∧
  vp_in (105 - p1) 110 ∧
  CTc J mX8_comesBack [.ref 405, .int (1 - p1)] (up2 V1 416 (105 - p1).toNatClampNeg ((V1 416 (105 - p1).toNatClampNeg) + p3)) (fun r V2 =>
    r = none ∧
    Qr none V2) Qx) Qx
theorem v_X8_raiderIsOut {J : Nat → Nat → Int64} (p1 : Int32) (p2 : Int32) (p3 : Int32) {V : Nat → Nat → Int32} {Qr : Option Value → (Nat → Nat → Int32) → Prop} {Qx : String → (Nat → Nat → Int32) → Prop} (H : F_X8_raiderIsOut J p1 p2 p3 V Qr Qx) : CTc J mX8_raiderIsOut [.ref 405, .int p1, .int p2, .int p3] V Qr Qx := by
  refine ctc_of (M := (T0 J, V)) pX8_raiderIsOut (fun _ _ => rfl) (Nat.le_of_ble_eq_true rfl) ?_
  unfold F_X8_raiderIsOut at H
  show WPc J mX8_raiderIsOut Qr Qx 0 [(0, .ref 405), (1, .int p1), (2, .int p2), (3, .int p3)] [] V 0 0
  refine s_aload_n dX8_raiderIsOut_0 rfl ?_
  refine s_iload_n dX8_raiderIsOut_1 rfl ?_
  refine s_iload_n dX8_raiderIsOut_2 rfl ?_
  refine t_cV (h := 405) (As := [.int p1, .int p2]) (st := []) iv_8_96 dX8_raiderIsOut_3 ⟨by decide, by decide⟩ rfl (Nat.le_of_ble_eq_true rfl) (by decide) (by decide) rfl ob_405 H (fun r V1 H => ?_)
  obtain ⟨rfl, H⟩ := H
  refine s_aload_n dX8_raiderIsOut_6 rfl ?_
  refine t_getR (r := 416) fl_8_41 dX8_raiderIsOut_7 ob_405 rfl rfl ?_
  refine s_bipush (v := 105) dX8_raiderIsOut_10 (by decide) ?_
  refine s_iload_n dX8_raiderIsOut_12 rfl ?_
  refine s_isub dX8_raiderIsOut_13 ?_
  refine s_dup2 dX8_raiderIsOut_14 rfl rfl ?_
  refine t_iald dX8_raiderIsOut_15 ap_416 H.1 ?_
  have H := H.2
  refine s_iload_n dX8_raiderIsOut_16 rfl ?_
  refine s_iadd dX8_raiderIsOut_17 ?_
  refine t_iast dX8_raiderIsOut_18 ap_416 H.1 ?_
  have H := H.2
  refine s_aload_n dX8_raiderIsOut_19 rfl ?_
  refine s_iconst (v := 1) dX8_raiderIsOut_20 (by decide) ?_
  refine s_iload_n dX8_raiderIsOut_21 rfl ?_
  refine s_isub dX8_raiderIsOut_22 ?_
  refine t_cV (h := 405) (As := [.int (1 - p1)]) (st := []) iv_8_92 dX8_raiderIsOut_23 ⟨by decide, by decide⟩ rfl (Nat.le_of_ble_eq_true rfl) (by decide) (by decide) rfl ob_405 H (fun r V2 H => ?_)
  obtain ⟨rfl, H⟩ := H
  exact s_vret dX8_raiderIsOut_26 rfl ⟨rfl, H⟩

def F_X8_comesHome_83 (J : Nat → Nat → Int64) (p1 : Int32) (p2 : Int32) (p3 : Int32) (x7 : Int32) (V : Nat → Nat → Int32) (Qr : Option Value → (Nat → Nat → Int32) → Prop) (Qx : String → (Nat → Nat → Int32) → Prop) : Prop :=
vp_in (106 + p2) 110 ∧
CTc J mX8_raiderIsOut [.ref 405, .int p2, .int x7, .int 1] (up2 V 416 (106 + p2).toNatClampNeg 0) (fun r V1 =>
  r = none ∧
  Qr none V1) Qx
theorem v_X8_comesHome_83 {J : Nat → Nat → Int64} (p1 : Int32) (p2 : Int32) (p3 : Int32) {Qr : Option Value → (Nat → Nat → Int32) → Prop} {Qx : String → (Nat → Nat → Int32) → Prop} (x7 : Int32)  {V : Nat → Nat → Int32} (H : F_X8_comesHome_83 J p1 p2 p3  x7 V Qr Qx) : WPc J mX8_comesHome Qr Qx 83 [(0, .ref 405), (2, .int p2), (7, .int x7)] [] V 0 0 := by
  unfold F_X8_comesHome_83 at H
  refine s_aload_n dX8_comesHome_83 rfl ?_
  refine t_getR (r := 416) fl_8_41 dX8_comesHome_84 ob_405 rfl rfl ?_
  refine s_bipush (v := 106) dX8_comesHome_87 (by decide) ?_
  refine s_iload_n dX8_comesHome_89 rfl ?_
  refine s_iadd dX8_comesHome_90 ?_
  refine s_iconst (v := 0) dX8_comesHome_91 (by decide) ?_
  refine t_iast dX8_comesHome_92 ap_416 H.1 ?_
  have H := H.2
  refine s_aload_n dX8_comesHome_93 rfl ?_
  refine s_iload_n dX8_comesHome_94 rfl ?_
  refine s_iload dX8_comesHome_95 rfl ?_
  refine s_iconst (v := 1) dX8_comesHome_97 (by decide) ?_
  refine t_cV (h := 405) (As := [.int p2, .int x7, .int 1]) (st := []) iv_8_104 dX8_comesHome_98 ⟨by decide, by decide⟩ rfl (Nat.le_of_ble_eq_true rfl) (by decide) (by decide) rfl ob_405 H (fun r V1 H => ?_)
  obtain ⟨rfl, H⟩ := H
  refine s_goto (tgt := 250) dX8_comesHome_101 (by decide) ?_
  exact s_vret dX8_comesHome_250 rfl ⟨rfl, H⟩
def B_X8_comesHome_232 (J : Nat → Nat → Int64) (p1 : Int32) (p2 : Int32) (p3 : Int32) (K232 : Int32 → Int32 → (Nat → Nat → Int32) → Prop) (x4 : Int32) (x8 : Int32) (V : Nat → Nat → Int32) (Qr : Option Value → (Nat → Nat → Int32) → Prop) (Qx : String → (Nat → Nat → Int32) → Prop) : Prop :=
((x4 ≤ x8) →
  Qr none V) ∧
((¬ x4 ≤ x8) →
  CTc J mX8_comesBack [.ref 405, .int p2] V (fun r V1 =>
    r = none ∧
    K232 x4 (x8 + 1) V1) Qx)
def F_X8_comesHome_232 (J : Nat → Nat → Int64) (p1 : Int32) (p2 : Int32) (p3 : Int32) (x4 : Int32) (x8 : Int32) (V : Nat → Nat → Int32) (Qr : Option Value → (Nat → Nat → Int32) → Prop) (Qx : String → (Nat → Nat → Int32) → Prop) : Prop :=
  ∃ I : Nat → Int32 → Int32 → (Nat → Nat → Int32) → Prop, (∃ n, I n x4 x8 V) ∧ ∀ n (x4 : Int32) (x8 : Int32) (V : Nat → Nat → Int32), I n x4 x8 V → B_X8_comesHome_232 J p1 p2 p3  (fun x4 x8 V => ∃ n', n' < n ∧ I n' x4 x8 V) x4 x8 V Qr Qx
theorem v_X8_comesHome_232 {J : Nat → Nat → Int64} (p1 : Int32) (p2 : Int32) (p3 : Int32) {Qr : Option Value → (Nat → Nat → Int32) → Prop} {Qx : String → (Nat → Nat → Int32) → Prop} (x4 : Int32) (x8 : Int32)  {V : Nat → Nat → Int32} (H : F_X8_comesHome_232 J p1 p2 p3  x4 x8 V Qr Qx) : WPc J mX8_comesHome Qr Qx 232 [(0, .ref 405), (2, .int p2), (4, .int x4), (8, .int x8)] [] V 0 0 := by
  obtain ⟨I, ⟨n0, h0⟩, hs⟩ := H
  have step : ∀ (K232 : Int32 → Int32 → (Nat → Nat → Int32) → Prop), (∀ (x4 : Int32) (x8 : Int32)  (V : Nat → Nat → Int32), K232 x4 x8 V → WPc J mX8_comesHome Qr Qx 232 [(0, .ref 405), (2, .int p2), (4, .int x4), (8, .int x8)] [] V 0 0) → ∀ (x4 : Int32) (x8 : Int32)  (V : Nat → Nat → Int32), B_X8_comesHome_232 J p1 p2 p3  K232 x4 x8 V Qr Qx → WPc J mX8_comesHome Qr Qx 232 [(0, .ref 405), (2, .int p2), (4, .int x4), (8, .int x8)] [] V 0 0 := by
    intro K232 hK232 x4 x8  V H
    unfold B_X8_comesHome_232 at H
    refine s_iload dX8_comesHome_232 rfl ?_
    refine s_iload dX8_comesHome_234 rfl ?_
    refine s_icmp_ge (tgt := 250) dX8_comesHome_236 (by decide) (fun c => ?_) (fun c => ?_)
    · have H := H.1 c
      exact s_vret dX8_comesHome_250 rfl ⟨rfl, H⟩
    · have H := H.2 c
      refine s_aload_n dX8_comesHome_239 rfl ?_
      refine s_iload_n dX8_comesHome_240 rfl ?_
      refine t_cV (h := 405) (As := [.int p2]) (st := []) iv_8_92 dX8_comesHome_241 ⟨by decide, by decide⟩ rfl (Nat.le_of_ble_eq_true rfl) (by decide) (by decide) rfl ob_405 H (fun r V1 H => ?_)
      obtain ⟨rfl, H⟩ := H
      refine t_iinc (v := (x8 + 1)) (L' := [(8, .int (x8 + 1)), (0, .ref 405), (2, .int p2), (4, .int x4)]) dX8_comesHome_244 rfl (by rfl) (by decide) rfl ?_
      refine s_goto (tgt := 232) dX8_comesHome_247 (by decide) ?_
      exact t_loc [1, 2, 3, 0] rfl (hK232 x4 (x8 + 1)  V1 H)
  have key : ∀ n, ∀ (x4 : Int32) (x8 : Int32)  (V : Nat → Nat → Int32), I n x4 x8 V → WPc J mX8_comesHome Qr Qx 232 [(0, .ref 405), (2, .int p2), (4, .int x4), (8, .int x8)] [] V 0 0 := by
    refine strong (fun n ih => ?_)
    intro x4 x8  V hI
    exact step _ (fun x4 x8  V hz => Exists.elim hz (fun n1 hz => ih n1 hz.1 x4 x8  V hz.2)) x4 x8  V (hs n x4 x8 V hI)
  exact key n0 x4 x8  V h0
def F_X8_comesHome_223 (J : Nat → Nat → Int64) (p1 : Int32) (p2 : Int32) (p3 : Int32) (K178 : Int32 → Int32 → (Nat → Nat → Int32) → Prop) (x4 : Int32) (x8 : Int32) (V : Nat → Nat → Int32) (Qr : Option Value → (Nat → Nat → Int32) → Prop) (Qx : String → (Nat → Nat → Int32) → Prop) : Prop :=
K178 x4 (x8 + 1) V
theorem v_X8_comesHome_223 {J : Nat → Nat → Int64} (p1 : Int32) (p2 : Int32) (p3 : Int32) {Qr : Option Value → (Nat → Nat → Int32) → Prop} {Qx : String → (Nat → Nat → Int32) → Prop} (K178 : Int32 → Int32 → (Nat → Nat → Int32) → Prop) (hK178 : ∀ (x4 : Int32) (x8 : Int32)  (V : Nat → Nat → Int32), K178 x4 x8 V → WPc J mX8_comesHome Qr Qx 178 [(0, .ref 405), (1, .int p1), (2, .int p2), (4, .int x4), (8, .int x8)] [] V 0 0) (x4 : Int32) (x8 : Int32)  {V : Nat → Nat → Int32} (H : F_X8_comesHome_223 J p1 p2 p3 K178 x4 x8 V Qr Qx) : WPc J mX8_comesHome Qr Qx 223 [(0, .ref 405), (1, .int p1), (2, .int p2), (4, .int x4), (8, .int x8)] [] V 0 0 := by
  unfold F_X8_comesHome_223 at H
  refine t_iinc (v := (x8 + 1)) (L' := [(8, .int (x8 + 1)), (0, .ref 405), (1, .int p1), (2, .int p2), (4, .int x4)]) dX8_comesHome_223 rfl (by rfl) (by decide) rfl ?_
  refine s_goto (tgt := 178) dX8_comesHome_226 (by decide) ?_
  exact t_loc [1, 2, 3, 4, 0] rfl (hK178 x4 (x8 + 1)  V H)
def B_X8_comesHome_178 (J : Nat → Nat → Int64) (p1 : Int32) (p2 : Int32) (p3 : Int32) (K178 : Int32 → Int32 → (Nat → Nat → Int32) → Prop) (x4 : Int32) (x8 : Int32) (V : Nat → Nat → Int32) (Qr : Option Value → (Nat → Nat → Int32) → Prop) (Qx : String → (Nat → Nat → Int32) → Prop) : Prop :=
vp_in p1 60 ∧
(((V 412 p1.toNatClampNeg) ≤ x8) →
  F_X8_comesHome_232 J p1 p2 p3  x4 0 V Qr Qx) ∧
((¬ (V 412 p1.toNatClampNeg) ≤ x8) →
  vp_in ((14 * p1) + x8) 840 ∧
  ((¬ (V 413 ((14 * p1) + x8).toNatClampNeg) = 0) →
    F_X8_comesHome_223 J p1 p2 p3 K178 x4 x8 V Qr Qx) ∧
  (((V 413 ((14 * p1) + x8).toNatClampNeg) = 0) →
    vp_in ((14 * p1) + x8) 840 ∧
    CTc J mX8_goesOut [.ref 405, .int (1 - p2), .int (V 414 ((14 * p1) + x8).toNatClampNeg)] V (fun r V1 =>
      r = none ∧
      F_X8_comesHome_223 J p1 p2 p3 K178 x4 x8 V1 Qr Qx) Qx))
def F_X8_comesHome_178 (J : Nat → Nat → Int64) (p1 : Int32) (p2 : Int32) (p3 : Int32) (x4 : Int32) (x8 : Int32) (V : Nat → Nat → Int32) (Qr : Option Value → (Nat → Nat → Int32) → Prop) (Qx : String → (Nat → Nat → Int32) → Prop) : Prop :=
  ∃ I : Nat → Int32 → Int32 → (Nat → Nat → Int32) → Prop, (∃ n, I n x4 x8 V) ∧ ∀ n (x4 : Int32) (x8 : Int32) (V : Nat → Nat → Int32), I n x4 x8 V → B_X8_comesHome_178 J p1 p2 p3  (fun x4 x8 V => ∃ n', n' < n ∧ I n' x4 x8 V) x4 x8 V Qr Qx
theorem v_X8_comesHome_178 {J : Nat → Nat → Int64} (p1 : Int32) (p2 : Int32) (p3 : Int32) {Qr : Option Value → (Nat → Nat → Int32) → Prop} {Qx : String → (Nat → Nat → Int32) → Prop} (x4 : Int32) (x8 : Int32)  {V : Nat → Nat → Int32} (H : F_X8_comesHome_178 J p1 p2 p3  x4 x8 V Qr Qx) : WPc J mX8_comesHome Qr Qx 178 [(0, .ref 405), (1, .int p1), (2, .int p2), (4, .int x4), (8, .int x8)] [] V 0 0 := by
  obtain ⟨I, ⟨n0, h0⟩, hs⟩ := H
  have step : ∀ (K178 : Int32 → Int32 → (Nat → Nat → Int32) → Prop), (∀ (x4 : Int32) (x8 : Int32)  (V : Nat → Nat → Int32), K178 x4 x8 V → WPc J mX8_comesHome Qr Qx 178 [(0, .ref 405), (1, .int p1), (2, .int p2), (4, .int x4), (8, .int x8)] [] V 0 0) → ∀ (x4 : Int32) (x8 : Int32)  (V : Nat → Nat → Int32), B_X8_comesHome_178 J p1 p2 p3  K178 x4 x8 V Qr Qx → WPc J mX8_comesHome Qr Qx 178 [(0, .ref 405), (1, .int p1), (2, .int p2), (4, .int x4), (8, .int x8)] [] V 0 0 := by
    intro K178 hK178 x4 x8  V H
    unfold B_X8_comesHome_178 at H
    refine s_iload dX8_comesHome_178 rfl ?_
    refine s_aload_n dX8_comesHome_180 rfl ?_
    refine t_getR (r := 412) fl_8_29 dX8_comesHome_181 ob_405 rfl rfl ?_
    refine s_iload_n dX8_comesHome_184 rfl ?_
    refine t_iald dX8_comesHome_185 ap_412 H.1 ?_
    have H := H.2
    refine s_icmp_ge (tgt := 229) dX8_comesHome_186 (by decide) (fun c => ?_) (fun c => ?_)
    · have H := H.1 c
      refine s_iconst (v := 0) dX8_comesHome_229 (by decide) ?_
      refine t_istore (L' := [(8, .int 0), (0, .ref 405), (1, .int p1), (2, .int p2), (4, .int x4)]) dX8_comesHome_230 (by decide) rfl ?_
      exact t_loc [1, 3, 4, 0] rfl (v_X8_comesHome_232 p1 p2 p3    x4 0  H)
    · have H := H.2 c
      refine s_aload_n dX8_comesHome_189 rfl ?_
      refine t_getR (r := 413) fl_8_32 dX8_comesHome_190 ob_405 rfl rfl ?_
      refine s_bipush (v := 14) dX8_comesHome_193 (by decide) ?_
      refine s_iload_n dX8_comesHome_195 rfl ?_
      refine s_imul dX8_comesHome_196 ?_
      refine s_iload dX8_comesHome_197 rfl ?_
      refine s_iadd dX8_comesHome_199 ?_
      refine t_iald dX8_comesHome_200 ap_413 H.1 ?_
      have H := H.2
      refine s_if_ne (tgt := 223) dX8_comesHome_201 (by decide) (fun c => ?_) (fun c => ?_)
      · have H := H.1 c
        exact t_loc [0, 1, 2, 3, 4] rfl (v_X8_comesHome_223 p1 p2 p3  K178 hK178 x4 x8  H)
      · have H := H.2 c
        refine s_aload_n dX8_comesHome_204 rfl ?_
        refine s_iconst (v := 1) dX8_comesHome_205 (by decide) ?_
        refine s_iload_n dX8_comesHome_206 rfl ?_
        refine s_isub dX8_comesHome_207 ?_
        refine s_aload_n dX8_comesHome_208 rfl ?_
        refine t_getR (r := 414) fl_8_35 dX8_comesHome_209 ob_405 rfl rfl ?_
        refine s_bipush (v := 14) dX8_comesHome_212 (by decide) ?_
        refine s_iload_n dX8_comesHome_214 rfl ?_
        refine s_imul dX8_comesHome_215 ?_
        refine s_iload dX8_comesHome_216 rfl ?_
        refine s_iadd dX8_comesHome_218 ?_
        refine t_iald dX8_comesHome_219 ap_414 H.1 ?_
        have H := H.2
        refine t_cV (h := 405) (As := [.int (1 - p2), .int (V 414 ((14 * p1) + x8).toNatClampNeg)]) (st := []) iv_8_96 dX8_comesHome_220 ⟨by decide, by decide⟩ rfl (Nat.le_of_ble_eq_true rfl) (by decide) (by decide) rfl ob_405 H (fun r V1 H => ?_)
        obtain ⟨rfl, H⟩ := H
        exact t_loc [0, 1, 2, 3, 4] rfl (v_X8_comesHome_223 p1 p2 p3  K178 hK178 x4 x8  H)
  have key : ∀ n, ∀ (x4 : Int32) (x8 : Int32)  (V : Nat → Nat → Int32), I n x4 x8 V → WPc J mX8_comesHome Qr Qx 178 [(0, .ref 405), (1, .int p1), (2, .int p2), (4, .int x4), (8, .int x8)] [] V 0 0 := by
    refine strong (fun n ih => ?_)
    intro x4 x8  V hI
    exact step _ (fun x4 x8  V hz => Exists.elim hz (fun n1 hz => ih n1 hz.1 x4 x8  V hz.2)) x4 x8  V (hs n x4 x8 V hI)
  exact key n0 x4 x8  V h0
def F_X8_comesHome_104 (J : Nat → Nat → Int64) (p1 : Int32) (p2 : Int32) (p3 : Int32) (x4 : Int32) (x7 : Int32) (V : Nat → Nat → Int32) (Qr : Option Value → (Nat → Nat → Int32) → Prop) (Qx : String → (Nat → Nat → Int32) → Prop) : Prop :=
((¬ (x4 + p3) = 0) →
  vp_in (106 + p2) 110 ∧
  vp_in (104 + p2) 110 ∧
  vp_in (104 + p2) 110 ∧
  vp_in ((60 + (10 * p2)) + x7) 110 ∧
  vp_in ((60 + (10 * p2)) + x7) 110 ∧
  F_X8_comesHome_178 J p1 p2 p3  x4 0 (up2 (up2 (up2 V 416 (106 + p2).toNatClampNeg 0) 416 (104 + p2).toNatClampNeg (((up2 V 416 (106 + p2).toNatClampNeg 0) 416 (104 + p2).toNatClampNeg) + (x4 + p3))) 416 ((60 + (10 * p2)) + x7).toNatClampNeg (((up2 (up2 V 416 (106 + p2).toNatClampNeg 0) 416 (104 + p2).toNatClampNeg (((up2 V 416 (106 + p2).toNatClampNeg 0) 416 (104 + p2).toNatClampNeg) + (x4 + p3))) 416 ((60 + (10 * p2)) + x7).toNatClampNeg) + (x4 + p3))) Qr Qx) ∧
(((x4 + p3) = 0) →
  vp_in (106 + p2) 110 ∧
  vp_in (106 + p2) 110 ∧
  Qr none (up2 V 416 (106 + p2).toNatClampNeg ((V 416 (106 + p2).toNatClampNeg) + 1)))
theorem v_X8_comesHome_104 {J : Nat → Nat → Int64} (p1 : Int32) (p2 : Int32) (p3 : Int32) {Qr : Option Value → (Nat → Nat → Int32) → Prop} {Qx : String → (Nat → Nat → Int32) → Prop} (x4 : Int32) (x7 : Int32)  {V : Nat → Nat → Int32} (H : F_X8_comesHome_104 J p1 p2 p3  x4 x7 V Qr Qx) : WPc J mX8_comesHome Qr Qx 104 [(0, .ref 405), (1, .int p1), (2, .int p2), (3, .int p3), (4, .int x4), (7, .int x7)] [] V 0 0 := by
  unfold F_X8_comesHome_104 at H
  refine s_iload dX8_comesHome_104 rfl ?_
  refine s_iload_n dX8_comesHome_106 rfl ?_
  refine s_iadd dX8_comesHome_107 ?_
  refine s_if_ne (tgt := 127) dX8_comesHome_108 (by decide) (fun c => ?_) (fun c => ?_)
  · have H := H.1 c
    refine s_aload_n dX8_comesHome_127 rfl ?_
    refine t_getR (r := 416) fl_8_41 dX8_comesHome_128 ob_405 rfl rfl ?_
    refine s_bipush (v := 106) dX8_comesHome_131 (by decide) ?_
    refine s_iload_n dX8_comesHome_133 rfl ?_
    refine s_iadd dX8_comesHome_134 ?_
    refine s_iconst (v := 0) dX8_comesHome_135 (by decide) ?_
    refine t_iast dX8_comesHome_136 ap_416 H.1 ?_
    have H := H.2
    refine s_aload_n dX8_comesHome_137 rfl ?_
    refine t_getR (r := 416) fl_8_41 dX8_comesHome_138 ob_405 rfl rfl ?_
    refine s_bipush (v := 104) dX8_comesHome_141 (by decide) ?_
    refine s_iload_n dX8_comesHome_143 rfl ?_
    refine s_iadd dX8_comesHome_144 ?_
    refine s_dup2 dX8_comesHome_145 rfl rfl ?_
    refine t_iald dX8_comesHome_146 ap_416 H.1 ?_
    have H := H.2
    refine s_iload dX8_comesHome_147 rfl ?_
    refine s_iload_n dX8_comesHome_149 rfl ?_
    refine s_iadd dX8_comesHome_150 ?_
    refine s_iadd dX8_comesHome_151 ?_
    refine t_iast dX8_comesHome_152 ap_416 H.1 ?_
    have H := H.2
    refine s_aload_n dX8_comesHome_153 rfl ?_
    refine t_getR (r := 416) fl_8_41 dX8_comesHome_154 ob_405 rfl rfl ?_
    refine s_bipush (v := 60) dX8_comesHome_157 (by decide) ?_
    refine s_bipush (v := 10) dX8_comesHome_159 (by decide) ?_
    refine s_iload_n dX8_comesHome_161 rfl ?_
    refine s_imul dX8_comesHome_162 ?_
    refine s_iadd dX8_comesHome_163 ?_
    refine s_iload dX8_comesHome_164 rfl ?_
    refine s_iadd dX8_comesHome_166 ?_
    refine s_dup2 dX8_comesHome_167 rfl rfl ?_
    refine t_iald dX8_comesHome_168 ap_416 H.1 ?_
    have H := H.2
    refine s_iload dX8_comesHome_169 rfl ?_
    refine s_iload_n dX8_comesHome_171 rfl ?_
    refine s_iadd dX8_comesHome_172 ?_
    refine s_iadd dX8_comesHome_173 ?_
    refine t_iast dX8_comesHome_174 ap_416 H.1 ?_
    have H := H.2
    refine s_iconst (v := 0) dX8_comesHome_175 (by decide) ?_
    refine t_istore (L' := [(8, .int 0), (0, .ref 405), (1, .int p1), (2, .int p2), (3, .int p3), (4, .int x4), (7, .int x7)]) dX8_comesHome_176 (by decide) rfl ?_
    exact t_loc [1, 2, 3, 5, 0] rfl (v_X8_comesHome_178 p1 p2 p3    x4 0  H)
  · have H := H.2 c
    refine s_aload_n dX8_comesHome_111 rfl ?_
    refine t_getR (r := 416) fl_8_41 dX8_comesHome_112 ob_405 rfl rfl ?_
    refine s_bipush (v := 106) dX8_comesHome_115 (by decide) ?_
    refine s_iload_n dX8_comesHome_117 rfl ?_
    refine s_iadd dX8_comesHome_118 ?_
    refine s_dup2 dX8_comesHome_119 rfl rfl ?_
    refine t_iald dX8_comesHome_120 ap_416 H.1 ?_
    have H := H.2
    refine s_iconst (v := 1) dX8_comesHome_121 (by decide) ?_
    refine s_iadd dX8_comesHome_122 ?_
    refine t_iast dX8_comesHome_123 ap_416 H.1 ?_
    have H := H.2
    refine s_goto (tgt := 250) dX8_comesHome_124 (by decide) ?_
    exact s_vret dX8_comesHome_250 rfl ⟨rfl, H⟩
def F_X8_comesHome_56 (J : Nat → Nat → Int64) (p1 : Int32) (p2 : Int32) (p3 : Int32) (x4 : Int32) (x5 : Int32) (s0 : Int32) (V : Nat → Nat → Int32) (Qr : Option Value → (Nat → Nat → Int32) → Prop) (Qx : String → (Nat → Nat → Int32) → Prop) : Prop :=
vp_in p1 60 ∧
((¬ s0 = 0) →
  F_X8_comesHome_83 J p1 p2 p3  (V 409 p1.toNatClampNeg) V Qr Qx) ∧
((s0 = 0) →
  ((¬ (x4 + p3) = 0) →
    F_X8_comesHome_104 J p1 p2 p3  x4 (V 409 p1.toNatClampNeg) V Qr Qx) ∧
  (((x4 + p3) = 0) →
    ((x5 = 0) →
      F_X8_comesHome_104 J p1 p2 p3  x4 (V 409 p1.toNatClampNeg) V Qr Qx) ∧
    ((¬ x5 = 0) →
      F_X8_comesHome_83 J p1 p2 p3  (V 409 p1.toNatClampNeg) V Qr Qx)))
theorem v_X8_comesHome_56 {J : Nat → Nat → Int64} (p1 : Int32) (p2 : Int32) (p3 : Int32) {Qr : Option Value → (Nat → Nat → Int32) → Prop} {Qx : String → (Nat → Nat → Int32) → Prop} (x4 : Int32) (x5 : Int32) (s0 : Int32)  {V : Nat → Nat → Int32} (H : F_X8_comesHome_56 J p1 p2 p3  x4 x5 s0 V Qr Qx) : WPc J mX8_comesHome Qr Qx 56 [(0, .ref 405), (1, .int p1), (2, .int p2), (3, .int p3), (4, .int x4), (5, .int x5)] [.int s0] V 0 0 := by
  unfold F_X8_comesHome_56 at H
  refine t_istore (L' := [(6, .int s0), (0, .ref 405), (1, .int p1), (2, .int p2), (3, .int p3), (4, .int x4), (5, .int x5)]) dX8_comesHome_56 (by decide) rfl ?_
  refine s_aload_n dX8_comesHome_58 rfl ?_
  refine t_getR (r := 409) fl_8_20 dX8_comesHome_59 ob_405 rfl rfl ?_
  refine s_iload_n dX8_comesHome_62 rfl ?_
  refine t_iald dX8_comesHome_63 ap_409 H.1 ?_
  have H := H.2
  refine t_istore (L' := [(7, .int (V 409 p1.toNatClampNeg)), (6, .int s0), (0, .ref 405), (1, .int p1), (2, .int p2), (3, .int p3), (4, .int x4), (5, .int x5)]) dX8_comesHome_64 (by decide) rfl ?_
  refine s_iload dX8_comesHome_66 rfl ?_
  refine s_if_ne (tgt := 83) dX8_comesHome_68 (by decide) (fun c => ?_) (fun c => ?_)
  · have H := H.1 c
    exact t_loc [2, 4, 0] rfl (v_X8_comesHome_83 p1 p2 p3    (V 409 p1.toNatClampNeg)  H)
  · have H := H.2 c
    refine s_iload dX8_comesHome_71 rfl ?_
    refine s_iload_n dX8_comesHome_73 rfl ?_
    refine s_iadd dX8_comesHome_74 ?_
    refine s_if_ne (tgt := 104) dX8_comesHome_75 (by decide) (fun c => ?_) (fun c => ?_)
    · have H := H.1 c
      exact t_loc [2, 3, 4, 5, 6, 0] rfl (v_X8_comesHome_104 p1 p2 p3    x4 (V 409 p1.toNatClampNeg)  H)
    · have H := H.2 c
      refine s_iload dX8_comesHome_78 rfl ?_
      refine s_if_eq (tgt := 104) dX8_comesHome_80 (by decide) (fun c => ?_) (fun c => ?_)
      · have H := H.1 c
        exact t_loc [2, 3, 4, 5, 6, 0] rfl (v_X8_comesHome_104 p1 p2 p3    x4 (V 409 p1.toNatClampNeg)  H)
      · have H := H.2 c
        exact t_loc [2, 4, 0] rfl (v_X8_comesHome_83 p1 p2 p3    (V 409 p1.toNatClampNeg)  H)
def F_X8_comesHome_55 (J : Nat → Nat → Int64) (p1 : Int32) (p2 : Int32) (p3 : Int32) (x4 : Int32) (x5 : Int32) (V : Nat → Nat → Int32) (Qr : Option Value → (Nat → Nat → Int32) → Prop) (Qx : String → (Nat → Nat → Int32) → Prop) : Prop :=
F_X8_comesHome_56 J p1 p2 p3  x4 x5 0 V Qr Qx
theorem v_X8_comesHome_55 {J : Nat → Nat → Int64} (p1 : Int32) (p2 : Int32) (p3 : Int32) {Qr : Option Value → (Nat → Nat → Int32) → Prop} {Qx : String → (Nat → Nat → Int32) → Prop} (x4 : Int32) (x5 : Int32)  {V : Nat → Nat → Int32} (H : F_X8_comesHome_55 J p1 p2 p3  x4 x5 V Qr Qx) : WPc J mX8_comesHome Qr Qx 55 [(0, .ref 405), (1, .int p1), (2, .int p2), (3, .int p3), (4, .int x4), (5, .int x5)] [] V 0 0 := by
  unfold F_X8_comesHome_55 at H
  refine s_iconst (v := 0) dX8_comesHome_55 (by decide) ?_
  exact t_loc [0, 1, 2, 3, 4, 5] rfl (v_X8_comesHome_56 p1 p2 p3    x4 x5 0  H)
def F_X8_comesHome_26 (J : Nat → Nat → Int64) (p1 : Int32) (p2 : Int32) (p3 : Int32) (x4 : Int32) (s0 : Int32) (V : Nat → Nat → Int32) (Qr : Option Value → (Nat → Nat → Int32) → Prop) (Qx : String → (Nat → Nat → Int32) → Prop) : Prop :=
((¬ x4 = 0) →
  F_X8_comesHome_55 J p1 p2 p3  x4 s0 V Qr Qx) ∧
((x4 = 0) →
  CTc J mX8_stepsThat [.ref 405, .int p1, .int 1] V (fun r V1 =>
    ∃ r1 : Int32, r = some (.int r1) ∧
    ((¬ r1 = 0) →
      F_X8_comesHome_55 J p1 p2 p3  x4 s0 V1 Qr Qx) ∧
    ((r1 = 0) →
      CTc J mX8_stepsThat [.ref 405, .int p1, .int 2] V1 (fun r V2 =>
        ∃ r2 : Int32, r = some (.int r2) ∧
        ((¬ r2 = 0) →
          F_X8_comesHome_55 J p1 p2 p3  x4 s0 V2 Qr Qx) ∧
        ((r2 = 0) →
          F_X8_comesHome_56 J p1 p2 p3  x4 s0 1 V2 Qr Qx)) Qx)) Qx)
theorem v_X8_comesHome_26 {J : Nat → Nat → Int64} (p1 : Int32) (p2 : Int32) (p3 : Int32) {Qr : Option Value → (Nat → Nat → Int32) → Prop} {Qx : String → (Nat → Nat → Int32) → Prop} (x4 : Int32) (s0 : Int32)  {V : Nat → Nat → Int32} (H : F_X8_comesHome_26 J p1 p2 p3  x4 s0 V Qr Qx) : WPc J mX8_comesHome Qr Qx 26 [(0, .ref 405), (1, .int p1), (2, .int p2), (3, .int p3), (4, .int x4)] [.int s0] V 0 0 := by
  unfold F_X8_comesHome_26 at H
  refine t_istore (L' := [(5, .int s0), (0, .ref 405), (1, .int p1), (2, .int p2), (3, .int p3), (4, .int x4)]) dX8_comesHome_26 (by decide) rfl ?_
  refine s_iload dX8_comesHome_28 rfl ?_
  refine s_if_ne (tgt := 55) dX8_comesHome_30 (by decide) (fun c => ?_) (fun c => ?_)
  · have H := H.1 c
    exact t_loc [1, 2, 3, 4, 5, 0] rfl (v_X8_comesHome_55 p1 p2 p3    x4 s0  H)
  · have H := H.2 c
    refine s_aload_n dX8_comesHome_33 rfl ?_
    refine s_iload_n dX8_comesHome_34 rfl ?_
    refine s_iconst (v := 1) dX8_comesHome_35 (by decide) ?_
    refine t_cV (h := 405) (As := [.int p1, .int 1]) (st := []) iv_8_100 dX8_comesHome_36 ⟨by decide, by decide⟩ rfl (Nat.le_of_ble_eq_true rfl) (by decide) (by decide) rfl ob_405 H (fun r V1 H => ?_)
    obtain ⟨r1, rfl, H⟩ := H
    refine s_if_ne (tgt := 55) dX8_comesHome_39 (by decide) (fun c => ?_) (fun c => ?_)
    · have H := H.1 c
      exact t_loc [1, 2, 3, 4, 5, 0] rfl (v_X8_comesHome_55 p1 p2 p3    x4 s0  H)
    · have H := H.2 c
      refine s_aload_n dX8_comesHome_42 rfl ?_
      refine s_iload_n dX8_comesHome_43 rfl ?_
      refine s_iconst (v := 2) dX8_comesHome_44 (by decide) ?_
      refine t_cV (h := 405) (As := [.int p1, .int 2]) (st := []) iv_8_100 dX8_comesHome_45 ⟨by decide, by decide⟩ rfl (Nat.le_of_ble_eq_true rfl) (by decide) (by decide) rfl ob_405 H (fun r V2 H => ?_)
      obtain ⟨r2, rfl, H⟩ := H
      refine s_if_ne (tgt := 55) dX8_comesHome_48 (by decide) (fun c => ?_) (fun c => ?_)
      · have H := H.1 c
        exact t_loc [1, 2, 3, 4, 5, 0] rfl (v_X8_comesHome_55 p1 p2 p3    x4 s0  H)
      · have H := H.2 c
        refine s_iconst (v := 1) dX8_comesHome_51 (by decide) ?_
        refine s_goto (tgt := 56) dX8_comesHome_52 (by decide) ?_
        exact t_loc [1, 2, 3, 4, 5, 0] rfl (v_X8_comesHome_56 p1 p2 p3    x4 s0 1  H)
def F_X8_comesHome (J : Nat → Nat → Int64) (p1 : Int32) (p2 : Int32) (p3 : Int32) (V : Nat → Nat → Int32) (Qr : Option Value → (Nat → Nat → Int32) → Prop) (Qx : String → (Nat → Nat → Int32) → Prop) : Prop :=
CTc J mX8_stepsThat [.ref 405, .int p1, .int 0] V (fun r V1 =>
  ∃ r1 : Int32, r = some (.int r1) ∧
  vp_in (106 + p2) 110 ∧
  ((¬ (V1 416 (106 + p2).toNatClampNeg) = 2) →
    F_X8_comesHome_26 J p1 p2 p3  r1 0 V1 Qr Qx) ∧
  (((V1 416 (106 + p2).toNatClampNeg) = 2) →
    F_X8_comesHome_26 J p1 p2 p3  r1 1 V1 Qr Qx)) Qx
theorem v_X8_comesHome {J : Nat → Nat → Int64} (p1 : Int32) (p2 : Int32) (p3 : Int32) {V : Nat → Nat → Int32} {Qr : Option Value → (Nat → Nat → Int32) → Prop} {Qx : String → (Nat → Nat → Int32) → Prop} (H : F_X8_comesHome J p1 p2 p3 V Qr Qx) : CTc J mX8_comesHome [.ref 405, .int p1, .int p2, .int p3] V Qr Qx := by
  refine ctc_of (M := (T0 J, V)) pX8_comesHome (fun _ _ => rfl) (Nat.le_of_ble_eq_true rfl) ?_
  unfold F_X8_comesHome at H
  show WPc J mX8_comesHome Qr Qx 0 [(0, .ref 405), (1, .int p1), (2, .int p2), (3, .int p3)] [] V 0 0
  refine s_aload_n dX8_comesHome_0 rfl ?_
  refine s_iload_n dX8_comesHome_1 rfl ?_
  refine s_iconst (v := 0) dX8_comesHome_2 (by decide) ?_
  refine t_cV (h := 405) (As := [.int p1, .int 0]) (st := []) iv_8_100 dX8_comesHome_3 ⟨by decide, by decide⟩ rfl (Nat.le_of_ble_eq_true rfl) (by decide) (by decide) rfl ob_405 H (fun r V1 H => ?_)
  obtain ⟨r1, rfl, H⟩ := H
  refine t_istore (L' := [(4, .int r1), (0, .ref 405), (1, .int p1), (2, .int p2), (3, .int p3)]) dX8_comesHome_6 (by decide) rfl ?_
  refine s_aload_n dX8_comesHome_8 rfl ?_
  refine t_getR (r := 416) fl_8_41 dX8_comesHome_9 ob_405 rfl rfl ?_
  refine s_bipush (v := 106) dX8_comesHome_12 (by decide) ?_
  refine s_iload_n dX8_comesHome_14 rfl ?_
  refine s_iadd dX8_comesHome_15 ?_
  refine t_iald dX8_comesHome_16 ap_416 H.1 ?_
  have H := H.2
  refine s_iconst (v := 2) dX8_comesHome_17 (by decide) ?_
  refine s_icmp_ne (tgt := 25) dX8_comesHome_18 (by decide) (fun c => ?_) (fun c => ?_)
  · have H := H.1 c
    refine s_iconst (v := 0) dX8_comesHome_25 (by decide) ?_
    exact t_loc [1, 2, 3, 4, 0] rfl (v_X8_comesHome_26 p1 p2 p3    r1 0  H)
  · have H := H.2 c
    refine s_iconst (v := 1) dX8_comesHome_21 (by decide) ?_
    refine s_goto (tgt := 26) dX8_comesHome_22 (by decide) ?_
    exact t_loc [1, 2, 3, 4, 0] rfl (v_X8_comesHome_26 p1 p2 p3    r1 1  H)

def F_X8_endsRaid_250 (J : Nat → Nat → Int64) (p1 : Int32) (K195 : Int32 → (Nat → Nat → Int32) → Prop) (x6 : Int32) (s0 : Int32) (s1 : Int32) (V : Nat → Nat → Int32) (Qr : Option Value → (Nat → Nat → Int32) → Prop) (Qx : String → (Nat → Nat → Int32) → Prop) : Prop :=
vp_in s1 110 ∧
K195 (x6 + 1) (up2 V 416 s1.toNatClampNeg s0)
theorem v_X8_endsRaid_250 {J : Nat → Nat → Int64} (p1 : Int32) {Qr : Option Value → (Nat → Nat → Int32) → Prop} {Qx : String → (Nat → Nat → Int32) → Prop} (K195 : Int32 → (Nat → Nat → Int32) → Prop) (hK195 : ∀ (x6 : Int32)  (V : Nat → Nat → Int32), K195 x6 V → WPc J mX8_endsRaid Qr Qx 195 [(0, .ref 405), (6, .int x6)] [] V 0 0) (x6 : Int32) (s0 : Int32) (s1 : Int32)  {V : Nat → Nat → Int32} (H : F_X8_endsRaid_250 J p1 K195 x6 s0 s1 V Qr Qx) : WPc J mX8_endsRaid Qr Qx 250 [(0, .ref 405), (6, .int x6)] [.int s0, .int s1, .ref 416] V 0 0 := by
  unfold F_X8_endsRaid_250 at H
  refine t_iast dX8_endsRaid_250 ap_416 H.1 ?_
  have H := H.2
  refine t_iinc (v := (x6 + 1)) (L' := [(6, .int (x6 + 1)), (0, .ref 405)]) dX8_endsRaid_251 rfl (by rfl) (by decide) rfl ?_
  refine s_goto (tgt := 195) dX8_endsRaid_254 (by decide) ?_
  exact t_loc [1, 0] rfl (hK195 (x6 + 1)  (up2 V 416 s1.toNatClampNeg s0) H)
def F_X8_endsRaid_243 (J : Nat → Nat → Int64) (p1 : Int32) (K195 : Int32 → (Nat → Nat → Int32) → Prop) (x6 : Int32) (s0 : Int32) (V : Nat → Nat → Int32) (Qr : Option Value → (Nat → Nat → Int32) → Prop) (Qx : String → (Nat → Nat → Int32) → Prop) : Prop :=
vp_in x6 110 ∧
F_X8_endsRaid_250 J p1 K195 x6 (V 416 x6.toNatClampNeg) s0 V Qr Qx
theorem v_X8_endsRaid_243 {J : Nat → Nat → Int64} (p1 : Int32) {Qr : Option Value → (Nat → Nat → Int32) → Prop} {Qx : String → (Nat → Nat → Int32) → Prop} (K195 : Int32 → (Nat → Nat → Int32) → Prop) (hK195 : ∀ (x6 : Int32)  (V : Nat → Nat → Int32), K195 x6 V → WPc J mX8_endsRaid Qr Qx 195 [(0, .ref 405), (6, .int x6)] [] V 0 0) (x6 : Int32) (s0 : Int32)  {V : Nat → Nat → Int32} (H : F_X8_endsRaid_243 J p1 K195 x6 s0 V Qr Qx) : WPc J mX8_endsRaid Qr Qx 243 [(0, .ref 405), (6, .int x6)] [.int s0, .ref 416] V 0 0 := by
  unfold F_X8_endsRaid_243 at H
  refine s_aload_n dX8_endsRaid_243 rfl ?_
  refine t_getR (r := 416) fl_8_41 dX8_endsRaid_244 ob_405 rfl rfl ?_
  refine s_iload dX8_endsRaid_247 rfl ?_
  refine t_iald dX8_endsRaid_249 ap_416 H.1 ?_
  have H := H.2
  exact t_loc [0, 1] rfl (v_X8_endsRaid_250 p1  K195 hK195 x6 (V 416 x6.toNatClampNeg) s0  H)
def B_X8_endsRaid_195 (J : Nat → Nat → Int64) (p1 : Int32) (K195 : Int32 → (Nat → Nat → Int32) → Prop) (x6 : Int32) (V : Nat → Nat → Int32) (Qr : Option Value → (Nat → Nat → Int32) → Prop) (Qx : String → (Nat → Nat → Int32) → Prop) : Prop :=
((20 ≤ x6) →
  Qr none V) ∧
((¬ 20 ≤ x6) →
  vp_in x6 110 ∧
  ((¬ (V 416 x6.toNatClampNeg) = 3) →
    F_X8_endsRaid_243 J p1 K195 x6 x6 V Qr Qx) ∧
  (((V 416 x6.toNatClampNeg) = 3) →
    vp_in (20 + x6) 110 ∧
    (((V 416 108) < (V 416 (20 + x6).toNatClampNeg)) →
      F_X8_endsRaid_243 J p1 K195 x6 x6 V Qr Qx) ∧
    ((¬ (V 416 108) < (V 416 (20 + x6).toNatClampNeg)) →
      F_X8_endsRaid_250 J p1 K195 x6 0 x6 V Qr Qx)))
def F_X8_endsRaid_195 (J : Nat → Nat → Int64) (p1 : Int32) (x6 : Int32) (V : Nat → Nat → Int32) (Qr : Option Value → (Nat → Nat → Int32) → Prop) (Qx : String → (Nat → Nat → Int32) → Prop) : Prop :=
  ∃ I : Nat → Int32 → (Nat → Nat → Int32) → Prop, (∃ n, I n x6 V) ∧ ∀ n (x6 : Int32) (V : Nat → Nat → Int32), I n x6 V → B_X8_endsRaid_195 J p1  (fun x6 V => ∃ n', n' < n ∧ I n' x6 V) x6 V Qr Qx
theorem v_X8_endsRaid_195 {J : Nat → Nat → Int64} (p1 : Int32) {Qr : Option Value → (Nat → Nat → Int32) → Prop} {Qx : String → (Nat → Nat → Int32) → Prop} (x6 : Int32)  {V : Nat → Nat → Int32} (H : F_X8_endsRaid_195 J p1  x6 V Qr Qx) : WPc J mX8_endsRaid Qr Qx 195 [(0, .ref 405), (6, .int x6)] [] V 0 0 := by
  obtain ⟨I, ⟨n0, h0⟩, hs⟩ := H
  have step : ∀ (K195 : Int32 → (Nat → Nat → Int32) → Prop), (∀ (x6 : Int32)  (V : Nat → Nat → Int32), K195 x6 V → WPc J mX8_endsRaid Qr Qx 195 [(0, .ref 405), (6, .int x6)] [] V 0 0) → ∀ (x6 : Int32)  (V : Nat → Nat → Int32), B_X8_endsRaid_195 J p1  K195 x6 V Qr Qx → WPc J mX8_endsRaid Qr Qx 195 [(0, .ref 405), (6, .int x6)] [] V 0 0 := by
    intro K195 hK195 x6  V H
    unfold B_X8_endsRaid_195 at H
    refine s_iload dX8_endsRaid_195 rfl ?_
    refine s_bipush (v := 20) dX8_endsRaid_197 (by decide) ?_
    refine s_icmp_ge (tgt := 257) dX8_endsRaid_199 (by decide) (fun c => ?_) (fun c => ?_)
    · have H := H.1 c
      exact s_vret dX8_endsRaid_257 rfl ⟨rfl, H⟩
    · have H := H.2 c
      refine s_aload_n dX8_endsRaid_202 rfl ?_
      refine t_getR (r := 416) fl_8_41 dX8_endsRaid_203 ob_405 rfl rfl ?_
      refine s_iload dX8_endsRaid_206 rfl ?_
      refine s_aload_n dX8_endsRaid_208 rfl ?_
      refine t_getR (r := 416) fl_8_41 dX8_endsRaid_209 ob_405 rfl rfl ?_
      refine s_iload dX8_endsRaid_212 rfl ?_
      refine t_iald dX8_endsRaid_214 ap_416 H.1 ?_
      have H := H.2
      refine s_iconst (v := 3) dX8_endsRaid_215 (by decide) ?_
      refine s_icmp_ne (tgt := 243) dX8_endsRaid_216 (by decide) (fun c => ?_) (fun c => ?_)
      · have H := H.1 c
        exact t_loc [0, 1] rfl (v_X8_endsRaid_243 p1  K195 hK195 x6 x6  H)
      · have H := H.2 c
        refine s_aload_n dX8_endsRaid_219 rfl ?_
        refine t_getR (r := 416) fl_8_41 dX8_endsRaid_220 ob_405 rfl rfl ?_
        refine s_bipush (v := 20) dX8_endsRaid_223 (by decide) ?_
        refine s_iload dX8_endsRaid_225 rfl ?_
        refine s_iadd dX8_endsRaid_227 ?_
        refine t_iald dX8_endsRaid_228 ap_416 H.1 ?_
        have H := H.2
        refine s_aload_n dX8_endsRaid_229 rfl ?_
        refine t_getR (r := 416) fl_8_41 dX8_endsRaid_230 ob_405 rfl rfl ?_
        refine s_bipush (v := 108) dX8_endsRaid_233 (by decide) ?_
        refine t_iald dX8_endsRaid_235 ap_416 (vp_of (by decide)) ?_
        refine s_icmp_gt (tgt := 243) dX8_endsRaid_236 (by decide) (fun c => ?_) (fun c => ?_)
        · have H := H.1 c
          exact t_loc [0, 1] rfl (v_X8_endsRaid_243 p1  K195 hK195 x6 x6  H)
        · have H := H.2 c
          refine s_iconst (v := 0) dX8_endsRaid_239 (by decide) ?_
          refine s_goto (tgt := 250) dX8_endsRaid_240 (by decide) ?_
          exact t_loc [0, 1] rfl (v_X8_endsRaid_250 p1  K195 hK195 x6 0 x6  H)
  have key : ∀ n, ∀ (x6 : Int32)  (V : Nat → Nat → Int32), I n x6 V → WPc J mX8_endsRaid Qr Qx 195 [(0, .ref 405), (6, .int x6)] [] V 0 0 := by
    refine strong (fun n ih => ?_)
    intro x6  V hI
    exact step _ (fun x6  V hz => Exists.elim hz (fun n1 hz => ih n1 hz.1 x6  V hz.2)) x6  V (hs n x6 V hI)
  exact key n0 x6  V h0
def F_X8_endsRaid_154 (J : Nat → Nat → Int64) (p1 : Int32) (x5 : Int32) (V : Nat → Nat → Int32) (Qr : Option Value → (Nat → Nat → Int32) → Prop) (Qx : String → (Nat → Nat → Int32) → Prop) : Prop :=
CTc J mX8_looksAtMat [.ref 405, .int 0] V (fun r V1 =>
  r = none ∧
  CTc J mX8_looksAtMat [.ref 405, .int 1] V1 (fun r V2 =>
    r = none ∧
    vp_in x5 840 ∧
    F_X8_endsRaid_195 J p1  0 (up2 (up2 V2 416 108 ((V2 416 108) + (V2 415 x5.toNatClampNeg))) 416 109 (((up2 V2 416 108 ((V2 416 108) + (V2 415 x5.toNatClampNeg))) 416 109) + 1)) Qr Qx) Qx) Qx
theorem v_X8_endsRaid_154 {J : Nat → Nat → Int64} (p1 : Int32) {Qr : Option Value → (Nat → Nat → Int32) → Prop} {Qx : String → (Nat → Nat → Int32) → Prop} (x5 : Int32)  {V : Nat → Nat → Int32} (H : F_X8_endsRaid_154 J p1  x5 V Qr Qx) : WPc J mX8_endsRaid Qr Qx 154 [(0, .ref 405), (5, .int x5)] [] V 0 0 := by
  unfold F_X8_endsRaid_154 at H
  refine s_aload_n dX8_endsRaid_154 rfl ?_
  refine s_iconst (v := 0) dX8_endsRaid_155 (by decide) ?_
  refine t_cV (h := 405) (As := [.int 0]) (st := []) iv_8_115 dX8_endsRaid_156 ⟨by decide, by decide⟩ rfl (Nat.le_of_ble_eq_true rfl) (by decide) (by decide) rfl ob_405 H (fun r V1 H => ?_)
  obtain ⟨rfl, H⟩ := H
  refine s_aload_n dX8_endsRaid_159 rfl ?_
  refine s_iconst (v := 1) dX8_endsRaid_160 (by decide) ?_
  refine t_cV (h := 405) (As := [.int 1]) (st := []) iv_8_115 dX8_endsRaid_161 ⟨by decide, by decide⟩ rfl (Nat.le_of_ble_eq_true rfl) (by decide) (by decide) rfl ob_405 H (fun r V2 H => ?_)
  obtain ⟨rfl, H⟩ := H
  refine s_aload_n dX8_endsRaid_164 rfl ?_
  refine t_getR (r := 416) fl_8_41 dX8_endsRaid_165 ob_405 rfl rfl ?_
  refine s_bipush (v := 108) dX8_endsRaid_168 (by decide) ?_
  refine s_dup2 dX8_endsRaid_170 rfl rfl ?_
  refine t_iald dX8_endsRaid_171 ap_416 (vp_of (by decide)) ?_
  refine s_aload_n dX8_endsRaid_172 rfl ?_
  refine t_getR (r := 415) fl_8_38 dX8_endsRaid_173 ob_405 rfl rfl ?_
  refine s_iload dX8_endsRaid_176 rfl ?_
  refine t_iald dX8_endsRaid_178 ap_415 H.1 ?_
  have H := H.2
  refine s_iadd dX8_endsRaid_179 ?_
  refine t_iast dX8_endsRaid_180 ap_416 (vp_of (by decide)) ?_
  refine s_aload_n dX8_endsRaid_181 rfl ?_
  refine t_getR (r := 416) fl_8_41 dX8_endsRaid_182 ob_405 rfl rfl ?_
  refine s_bipush (v := 109) dX8_endsRaid_185 (by decide) ?_
  refine s_dup2 dX8_endsRaid_187 rfl rfl ?_
  refine t_iald dX8_endsRaid_188 ap_416 (vp_of (by decide)) ?_
  refine s_iconst (v := 1) dX8_endsRaid_189 (by decide) ?_
  refine s_iadd dX8_endsRaid_190 ?_
  refine t_iast dX8_endsRaid_191 ap_416 (vp_of (by decide)) ?_
  refine s_iconst (v := 0) dX8_endsRaid_192 (by decide) ?_
  refine t_istore (L' := [(6, .int 0), (0, .ref 405), (5, .int x5)]) dX8_endsRaid_193 (by decide) rfl ?_
  exact t_loc [1, 0] rfl (v_X8_endsRaid_195 p1    0  H)
def F_X8_endsRaid_151 (J : Nat → Nat → Int64) (p1 : Int32) (x5 : Int32) (s0 : Int32) (s1 : Int32) (s2 : Int32) (V : Nat → Nat → Int32) (Qr : Option Value → (Nat → Nat → Int32) → Prop) (Qx : String → (Nat → Nat → Int32) → Prop) : Prop :=
CTc J mX8_raiderIsOut [.ref 405, .int s2, .int s1, .int s0] V (fun r V1 =>
  r = none ∧
  F_X8_endsRaid_154 J p1  x5 V1 Qr Qx) Qx
theorem v_X8_endsRaid_151 {J : Nat → Nat → Int64} (p1 : Int32) {Qr : Option Value → (Nat → Nat → Int32) → Prop} {Qx : String → (Nat → Nat → Int32) → Prop} (x5 : Int32) (s0 : Int32) (s1 : Int32) (s2 : Int32)  {V : Nat → Nat → Int32} (H : F_X8_endsRaid_151 J p1  x5 s0 s1 s2 V Qr Qx) : WPc J mX8_endsRaid Qr Qx 151 [(0, .ref 405), (5, .int x5)] [.int s0, .int s1, .int s2, .ref 405] V 0 0 := by
  unfold F_X8_endsRaid_151 at H
  refine t_cV (h := 405) (As := [.int s2, .int s1, .int s0]) (st := []) iv_8_104 dX8_endsRaid_151 ⟨by decide, by decide⟩ rfl (Nat.le_of_ble_eq_true rfl) (by decide) (by decide) rfl ob_405 H (fun r V1 H => ?_)
  obtain ⟨rfl, H⟩ := H
  exact t_loc [0, 1] rfl (v_X8_endsRaid_154 p1    x5  H)
def F_X8_endsRaid_150 (J : Nat → Nat → Int64) (p1 : Int32) (x5 : Int32) (s0 : Int32) (s1 : Int32) (V : Nat → Nat → Int32) (Qr : Option Value → (Nat → Nat → Int32) → Prop) (Qx : String → (Nat → Nat → Int32) → Prop) : Prop :=
F_X8_endsRaid_151 J p1  x5 1 s0 s1 V Qr Qx
theorem v_X8_endsRaid_150 {J : Nat → Nat → Int64} (p1 : Int32) {Qr : Option Value → (Nat → Nat → Int32) → Prop} {Qx : String → (Nat → Nat → Int32) → Prop} (x5 : Int32) (s0 : Int32) (s1 : Int32)  {V : Nat → Nat → Int32} (H : F_X8_endsRaid_150 J p1  x5 s0 s1 V Qr Qx) : WPc J mX8_endsRaid Qr Qx 150 [(0, .ref 405), (5, .int x5)] [.int s0, .int s1, .ref 405] V 0 0 := by
  unfold F_X8_endsRaid_150 at H
  refine s_iconst (v := 1) dX8_endsRaid_150 (by decide) ?_
  exact t_loc [0, 1] rfl (v_X8_endsRaid_151 p1    x5 1 s0 s1  H)
def F_X8_endsRaid_35 (J : Nat → Nat → Int64) (p1 : Int32) (x2 : Int32) (x3 : Int32) (s0 : Int32) (V : Nat → Nat → Int32) (Qr : Option Value → (Nat → Nat → Int32) → Prop) (Qx : String → (Nat → Nat → Int32) → Prop) : Prop :=
vp_in p1 60 ∧
vp_in (((14 * p1) + (V 412 p1.toNatClampNeg)) - 1) 840 ∧
((¬ (V 413 (((14 * p1) + (V 412 p1.toNatClampNeg)) - 1).toNatClampNeg) = 3) →
  vp_in (106 + x2) 110 ∧
  vp_in (104 + x2) 110 ∧
  vp_in (104 + x2) 110 ∧
  vp_in p1 60 ∧
  vp_in ((60 + (10 * x2)) + ((up2 (up2 V 416 (106 + x2).toNatClampNeg 0) 416 (104 + x2).toNatClampNeg (((up2 V 416 (106 + x2).toNatClampNeg 0) 416 (104 + x2).toNatClampNeg) + s0)) 409 p1.toNatClampNeg)) 110 ∧
  vp_in ((60 + (10 * x2)) + ((up2 (up2 V 416 (106 + x2).toNatClampNeg 0) 416 (104 + x2).toNatClampNeg (((up2 V 416 (106 + x2).toNatClampNeg 0) 416 (104 + x2).toNatClampNeg) + s0)) 409 p1.toNatClampNeg)) 110 ∧
  vp_in p1 60 ∧
  vp_in (((14 * p1) + (V 412 p1.toNatClampNeg)) - 1) 840 ∧
  ((¬ ((up2 (up2 (up2 V 416 (106 + x2).toNatClampNeg 0) 416 (104 + x2).toNatClampNeg (((up2 V 416 (106 + x2).toNatClampNeg 0) 416 (104 + x2).toNatClampNeg) + s0)) 416 ((60 + (10 * x2)) + ((up2 (up2 V 416 (106 + x2).toNatClampNeg 0) 416 (104 + x2).toNatClampNeg (((up2 V 416 (106 + x2).toNatClampNeg 0) 416 (104 + x2).toNatClampNeg) + s0)) 409 p1.toNatClampNeg)).toNatClampNeg (((up2 (up2 V 416 (106 + x2).toNatClampNeg 0) 416 (104 + x2).toNatClampNeg (((up2 V 416 (106 + x2).toNatClampNeg 0) 416 (104 + x2).toNatClampNeg) + s0)) 416 ((60 + (10 * x2)) + ((up2 (up2 V 416 (106 + x2).toNatClampNeg 0) 416 (104 + x2).toNatClampNeg (((up2 V 416 (106 + x2).toNatClampNeg 0) 416 (104 + x2).toNatClampNeg) + s0)) 409 p1.toNatClampNeg)).toNatClampNeg) + s0)) 413 (((14 * p1) + (V 412 p1.toNatClampNeg)) - 1).toNatClampNeg) = 4) →
    F_X8_endsRaid_150 J p1  (((14 * p1) + (V 412 p1.toNatClampNeg)) - 1) ((up2 (up2 (up2 V 416 (106 + x2).toNatClampNeg 0) 416 (104 + x2).toNatClampNeg (((up2 V 416 (106 + x2).toNatClampNeg 0) 416 (104 + x2).toNatClampNeg) + s0)) 416 ((60 + (10 * x2)) + ((up2 (up2 V 416 (106 + x2).toNatClampNeg 0) 416 (104 + x2).toNatClampNeg (((up2 V 416 (106 + x2).toNatClampNeg 0) 416 (104 + x2).toNatClampNeg) + s0)) 409 p1.toNatClampNeg)).toNatClampNeg (((up2 (up2 V 416 (106 + x2).toNatClampNeg 0) 416 (104 + x2).toNatClampNeg (((up2 V 416 (106 + x2).toNatClampNeg 0) 416 (104 + x2).toNatClampNeg) + s0)) 416 ((60 + (10 * x2)) + ((up2 (up2 V 416 (106 + x2).toNatClampNeg 0) 416 (104 + x2).toNatClampNeg (((up2 V 416 (106 + x2).toNatClampNeg 0) 416 (104 + x2).toNatClampNeg) + s0)) 409 p1.toNatClampNeg)).toNatClampNeg) + s0)) 409 p1.toNatClampNeg) x2 (up2 (up2 (up2 V 416 (106 + x2).toNatClampNeg 0) 416 (104 + x2).toNatClampNeg (((up2 V 416 (106 + x2).toNatClampNeg 0) 416 (104 + x2).toNatClampNeg) + s0)) 416 ((60 + (10 * x2)) + ((up2 (up2 V 416 (106 + x2).toNatClampNeg 0) 416 (104 + x2).toNatClampNeg (((up2 V 416 (106 + x2).toNatClampNeg 0) 416 (104 + x2).toNatClampNeg) + s0)) 409 p1.toNatClampNeg)).toNatClampNeg (((up2 (up2 V 416 (106 + x2).toNatClampNeg 0) 416 (104 + x2).toNatClampNeg (((up2 V 416 (106 + x2).toNatClampNeg 0) 416 (104 + x2).toNatClampNeg) + s0)) 416 ((60 + (10 * x2)) + ((up2 (up2 V 416 (106 + x2).toNatClampNeg 0) 416 (104 + x2).toNatClampNeg (((up2 V 416 (106 + x2).toNatClampNeg 0) 416 (104 + x2).toNatClampNeg) + s0)) 409 p1.toNatClampNeg)).toNatClampNeg) + s0)) Qr Qx) ∧
  ((((up2 (up2 (up2 V 416 (106 + x2).toNatClampNeg 0) 416 (104 + x2).toNatClampNeg (((up2 V 416 (106 + x2).toNatClampNeg 0) 416 (104 + x2).toNatClampNeg) + s0)) 416 ((60 + (10 * x2)) + ((up2 (up2 V 416 (106 + x2).toNatClampNeg 0) 416 (104 + x2).toNatClampNeg (((up2 V 416 (106 + x2).toNatClampNeg 0) 416 (104 + x2).toNatClampNeg) + s0)) 409 p1.toNatClampNeg)).toNatClampNeg (((up2 (up2 V 416 (106 + x2).toNatClampNeg 0) 416 (104 + x2).toNatClampNeg (((up2 V 416 (106 + x2).toNatClampNeg 0) 416 (104 + x2).toNatClampNeg) + s0)) 416 ((60 + (10 * x2)) + ((up2 (up2 V 416 (106 + x2).toNatClampNeg 0) 416 (104 + x2).toNatClampNeg (((up2 V 416 (106 + x2).toNatClampNeg 0) 416 (104 + x2).toNatClampNeg) + s0)) 409 p1.toNatClampNeg)).toNatClampNeg) + s0)) 413 (((14 * p1) + (V 412 p1.toNatClampNeg)) - 1).toNatClampNeg) = 4) →
    ((3 < x3) →
      F_X8_endsRaid_150 J p1  (((14 * p1) + (V 412 p1.toNatClampNeg)) - 1) ((up2 (up2 (up2 V 416 (106 + x2).toNatClampNeg 0) 416 (104 + x2).toNatClampNeg (((up2 V 416 (106 + x2).toNatClampNeg 0) 416 (104 + x2).toNatClampNeg) + s0)) 416 ((60 + (10 * x2)) + ((up2 (up2 V 416 (106 + x2).toNatClampNeg 0) 416 (104 + x2).toNatClampNeg (((up2 V 416 (106 + x2).toNatClampNeg 0) 416 (104 + x2).toNatClampNeg) + s0)) 409 p1.toNatClampNeg)).toNatClampNeg (((up2 (up2 V 416 (106 + x2).toNatClampNeg 0) 416 (104 + x2).toNatClampNeg (((up2 V 416 (106 + x2).toNatClampNeg 0) 416 (104 + x2).toNatClampNeg) + s0)) 416 ((60 + (10 * x2)) + ((up2 (up2 V 416 (106 + x2).toNatClampNeg 0) 416 (104 + x2).toNatClampNeg (((up2 V 416 (106 + x2).toNatClampNeg 0) 416 (104 + x2).toNatClampNeg) + s0)) 409 p1.toNatClampNeg)).toNatClampNeg) + s0)) 409 p1.toNatClampNeg) x2 (up2 (up2 (up2 V 416 (106 + x2).toNatClampNeg 0) 416 (104 + x2).toNatClampNeg (((up2 V 416 (106 + x2).toNatClampNeg 0) 416 (104 + x2).toNatClampNeg) + s0)) 416 ((60 + (10 * x2)) + ((up2 (up2 V 416 (106 + x2).toNatClampNeg 0) 416 (104 + x2).toNatClampNeg (((up2 V 416 (106 + x2).toNatClampNeg 0) 416 (104 + x2).toNatClampNeg) + s0)) 409 p1.toNatClampNeg)).toNatClampNeg (((up2 (up2 V 416 (106 + x2).toNatClampNeg 0) 416 (104 + x2).toNatClampNeg (((up2 V 416 (106 + x2).toNatClampNeg 0) 416 (104 + x2).toNatClampNeg) + s0)) 416 ((60 + (10 * x2)) + ((up2 (up2 V 416 (106 + x2).toNatClampNeg 0) 416 (104 + x2).toNatClampNeg (((up2 V 416 (106 + x2).toNatClampNeg 0) 416 (104 + x2).toNatClampNeg) + s0)) 409 p1.toNatClampNeg)).toNatClampNeg) + s0)) Qr Qx) ∧
    ((¬ 3 < x3) →
      F_X8_endsRaid_151 J p1  (((14 * p1) + (V 412 p1.toNatClampNeg)) - 1) 2 ((up2 (up2 (up2 V 416 (106 + x2).toNatClampNeg 0) 416 (104 + x2).toNatClampNeg (((up2 V 416 (106 + x2).toNatClampNeg 0) 416 (104 + x2).toNatClampNeg) + s0)) 416 ((60 + (10 * x2)) + ((up2 (up2 V 416 (106 + x2).toNatClampNeg 0) 416 (104 + x2).toNatClampNeg (((up2 V 416 (106 + x2).toNatClampNeg 0) 416 (104 + x2).toNatClampNeg) + s0)) 409 p1.toNatClampNeg)).toNatClampNeg (((up2 (up2 V 416 (106 + x2).toNatClampNeg 0) 416 (104 + x2).toNatClampNeg (((up2 V 416 (106 + x2).toNatClampNeg 0) 416 (104 + x2).toNatClampNeg) + s0)) 416 ((60 + (10 * x2)) + ((up2 (up2 V 416 (106 + x2).toNatClampNeg 0) 416 (104 + x2).toNatClampNeg (((up2 V 416 (106 + x2).toNatClampNeg 0) 416 (104 + x2).toNatClampNeg) + s0)) 409 p1.toNatClampNeg)).toNatClampNeg) + s0)) 409 p1.toNatClampNeg) x2 (up2 (up2 (up2 V 416 (106 + x2).toNatClampNeg 0) 416 (104 + x2).toNatClampNeg (((up2 V 416 (106 + x2).toNatClampNeg 0) 416 (104 + x2).toNatClampNeg) + s0)) 416 ((60 + (10 * x2)) + ((up2 (up2 V 416 (106 + x2).toNatClampNeg 0) 416 (104 + x2).toNatClampNeg (((up2 V 416 (106 + x2).toNatClampNeg 0) 416 (104 + x2).toNatClampNeg) + s0)) 409 p1.toNatClampNeg)).toNatClampNeg (((up2 (up2 V 416 (106 + x2).toNatClampNeg 0) 416 (104 + x2).toNatClampNeg (((up2 V 416 (106 + x2).toNatClampNeg 0) 416 (104 + x2).toNatClampNeg) + s0)) 416 ((60 + (10 * x2)) + ((up2 (up2 V 416 (106 + x2).toNatClampNeg 0) 416 (104 + x2).toNatClampNeg (((up2 V 416 (106 + x2).toNatClampNeg 0) 416 (104 + x2).toNatClampNeg) + s0)) 409 p1.toNatClampNeg)).toNatClampNeg) + s0)) Qr Qx))) ∧
(((V 413 (((14 * p1) + (V 412 p1.toNatClampNeg)) - 1).toNatClampNeg) = 3) →
  CTc J mX8_comesHome [.ref 405, .int p1, .int x2, .int s0] V (fun r V1 =>
    r = none ∧
    F_X8_endsRaid_154 J p1  (((14 * p1) + (V 412 p1.toNatClampNeg)) - 1) V1 Qr Qx) Qx)
theorem v_X8_endsRaid_35 {J : Nat → Nat → Int64} (p1 : Int32) {Qr : Option Value → (Nat → Nat → Int32) → Prop} {Qx : String → (Nat → Nat → Int32) → Prop} (x2 : Int32) (x3 : Int32) (s0 : Int32)  {V : Nat → Nat → Int32} (H : F_X8_endsRaid_35 J p1  x2 x3 s0 V Qr Qx) : WPc J mX8_endsRaid Qr Qx 35 [(0, .ref 405), (1, .int p1), (2, .int x2), (3, .int x3)] [.int s0] V 0 0 := by
  unfold F_X8_endsRaid_35 at H
  refine t_istore (L' := [(4, .int s0), (0, .ref 405), (1, .int p1), (2, .int x2), (3, .int x3)]) dX8_endsRaid_35 (by decide) rfl ?_
  refine s_bipush (v := 14) dX8_endsRaid_37 (by decide) ?_
  refine s_iload_n dX8_endsRaid_39 rfl ?_
  refine s_imul dX8_endsRaid_40 ?_
  refine s_aload_n dX8_endsRaid_41 rfl ?_
  refine t_getR (r := 412) fl_8_29 dX8_endsRaid_42 ob_405 rfl rfl ?_
  refine s_iload_n dX8_endsRaid_45 rfl ?_
  refine t_iald dX8_endsRaid_46 ap_412 H.1 ?_
  have H := H.2
  refine s_iadd dX8_endsRaid_47 ?_
  refine s_iconst (v := 1) dX8_endsRaid_48 (by decide) ?_
  refine s_isub dX8_endsRaid_49 ?_
  refine t_istore (L' := [(5, .int (((14 * p1) + (V 412 p1.toNatClampNeg)) - 1)), (4, .int s0), (0, .ref 405), (1, .int p1), (2, .int x2), (3, .int x3)]) dX8_endsRaid_50 (by decide) rfl ?_
  refine s_aload_n dX8_endsRaid_52 rfl ?_
  refine t_getR (r := 413) fl_8_32 dX8_endsRaid_53 ob_405 rfl rfl ?_
  refine s_iload dX8_endsRaid_56 rfl ?_
  refine t_iald dX8_endsRaid_58 ap_413 H.1 ?_
  have H := H.2
  refine s_iconst (v := 3) dX8_endsRaid_59 (by decide) ?_
  refine s_icmp_ne (tgt := 74) dX8_endsRaid_60 (by decide) (fun c => ?_) (fun c => ?_)
  · have H := H.1 c
    refine s_aload_n dX8_endsRaid_74 rfl ?_
    refine t_getR (r := 416) fl_8_41 dX8_endsRaid_75 ob_405 rfl rfl ?_
    refine s_bipush (v := 106) dX8_endsRaid_78 (by decide) ?_
    refine s_iload_n dX8_endsRaid_80 rfl ?_
    refine s_iadd dX8_endsRaid_81 ?_
    refine s_iconst (v := 0) dX8_endsRaid_82 (by decide) ?_
    refine t_iast dX8_endsRaid_83 ap_416 H.1 ?_
    have H := H.2
    refine s_aload_n dX8_endsRaid_84 rfl ?_
    refine t_getR (r := 416) fl_8_41 dX8_endsRaid_85 ob_405 rfl rfl ?_
    refine s_bipush (v := 104) dX8_endsRaid_88 (by decide) ?_
    refine s_iload_n dX8_endsRaid_90 rfl ?_
    refine s_iadd dX8_endsRaid_91 ?_
    refine s_dup2 dX8_endsRaid_92 rfl rfl ?_
    refine t_iald dX8_endsRaid_93 ap_416 H.1 ?_
    have H := H.2
    refine s_iload dX8_endsRaid_94 rfl ?_
    refine s_iadd dX8_endsRaid_96 ?_
    refine t_iast dX8_endsRaid_97 ap_416 H.1 ?_
    have H := H.2
    refine s_aload_n dX8_endsRaid_98 rfl ?_
    refine t_getR (r := 416) fl_8_41 dX8_endsRaid_99 ob_405 rfl rfl ?_
    refine s_bipush (v := 60) dX8_endsRaid_102 (by decide) ?_
    refine s_bipush (v := 10) dX8_endsRaid_104 (by decide) ?_
    refine s_iload_n dX8_endsRaid_106 rfl ?_
    refine s_imul dX8_endsRaid_107 ?_
    refine s_iadd dX8_endsRaid_108 ?_
    refine s_aload_n dX8_endsRaid_109 rfl ?_
    refine t_getR (r := 409) fl_8_20 dX8_endsRaid_110 ob_405 rfl rfl ?_
    refine s_iload_n dX8_endsRaid_113 rfl ?_
    refine t_iald dX8_endsRaid_114 ap_409 H.1 ?_
    have H := H.2
    refine s_iadd dX8_endsRaid_115 ?_
    refine s_dup2 dX8_endsRaid_116 rfl rfl ?_
    refine t_iald dX8_endsRaid_117 ap_416 H.1 ?_
    have H := H.2
    refine s_iload dX8_endsRaid_118 rfl ?_
    refine s_iadd dX8_endsRaid_120 ?_
    refine t_iast dX8_endsRaid_121 ap_416 H.1 ?_
    have H := H.2
    refine s_aload_n dX8_endsRaid_122 rfl ?_
    refine s_iload_n dX8_endsRaid_123 rfl ?_
    refine s_aload_n dX8_endsRaid_124 rfl ?_
    refine t_getR (r := 409) fl_8_20 dX8_endsRaid_125 ob_405 rfl rfl ?_
    refine s_iload_n dX8_endsRaid_128 rfl ?_
    refine t_iald dX8_endsRaid_129 ap_409 H.1 ?_
    have H := H.2
    refine s_aload_n dX8_endsRaid_130 rfl ?_
    refine t_getR (r := 413) fl_8_32 dX8_endsRaid_131 ob_405 rfl rfl ?_
    refine s_iload dX8_endsRaid_134 rfl ?_
    refine t_iald dX8_endsRaid_136 ap_413 H.1 ?_
    have H := H.2
    refine s_iconst (v := 4) dX8_endsRaid_137 (by decide) ?_
    refine s_icmp_ne (tgt := 150) dX8_endsRaid_138 (by decide) (fun c => ?_) (fun c => ?_)
    · have H := H.1 c
      exact t_loc [2, 0] rfl (v_X8_endsRaid_150 p1    (((14 * p1) + (V 412 p1.toNatClampNeg)) - 1) ((up2 (up2 (up2 V 416 (106 + x2).toNatClampNeg 0) 416 (104 + x2).toNatClampNeg (((up2 V 416 (106 + x2).toNatClampNeg 0) 416 (104 + x2).toNatClampNeg) + s0)) 416 ((60 + (10 * x2)) + ((up2 (up2 V 416 (106 + x2).toNatClampNeg 0) 416 (104 + x2).toNatClampNeg (((up2 V 416 (106 + x2).toNatClampNeg 0) 416 (104 + x2).toNatClampNeg) + s0)) 409 p1.toNatClampNeg)).toNatClampNeg (((up2 (up2 V 416 (106 + x2).toNatClampNeg 0) 416 (104 + x2).toNatClampNeg (((up2 V 416 (106 + x2).toNatClampNeg 0) 416 (104 + x2).toNatClampNeg) + s0)) 416 ((60 + (10 * x2)) + ((up2 (up2 V 416 (106 + x2).toNatClampNeg 0) 416 (104 + x2).toNatClampNeg (((up2 V 416 (106 + x2).toNatClampNeg 0) 416 (104 + x2).toNatClampNeg) + s0)) 409 p1.toNatClampNeg)).toNatClampNeg) + s0)) 409 p1.toNatClampNeg) x2  H)
    · have H := H.2 c
      refine s_iload_n dX8_endsRaid_141 rfl ?_
      refine s_iconst (v := 3) dX8_endsRaid_142 (by decide) ?_
      refine s_icmp_gt (tgt := 150) dX8_endsRaid_143 (by decide) (fun c => ?_) (fun c => ?_)
      · have H := H.1 c
        exact t_loc [2, 0] rfl (v_X8_endsRaid_150 p1    (((14 * p1) + (V 412 p1.toNatClampNeg)) - 1) ((up2 (up2 (up2 V 416 (106 + x2).toNatClampNeg 0) 416 (104 + x2).toNatClampNeg (((up2 V 416 (106 + x2).toNatClampNeg 0) 416 (104 + x2).toNatClampNeg) + s0)) 416 ((60 + (10 * x2)) + ((up2 (up2 V 416 (106 + x2).toNatClampNeg 0) 416 (104 + x2).toNatClampNeg (((up2 V 416 (106 + x2).toNatClampNeg 0) 416 (104 + x2).toNatClampNeg) + s0)) 409 p1.toNatClampNeg)).toNatClampNeg (((up2 (up2 V 416 (106 + x2).toNatClampNeg 0) 416 (104 + x2).toNatClampNeg (((up2 V 416 (106 + x2).toNatClampNeg 0) 416 (104 + x2).toNatClampNeg) + s0)) 416 ((60 + (10 * x2)) + ((up2 (up2 V 416 (106 + x2).toNatClampNeg 0) 416 (104 + x2).toNatClampNeg (((up2 V 416 (106 + x2).toNatClampNeg 0) 416 (104 + x2).toNatClampNeg) + s0)) 409 p1.toNatClampNeg)).toNatClampNeg) + s0)) 409 p1.toNatClampNeg) x2  H)
      · have H := H.2 c
        refine s_iconst (v := 2) dX8_endsRaid_146 (by decide) ?_
        refine s_goto (tgt := 151) dX8_endsRaid_147 (by decide) ?_
        exact t_loc [2, 0] rfl (v_X8_endsRaid_151 p1    (((14 * p1) + (V 412 p1.toNatClampNeg)) - 1) 2 ((up2 (up2 (up2 V 416 (106 + x2).toNatClampNeg 0) 416 (104 + x2).toNatClampNeg (((up2 V 416 (106 + x2).toNatClampNeg 0) 416 (104 + x2).toNatClampNeg) + s0)) 416 ((60 + (10 * x2)) + ((up2 (up2 V 416 (106 + x2).toNatClampNeg 0) 416 (104 + x2).toNatClampNeg (((up2 V 416 (106 + x2).toNatClampNeg 0) 416 (104 + x2).toNatClampNeg) + s0)) 409 p1.toNatClampNeg)).toNatClampNeg (((up2 (up2 V 416 (106 + x2).toNatClampNeg 0) 416 (104 + x2).toNatClampNeg (((up2 V 416 (106 + x2).toNatClampNeg 0) 416 (104 + x2).toNatClampNeg) + s0)) 416 ((60 + (10 * x2)) + ((up2 (up2 V 416 (106 + x2).toNatClampNeg 0) 416 (104 + x2).toNatClampNeg (((up2 V 416 (106 + x2).toNatClampNeg 0) 416 (104 + x2).toNatClampNeg) + s0)) 409 p1.toNatClampNeg)).toNatClampNeg) + s0)) 409 p1.toNatClampNeg) x2  H)
  · have H := H.2 c
    refine s_aload_n dX8_endsRaid_63 rfl ?_
    refine s_iload_n dX8_endsRaid_64 rfl ?_
    refine s_iload_n dX8_endsRaid_65 rfl ?_
    refine s_iload dX8_endsRaid_66 rfl ?_
    refine t_cV (h := 405) (As := [.int p1, .int x2, .int s0]) (st := []) iv_8_112 dX8_endsRaid_68 ⟨by decide, by decide⟩ rfl (Nat.le_of_ble_eq_true rfl) (by decide) (by decide) rfl ob_405 H (fun r V1 H => ?_)
    obtain ⟨rfl, H⟩ := H
    refine s_goto (tgt := 154) dX8_endsRaid_71 (by decide) ?_
    exact t_loc [2, 0] rfl (v_X8_endsRaid_154 p1    (((14 * p1) + (V 412 p1.toNatClampNeg)) - 1)  H)
def F_X8_endsRaid_34 (J : Nat → Nat → Int64) (p1 : Int32) (x2 : Int32) (x3 : Int32) (V : Nat → Nat → Int32) (Qr : Option Value → (Nat → Nat → Int32) → Prop) (Qx : String → (Nat → Nat → Int32) → Prop) : Prop :=
F_X8_endsRaid_35 J p1  x2 x3 0 V Qr Qx
theorem v_X8_endsRaid_34 {J : Nat → Nat → Int64} (p1 : Int32) {Qr : Option Value → (Nat → Nat → Int32) → Prop} {Qx : String → (Nat → Nat → Int32) → Prop} (x2 : Int32) (x3 : Int32)  {V : Nat → Nat → Int32} (H : F_X8_endsRaid_34 J p1  x2 x3 V Qr Qx) : WPc J mX8_endsRaid Qr Qx 34 [(0, .ref 405), (1, .int p1), (2, .int x2), (3, .int x3)] [] V 0 0 := by
  unfold F_X8_endsRaid_34 at H
  refine s_iconst (v := 0) dX8_endsRaid_34 (by decide) ?_
  exact t_loc [0, 1, 2, 3] rfl (v_X8_endsRaid_35 p1    x2 x3 0  H)
def F_X8_endsRaid (J : Nat → Nat → Int64) (p1 : Int32) (V : Nat → Nat → Int32) (Qr : Option Value → (Nat → Nat → Int32) → Prop) (Qx : String → (Nat → Nat → Int32) → Prop) : Prop :=
CTc J mX8_turn [.ref 405] V (fun r V1 =>
  ∃ r1 : Int32, r = some (.int r1) ∧
  CTc J mX8_manyThat [.ref 405, .int (1 - r1), .int 0, .int 3] V1 (fun r V2 =>
    ∃ r2 : Int32, r = some (.int r2) ∧
    CTc J mX8_stepsThat [.ref 405, .int p1, .int 1] V2 (fun r V3 =>
      ∃ r3 : Int32, r = some (.int r3) ∧
      ((r3 ≤ 0) →
        F_X8_endsRaid_34 J p1  r1 r2 V3 Qr Qx) ∧
      ((¬ r3 ≤ 0) →
        ((r2 < 6) →
          F_X8_endsRaid_34 J p1  r1 r2 V3 Qr Qx) ∧
        ((¬ r2 < 6) →
          F_X8_endsRaid_35 J p1  r1 r2 1 V3 Qr Qx))) Qx) Qx) Qx
theorem v_X8_endsRaid {J : Nat → Nat → Int64} (p1 : Int32) {V : Nat → Nat → Int32} {Qr : Option Value → (Nat → Nat → Int32) → Prop} {Qx : String → (Nat → Nat → Int32) → Prop} (H : F_X8_endsRaid J p1 V Qr Qx) : CTc J mX8_endsRaid [.ref 405, .int p1] V Qr Qx := by
  refine ctc_of (M := (T0 J, V)) pX8_endsRaid (fun _ _ => rfl) (Nat.le_of_ble_eq_true rfl) ?_
  unfold F_X8_endsRaid at H
  show WPc J mX8_endsRaid Qr Qx 0 [(0, .ref 405), (1, .int p1)] [] V 0 0
  refine s_aload_n dX8_endsRaid_0 rfl ?_
  refine t_cV (h := 405) (As := []) (st := []) iv_8_108 dX8_endsRaid_1 ⟨by decide, by decide⟩ rfl (Nat.le_of_ble_eq_true rfl) (by decide) (by decide) rfl ob_405 H (fun r V1 H => ?_)
  obtain ⟨r1, rfl, H⟩ := H
  refine t_istore_n (L' := [(2, .int r1), (0, .ref 405), (1, .int p1)]) dX8_endsRaid_4 (by decide) rfl ?_
  refine s_aload_n dX8_endsRaid_5 rfl ?_
  refine s_iconst (v := 1) dX8_endsRaid_6 (by decide) ?_
  refine s_iload_n dX8_endsRaid_7 rfl ?_
  refine s_isub dX8_endsRaid_8 ?_
  refine s_iconst (v := 0) dX8_endsRaid_9 (by decide) ?_
  refine s_iconst (v := 3) dX8_endsRaid_10 (by decide) ?_
  refine t_cV (h := 405) (As := [.int (1 - r1), .int 0, .int 3]) (st := []) iv_8_88 dX8_endsRaid_11 ⟨by decide, by decide⟩ rfl (Nat.le_of_ble_eq_true rfl) (by decide) (by decide) rfl ob_405 H (fun r V2 H => ?_)
  obtain ⟨r2, rfl, H⟩ := H
  refine t_istore_n (L' := [(3, .int r2), (2, .int r1), (0, .ref 405), (1, .int p1)]) dX8_endsRaid_14 (by decide) rfl ?_
  refine s_aload_n dX8_endsRaid_15 rfl ?_
  refine s_iload_n dX8_endsRaid_16 rfl ?_
  refine s_iconst (v := 1) dX8_endsRaid_17 (by decide) ?_
  refine t_cV (h := 405) (As := [.int p1, .int 1]) (st := []) iv_8_100 dX8_endsRaid_18 ⟨by decide, by decide⟩ rfl (Nat.le_of_ble_eq_true rfl) (by decide) (by decide) rfl ob_405 H (fun r V3 H => ?_)
  obtain ⟨r3, rfl, H⟩ := H
  refine s_if_le (tgt := 34) dX8_endsRaid_21 (by decide) (fun c => ?_) (fun c => ?_)
  · have H := H.1 c
    exact t_loc [2, 3, 1, 0] rfl (v_X8_endsRaid_34 p1    r1 r2  H)
  · have H := H.2 c
    refine s_iload_n dX8_endsRaid_24 rfl ?_
    refine s_bipush (v := 6) dX8_endsRaid_25 (by decide) ?_
    refine s_icmp_lt (tgt := 34) dX8_endsRaid_27 (by decide) (fun c => ?_) (fun c => ?_)
    · have H := H.1 c
      exact t_loc [2, 3, 1, 0] rfl (v_X8_endsRaid_34 p1    r1 r2  H)
    · have H := H.2 c
      refine s_iconst (v := 1) dX8_endsRaid_30 (by decide) ?_
      refine s_goto (tgt := 35) dX8_endsRaid_31 (by decide) ?_
      exact t_loc [2, 3, 1, 0] rfl (v_X8_endsRaid_35 p1    r1 r2 1  H)

def F_X8_canStep_114 (J : Nat → Nat → Int64) (p1 : Int32) (p2 : Int32) (K53 : Int32 → Int32 → Int32 → Int32 → (Nat → Nat → Int32) → Prop) (x3 : Int32) (x4 : Int32) (x6 : Int32) (s0 : Int32) (V : Nat → Nat → Int32) (Qr : Option Value → (Nat → Nat → Int32) → Prop) (Qx : String → (Nat → Nat → Int32) → Prop) : Prop :=
K53 x3 x4 s0 (x6 + 1) V
theorem v_X8_canStep_114 {J : Nat → Nat → Int64} (p1 : Int32) (p2 : Int32) {Qr : Option Value → (Nat → Nat → Int32) → Prop} {Qx : String → (Nat → Nat → Int32) → Prop} (K53 : Int32 → Int32 → Int32 → Int32 → (Nat → Nat → Int32) → Prop) (hK53 : ∀ (x3 : Int32) (x4 : Int32) (x5 : Int32) (x6 : Int32)  (V : Nat → Nat → Int32), K53 x3 x4 x5 x6 V → WPc J mX8_canStep Qr Qx 53 [(0, .ref 405), (3, .int x3), (4, .int x4), (5, .int x5), (6, .int x6)] [] V 0 0) (x3 : Int32) (x4 : Int32) (x6 : Int32) (s0 : Int32)  {V : Nat → Nat → Int32} (H : F_X8_canStep_114 J p1 p2 K53 x3 x4 x6 s0 V Qr Qx) : WPc J mX8_canStep Qr Qx 114 [(0, .ref 405), (3, .int x3), (4, .int x4), (6, .int x6)] [.int s0] V 0 0 := by
  unfold F_X8_canStep_114 at H
  refine t_istore (L' := [(5, .int s0), (0, .ref 405), (3, .int x3), (4, .int x4), (6, .int x6)]) dX8_canStep_114 (by decide) rfl ?_
  refine t_iinc (v := (x6 + 1)) (L' := [(6, .int (x6 + 1)), (5, .int s0), (0, .ref 405), (3, .int x3), (4, .int x4)]) dX8_canStep_116 rfl (by rfl) (by decide) rfl ?_
  refine s_goto (tgt := 53) dX8_canStep_119 (by decide) ?_
  exact t_loc [2, 3, 4, 1, 0] rfl (hK53 x3 x4 s0 (x6 + 1)  V H)
def F_X8_canStep_113 (J : Nat → Nat → Int64) (p1 : Int32) (p2 : Int32) (K53 : Int32 → Int32 → Int32 → Int32 → (Nat → Nat → Int32) → Prop) (x3 : Int32) (x4 : Int32) (x6 : Int32) (V : Nat → Nat → Int32) (Qr : Option Value → (Nat → Nat → Int32) → Prop) (Qx : String → (Nat → Nat → Int32) → Prop) : Prop :=
F_X8_canStep_114 J p1 p2 K53 x3 x4 x6 0 V Qr Qx
theorem v_X8_canStep_113 {J : Nat → Nat → Int64} (p1 : Int32) (p2 : Int32) {Qr : Option Value → (Nat → Nat → Int32) → Prop} {Qx : String → (Nat → Nat → Int32) → Prop} (K53 : Int32 → Int32 → Int32 → Int32 → (Nat → Nat → Int32) → Prop) (hK53 : ∀ (x3 : Int32) (x4 : Int32) (x5 : Int32) (x6 : Int32)  (V : Nat → Nat → Int32), K53 x3 x4 x5 x6 V → WPc J mX8_canStep Qr Qx 53 [(0, .ref 405), (3, .int x3), (4, .int x4), (5, .int x5), (6, .int x6)] [] V 0 0) (x3 : Int32) (x4 : Int32) (x6 : Int32)  {V : Nat → Nat → Int32} (H : F_X8_canStep_113 J p1 p2 K53 x3 x4 x6 V Qr Qx) : WPc J mX8_canStep Qr Qx 113 [(0, .ref 405), (3, .int x3), (4, .int x4), (6, .int x6)] [] V 0 0 := by
  unfold F_X8_canStep_113 at H
  refine s_iconst (v := 0) dX8_canStep_113 (by decide) ?_
  exact t_loc [0, 1, 2, 3] rfl (v_X8_canStep_114 p1 p2  K53 hK53 x3 x4 x6 0  H)
def F_X8_canStep_97 (J : Nat → Nat → Int64) (p1 : Int32) (p2 : Int32) (K53 : Int32 → Int32 → Int32 → Int32 → (Nat → Nat → Int32) → Prop) (x3 : Int32) (x4 : Int32) (x5 : Int32) (x6 : Int32) (s0 : Int32) (V : Nat → Nat → Int32) (Qr : Option Value → (Nat → Nat → Int32) → Prop) (Qx : String → (Nat → Nat → Int32) → Prop) : Prop :=
((x5 = 0) →
  F_X8_canStep_113 J p1 p2 K53 x3 x4 x6 V Qr Qx) ∧
((¬ x5 = 0) →
  ((¬ s0 = 0) →
    F_X8_canStep_113 J p1 p2 K53 x3 x4 x6 V Qr Qx) ∧
  ((s0 = 0) →
    F_X8_canStep_114 J p1 p2 K53 x3 x4 x6 1 V Qr Qx))
theorem v_X8_canStep_97 {J : Nat → Nat → Int64} (p1 : Int32) (p2 : Int32) {Qr : Option Value → (Nat → Nat → Int32) → Prop} {Qx : String → (Nat → Nat → Int32) → Prop} (K53 : Int32 → Int32 → Int32 → Int32 → (Nat → Nat → Int32) → Prop) (hK53 : ∀ (x3 : Int32) (x4 : Int32) (x5 : Int32) (x6 : Int32)  (V : Nat → Nat → Int32), K53 x3 x4 x5 x6 V → WPc J mX8_canStep Qr Qx 53 [(0, .ref 405), (3, .int x3), (4, .int x4), (5, .int x5), (6, .int x6)] [] V 0 0) (x3 : Int32) (x4 : Int32) (x5 : Int32) (x6 : Int32) (s0 : Int32)  {V : Nat → Nat → Int32} (H : F_X8_canStep_97 J p1 p2 K53 x3 x4 x5 x6 s0 V Qr Qx) : WPc J mX8_canStep Qr Qx 97 [(0, .ref 405), (3, .int x3), (4, .int x4), (5, .int x5), (6, .int x6)] [.int s0] V 0 0 := by
  unfold F_X8_canStep_97 at H
  refine t_istore (L' := [(7, .int s0), (0, .ref 405), (3, .int x3), (4, .int x4), (5, .int x5), (6, .int x6)]) dX8_canStep_97 (by decide) rfl ?_
  refine s_iload dX8_canStep_99 rfl ?_
  refine s_if_eq (tgt := 113) dX8_canStep_101 (by decide) (fun c => ?_) (fun c => ?_)
  · have H := H.1 c
    exact t_loc [1, 2, 3, 5] rfl (v_X8_canStep_113 p1 p2  K53 hK53 x3 x4 x6  H)
  · have H := H.2 c
    refine s_iload dX8_canStep_104 rfl ?_
    refine s_if_ne (tgt := 113) dX8_canStep_106 (by decide) (fun c => ?_) (fun c => ?_)
    · have H := H.1 c
      exact t_loc [1, 2, 3, 5] rfl (v_X8_canStep_113 p1 p2  K53 hK53 x3 x4 x6  H)
    · have H := H.2 c
      refine s_iconst (v := 1) dX8_canStep_109 (by decide) ?_
      refine s_goto (tgt := 114) dX8_canStep_110 (by decide) ?_
      exact t_loc [1, 2, 3, 5] rfl (v_X8_canStep_114 p1 p2  K53 hK53 x3 x4 x6 1  H)
def F_X8_canStep_96 (J : Nat → Nat → Int64) (p1 : Int32) (p2 : Int32) (K53 : Int32 → Int32 → Int32 → Int32 → (Nat → Nat → Int32) → Prop) (x3 : Int32) (x4 : Int32) (x5 : Int32) (x6 : Int32) (V : Nat → Nat → Int32) (Qr : Option Value → (Nat → Nat → Int32) → Prop) (Qx : String → (Nat → Nat → Int32) → Prop) : Prop :=
F_X8_canStep_97 J p1 p2 K53 x3 x4 x5 x6 0 V Qr Qx
theorem v_X8_canStep_96 {J : Nat → Nat → Int64} (p1 : Int32) (p2 : Int32) {Qr : Option Value → (Nat → Nat → Int32) → Prop} {Qx : String → (Nat → Nat → Int32) → Prop} (K53 : Int32 → Int32 → Int32 → Int32 → (Nat → Nat → Int32) → Prop) (hK53 : ∀ (x3 : Int32) (x4 : Int32) (x5 : Int32) (x6 : Int32)  (V : Nat → Nat → Int32), K53 x3 x4 x5 x6 V → WPc J mX8_canStep Qr Qx 53 [(0, .ref 405), (3, .int x3), (4, .int x4), (5, .int x5), (6, .int x6)] [] V 0 0) (x3 : Int32) (x4 : Int32) (x5 : Int32) (x6 : Int32)  {V : Nat → Nat → Int32} (H : F_X8_canStep_96 J p1 p2 K53 x3 x4 x5 x6 V Qr Qx) : WPc J mX8_canStep Qr Qx 96 [(0, .ref 405), (3, .int x3), (4, .int x4), (5, .int x5), (6, .int x6)] [] V 0 0 := by
  unfold F_X8_canStep_96 at H
  refine s_iconst (v := 0) dX8_canStep_96 (by decide) ?_
  exact t_loc [0, 1, 2, 3, 4] rfl (v_X8_canStep_97 p1 p2  K53 hK53 x3 x4 x5 x6 0  H)
def F_X8_canStep_92 (J : Nat → Nat → Int64) (p1 : Int32) (p2 : Int32) (K53 : Int32 → Int32 → Int32 → Int32 → (Nat → Nat → Int32) → Prop) (x3 : Int32) (x4 : Int32) (x5 : Int32) (x6 : Int32) (V : Nat → Nat → Int32) (Qr : Option Value → (Nat → Nat → Int32) → Prop) (Qx : String → (Nat → Nat → Int32) → Prop) : Prop :=
F_X8_canStep_97 J p1 p2 K53 x3 x4 x5 x6 1 V Qr Qx
theorem v_X8_canStep_92 {J : Nat → Nat → Int64} (p1 : Int32) (p2 : Int32) {Qr : Option Value → (Nat → Nat → Int32) → Prop} {Qx : String → (Nat → Nat → Int32) → Prop} (K53 : Int32 → Int32 → Int32 → Int32 → (Nat → Nat → Int32) → Prop) (hK53 : ∀ (x3 : Int32) (x4 : Int32) (x5 : Int32) (x6 : Int32)  (V : Nat → Nat → Int32), K53 x3 x4 x5 x6 V → WPc J mX8_canStep Qr Qx 53 [(0, .ref 405), (3, .int x3), (4, .int x4), (5, .int x5), (6, .int x6)] [] V 0 0) (x3 : Int32) (x4 : Int32) (x5 : Int32) (x6 : Int32)  {V : Nat → Nat → Int32} (H : F_X8_canStep_92 J p1 p2 K53 x3 x4 x5 x6 V Qr Qx) : WPc J mX8_canStep Qr Qx 92 [(0, .ref 405), (3, .int x3), (4, .int x4), (5, .int x5), (6, .int x6)] [] V 0 0 := by
  unfold F_X8_canStep_92 at H
  refine s_iconst (v := 1) dX8_canStep_92 (by decide) ?_
  refine s_goto (tgt := 97) dX8_canStep_93 (by decide) ?_
  exact t_loc [0, 1, 2, 3, 4] rfl (v_X8_canStep_97 p1 p2  K53 hK53 x3 x4 x5 x6 1  H)
def B_X8_canStep_53 (J : Nat → Nat → Int64) (p1 : Int32) (p2 : Int32) (K53 : Int32 → Int32 → Int32 → Int32 → (Nat → Nat → Int32) → Prop) (x3 : Int32) (x4 : Int32) (x5 : Int32) (x6 : Int32) (V : Nat → Nat → Int32) (Qr : Option Value → (Nat → Nat → Int32) → Prop) (Qx : String → (Nat → Nat → Int32) → Prop) : Prop :=
((x3 ≤ x6) →
  ((x5 = 0) →
    Qr (some (.int 0)) V) ∧
  ((¬ x5 = 0) →
    ((¬ x4 = 6) →
      Qr (some (.int 1)) V) ∧
    ((x4 = 6) →
      vp_in x3 840 ∧
      ((¬ (V 415 x3.toNatClampNeg) = 300) →
        Qr (some (.int 0)) V) ∧
      (((V 415 x3.toNatClampNeg) = 300) →
        Qr (some (.int 1)) V)))) ∧
((¬ x3 ≤ x6) →
  vp_in x6 840 ∧
  ((¬ (V 413 x6.toNatClampNeg) = x4) →
    F_X8_canStep_96 J p1 p2 K53 x3 x4 x5 x6 V Qr Qx) ∧
  (((V 413 x6.toNatClampNeg) = x4) →
    ((¬ x4 = 0) →
      F_X8_canStep_92 J p1 p2 K53 x3 x4 x5 x6 V Qr Qx) ∧
    ((x4 = 0) →
      vp_in x6 840 ∧
      vp_in x3 840 ∧
      ((¬ (V 414 x6.toNatClampNeg) = (V 414 x3.toNatClampNeg)) →
        F_X8_canStep_96 J p1 p2 K53 x3 x4 x5 x6 V Qr Qx) ∧
      (((V 414 x6.toNatClampNeg) = (V 414 x3.toNatClampNeg)) →
        F_X8_canStep_92 J p1 p2 K53 x3 x4 x5 x6 V Qr Qx))))
def F_X8_canStep_53 (J : Nat → Nat → Int64) (p1 : Int32) (p2 : Int32) (x3 : Int32) (x4 : Int32) (x5 : Int32) (x6 : Int32) (V : Nat → Nat → Int32) (Qr : Option Value → (Nat → Nat → Int32) → Prop) (Qx : String → (Nat → Nat → Int32) → Prop) : Prop :=
  ∃ I : Nat → Int32 → Int32 → Int32 → Int32 → (Nat → Nat → Int32) → Prop, (∃ n, I n x3 x4 x5 x6 V) ∧ ∀ n (x3 : Int32) (x4 : Int32) (x5 : Int32) (x6 : Int32) (V : Nat → Nat → Int32), I n x3 x4 x5 x6 V → B_X8_canStep_53 J p1 p2  (fun x3 x4 x5 x6 V => ∃ n', n' < n ∧ I n' x3 x4 x5 x6 V) x3 x4 x5 x6 V Qr Qx
theorem v_X8_canStep_53 {J : Nat → Nat → Int64} (p1 : Int32) (p2 : Int32) {Qr : Option Value → (Nat → Nat → Int32) → Prop} {Qx : String → (Nat → Nat → Int32) → Prop} (x3 : Int32) (x4 : Int32) (x5 : Int32) (x6 : Int32)  {V : Nat → Nat → Int32} (H : F_X8_canStep_53 J p1 p2  x3 x4 x5 x6 V Qr Qx) : WPc J mX8_canStep Qr Qx 53 [(0, .ref 405), (3, .int x3), (4, .int x4), (5, .int x5), (6, .int x6)] [] V 0 0 := by
  obtain ⟨I, ⟨n0, h0⟩, hs⟩ := H
  have step : ∀ (K53 : Int32 → Int32 → Int32 → Int32 → (Nat → Nat → Int32) → Prop), (∀ (x3 : Int32) (x4 : Int32) (x5 : Int32) (x6 : Int32)  (V : Nat → Nat → Int32), K53 x3 x4 x5 x6 V → WPc J mX8_canStep Qr Qx 53 [(0, .ref 405), (3, .int x3), (4, .int x4), (5, .int x5), (6, .int x6)] [] V 0 0) → ∀ (x3 : Int32) (x4 : Int32) (x5 : Int32) (x6 : Int32)  (V : Nat → Nat → Int32), B_X8_canStep_53 J p1 p2  K53 x3 x4 x5 x6 V Qr Qx → WPc J mX8_canStep Qr Qx 53 [(0, .ref 405), (3, .int x3), (4, .int x4), (5, .int x5), (6, .int x6)] [] V 0 0 := by
    intro K53 hK53 x3 x4 x5 x6  V H
    unfold B_X8_canStep_53 at H
    refine s_iload dX8_canStep_53 rfl ?_
    refine s_iload_n dX8_canStep_55 rfl ?_
    refine s_icmp_ge (tgt := 122) dX8_canStep_56 (by decide) (fun c => ?_) (fun c => ?_)
    · have H := H.1 c
      refine s_iload dX8_canStep_122 rfl ?_
      refine s_if_eq (tgt := 150) dX8_canStep_124 (by decide) (fun c => ?_) (fun c => ?_)
      · have H := H.1 c
        refine s_iconst (v := 0) dX8_canStep_150 (by decide) ?_
        exact s_iret dX8_canStep_151 (Or.inr ⟨rfl, (Or.inl rfl)⟩) ⟨rfl, H⟩
      · have H := H.2 c
        refine s_iload dX8_canStep_127 rfl ?_
        refine s_bipush (v := 6) dX8_canStep_129 (by decide) ?_
        refine s_icmp_ne (tgt := 146) dX8_canStep_131 (by decide) (fun c => ?_) (fun c => ?_)
        · have H := H.1 c
          refine s_iconst (v := 1) dX8_canStep_146 (by decide) ?_
          refine s_goto (tgt := 151) dX8_canStep_147 (by decide) ?_
          exact s_iret dX8_canStep_151 (Or.inr ⟨rfl, (Or.inr rfl)⟩) ⟨rfl, H⟩
        · have H := H.2 c
          refine s_aload_n dX8_canStep_134 rfl ?_
          refine t_getR (r := 415) fl_8_38 dX8_canStep_135 ob_405 rfl rfl ?_
          refine s_iload_n dX8_canStep_138 rfl ?_
          refine t_iald dX8_canStep_139 ap_415 H.1 ?_
          have H := H.2
          refine s_sipush (v := 300) dX8_canStep_140 (by decide) ?_
          refine s_icmp_ne (tgt := 150) dX8_canStep_143 (by decide) (fun c => ?_) (fun c => ?_)
          · have H := H.1 c
            refine s_iconst (v := 0) dX8_canStep_150 (by decide) ?_
            exact s_iret dX8_canStep_151 (Or.inr ⟨rfl, (Or.inl rfl)⟩) ⟨rfl, H⟩
          · have H := H.2 c
            refine s_iconst (v := 1) dX8_canStep_146 (by decide) ?_
            refine s_goto (tgt := 151) dX8_canStep_147 (by decide) ?_
            exact s_iret dX8_canStep_151 (Or.inr ⟨rfl, (Or.inr rfl)⟩) ⟨rfl, H⟩
    · have H := H.2 c
      refine s_aload_n dX8_canStep_59 rfl ?_
      refine t_getR (r := 413) fl_8_32 dX8_canStep_60 ob_405 rfl rfl ?_
      refine s_iload dX8_canStep_63 rfl ?_
      refine t_iald dX8_canStep_65 ap_413 H.1 ?_
      have H := H.2
      refine s_iload dX8_canStep_66 rfl ?_
      refine s_icmp_ne (tgt := 96) dX8_canStep_68 (by decide) (fun c => ?_) (fun c => ?_)
      · have H := H.1 c
        exact t_loc [0, 1, 2, 3, 4] rfl (v_X8_canStep_96 p1 p2  K53 hK53 x3 x4 x5 x6  H)
      · have H := H.2 c
        refine s_iload dX8_canStep_71 rfl ?_
        refine s_if_ne (tgt := 92) dX8_canStep_73 (by decide) (fun c => ?_) (fun c => ?_)
        · have H := H.1 c
          exact t_loc [0, 1, 2, 3, 4] rfl (v_X8_canStep_92 p1 p2  K53 hK53 x3 x4 x5 x6  H)
        · have H := H.2 c
          refine s_aload_n dX8_canStep_76 rfl ?_
          refine t_getR (r := 414) fl_8_35 dX8_canStep_77 ob_405 rfl rfl ?_
          refine s_iload dX8_canStep_80 rfl ?_
          refine t_iald dX8_canStep_82 ap_414 H.1 ?_
          have H := H.2
          refine s_aload_n dX8_canStep_83 rfl ?_
          refine t_getR (r := 414) fl_8_35 dX8_canStep_84 ob_405 rfl rfl ?_
          refine s_iload_n dX8_canStep_87 rfl ?_
          refine t_iald dX8_canStep_88 ap_414 H.1 ?_
          have H := H.2
          refine s_icmp_ne (tgt := 96) dX8_canStep_89 (by decide) (fun c => ?_) (fun c => ?_)
          · have H := H.1 c
            exact t_loc [0, 1, 2, 3, 4] rfl (v_X8_canStep_96 p1 p2  K53 hK53 x3 x4 x5 x6  H)
          · have H := H.2 c
            exact t_loc [0, 1, 2, 3, 4] rfl (v_X8_canStep_92 p1 p2  K53 hK53 x3 x4 x5 x6  H)
  have key : ∀ n, ∀ (x3 : Int32) (x4 : Int32) (x5 : Int32) (x6 : Int32)  (V : Nat → Nat → Int32), I n x3 x4 x5 x6 V → WPc J mX8_canStep Qr Qx 53 [(0, .ref 405), (3, .int x3), (4, .int x4), (5, .int x5), (6, .int x6)] [] V 0 0 := by
    refine strong (fun n ih => ?_)
    intro x3 x4 x5 x6  V hI
    exact step _ (fun x3 x4 x5 x6  V hz => Exists.elim hz (fun n1 hz => ih n1 hz.1 x3 x4 x5 x6  V hz.2)) x3 x4 x5 x6  V (hs n x3 x4 x5 x6 V hI)
  exact key n0 x3 x4 x5 x6  V h0
def F_X8_canStep_45 (J : Nat → Nat → Int64) (p1 : Int32) (p2 : Int32) (x3 : Int32) (x4 : Int32) (s0 : Int32) (V : Nat → Nat → Int32) (Qr : Option Value → (Nat → Nat → Int32) → Prop) (Qx : String → (Nat → Nat → Int32) → Prop) : Prop :=
F_X8_canStep_53 J p1 p2  x3 x4 s0 (14 * p1) V Qr Qx
theorem v_X8_canStep_45 {J : Nat → Nat → Int64} (p1 : Int32) (p2 : Int32) {Qr : Option Value → (Nat → Nat → Int32) → Prop} {Qx : String → (Nat → Nat → Int32) → Prop} (x3 : Int32) (x4 : Int32) (s0 : Int32)  {V : Nat → Nat → Int32} (H : F_X8_canStep_45 J p1 p2  x3 x4 s0 V Qr Qx) : WPc J mX8_canStep Qr Qx 45 [(0, .ref 405), (1, .int p1), (3, .int x3), (4, .int x4)] [.int s0] V 0 0 := by
  unfold F_X8_canStep_45 at H
  refine t_istore (L' := [(5, .int s0), (0, .ref 405), (1, .int p1), (3, .int x3), (4, .int x4)]) dX8_canStep_45 (by decide) rfl ?_
  refine s_bipush (v := 14) dX8_canStep_47 (by decide) ?_
  refine s_iload_n dX8_canStep_49 rfl ?_
  refine s_imul dX8_canStep_50 ?_
  refine t_istore (L' := [(6, .int (14 * p1)), (5, .int s0), (0, .ref 405), (1, .int p1), (3, .int x3), (4, .int x4)]) dX8_canStep_51 (by decide) rfl ?_
  exact t_loc [2, 4, 5, 1, 0] rfl (v_X8_canStep_53 p1 p2    x3 x4 s0 (14 * p1)  H)
def F_X8_canStep_40 (J : Nat → Nat → Int64) (p1 : Int32) (p2 : Int32) (x3 : Int32) (x4 : Int32) (V : Nat → Nat → Int32) (Qr : Option Value → (Nat → Nat → Int32) → Prop) (Qx : String → (Nat → Nat → Int32) → Prop) : Prop :=
F_X8_canStep_45 J p1 p2  x3 x4 1 V Qr Qx
theorem v_X8_canStep_40 {J : Nat → Nat → Int64} (p1 : Int32) (p2 : Int32) {Qr : Option Value → (Nat → Nat → Int32) → Prop} {Qx : String → (Nat → Nat → Int32) → Prop} (x3 : Int32) (x4 : Int32)  {V : Nat → Nat → Int32} (H : F_X8_canStep_40 J p1 p2  x3 x4 V Qr Qx) : WPc J mX8_canStep Qr Qx 40 [(0, .ref 405), (1, .int p1), (3, .int x3), (4, .int x4)] [] V 0 0 := by
  unfold F_X8_canStep_40 at H
  refine s_iconst (v := 1) dX8_canStep_40 (by decide) ?_
  refine s_goto (tgt := 45) dX8_canStep_41 (by decide) ?_
  exact t_loc [0, 1, 2, 3] rfl (v_X8_canStep_45 p1 p2    x3 x4 1  H)
def F_X8_canStep (J : Nat → Nat → Int64) (p1 : Int32) (p2 : Int32) (V : Nat → Nat → Int32) (Qr : Option Value → (Nat → Nat → Int32) → Prop) (Qx : String → (Nat → Nat → Int32) → Prop) : Prop :=
vp_in ((14 * p1) + p2) 840 ∧
((¬ (V 413 ((14 * p1) + p2).toNatClampNeg) = 0) →
  F_X8_canStep_40 J p1 p2  ((14 * p1) + p2) (V 413 ((14 * p1) + p2).toNatClampNeg) V Qr Qx) ∧
(((V 413 ((14 * p1) + p2).toNatClampNeg) = 0) →
  CTc J mX8_turn [.ref 405] V (fun r V1 =>
    ∃ r1 : Int32, r = some (.int r1) ∧
    vp_in ((14 * p1) + p2) 840 ∧
    CTc J mX8_is [.ref 405, .int (1 - r1), .int (V1 414 ((14 * p1) + p2).toNatClampNeg), .int 0] V1 (fun r V2 =>
      ∃ b2 : Bool, r = some (.int (bI b2)) ∧
      ((b2 = false) →
        F_X8_canStep_45 J p1 p2  ((14 * p1) + p2) (V 413 ((14 * p1) + p2).toNatClampNeg) 0 V2 Qr Qx) ∧
      ((b2 = true) →
        F_X8_canStep_40 J p1 p2  ((14 * p1) + p2) (V 413 ((14 * p1) + p2).toNatClampNeg) V2 Qr Qx)) Qx) Qx)
theorem v_X8_canStep {J : Nat → Nat → Int64} (p1 : Int32) (p2 : Int32) {V : Nat → Nat → Int32} {Qr : Option Value → (Nat → Nat → Int32) → Prop} {Qx : String → (Nat → Nat → Int32) → Prop} (H : F_X8_canStep J p1 p2 V Qr Qx) : CTc J mX8_canStep [.ref 405, .int p1, .int p2] V Qr Qx := by
  refine ctc_of (M := (T0 J, V)) pX8_canStep (fun _ _ => rfl) (Nat.le_of_ble_eq_true rfl) ?_
  unfold F_X8_canStep at H
  show WPc J mX8_canStep Qr Qx 0 [(0, .ref 405), (1, .int p1), (2, .int p2)] [] V 0 0
  refine s_bipush (v := 14) dX8_canStep_0 (by decide) ?_
  refine s_iload_n dX8_canStep_2 rfl ?_
  refine s_imul dX8_canStep_3 ?_
  refine s_iload_n dX8_canStep_4 rfl ?_
  refine s_iadd dX8_canStep_5 ?_
  refine t_istore_n (L' := [(3, .int ((14 * p1) + p2)), (0, .ref 405), (1, .int p1), (2, .int p2)]) dX8_canStep_6 (by decide) rfl ?_
  refine s_aload_n dX8_canStep_7 rfl ?_
  refine t_getR (r := 413) fl_8_32 dX8_canStep_8 ob_405 rfl rfl ?_
  refine s_iload_n dX8_canStep_11 rfl ?_
  refine t_iald dX8_canStep_12 ap_413 H.1 ?_
  have H := H.2
  refine t_istore (L' := [(4, .int (V 413 ((14 * p1) + p2).toNatClampNeg)), (3, .int ((14 * p1) + p2)), (0, .ref 405), (1, .int p1), (2, .int p2)]) dX8_canStep_13 (by decide) rfl ?_
  refine s_iload dX8_canStep_15 rfl ?_
  refine s_if_ne (tgt := 40) dX8_canStep_17 (by decide) (fun c => ?_) (fun c => ?_)
  · have H := H.1 c
    exact t_loc [2, 3, 1, 0] rfl (v_X8_canStep_40 p1 p2    ((14 * p1) + p2) (V 413 ((14 * p1) + p2).toNatClampNeg)  H)
  · have H := H.2 c
    refine s_aload_n dX8_canStep_20 rfl ?_
    refine s_iconst (v := 1) dX8_canStep_21 (by decide) ?_
    refine s_aload_n dX8_canStep_22 rfl ?_
    refine t_cV (h := 405) (As := []) (st := [.int 1, .ref 405]) iv_8_108 dX8_canStep_23 ⟨by decide, by decide⟩ rfl (Nat.le_of_ble_eq_true rfl) (by decide) (by decide) rfl ob_405 H (fun r V1 H => ?_)
    obtain ⟨r1, rfl, H⟩ := H
    refine s_isub dX8_canStep_26 ?_
    refine s_aload_n dX8_canStep_27 rfl ?_
    refine t_getR (r := 414) fl_8_35 dX8_canStep_28 ob_405 rfl rfl ?_
    refine s_iload_n dX8_canStep_31 rfl ?_
    refine t_iald dX8_canStep_32 ap_414 H.1 ?_
    have H := H.2
    refine s_iconst (v := 0) dX8_canStep_33 (by decide) ?_
    refine t_cV (h := 405) (As := [.int (1 - r1), .int (V1 414 ((14 * p1) + p2).toNatClampNeg), .int 0]) (st := []) iv_8_85 dX8_canStep_34 ⟨by decide, by decide⟩ rfl (Nat.le_of_ble_eq_true rfl) (by decide) (by decide) rfl ob_405 H (fun r V2 H => ?_)
    obtain ⟨b2, rfl, H⟩ := H
    refine s_if_eq (tgt := 44) dX8_canStep_37 (by decide) (fun c => ?_) (fun c => ?_)
    · have H := H.1 (bI_f c)
      refine s_iconst (v := 0) dX8_canStep_44 (by decide) ?_
      exact t_loc [2, 3, 1, 0] rfl (v_X8_canStep_45 p1 p2    ((14 * p1) + p2) (V 413 ((14 * p1) + p2).toNatClampNeg) 0  H)
    · have H := H.2 (bI_t c)
      exact t_loc [2, 3, 1, 0] rfl (v_X8_canStep_40 p1 p2    ((14 * p1) + p2) (V 413 ((14 * p1) + p2).toNatClampNeg)  H)

def F_X8_canRaid (J : Nat → Nat → Int64) (p1 : Int32) (V : Nat → Nat → Int32) (Qr : Option Value → (Nat → Nat → Int32) → Prop) (Qx : String → (Nat → Nat → Int32) → Prop) : Prop :=
(((V 405 5) ≤ (V 416 108)) →
  Qr (some (.int 0)) V) ∧
((¬ (V 405 5) ≤ (V 416 108)) →
  CTc J mX8_turn [.ref 405] V (fun r V1 =>
    ∃ r1 : Int32, r = some (.int r1) ∧
    CTc J mX8_is [.ref 405, .int r1, .int p1, .int 0] V1 (fun r V2 =>
      ∃ b2 : Bool, r = some (.int (bI b2)) ∧
      ((b2 = false) →
        Qr (some (.int 0)) V2) ∧
      ((b2 = true) →
        Qr (some (.int 1)) V2)) Qx) Qx)
theorem v_X8_canRaid {J : Nat → Nat → Int64} (p1 : Int32) {V : Nat → Nat → Int32} {Qr : Option Value → (Nat → Nat → Int32) → Prop} {Qx : String → (Nat → Nat → Int32) → Prop} (H : F_X8_canRaid J p1 V Qr Qx) : CTc J mX8_canRaid [.ref 405, .int p1] V Qr Qx := by
  refine ctc_of (M := (T0 J, V)) pX8_canRaid (fun _ _ => rfl) (Nat.le_of_ble_eq_true rfl) ?_
  unfold F_X8_canRaid at H
  show WPc J mX8_canRaid Qr Qx 0 [(0, .ref 405), (1, .int p1)] [] V 0 0
  refine s_aload_n dX8_canRaid_0 rfl ?_
  refine t_getR (r := 416) fl_8_41 dX8_canRaid_1 ob_405 rfl rfl ?_
  refine s_bipush (v := 108) dX8_canRaid_4 (by decide) ?_
  refine t_iald dX8_canRaid_6 ap_416 (vp_of (by decide)) ?_
  refine s_aload_n dX8_canRaid_7 rfl ?_
  refine t_getI fl_8_118 dX8_canRaid_8 ob_405 rfl ?_
  refine s_icmp_ge (tgt := 31) dX8_canRaid_11 (by decide) (fun c => ?_) (fun c => ?_)
  · have H := H.1 c
    refine s_iconst (v := 0) dX8_canRaid_31 (by decide) ?_
    exact s_iret dX8_canRaid_32 (Or.inr ⟨rfl, (Or.inl rfl)⟩) ⟨rfl, H⟩
  · have H := H.2 c
    refine s_aload_n dX8_canRaid_14 rfl ?_
    refine s_aload_n dX8_canRaid_15 rfl ?_
    refine t_cV (h := 405) (As := []) (st := [.ref 405]) iv_8_108 dX8_canRaid_16 ⟨by decide, by decide⟩ rfl (Nat.le_of_ble_eq_true rfl) (by decide) (by decide) rfl ob_405 H (fun r V1 H => ?_)
    obtain ⟨r1, rfl, H⟩ := H
    refine s_iload_n dX8_canRaid_19 rfl ?_
    refine s_iconst (v := 0) dX8_canRaid_20 (by decide) ?_
    refine t_cV (h := 405) (As := [.int r1, .int p1, .int 0]) (st := []) iv_8_85 dX8_canRaid_21 ⟨by decide, by decide⟩ rfl (Nat.le_of_ble_eq_true rfl) (by decide) (by decide) rfl ob_405 H (fun r V2 H => ?_)
    obtain ⟨b2, rfl, H⟩ := H
    refine s_if_eq (tgt := 31) dX8_canRaid_24 (by decide) (fun c => ?_) (fun c => ?_)
    · have H := H.1 (bI_f c)
      refine s_iconst (v := 0) dX8_canRaid_31 (by decide) ?_
      exact s_iret dX8_canRaid_32 (Or.inr ⟨rfl, (Or.inl rfl)⟩) ⟨rfl, H⟩
    · have H := H.2 (bI_t c)
      refine s_iconst (v := 1) dX8_canRaid_27 (by decide) ?_
      refine s_goto (tgt := 32) dX8_canRaid_28 (by decide) ?_
      exact s_iret dX8_canRaid_32 (Or.inr ⟨rfl, (Or.inr rfl)⟩) ⟨rfl, H⟩

def B_X8_colourFor_3 (J : Nat → Nat → Int64) (p1 : Int32) (p2 : Int32) (p3 : Int32) (K3 : Int32 → (Nat → Nat → Int32) → Prop) (x4 : Int32) (V : Nat → Nat → Int32) (Qr : Option Value → (Nat → Nat → Int32) → Prop) (Qx : String → (Nat → Nat → Int32) → Prop) : Prop :=
((2 ≤ x4) →
  Qr (some (.int x4)) V) ∧
((¬ 2 ≤ x4) →
  vp_in ((40 + (10 * p1)) + p2) 110 ∧
  ((¬ (((V 416 ((40 + (10 * p1)) + p2).toNatClampNeg) >>> (x4 &&& 31)) &&& 1) = 1) →
    Qr (some (.int x4)) V) ∧
  (((((V 416 ((40 + (10 * p1)) + p2).toNatClampNeg) >>> (x4 &&& 31)) &&& 1) = 1) →
    K3 (x4 + 1) V))
def F_X8_colourFor_3 (J : Nat → Nat → Int64) (p1 : Int32) (p2 : Int32) (p3 : Int32) (x4 : Int32) (V : Nat → Nat → Int32) (Qr : Option Value → (Nat → Nat → Int32) → Prop) (Qx : String → (Nat → Nat → Int32) → Prop) : Prop :=
  ∃ I : Nat → Int32 → (Nat → Nat → Int32) → Prop, (∃ n, I n x4 V) ∧ ∀ n (x4 : Int32) (V : Nat → Nat → Int32), I n x4 V → B_X8_colourFor_3 J p1 p2 p3  (fun x4 V => ∃ n', n' < n ∧ I n' x4 V) x4 V Qr Qx
theorem v_X8_colourFor_3 {J : Nat → Nat → Int64} (p1 : Int32) (p2 : Int32) (p3 : Int32) {Qr : Option Value → (Nat → Nat → Int32) → Prop} {Qx : String → (Nat → Nat → Int32) → Prop} (x4 : Int32)  {V : Nat → Nat → Int32} (H : F_X8_colourFor_3 J p1 p2 p3  x4 V Qr Qx) : WPc J mX8_colourFor Qr Qx 3 [(0, .ref 405), (1, .int p1), (2, .int p2), (4, .int x4)] [] V 0 0 := by
  obtain ⟨I, ⟨n0, h0⟩, hs⟩ := H
  have step : ∀ (K3 : Int32 → (Nat → Nat → Int32) → Prop), (∀ (x4 : Int32)  (V : Nat → Nat → Int32), K3 x4 V → WPc J mX8_colourFor Qr Qx 3 [(0, .ref 405), (1, .int p1), (2, .int p2), (4, .int x4)] [] V 0 0) → ∀ (x4 : Int32)  (V : Nat → Nat → Int32), B_X8_colourFor_3 J p1 p2 p3  K3 x4 V Qr Qx → WPc J mX8_colourFor Qr Qx 3 [(0, .ref 405), (1, .int p1), (2, .int p2), (4, .int x4)] [] V 0 0 := by
    intro K3 hK3 x4  V H
    unfold B_X8_colourFor_3 at H
    refine s_iload dX8_colourFor_3 rfl ?_
    refine s_iconst (v := 2) dX8_colourFor_5 (by decide) ?_
    refine s_icmp_ge (tgt := 38) dX8_colourFor_6 (by decide) (fun c => ?_) (fun c => ?_)
    · have H := H.1 c
      refine s_iload dX8_colourFor_38 rfl ?_
      exact s_iret dX8_colourFor_40 (Or.inl rfl) ⟨rfl, H⟩
    · have H := H.2 c
      refine s_aload_n dX8_colourFor_9 rfl ?_
      refine t_getR (r := 416) fl_8_41 dX8_colourFor_10 ob_405 rfl rfl ?_
      refine s_bipush (v := 40) dX8_colourFor_13 (by decide) ?_
      refine s_bipush (v := 10) dX8_colourFor_15 (by decide) ?_
      refine s_iload_n dX8_colourFor_17 rfl ?_
      refine s_imul dX8_colourFor_18 ?_
      refine s_iadd dX8_colourFor_19 ?_
      refine s_iload_n dX8_colourFor_20 rfl ?_
      refine s_iadd dX8_colourFor_21 ?_
      refine t_iald dX8_colourFor_22 ap_416 H.1 ?_
      have H := H.2
      refine s_iload dX8_colourFor_23 rfl ?_
      refine s_ishr dX8_colourFor_25 ?_
      refine s_iconst (v := 1) dX8_colourFor_26 (by decide) ?_
      refine s_iand dX8_colourFor_27 ?_
      refine s_iconst (v := 1) dX8_colourFor_28 (by decide) ?_
      refine s_icmp_ne (tgt := 38) dX8_colourFor_29 (by decide) (fun c => ?_) (fun c => ?_)
      · have H := H.1 c
        refine s_iload dX8_colourFor_38 rfl ?_
        exact s_iret dX8_colourFor_40 (Or.inl rfl) ⟨rfl, H⟩
      · have H := H.2 c
        refine t_iinc (v := (x4 + 1)) (L' := [(4, .int (x4 + 1)), (0, .ref 405), (1, .int p1), (2, .int p2)]) dX8_colourFor_32 rfl (by rfl) (by decide) rfl ?_
        refine s_goto (tgt := 3) dX8_colourFor_35 (by decide) ?_
        exact t_loc [1, 2, 3, 0] rfl (hK3 (x4 + 1)  V H)
  have key : ∀ n, ∀ (x4 : Int32)  (V : Nat → Nat → Int32), I n x4 V → WPc J mX8_colourFor Qr Qx 3 [(0, .ref 405), (1, .int p1), (2, .int p2), (4, .int x4)] [] V 0 0 := by
    refine strong (fun n ih => ?_)
    intro x4  V hI
    exact step _ (fun x4  V hz => Exists.elim hz (fun n1 hz => ih n1 hz.1 x4  V hz.2)) x4  V (hs n x4 V hI)
  exact key n0 x4  V h0
def F_X8_colourFor (J : Nat → Nat → Int64) (p1 : Int32) (p2 : Int32) (p3 : Int32) (V : Nat → Nat → Int32) (Qr : Option Value → (Nat → Nat → Int32) → Prop) (Qx : String → (Nat → Nat → Int32) → Prop) : Prop :=
F_X8_colourFor_3 J p1 p2 p3  p3 V Qr Qx
theorem v_X8_colourFor {J : Nat → Nat → Int64} (p1 : Int32) (p2 : Int32) (p3 : Int32) {V : Nat → Nat → Int32} {Qr : Option Value → (Nat → Nat → Int32) → Prop} {Qx : String → (Nat → Nat → Int32) → Prop} (H : F_X8_colourFor J p1 p2 p3 V Qr Qx) : CTc J mX8_colourFor [.ref 405, .int p1, .int p2, .int p3] V Qr Qx := by
  refine ctc_of (M := (T0 J, V)) pX8_colourFor (fun _ _ => rfl) (Nat.le_of_ble_eq_true rfl) ?_
  unfold F_X8_colourFor at H
  show WPc J mX8_colourFor Qr Qx 0 [(0, .ref 405), (1, .int p1), (2, .int p2), (3, .int p3)] [] V 0 0
  refine s_iload_n dX8_colourFor_0 rfl ?_
  refine t_istore (L' := [(4, .int p3), (0, .ref 405), (1, .int p1), (2, .int p2), (3, .int p3)]) dX8_colourFor_1 (by decide) rfl ?_
  exact t_loc [1, 2, 3, 0] rfl (v_X8_colourFor_3 p1 p2 p3    p3  H)

def F_X8_canCard (J : Nat → Nat → Int64) (p1 : Int32) (p2 : Int32) (p3 : Int32) (V : Nat → Nat → Int32) (Qr : Option Value → (Nat → Nat → Int32) → Prop) (Qx : String → (Nat → Nat → Int32) → Prop) : Prop :=
CTc J mX8_is [.ref 405, .int p1, .int p2, .int 0] V (fun r V1 =>
  ∃ b1 : Bool, r = some (.int (bI b1)) ∧
  ((b1 = false) →
    Qr (some (.int 0)) V1) ∧
  ((b1 = true) →
    CTc J mX8_colourFor [.ref 405, .int p1, .int p2, .int p3] V1 (fun r V2 =>
      ∃ r2 : Int32, r = some (.int r2) ∧
      ((r2 = 0) →
        Qr (some (.int 1)) V2) ∧
      ((¬ r2 = 0) →
        CTc J mX8_manyThat [.ref 405, .int p1, .int 3, .int 4] V2 (fun r V3 =>
          ∃ r3 : Int32, r = some (.int r3) ∧
          ((3 ≤ r3) →
            Qr (some (.int 0)) V3) ∧
          ((¬ 3 ≤ r3) →
            Qr (some (.int 1)) V3)) Qx)) Qx)) Qx
theorem v_X8_canCard {J : Nat → Nat → Int64} (p1 : Int32) (p2 : Int32) (p3 : Int32) {V : Nat → Nat → Int32} {Qr : Option Value → (Nat → Nat → Int32) → Prop} {Qx : String → (Nat → Nat → Int32) → Prop} (H : F_X8_canCard J p1 p2 p3 V Qr Qx) : CTc J mX8_canCard [.ref 405, .int p1, .int p2, .int p3] V Qr Qx := by
  refine ctc_of (M := (T0 J, V)) pX8_canCard (fun _ _ => rfl) (Nat.le_of_ble_eq_true rfl) ?_
  unfold F_X8_canCard at H
  show WPc J mX8_canCard Qr Qx 0 [(0, .ref 405), (1, .int p1), (2, .int p2), (3, .int p3)] [] V 0 0
  refine s_aload_n dX8_canCard_0 rfl ?_
  refine s_iload_n dX8_canCard_1 rfl ?_
  refine s_iload_n dX8_canCard_2 rfl ?_
  refine s_iconst (v := 0) dX8_canCard_3 (by decide) ?_
  refine t_cV (h := 405) (As := [.int p1, .int p2, .int 0]) (st := []) iv_8_85 dX8_canCard_4 ⟨by decide, by decide⟩ rfl (Nat.le_of_ble_eq_true rfl) (by decide) (by decide) rfl ob_405 H (fun r V1 H => ?_)
  obtain ⟨b1, rfl, H⟩ := H
  refine s_if_eq (tgt := 35) dX8_canCard_7 (by decide) (fun c => ?_) (fun c => ?_)
  · have H := H.1 (bI_f c)
    refine s_iconst (v := 0) dX8_canCard_35 (by decide) ?_
    exact s_iret dX8_canCard_36 (Or.inr ⟨rfl, (Or.inl rfl)⟩) ⟨rfl, H⟩
  · have H := H.2 (bI_t c)
    refine s_aload_n dX8_canCard_10 rfl ?_
    refine s_iload_n dX8_canCard_11 rfl ?_
    refine s_iload_n dX8_canCard_12 rfl ?_
    refine s_iload_n dX8_canCard_13 rfl ?_
    refine t_cV (h := 405) (As := [.int p1, .int p2, .int p3]) (st := []) iv_8_121 dX8_canCard_14 ⟨by decide, by decide⟩ rfl (Nat.le_of_ble_eq_true rfl) (by decide) (by decide) rfl ob_405 H (fun r V2 H => ?_)
    obtain ⟨r2, rfl, H⟩ := H
    refine s_if_eq (tgt := 31) dX8_canCard_17 (by decide) (fun c => ?_) (fun c => ?_)
    · have H := H.1 c
      refine s_iconst (v := 1) dX8_canCard_31 (by decide) ?_
      refine s_goto (tgt := 36) dX8_canCard_32 (by decide) ?_
      exact s_iret dX8_canCard_36 (Or.inr ⟨rfl, (Or.inr rfl)⟩) ⟨rfl, H⟩
    · have H := H.2 c
      refine s_aload_n dX8_canCard_20 rfl ?_
      refine s_iload_n dX8_canCard_21 rfl ?_
      refine s_iconst (v := 3) dX8_canCard_22 (by decide) ?_
      refine s_iconst (v := 4) dX8_canCard_23 (by decide) ?_
      refine t_cV (h := 405) (As := [.int p1, .int 3, .int 4]) (st := []) iv_8_88 dX8_canCard_24 ⟨by decide, by decide⟩ rfl (Nat.le_of_ble_eq_true rfl) (by decide) (by decide) rfl ob_405 H (fun r V3 H => ?_)
      obtain ⟨r3, rfl, H⟩ := H
      refine s_iconst (v := 3) dX8_canCard_27 (by decide) ?_
      refine s_icmp_ge (tgt := 35) dX8_canCard_28 (by decide) (fun c => ?_) (fun c => ?_)
      · have H := H.1 c
        refine s_iconst (v := 0) dX8_canCard_35 (by decide) ?_
        exact s_iret dX8_canCard_36 (Or.inr ⟨rfl, (Or.inl rfl)⟩) ⟨rfl, H⟩
      · have H := H.2 c
        refine s_iconst (v := 1) dX8_canCard_31 (by decide) ?_
        refine s_goto (tgt := 36) dX8_canCard_32 (by decide) ?_
        exact s_iret dX8_canCard_36 (Or.inr ⟨rfl, (Or.inr rfl)⟩) ⟨rfl, H⟩

def F_X8_canChange (J : Nat → Nat → Int64) (p1 : Int32) (p2 : Int32) (p3 : Int32) (V : Nat → Nat → Int32) (Qr : Option Value → (Nat → Nat → Int32) → Prop) (Qx : String → (Nat → Nat → Int32) → Prop) : Prop :=
CTc J mX8_is [.ref 405, .int p1, .int p2, .int 0] V (fun r V1 =>
  ∃ b1 : Bool, r = some (.int (bI b1)) ∧
  ((b1 = false) →
    Qr (some (.int 0)) V1) ∧
  ((b1 = true) →
    CTc J mX8_is [.ref 405, .int p1, .int p3, .int 1] V1 (fun r V2 =>
      ∃ b2 : Bool, r = some (.int (bI b2)) ∧
      ((b2 = false) →
        Qr (some (.int 0)) V2) ∧
      ((b2 = true) →
        vp_in (102 + p1) 110 ∧
        ((5 ≤ (V2 416 (102 + p1).toNatClampNeg)) →
          Qr (some (.int 0)) V2) ∧
        ((¬ 5 ≤ (V2 416 (102 + p1).toNatClampNeg)) →
          Qr (some (.int 1)) V2))) Qx)) Qx
theorem v_X8_canChange {J : Nat → Nat → Int64} (p1 : Int32) (p2 : Int32) (p3 : Int32) {V : Nat → Nat → Int32} {Qr : Option Value → (Nat → Nat → Int32) → Prop} {Qx : String → (Nat → Nat → Int32) → Prop} (H : F_X8_canChange J p1 p2 p3 V Qr Qx) : CTc J mX8_canChange [.ref 405, .int p1, .int p2, .int p3] V Qr Qx := by
  refine ctc_of (M := (T0 J, V)) pX8_canChange (fun _ _ => rfl) (Nat.le_of_ble_eq_true rfl) ?_
  unfold F_X8_canChange at H
  show WPc J mX8_canChange Qr Qx 0 [(0, .ref 405), (1, .int p1), (2, .int p2), (3, .int p3)] [] V 0 0
  refine s_aload_n dX8_canChange_0 rfl ?_
  refine s_iload_n dX8_canChange_1 rfl ?_
  refine s_iload_n dX8_canChange_2 rfl ?_
  refine s_iconst (v := 0) dX8_canChange_3 (by decide) ?_
  refine t_cV (h := 405) (As := [.int p1, .int p2, .int 0]) (st := []) iv_8_85 dX8_canChange_4 ⟨by decide, by decide⟩ rfl (Nat.le_of_ble_eq_true rfl) (by decide) (by decide) rfl ob_405 H (fun r V1 H => ?_)
  obtain ⟨b1, rfl, H⟩ := H
  refine s_if_eq (tgt := 37) dX8_canChange_7 (by decide) (fun c => ?_) (fun c => ?_)
  · have H := H.1 (bI_f c)
    refine s_iconst (v := 0) dX8_canChange_37 (by decide) ?_
    exact s_iret dX8_canChange_38 (Or.inr ⟨rfl, (Or.inl rfl)⟩) ⟨rfl, H⟩
  · have H := H.2 (bI_t c)
    refine s_aload_n dX8_canChange_10 rfl ?_
    refine s_iload_n dX8_canChange_11 rfl ?_
    refine s_iload_n dX8_canChange_12 rfl ?_
    refine s_iconst (v := 1) dX8_canChange_13 (by decide) ?_
    refine t_cV (h := 405) (As := [.int p1, .int p3, .int 1]) (st := []) iv_8_85 dX8_canChange_14 ⟨by decide, by decide⟩ rfl (Nat.le_of_ble_eq_true rfl) (by decide) (by decide) rfl ob_405 H (fun r V2 H => ?_)
    obtain ⟨b2, rfl, H⟩ := H
    refine s_if_eq (tgt := 37) dX8_canChange_17 (by decide) (fun c => ?_) (fun c => ?_)
    · have H := H.1 (bI_f c)
      refine s_iconst (v := 0) dX8_canChange_37 (by decide) ?_
      exact s_iret dX8_canChange_38 (Or.inr ⟨rfl, (Or.inl rfl)⟩) ⟨rfl, H⟩
    · have H := H.2 (bI_t c)
      refine s_aload_n dX8_canChange_20 rfl ?_
      refine t_getR (r := 416) fl_8_41 dX8_canChange_21 ob_405 rfl rfl ?_
      refine s_bipush (v := 102) dX8_canChange_24 (by decide) ?_
      refine s_iload_n dX8_canChange_26 rfl ?_
      refine s_iadd dX8_canChange_27 ?_
      refine t_iald dX8_canChange_28 ap_416 H.1 ?_
      have H := H.2
      refine s_iconst (v := 5) dX8_canChange_29 (by decide) ?_
      refine s_icmp_ge (tgt := 37) dX8_canChange_30 (by decide) (fun c => ?_) (fun c => ?_)
      · have H := H.1 c
        refine s_iconst (v := 0) dX8_canChange_37 (by decide) ?_
        exact s_iret dX8_canChange_38 (Or.inr ⟨rfl, (Or.inl rfl)⟩) ⟨rfl, H⟩
      · have H := H.2 c
        refine s_iconst (v := 1) dX8_canChange_33 (by decide) ?_
        refine s_goto (tgt := 38) dX8_canChange_34 (by decide) ?_
        exact s_iret dX8_canChange_38 (Or.inr ⟨rfl, (Or.inr rfl)⟩) ⟨rfl, H⟩

def F_X8_givesCard_99 (J : Nat → Nat → Int64) (p1 : Int32) (p2 : Int32) (p3 : Int32) (s0 : Int32) (s1 : Int32) (s2 : Int32) (V : Nat → Nat → Int32) (Qr : Option Value → (Nat → Nat → Int32) → Prop) (Qx : String → (Nat → Nat → Int32) → Prop) : Prop :=
vp_in s2 110 ∧
CTc J mX8_looksAtMat [.ref 405, .int p1] (up2 V 416 s2.toNatClampNeg (s1 + s0)) (fun r V1 =>
  r = none ∧
  Qr none V1) Qx
theorem v_X8_givesCard_99 {J : Nat → Nat → Int64} (p1 : Int32) (p2 : Int32) (p3 : Int32) {Qr : Option Value → (Nat → Nat → Int32) → Prop} {Qx : String → (Nat → Nat → Int32) → Prop} (s0 : Int32) (s1 : Int32) (s2 : Int32)  {V : Nat → Nat → Int32} (H : F_X8_givesCard_99 J p1 p2 p3  s0 s1 s2 V Qr Qx) : WPc J mX8_givesCard Qr Qx 99 [(0, .ref 405), (1, .int p1)] [.int s0, .int s1, .int s2, .ref 416] V 0 0 := by
  unfold F_X8_givesCard_99 at H
  refine s_iadd dX8_givesCard_99 ?_
  refine t_iast dX8_givesCard_100 ap_416 H.1 ?_
  have H := H.2
  refine s_aload_n dX8_givesCard_101 rfl ?_
  refine s_iload_n dX8_givesCard_102 rfl ?_
  refine t_cV (h := 405) (As := [.int p1]) (st := []) iv_8_115 dX8_givesCard_103 ⟨by decide, by decide⟩ rfl (Nat.le_of_ble_eq_true rfl) (by decide) (by decide) rfl ob_405 H (fun r V1 H => ?_)
  obtain ⟨rfl, H⟩ := H
  exact s_vret dX8_givesCard_106 rfl ⟨rfl, H⟩
def F_X8_givesCard_56 (J : Nat → Nat → Int64) (p1 : Int32) (p2 : Int32) (p3 : Int32) (x4 : Int32) (x5 : Int32) (s0 : Int32) (s1 : Int32) (V : Nat → Nat → Int32) (Qr : Option Value → (Nat → Nat → Int32) → Prop) (Qx : String → (Nat → Nat → Int32) → Prop) : Prop :=
vp_in s1 110 ∧
vp_in (20 + x5) 110 ∧
vp_in (105 - p1) 110 ∧
((¬ x4 = 2) →
  F_X8_givesCard_99 J p1 p2 p3  0 ((up2 (up2 V 416 s1.toNatClampNeg s0) 416 (20 + x5).toNatClampNeg (((up2 V 416 s1.toNatClampNeg s0) 416 108) + 1200)) 416 (105 - p1).toNatClampNeg) (105 - p1) (up2 (up2 V 416 s1.toNatClampNeg s0) 416 (20 + x5).toNatClampNeg (((up2 V 416 s1.toNatClampNeg s0) 416 108) + 1200)) Qr Qx) ∧
((x4 = 2) →
  F_X8_givesCard_99 J p1 p2 p3  1 ((up2 (up2 V 416 s1.toNatClampNeg s0) 416 (20 + x5).toNatClampNeg (((up2 V 416 s1.toNatClampNeg s0) 416 108) + 1200)) 416 (105 - p1).toNatClampNeg) (105 - p1) (up2 (up2 V 416 s1.toNatClampNeg s0) 416 (20 + x5).toNatClampNeg (((up2 V 416 s1.toNatClampNeg s0) 416 108) + 1200)) Qr Qx)
theorem v_X8_givesCard_56 {J : Nat → Nat → Int64} (p1 : Int32) (p2 : Int32) (p3 : Int32) {Qr : Option Value → (Nat → Nat → Int32) → Prop} {Qx : String → (Nat → Nat → Int32) → Prop} (x4 : Int32) (x5 : Int32) (s0 : Int32) (s1 : Int32)  {V : Nat → Nat → Int32} (H : F_X8_givesCard_56 J p1 p2 p3  x4 x5 s0 s1 V Qr Qx) : WPc J mX8_givesCard Qr Qx 56 [(0, .ref 405), (1, .int p1), (4, .int x4), (5, .int x5)] [.int s0, .int s1, .ref 416] V 0 0 := by
  unfold F_X8_givesCard_56 at H
  refine t_iast dX8_givesCard_56 ap_416 H.1 ?_
  have H := H.2
  refine s_aload_n dX8_givesCard_57 rfl ?_
  refine t_getR (r := 416) fl_8_41 dX8_givesCard_58 ob_405 rfl rfl ?_
  refine s_bipush (v := 20) dX8_givesCard_61 (by decide) ?_
  refine s_iload dX8_givesCard_63 rfl ?_
  refine s_iadd dX8_givesCard_65 ?_
  refine s_aload_n dX8_givesCard_66 rfl ?_
  refine t_getR (r := 416) fl_8_41 dX8_givesCard_67 ob_405 rfl rfl ?_
  refine s_bipush (v := 108) dX8_givesCard_70 (by decide) ?_
  refine t_iald dX8_givesCard_72 ap_416 (vp_of (by decide)) ?_
  refine s_sipush (v := 1200) dX8_givesCard_73 (by decide) ?_
  refine s_iadd dX8_givesCard_76 ?_
  refine t_iast dX8_givesCard_77 ap_416 H.1 ?_
  have H := H.2
  refine s_aload_n dX8_givesCard_78 rfl ?_
  refine t_getR (r := 416) fl_8_41 dX8_givesCard_79 ob_405 rfl rfl ?_
  refine s_bipush (v := 105) dX8_givesCard_82 (by decide) ?_
  refine s_iload_n dX8_givesCard_84 rfl ?_
  refine s_isub dX8_givesCard_85 ?_
  refine s_dup2 dX8_givesCard_86 rfl rfl ?_
  refine t_iald dX8_givesCard_87 ap_416 H.1 ?_
  have H := H.2
  refine s_iload dX8_givesCard_88 rfl ?_
  refine s_iconst (v := 2) dX8_givesCard_90 (by decide) ?_
  refine s_icmp_ne (tgt := 98) dX8_givesCard_91 (by decide) (fun c => ?_) (fun c => ?_)
  · have H := H.1 c
    refine s_iconst (v := 0) dX8_givesCard_98 (by decide) ?_
    exact t_loc [0, 1] rfl (v_X8_givesCard_99 p1 p2 p3    0 ((up2 (up2 V 416 s1.toNatClampNeg s0) 416 (20 + x5).toNatClampNeg (((up2 V 416 s1.toNatClampNeg s0) 416 108) + 1200)) 416 (105 - p1).toNatClampNeg) (105 - p1)  H)
  · have H := H.2 c
    refine s_iconst (v := 1) dX8_givesCard_94 (by decide) ?_
    refine s_goto (tgt := 99) dX8_givesCard_95 (by decide) ?_
    exact t_loc [0, 1] rfl (v_X8_givesCard_99 p1 p2 p3    1 ((up2 (up2 V 416 s1.toNatClampNeg s0) 416 (20 + x5).toNatClampNeg (((up2 V 416 s1.toNatClampNeg s0) 416 108) + 1200)) 416 (105 - p1).toNatClampNeg) (105 - p1)  H)
def F_X8_givesCard (J : Nat → Nat → Int64) (p1 : Int32) (p2 : Int32) (p3 : Int32) (V : Nat → Nat → Int32) (Qr : Option Value → (Nat → Nat → Int32) → Prop) (Qx : String → (Nat → Nat → Int32) → Prop) : Prop :=
CTc J mX8_colourFor [.ref 405, .int p1, .int p2, .int p3] V (fun r V1 =>
  ∃ r1 : Int32, r = some (.int r1) ∧
  vp_in (40 + ((10 * p1) + p2)) 110 ∧
  vp_in (40 + ((10 * p1) + p2)) 110 ∧
  ((r1 ≤ 0) →
    Qr none (up2 V1 416 (40 + ((10 * p1) + p2)).toNatClampNeg ((V1 416 (40 + ((10 * p1) + p2)).toNatClampNeg) ||| (1 <<< (r1 &&& 31))))) ∧
  ((¬ r1 ≤ 0) →
    ((¬ r1 = 1) →
      F_X8_givesCard_56 J p1 p2 p3  r1 ((10 * p1) + p2) 4 ((10 * p1) + p2) (up2 V1 416 (40 + ((10 * p1) + p2)).toNatClampNeg ((V1 416 (40 + ((10 * p1) + p2)).toNatClampNeg) ||| (1 <<< (r1 &&& 31)))) Qr Qx) ∧
    ((r1 = 1) →
      F_X8_givesCard_56 J p1 p2 p3  r1 ((10 * p1) + p2) 3 ((10 * p1) + p2) (up2 V1 416 (40 + ((10 * p1) + p2)).toNatClampNeg ((V1 416 (40 + ((10 * p1) + p2)).toNatClampNeg) ||| (1 <<< (r1 &&& 31)))) Qr Qx))) Qx
theorem v_X8_givesCard {J : Nat → Nat → Int64} (p1 : Int32) (p2 : Int32) (p3 : Int32) {V : Nat → Nat → Int32} {Qr : Option Value → (Nat → Nat → Int32) → Prop} {Qx : String → (Nat → Nat → Int32) → Prop} (H : F_X8_givesCard J p1 p2 p3 V Qr Qx) : CTc J mX8_givesCard [.ref 405, .int p1, .int p2, .int p3] V Qr Qx := by
  refine ctc_of (M := (T0 J, V)) pX8_givesCard (fun _ _ => rfl) (Nat.le_of_ble_eq_true rfl) ?_
  unfold F_X8_givesCard at H
  show WPc J mX8_givesCard Qr Qx 0 [(0, .ref 405), (1, .int p1), (2, .int p2), (3, .int p3)] [] V 0 0
  refine s_aload_n dX8_givesCard_0 rfl ?_
  refine s_iload_n dX8_givesCard_1 rfl ?_
  refine s_iload_n dX8_givesCard_2 rfl ?_
  refine s_iload_n dX8_givesCard_3 rfl ?_
  refine t_cV (h := 405) (As := [.int p1, .int p2, .int p3]) (st := []) iv_8_121 dX8_givesCard_4 ⟨by decide, by decide⟩ rfl (Nat.le_of_ble_eq_true rfl) (by decide) (by decide) rfl ob_405 H (fun r V1 H => ?_)
  obtain ⟨r1, rfl, H⟩ := H
  refine t_istore (L' := [(4, .int r1), (0, .ref 405), (1, .int p1), (2, .int p2), (3, .int p3)]) dX8_givesCard_7 (by decide) rfl ?_
  refine s_bipush (v := 10) dX8_givesCard_9 (by decide) ?_
  refine s_iload_n dX8_givesCard_11 rfl ?_
  refine s_imul dX8_givesCard_12 ?_
  refine s_iload_n dX8_givesCard_13 rfl ?_
  refine s_iadd dX8_givesCard_14 ?_
  refine t_istore (L' := [(5, .int ((10 * p1) + p2)), (4, .int r1), (0, .ref 405), (1, .int p1), (2, .int p2), (3, .int p3)]) dX8_givesCard_15 (by decide) rfl ?_
  refine s_aload_n dX8_givesCard_17 rfl ?_
  refine t_getR (r := 416) fl_8_41 dX8_givesCard_18 ob_405 rfl rfl ?_
  refine s_bipush (v := 40) dX8_givesCard_21 (by decide) ?_
  refine s_iload dX8_givesCard_23 rfl ?_
  refine s_iadd dX8_givesCard_25 ?_
  refine s_dup2 dX8_givesCard_26 rfl rfl ?_
  refine t_iald dX8_givesCard_27 ap_416 H.1 ?_
  have H := H.2
  refine s_iconst (v := 1) dX8_givesCard_28 (by decide) ?_
  refine s_iload dX8_givesCard_29 rfl ?_
  refine s_ishl dX8_givesCard_31 ?_
  refine s_ior dX8_givesCard_32 ?_
  refine t_iast dX8_givesCard_33 ap_416 H.1 ?_
  have H := H.2
  refine s_iload dX8_givesCard_34 rfl ?_
  refine s_if_le (tgt := 106) dX8_givesCard_36 (by decide) (fun c => ?_) (fun c => ?_)
  · have H := H.1 c
    exact s_vret dX8_givesCard_106 rfl ⟨rfl, H⟩
  · have H := H.2 c
    refine s_aload_n dX8_givesCard_39 rfl ?_
    refine t_getR (r := 416) fl_8_41 dX8_givesCard_40 ob_405 rfl rfl ?_
    refine s_iload dX8_givesCard_43 rfl ?_
    refine s_iload dX8_givesCard_45 rfl ?_
    refine s_iconst (v := 1) dX8_givesCard_47 (by decide) ?_
    refine s_icmp_ne (tgt := 55) dX8_givesCard_48 (by decide) (fun c => ?_) (fun c => ?_)
    · have H := H.1 c
      refine s_iconst (v := 4) dX8_givesCard_55 (by decide) ?_
      exact t_loc [2, 3, 1, 0] rfl (v_X8_givesCard_56 p1 p2 p3    r1 ((10 * p1) + p2) 4 ((10 * p1) + p2)  H)
    · have H := H.2 c
      refine s_iconst (v := 3) dX8_givesCard_51 (by decide) ?_
      refine s_goto (tgt := 56) dX8_givesCard_52 (by decide) ?_
      exact t_loc [2, 3, 1, 0] rfl (v_X8_givesCard_56 p1 p2 p3    r1 ((10 * p1) + p2) 3 ((10 * p1) + p2)  H)

def F_X8_follows_52 (J : Nat → Nat → Int64) (p1 : Int32) (K24 : Int32 → Int32 → (Nat → Nat → Int32) → Prop) (x3 : Int32) (s0 : Int32) (V : Nat → Nat → Int32) (Qr : Option Value → (Nat → Nat → Int32) → Prop) (Qx : String → (Nat → Nat → Int32) → Prop) : Prop :=
K24 s0 (x3 + 1) V
theorem v_X8_follows_52 {J : Nat → Nat → Int64} (p1 : Int32) {Qr : Option Value → (Nat → Nat → Int32) → Prop} {Qx : String → (Nat → Nat → Int32) → Prop} (K24 : Int32 → Int32 → (Nat → Nat → Int32) → Prop) (hK24 : ∀ (x2 : Int32) (x3 : Int32)  (V : Nat → Nat → Int32), K24 x2 x3 V → WPc J mX8_follows Qr Qx 24 [(0, .ref 405), (1, .int p1), (2, .int x2), (3, .int x3)] [] V 0 0) (x3 : Int32) (s0 : Int32)  {V : Nat → Nat → Int32} (H : F_X8_follows_52 J p1 K24 x3 s0 V Qr Qx) : WPc J mX8_follows Qr Qx 52 [(0, .ref 405), (1, .int p1), (3, .int x3)] [.int s0] V 0 0 := by
  unfold F_X8_follows_52 at H
  refine t_istore_n (L' := [(2, .int s0), (0, .ref 405), (1, .int p1), (3, .int x3)]) dX8_follows_52 (by decide) rfl ?_
  refine t_iinc (v := (x3 + 1)) (L' := [(3, .int (x3 + 1)), (2, .int s0), (0, .ref 405), (1, .int p1)]) dX8_follows_53 rfl (by rfl) (by decide) rfl ?_
  refine s_goto (tgt := 24) dX8_follows_56 (by decide) ?_
  exact t_loc [2, 3, 1, 0] rfl (hK24 s0 (x3 + 1)  V H)
def F_X8_follows_51 (J : Nat → Nat → Int64) (p1 : Int32) (K24 : Int32 → Int32 → (Nat → Nat → Int32) → Prop) (x3 : Int32) (V : Nat → Nat → Int32) (Qr : Option Value → (Nat → Nat → Int32) → Prop) (Qx : String → (Nat → Nat → Int32) → Prop) : Prop :=
F_X8_follows_52 J p1 K24 x3 0 V Qr Qx
theorem v_X8_follows_51 {J : Nat → Nat → Int64} (p1 : Int32) {Qr : Option Value → (Nat → Nat → Int32) → Prop} {Qx : String → (Nat → Nat → Int32) → Prop} (K24 : Int32 → Int32 → (Nat → Nat → Int32) → Prop) (hK24 : ∀ (x2 : Int32) (x3 : Int32)  (V : Nat → Nat → Int32), K24 x2 x3 V → WPc J mX8_follows Qr Qx 24 [(0, .ref 405), (1, .int p1), (2, .int x2), (3, .int x3)] [] V 0 0) (x3 : Int32)  {V : Nat → Nat → Int32} (H : F_X8_follows_51 J p1 K24 x3 V Qr Qx) : WPc J mX8_follows Qr Qx 51 [(0, .ref 405), (1, .int p1), (3, .int x3)] [] V 0 0 := by
  unfold F_X8_follows_51 at H
  refine s_iconst (v := 0) dX8_follows_51 (by decide) ?_
  exact t_loc [0, 1, 2] rfl (v_X8_follows_52 p1  K24 hK24 x3 0  H)
def B_X8_follows_24 (J : Nat → Nat → Int64) (p1 : Int32) (K24 : Int32 → Int32 → (Nat → Nat → Int32) → Prop) (x2 : Int32) (x3 : Int32) (V : Nat → Nat → Int32) (Qr : Option Value → (Nat → Nat → Int32) → Prop) (Qx : String → (Nat → Nat → Int32) → Prop) : Prop :=
vp_in p1 60 ∧
(((V 412 p1.toNatClampNeg) ≤ x3) →
  ((x2 = 0) →
    CTc J mX8_notes [.ref 405, .int p1] V (fun r V1 =>
      r = none ∧
      (x2 = 0 ∨ x2 = 1) ∧ Qr (some (.int x2)) V1) Qx) ∧
  ((¬ x2 = 0) →
    CTc J mX8_endsRaid [.ref 405, .int p1] V (fun r V1 =>
      r = none ∧
      CTc J mX8_notes [.ref 405, .int p1] V1 (fun r V2 =>
        r = none ∧
        (x2 = 0 ∨ x2 = 1) ∧ Qr (some (.int x2)) V2) Qx) Qx)) ∧
((¬ (V 412 p1.toNatClampNeg) ≤ x3) →
  ((x2 = 0) →
    F_X8_follows_51 J p1 K24 x3 V Qr Qx) ∧
  ((¬ x2 = 0) →
    CTc J mX8_canStep [.ref 405, .int p1, .int x3] V (fun r V1 =>
      ∃ b1 : Bool, r = some (.int (bI b1)) ∧
      ((b1 = false) →
        F_X8_follows_51 J p1 K24 x3 V1 Qr Qx) ∧
      ((b1 = true) →
        F_X8_follows_52 J p1 K24 x3 1 V1 Qr Qx)) Qx))
def F_X8_follows_24 (J : Nat → Nat → Int64) (p1 : Int32) (x2 : Int32) (x3 : Int32) (V : Nat → Nat → Int32) (Qr : Option Value → (Nat → Nat → Int32) → Prop) (Qx : String → (Nat → Nat → Int32) → Prop) : Prop :=
  ∃ I : Nat → Int32 → Int32 → (Nat → Nat → Int32) → Prop, (∃ n, I n x2 x3 V) ∧ ∀ n (x2 : Int32) (x3 : Int32) (V : Nat → Nat → Int32), I n x2 x3 V → B_X8_follows_24 J p1  (fun x2 x3 V => ∃ n', n' < n ∧ I n' x2 x3 V) x2 x3 V Qr Qx
theorem v_X8_follows_24 {J : Nat → Nat → Int64} (p1 : Int32) {Qr : Option Value → (Nat → Nat → Int32) → Prop} {Qx : String → (Nat → Nat → Int32) → Prop} (x2 : Int32) (x3 : Int32)  {V : Nat → Nat → Int32} (H : F_X8_follows_24 J p1  x2 x3 V Qr Qx) : WPc J mX8_follows Qr Qx 24 [(0, .ref 405), (1, .int p1), (2, .int x2), (3, .int x3)] [] V 0 0 := by
  obtain ⟨I, ⟨n0, h0⟩, hs⟩ := H
  have step : ∀ (K24 : Int32 → Int32 → (Nat → Nat → Int32) → Prop), (∀ (x2 : Int32) (x3 : Int32)  (V : Nat → Nat → Int32), K24 x2 x3 V → WPc J mX8_follows Qr Qx 24 [(0, .ref 405), (1, .int p1), (2, .int x2), (3, .int x3)] [] V 0 0) → ∀ (x2 : Int32) (x3 : Int32)  (V : Nat → Nat → Int32), B_X8_follows_24 J p1  K24 x2 x3 V Qr Qx → WPc J mX8_follows Qr Qx 24 [(0, .ref 405), (1, .int p1), (2, .int x2), (3, .int x3)] [] V 0 0 := by
    intro K24 hK24 x2 x3  V H
    unfold B_X8_follows_24 at H
    refine s_iload_n dX8_follows_24 rfl ?_
    refine s_aload_n dX8_follows_25 rfl ?_
    refine t_getR (r := 412) fl_8_29 dX8_follows_26 ob_405 rfl rfl ?_
    refine s_iload_n dX8_follows_29 rfl ?_
    refine t_iald dX8_follows_30 ap_412 H.1 ?_
    have H := H.2
    refine s_icmp_ge (tgt := 59) dX8_follows_31 (by decide) (fun c => ?_) (fun c => ?_)
    · have H := H.1 c
      refine s_iload_n dX8_follows_59 rfl ?_
      refine s_if_eq (tgt := 222) dX8_follows_60 (by decide) (fun c => ?_) (fun c => ?_)
      · have H := H.1 c
        refine s_aload_n dX8_follows_222 rfl ?_
        refine s_iload_n dX8_follows_223 rfl ?_
        refine t_cV (h := 405) (As := [.int p1]) (st := []) iv_8_144 dX8_follows_224 ⟨by decide, by decide⟩ rfl (Nat.le_of_ble_eq_true rfl) (by decide) (by decide) rfl ob_405 H (fun r V1 H => ?_)
        obtain ⟨rfl, H⟩ := H
        refine s_iload_n dX8_follows_227 rfl ?_
        exact s_iret dX8_follows_228 (Or.inr ⟨rfl, H.1⟩) ⟨rfl, H.2⟩
      · have H := H.2 c
        refine s_aload_n dX8_follows_63 rfl ?_
        refine s_iload_n dX8_follows_64 rfl ?_
        refine t_cV (h := 405) (As := [.int p1]) (st := []) iv_8_132 dX8_follows_65 ⟨by decide, by decide⟩ rfl (Nat.le_of_ble_eq_true rfl) (by decide) (by decide) rfl ob_405 H (fun r V1 H => ?_)
        obtain ⟨rfl, H⟩ := H
        refine s_goto (tgt := 222) dX8_follows_68 (by decide) ?_
        refine s_aload_n dX8_follows_222 rfl ?_
        refine s_iload_n dX8_follows_223 rfl ?_
        refine t_cV (h := 405) (As := [.int p1]) (st := []) iv_8_144 dX8_follows_224 ⟨by decide, by decide⟩ rfl (Nat.le_of_ble_eq_true rfl) (by decide) (by decide) rfl ob_405 H (fun r V2 H => ?_)
        obtain ⟨rfl, H⟩ := H
        refine s_iload_n dX8_follows_227 rfl ?_
        exact s_iret dX8_follows_228 (Or.inr ⟨rfl, H.1⟩) ⟨rfl, H.2⟩
    · have H := H.2 c
      refine s_iload_n dX8_follows_34 rfl ?_
      refine s_if_eq (tgt := 51) dX8_follows_35 (by decide) (fun c => ?_) (fun c => ?_)
      · have H := H.1 c
        exact t_loc [0, 1, 3] rfl (v_X8_follows_51 p1  K24 hK24 x3  H)
      · have H := H.2 c
        refine s_aload_n dX8_follows_38 rfl ?_
        refine s_iload_n dX8_follows_39 rfl ?_
        refine s_iload_n dX8_follows_40 rfl ?_
        refine t_cV (h := 405) (As := [.int p1, .int x3]) (st := []) iv_8_128 dX8_follows_41 ⟨by decide, by decide⟩ rfl (Nat.le_of_ble_eq_true rfl) (by decide) (by decide) rfl ob_405 H (fun r V1 H => ?_)
        obtain ⟨b1, rfl, H⟩ := H
        refine s_if_eq (tgt := 51) dX8_follows_44 (by decide) (fun c => ?_) (fun c => ?_)
        · have H := H.1 (bI_f c)
          exact t_loc [0, 1, 3] rfl (v_X8_follows_51 p1  K24 hK24 x3  H)
        · have H := H.2 (bI_t c)
          refine s_iconst (v := 1) dX8_follows_47 (by decide) ?_
          refine s_goto (tgt := 52) dX8_follows_48 (by decide) ?_
          exact t_loc [0, 1, 3] rfl (v_X8_follows_52 p1  K24 hK24 x3 1  H)
  have key : ∀ n, ∀ (x2 : Int32) (x3 : Int32)  (V : Nat → Nat → Int32), I n x2 x3 V → WPc J mX8_follows Qr Qx 24 [(0, .ref 405), (1, .int p1), (2, .int x2), (3, .int x3)] [] V 0 0 := by
    refine strong (fun n ih => ?_)
    intro x2 x3  V hI
    exact step _ (fun x2 x3  V hz => Exists.elim hz (fun n1 hz => ih n1 hz.1 x2 x3  V hz.2)) x2 x3  V (hs n x2 x3 V hI)
  exact key n0 x2 x3  V h0
def F_X8_follows (J : Nat → Nat → Int64) (p1 : Int32) (V : Nat → Nat → Int32) (Qr : Option Value → (Nat → Nat → Int32) → Prop) (Qx : String → (Nat → Nat → Int32) → Prop) : Prop :=
vp_in p1 60 ∧
((¬ (V 408 p1.toNatClampNeg) = 0) →
  vp_in p1 60 ∧
  ((¬ (V 408 p1.toNatClampNeg) = 1) →
    vp_in p1 60 ∧
    vp_in p1 60 ∧
    vp_in p1 60 ∧
    CTc J mX8_canChange [.ref 405, .int (V 409 p1.toNatClampNeg), .int (V 410 p1.toNatClampNeg), .int (V 411 p1.toNatClampNeg)] V (fun r V1 =>
      ∃ b1 : Bool, r = some (.int (bI b1)) ∧
      ((b1 = false) →
        CTc J mX8_notes [.ref 405, .int p1] V1 (fun r V2 =>
          r = none ∧
          Qr (some (.int (bI b1))) V2) Qx) ∧
      ((b1 = true) →
        vp_in p1 60 ∧
        vp_in p1 60 ∧
        vp_in ((10 * (V1 409 p1.toNatClampNeg)) + (V1 410 p1.toNatClampNeg)) 110 ∧
        vp_in p1 60 ∧
        vp_in p1 60 ∧
        vp_in ((10 * ((up2 V1 416 ((10 * (V1 409 p1.toNatClampNeg)) + (V1 410 p1.toNatClampNeg)).toNatClampNeg 1) 409 p1.toNatClampNeg)) + ((up2 V1 416 ((10 * (V1 409 p1.toNatClampNeg)) + (V1 410 p1.toNatClampNeg)).toNatClampNeg 1) 411 p1.toNatClampNeg)) 110 ∧
        vp_in p1 60 ∧
        vp_in (102 + ((up2 (up2 V1 416 ((10 * (V1 409 p1.toNatClampNeg)) + (V1 410 p1.toNatClampNeg)).toNatClampNeg 1) 416 ((10 * ((up2 V1 416 ((10 * (V1 409 p1.toNatClampNeg)) + (V1 410 p1.toNatClampNeg)).toNatClampNeg 1) 409 p1.toNatClampNeg)) + ((up2 V1 416 ((10 * (V1 409 p1.toNatClampNeg)) + (V1 410 p1.toNatClampNeg)).toNatClampNeg 1) 411 p1.toNatClampNeg)).toNatClampNeg 0) 409 p1.toNatClampNeg)) 110 ∧
        vp_in (102 + ((up2 (up2 V1 416 ((10 * (V1 409 p1.toNatClampNeg)) + (V1 410 p1.toNatClampNeg)).toNatClampNeg 1) 416 ((10 * ((up2 V1 416 ((10 * (V1 409 p1.toNatClampNeg)) + (V1 410 p1.toNatClampNeg)).toNatClampNeg 1) 409 p1.toNatClampNeg)) + ((up2 V1 416 ((10 * (V1 409 p1.toNatClampNeg)) + (V1 410 p1.toNatClampNeg)).toNatClampNeg 1) 411 p1.toNatClampNeg)).toNatClampNeg 0) 409 p1.toNatClampNeg)) 110 ∧
        CTc J mX8_notes [.ref 405, .int p1] (up2 (up2 (up2 V1 416 ((10 * (V1 409 p1.toNatClampNeg)) + (V1 410 p1.toNatClampNeg)).toNatClampNeg 1) 416 ((10 * ((up2 V1 416 ((10 * (V1 409 p1.toNatClampNeg)) + (V1 410 p1.toNatClampNeg)).toNatClampNeg 1) 409 p1.toNatClampNeg)) + ((up2 V1 416 ((10 * (V1 409 p1.toNatClampNeg)) + (V1 410 p1.toNatClampNeg)).toNatClampNeg 1) 411 p1.toNatClampNeg)).toNatClampNeg 0) 416 (102 + ((up2 (up2 V1 416 ((10 * (V1 409 p1.toNatClampNeg)) + (V1 410 p1.toNatClampNeg)).toNatClampNeg 1) 416 ((10 * ((up2 V1 416 ((10 * (V1 409 p1.toNatClampNeg)) + (V1 410 p1.toNatClampNeg)).toNatClampNeg 1) 409 p1.toNatClampNeg)) + ((up2 V1 416 ((10 * (V1 409 p1.toNatClampNeg)) + (V1 410 p1.toNatClampNeg)).toNatClampNeg 1) 411 p1.toNatClampNeg)).toNatClampNeg 0) 409 p1.toNatClampNeg)).toNatClampNeg (((up2 (up2 V1 416 ((10 * (V1 409 p1.toNatClampNeg)) + (V1 410 p1.toNatClampNeg)).toNatClampNeg 1) 416 ((10 * ((up2 V1 416 ((10 * (V1 409 p1.toNatClampNeg)) + (V1 410 p1.toNatClampNeg)).toNatClampNeg 1) 409 p1.toNatClampNeg)) + ((up2 V1 416 ((10 * (V1 409 p1.toNatClampNeg)) + (V1 410 p1.toNatClampNeg)).toNatClampNeg 1) 411 p1.toNatClampNeg)).toNatClampNeg 0) 416 (102 + ((up2 (up2 V1 416 ((10 * (V1 409 p1.toNatClampNeg)) + (V1 410 p1.toNatClampNeg)).toNatClampNeg 1) 416 ((10 * ((up2 V1 416 ((10 * (V1 409 p1.toNatClampNeg)) + (V1 410 p1.toNatClampNeg)).toNatClampNeg 1) 409 p1.toNatClampNeg)) + ((up2 V1 416 ((10 * (V1 409 p1.toNatClampNeg)) + (V1 410 p1.toNatClampNeg)).toNatClampNeg 1) 411 p1.toNatClampNeg)).toNatClampNeg 0) 409 p1.toNatClampNeg)).toNatClampNeg) + 1)) (fun r V2 =>
          r = none ∧
          Qr (some (.int (bI b1))) V2) Qx)) Qx) ∧
  (((V 408 p1.toNatClampNeg) = 1) →
    vp_in p1 60 ∧
    vp_in p1 60 ∧
    vp_in p1 60 ∧
    CTc J mX8_canCard [.ref 405, .int (V 409 p1.toNatClampNeg), .int (V 410 p1.toNatClampNeg), .int (V 411 p1.toNatClampNeg)] V (fun r V1 =>
      ∃ b1 : Bool, r = some (.int (bI b1)) ∧
      ((b1 = false) →
        CTc J mX8_notes [.ref 405, .int p1] V1 (fun r V2 =>
          r = none ∧
          Qr (some (.int (bI b1))) V2) Qx) ∧
      ((b1 = true) →
        vp_in p1 60 ∧
        vp_in p1 60 ∧
        vp_in p1 60 ∧
        CTc J mX8_givesCard [.ref 405, .int (V1 409 p1.toNatClampNeg), .int (V1 410 p1.toNatClampNeg), .int (V1 411 p1.toNatClampNeg)] V1 (fun r V2 =>
          r = none ∧
          CTc J mX8_notes [.ref 405, .int p1] V2 (fun r V3 =>
            r = none ∧
            Qr (some (.int (bI b1))) V3) Qx) Qx)) Qx)) ∧
(((V 408 p1.toNatClampNeg) = 0) →
  vp_in p1 60 ∧
  CTc J mX8_canRaid [.ref 405, .int (V 409 p1.toNatClampNeg)] V (fun r V1 =>
    ∃ b1 : Bool, r = some (.int (bI b1)) ∧
    F_X8_follows_24 J p1  (bI b1) 0 V1 Qr Qx) Qx)
theorem v_X8_follows {J : Nat → Nat → Int64} (p1 : Int32) {V : Nat → Nat → Int32} {Qr : Option Value → (Nat → Nat → Int32) → Prop} {Qx : String → (Nat → Nat → Int32) → Prop} (H : F_X8_follows J p1 V Qr Qx) : CTc J mX8_follows [.ref 405, .int p1] V Qr Qx := by
  refine ctc_of (M := (T0 J, V)) pX8_follows (fun _ _ => rfl) (Nat.le_of_ble_eq_true rfl) ?_
  unfold F_X8_follows at H
  show WPc J mX8_follows Qr Qx 0 [(0, .ref 405), (1, .int p1)] [] V 0 0
  refine s_iconst (v := 1) dX8_follows_0 (by decide) ?_
  refine t_istore_n (L' := [(2, .int 1), (0, .ref 405), (1, .int p1)]) dX8_follows_1 (by decide) rfl ?_
  refine s_aload_n dX8_follows_2 rfl ?_
  refine t_getR (r := 408) fl_8_17 dX8_follows_3 ob_405 rfl rfl ?_
  refine s_iload_n dX8_follows_6 rfl ?_
  refine t_iald dX8_follows_7 ap_408 H.1 ?_
  have H := H.2
  refine s_if_ne (tgt := 71) dX8_follows_8 (by decide) (fun c => ?_) (fun c => ?_)
  · have H := H.1 c
    refine s_aload_n dX8_follows_71 rfl ?_
    refine t_getR (r := 408) fl_8_17 dX8_follows_72 ob_405 rfl rfl ?_
    refine s_iload_n dX8_follows_75 rfl ?_
    refine t_iald dX8_follows_76 ap_408 H.1 ?_
    have H := H.2
    refine s_iconst (v := 1) dX8_follows_77 (by decide) ?_
    refine s_icmp_ne (tgt := 133) dX8_follows_78 (by decide) (fun c => ?_) (fun c => ?_)
    · have H := H.1 c
      refine s_aload_n dX8_follows_133 rfl ?_
      refine s_aload_n dX8_follows_134 rfl ?_
      refine t_getR (r := 409) fl_8_20 dX8_follows_135 ob_405 rfl rfl ?_
      refine s_iload_n dX8_follows_138 rfl ?_
      refine t_iald dX8_follows_139 ap_409 H.1 ?_
      have H := H.2
      refine s_aload_n dX8_follows_140 rfl ?_
      refine t_getR (r := 410) fl_8_23 dX8_follows_141 ob_405 rfl rfl ?_
      refine s_iload_n dX8_follows_144 rfl ?_
      refine t_iald dX8_follows_145 ap_410 H.1 ?_
      have H := H.2
      refine s_aload_n dX8_follows_146 rfl ?_
      refine t_getR (r := 411) fl_8_26 dX8_follows_147 ob_405 rfl rfl ?_
      refine s_iload_n dX8_follows_150 rfl ?_
      refine t_iald dX8_follows_151 ap_411 H.1 ?_
      have H := H.2
      refine t_cV (h := 405) (As := [.int (V 409 p1.toNatClampNeg), .int (V 410 p1.toNatClampNeg), .int (V 411 p1.toNatClampNeg)]) (st := []) iv_8_141 dX8_follows_152 ⟨by decide, by decide⟩ rfl (Nat.le_of_ble_eq_true rfl) (by decide) (by decide) rfl ob_405 H (fun r V1 H => ?_)
      obtain ⟨b1, rfl, H⟩ := H
      refine t_istore_n (L' := [(2, .int (bI b1)), (0, .ref 405), (1, .int p1)]) dX8_follows_155 (by decide) rfl ?_
      refine s_iload_n dX8_follows_156 rfl ?_
      refine s_if_eq (tgt := 222) dX8_follows_157 (by decide) (fun c => ?_) (fun c => ?_)
      · have H := H.1 (bI_f c)
        refine s_aload_n dX8_follows_222 rfl ?_
        refine s_iload_n dX8_follows_223 rfl ?_
        refine t_cV (h := 405) (As := [.int p1]) (st := []) iv_8_144 dX8_follows_224 ⟨by decide, by decide⟩ rfl (Nat.le_of_ble_eq_true rfl) (by decide) (by decide) rfl ob_405 H (fun r V2 H => ?_)
        obtain ⟨rfl, H⟩ := H
        refine s_iload_n dX8_follows_227 rfl ?_
        exact s_iret dX8_follows_228 (Or.inr ⟨rfl, (bI_01 b1)⟩) ⟨rfl, H⟩
      · have H := H.2 (bI_t c)
        refine s_aload_n dX8_follows_160 rfl ?_
        refine t_getR (r := 416) fl_8_41 dX8_follows_161 ob_405 rfl rfl ?_
        refine s_bipush (v := 10) dX8_follows_164 (by decide) ?_
        refine s_aload_n dX8_follows_166 rfl ?_
        refine t_getR (r := 409) fl_8_20 dX8_follows_167 ob_405 rfl rfl ?_
        refine s_iload_n dX8_follows_170 rfl ?_
        refine t_iald dX8_follows_171 ap_409 H.1 ?_
        have H := H.2
        refine s_imul dX8_follows_172 ?_
        refine s_aload_n dX8_follows_173 rfl ?_
        refine t_getR (r := 410) fl_8_23 dX8_follows_174 ob_405 rfl rfl ?_
        refine s_iload_n dX8_follows_177 rfl ?_
        refine t_iald dX8_follows_178 ap_410 H.1 ?_
        have H := H.2
        refine s_iadd dX8_follows_179 ?_
        refine s_iconst (v := 1) dX8_follows_180 (by decide) ?_
        refine t_iast dX8_follows_181 ap_416 H.1 ?_
        have H := H.2
        refine s_aload_n dX8_follows_182 rfl ?_
        refine t_getR (r := 416) fl_8_41 dX8_follows_183 ob_405 rfl rfl ?_
        refine s_bipush (v := 10) dX8_follows_186 (by decide) ?_
        refine s_aload_n dX8_follows_188 rfl ?_
        refine t_getR (r := 409) fl_8_20 dX8_follows_189 ob_405 rfl rfl ?_
        refine s_iload_n dX8_follows_192 rfl ?_
        refine t_iald dX8_follows_193 ap_409 H.1 ?_
        have H := H.2
        refine s_imul dX8_follows_194 ?_
        refine s_aload_n dX8_follows_195 rfl ?_
        refine t_getR (r := 411) fl_8_26 dX8_follows_196 ob_405 rfl rfl ?_
        refine s_iload_n dX8_follows_199 rfl ?_
        refine t_iald dX8_follows_200 ap_411 H.1 ?_
        have H := H.2
        refine s_iadd dX8_follows_201 ?_
        refine s_iconst (v := 0) dX8_follows_202 (by decide) ?_
        refine t_iast dX8_follows_203 ap_416 H.1 ?_
        have H := H.2
        refine s_aload_n dX8_follows_204 rfl ?_
        refine t_getR (r := 416) fl_8_41 dX8_follows_205 ob_405 rfl rfl ?_
        refine s_bipush (v := 102) dX8_follows_208 (by decide) ?_
        refine s_aload_n dX8_follows_210 rfl ?_
        refine t_getR (r := 409) fl_8_20 dX8_follows_211 ob_405 rfl rfl ?_
        refine s_iload_n dX8_follows_214 rfl ?_
        refine t_iald dX8_follows_215 ap_409 H.1 ?_
        have H := H.2
        refine s_iadd dX8_follows_216 ?_
        refine s_dup2 dX8_follows_217 rfl rfl ?_
        refine t_iald dX8_follows_218 ap_416 H.1 ?_
        have H := H.2
        refine s_iconst (v := 1) dX8_follows_219 (by decide) ?_
        refine s_iadd dX8_follows_220 ?_
        refine t_iast dX8_follows_221 ap_416 H.1 ?_
        have H := H.2
        refine s_aload_n dX8_follows_222 rfl ?_
        refine s_iload_n dX8_follows_223 rfl ?_
        refine t_cV (h := 405) (As := [.int p1]) (st := []) iv_8_144 dX8_follows_224 ⟨by decide, by decide⟩ rfl (Nat.le_of_ble_eq_true rfl) (by decide) (by decide) rfl ob_405 H (fun r V2 H => ?_)
        obtain ⟨rfl, H⟩ := H
        refine s_iload_n dX8_follows_227 rfl ?_
        exact s_iret dX8_follows_228 (Or.inr ⟨rfl, (bI_01 b1)⟩) ⟨rfl, H⟩
    · have H := H.2 c
      refine s_aload_n dX8_follows_81 rfl ?_
      refine s_aload_n dX8_follows_82 rfl ?_
      refine t_getR (r := 409) fl_8_20 dX8_follows_83 ob_405 rfl rfl ?_
      refine s_iload_n dX8_follows_86 rfl ?_
      refine t_iald dX8_follows_87 ap_409 H.1 ?_
      have H := H.2
      refine s_aload_n dX8_follows_88 rfl ?_
      refine t_getR (r := 410) fl_8_23 dX8_follows_89 ob_405 rfl rfl ?_
      refine s_iload_n dX8_follows_92 rfl ?_
      refine t_iald dX8_follows_93 ap_410 H.1 ?_
      have H := H.2
      refine s_aload_n dX8_follows_94 rfl ?_
      refine t_getR (r := 411) fl_8_26 dX8_follows_95 ob_405 rfl rfl ?_
      refine s_iload_n dX8_follows_98 rfl ?_
      refine t_iald dX8_follows_99 ap_411 H.1 ?_
      have H := H.2
      refine t_cV (h := 405) (As := [.int (V 409 p1.toNatClampNeg), .int (V 410 p1.toNatClampNeg), .int (V 411 p1.toNatClampNeg)]) (st := []) iv_8_135 dX8_follows_100 ⟨by decide, by decide⟩ rfl (Nat.le_of_ble_eq_true rfl) (by decide) (by decide) rfl ob_405 H (fun r V1 H => ?_)
      obtain ⟨b1, rfl, H⟩ := H
      refine t_istore_n (L' := [(2, .int (bI b1)), (0, .ref 405), (1, .int p1)]) dX8_follows_103 (by decide) rfl ?_
      refine s_iload_n dX8_follows_104 rfl ?_
      refine s_if_eq (tgt := 222) dX8_follows_105 (by decide) (fun c => ?_) (fun c => ?_)
      · have H := H.1 (bI_f c)
        refine s_aload_n dX8_follows_222 rfl ?_
        refine s_iload_n dX8_follows_223 rfl ?_
        refine t_cV (h := 405) (As := [.int p1]) (st := []) iv_8_144 dX8_follows_224 ⟨by decide, by decide⟩ rfl (Nat.le_of_ble_eq_true rfl) (by decide) (by decide) rfl ob_405 H (fun r V2 H => ?_)
        obtain ⟨rfl, H⟩ := H
        refine s_iload_n dX8_follows_227 rfl ?_
        exact s_iret dX8_follows_228 (Or.inr ⟨rfl, (bI_01 b1)⟩) ⟨rfl, H⟩
      · have H := H.2 (bI_t c)
        refine s_aload_n dX8_follows_108 rfl ?_
        refine s_aload_n dX8_follows_109 rfl ?_
        refine t_getR (r := 409) fl_8_20 dX8_follows_110 ob_405 rfl rfl ?_
        refine s_iload_n dX8_follows_113 rfl ?_
        refine t_iald dX8_follows_114 ap_409 H.1 ?_
        have H := H.2
        refine s_aload_n dX8_follows_115 rfl ?_
        refine t_getR (r := 410) fl_8_23 dX8_follows_116 ob_405 rfl rfl ?_
        refine s_iload_n dX8_follows_119 rfl ?_
        refine t_iald dX8_follows_120 ap_410 H.1 ?_
        have H := H.2
        refine s_aload_n dX8_follows_121 rfl ?_
        refine t_getR (r := 411) fl_8_26 dX8_follows_122 ob_405 rfl rfl ?_
        refine s_iload_n dX8_follows_125 rfl ?_
        refine t_iald dX8_follows_126 ap_411 H.1 ?_
        have H := H.2
        refine t_cV (h := 405) (As := [.int (V1 409 p1.toNatClampNeg), .int (V1 410 p1.toNatClampNeg), .int (V1 411 p1.toNatClampNeg)]) (st := []) iv_8_138 dX8_follows_127 ⟨by decide, by decide⟩ rfl (Nat.le_of_ble_eq_true rfl) (by decide) (by decide) rfl ob_405 H (fun r V2 H => ?_)
        obtain ⟨rfl, H⟩ := H
        refine s_goto (tgt := 222) dX8_follows_130 (by decide) ?_
        refine s_aload_n dX8_follows_222 rfl ?_
        refine s_iload_n dX8_follows_223 rfl ?_
        refine t_cV (h := 405) (As := [.int p1]) (st := []) iv_8_144 dX8_follows_224 ⟨by decide, by decide⟩ rfl (Nat.le_of_ble_eq_true rfl) (by decide) (by decide) rfl ob_405 H (fun r V3 H => ?_)
        obtain ⟨rfl, H⟩ := H
        refine s_iload_n dX8_follows_227 rfl ?_
        exact s_iret dX8_follows_228 (Or.inr ⟨rfl, (bI_01 b1)⟩) ⟨rfl, H⟩
  · have H := H.2 c
    refine s_aload_n dX8_follows_11 rfl ?_
    refine s_aload_n dX8_follows_12 rfl ?_
    refine t_getR (r := 409) fl_8_20 dX8_follows_13 ob_405 rfl rfl ?_
    refine s_iload_n dX8_follows_16 rfl ?_
    refine t_iald dX8_follows_17 ap_409 H.1 ?_
    have H := H.2
    refine t_cV (h := 405) (As := [.int (V 409 p1.toNatClampNeg)]) (st := []) iv_8_124 dX8_follows_18 ⟨by decide, by decide⟩ rfl (Nat.le_of_ble_eq_true rfl) (by decide) (by decide) rfl ob_405 H (fun r V1 H => ?_)
    obtain ⟨b1, rfl, H⟩ := H
    refine t_istore_n (L' := [(2, .int (bI b1)), (0, .ref 405), (1, .int p1)]) dX8_follows_21 (by decide) rfl ?_
    refine s_iconst (v := 0) dX8_follows_22 (by decide) ?_
    refine t_istore_n (L' := [(3, .int 0), (2, .int (bI b1)), (0, .ref 405), (1, .int p1)]) dX8_follows_23 (by decide) rfl ?_
    exact t_loc [2, 3, 1, 0] rfl (v_X8_follows_24 p1    (bI b1) 0  H)

def F_X8_notes_39 (J : Nat → Nat → Int64) (p1 : Int32) (K2 : Int32 → (Nat → Nat → Int32) → Prop) (K12 : Int32 → Int32 → Int32 → (Nat → Nat → Int32) → Prop) (x2 : Int32) (x4 : Int32) (s0 : Int32) (s1 : Int32) (V : Nat → Nat → Int32) (Qr : Option Value → (Nat → Nat → Int32) → Prop) (Qx : String → (Nat → Nat → Int32) → Prop) : Prop :=
K12 x2 (s1 ||| s0) (x4 + 1) V
theorem v_X8_notes_39 {J : Nat → Nat → Int64} (p1 : Int32) {Qr : Option Value → (Nat → Nat → Int32) → Prop} {Qx : String → (Nat → Nat → Int32) → Prop} (K2 : Int32 → (Nat → Nat → Int32) → Prop) (K12 : Int32 → Int32 → Int32 → (Nat → Nat → Int32) → Prop) (hK2 : ∀ (x2 : Int32)  (V : Nat → Nat → Int32), K2 x2 V → WPc J mX8_notes Qr Qx 2 [(0, .ref 405), (1, .int p1), (2, .int x2)] [] V 0 0) (hK12 : ∀ (x2 : Int32) (x3 : Int32) (x4 : Int32)  (V : Nat → Nat → Int32), K12 x2 x3 x4 V → WPc J mX8_notes Qr Qx 12 [(0, .ref 405), (1, .int p1), (2, .int x2), (3, .int x3), (4, .int x4)] [] V 0 0) (x2 : Int32) (x4 : Int32) (s0 : Int32) (s1 : Int32)  {V : Nat → Nat → Int32} (H : F_X8_notes_39 J p1 K2 K12 x2 x4 s0 s1 V Qr Qx) : WPc J mX8_notes Qr Qx 39 [(0, .ref 405), (1, .int p1), (2, .int x2), (4, .int x4)] [.int s0, .int s1] V 0 0 := by
  unfold F_X8_notes_39 at H
  refine s_ior dX8_notes_39 ?_
  refine t_istore_n (L' := [(3, .int (s1 ||| s0)), (0, .ref 405), (1, .int p1), (2, .int x2), (4, .int x4)]) dX8_notes_40 (by decide) rfl ?_
  refine t_iinc (v := (x4 + 1)) (L' := [(4, .int (x4 + 1)), (3, .int (s1 ||| s0)), (0, .ref 405), (1, .int p1), (2, .int x2)]) dX8_notes_41 rfl (by rfl) (by decide) rfl ?_
  refine s_goto (tgt := 12) dX8_notes_44 (by decide) ?_
  exact t_loc [2, 3, 4, 1, 0] rfl (hK12 x2 (s1 ||| s0) (x4 + 1)  V H)
def B_X8_notes_12 (J : Nat → Nat → Int64) (p1 : Int32) (K2 : Int32 → (Nat → Nat → Int32) → Prop) (K12 : Int32 → Int32 → Int32 → (Nat → Nat → Int32) → Prop) (x2 : Int32) (x3 : Int32) (x4 : Int32) (V : Nat → Nat → Int32) (Qr : Option Value → (Nat → Nat → Int32) → Prop) (Qx : String → (Nat → Nat → Int32) → Prop) : Prop :=
((10 ≤ x4) →
  vp_in ((2 * p1) + x2) 120 ∧
  vp_in (104 + x2) 110 ∧
  vp_in ((2 * p1) + x2) 120 ∧
  K2 (x2 + 1) (up2 (up2 V 417 ((2 * p1) + x2).toNatClampNeg x3) 418 ((2 * p1) + x2).toNatClampNeg ((up2 V 417 ((2 * p1) + x2).toNatClampNeg x3) 416 (104 + x2).toNatClampNeg))) ∧
((¬ 10 ≤ x4) →
  CTc J mX8_is [.ref 405, .int x2, .int x4, .int 0] V (fun r V1 =>
    ∃ b1 : Bool, r = some (.int (bI b1)) ∧
    ((b1 = false) →
      F_X8_notes_39 J p1 K2 K12 x2 x4 0 x3 V1 Qr Qx) ∧
    ((b1 = true) →
      F_X8_notes_39 J p1 K2 K12 x2 x4 (1 <<< (x4 &&& 31)) x3 V1 Qr Qx)) Qx)
def F_X8_notes_12 (J : Nat → Nat → Int64) (p1 : Int32) (K2 : Int32 → (Nat → Nat → Int32) → Prop) (x2 : Int32) (x3 : Int32) (x4 : Int32) (V : Nat → Nat → Int32) (Qr : Option Value → (Nat → Nat → Int32) → Prop) (Qx : String → (Nat → Nat → Int32) → Prop) : Prop :=
  ∃ I : Nat → Int32 → Int32 → Int32 → (Nat → Nat → Int32) → Prop, (∃ n, I n x2 x3 x4 V) ∧ ∀ n (x2 : Int32) (x3 : Int32) (x4 : Int32) (V : Nat → Nat → Int32), I n x2 x3 x4 V → B_X8_notes_12 J p1 K2 (fun x2 x3 x4 V => ∃ n', n' < n ∧ I n' x2 x3 x4 V) x2 x3 x4 V Qr Qx
theorem v_X8_notes_12 {J : Nat → Nat → Int64} (p1 : Int32) {Qr : Option Value → (Nat → Nat → Int32) → Prop} {Qx : String → (Nat → Nat → Int32) → Prop} (K2 : Int32 → (Nat → Nat → Int32) → Prop) (hK2 : ∀ (x2 : Int32)  (V : Nat → Nat → Int32), K2 x2 V → WPc J mX8_notes Qr Qx 2 [(0, .ref 405), (1, .int p1), (2, .int x2)] [] V 0 0) (x2 : Int32) (x3 : Int32) (x4 : Int32)  {V : Nat → Nat → Int32} (H : F_X8_notes_12 J p1 K2 x2 x3 x4 V Qr Qx) : WPc J mX8_notes Qr Qx 12 [(0, .ref 405), (1, .int p1), (2, .int x2), (3, .int x3), (4, .int x4)] [] V 0 0 := by
  obtain ⟨I, ⟨n0, h0⟩, hs⟩ := H
  have step : ∀ (K12 : Int32 → Int32 → Int32 → (Nat → Nat → Int32) → Prop), (∀ (x2 : Int32) (x3 : Int32) (x4 : Int32)  (V : Nat → Nat → Int32), K12 x2 x3 x4 V → WPc J mX8_notes Qr Qx 12 [(0, .ref 405), (1, .int p1), (2, .int x2), (3, .int x3), (4, .int x4)] [] V 0 0) → ∀ (x2 : Int32) (x3 : Int32) (x4 : Int32)  (V : Nat → Nat → Int32), B_X8_notes_12 J p1 K2 K12 x2 x3 x4 V Qr Qx → WPc J mX8_notes Qr Qx 12 [(0, .ref 405), (1, .int p1), (2, .int x2), (3, .int x3), (4, .int x4)] [] V 0 0 := by
    intro K12 hK12 x2 x3 x4  V H
    unfold B_X8_notes_12 at H
    refine s_iload dX8_notes_12 rfl ?_
    refine s_bipush (v := 10) dX8_notes_14 (by decide) ?_
    refine s_icmp_ge (tgt := 47) dX8_notes_16 (by decide) (fun c => ?_) (fun c => ?_)
    · have H := H.1 c
      refine s_aload_n dX8_notes_47 rfl ?_
      refine t_getR (r := 417) fl_8_44 dX8_notes_48 ob_405 rfl rfl ?_
      refine s_iconst (v := 2) dX8_notes_51 (by decide) ?_
      refine s_iload_n dX8_notes_52 rfl ?_
      refine s_imul dX8_notes_53 ?_
      refine s_iload_n dX8_notes_54 rfl ?_
      refine s_iadd dX8_notes_55 ?_
      refine s_iload_n dX8_notes_56 rfl ?_
      refine t_iast dX8_notes_57 ap_417 H.1 ?_
      have H := H.2
      refine s_aload_n dX8_notes_58 rfl ?_
      refine t_getR (r := 418) fl_8_47 dX8_notes_59 ob_405 rfl rfl ?_
      refine s_iconst (v := 2) dX8_notes_62 (by decide) ?_
      refine s_iload_n dX8_notes_63 rfl ?_
      refine s_imul dX8_notes_64 ?_
      refine s_iload_n dX8_notes_65 rfl ?_
      refine s_iadd dX8_notes_66 ?_
      refine s_aload_n dX8_notes_67 rfl ?_
      refine t_getR (r := 416) fl_8_41 dX8_notes_68 ob_405 rfl rfl ?_
      refine s_bipush (v := 104) dX8_notes_71 (by decide) ?_
      refine s_iload_n dX8_notes_73 rfl ?_
      refine s_iadd dX8_notes_74 ?_
      refine t_iald dX8_notes_75 ap_416 H.1 ?_
      have H := H.2
      refine t_iast dX8_notes_76 ap_418 H.1 ?_
      have H := H.2
      refine t_iinc (v := (x2 + 1)) (L' := [(2, .int (x2 + 1)), (0, .ref 405), (1, .int p1), (3, .int x3), (4, .int x4)]) dX8_notes_77 rfl (by rfl) (by decide) rfl ?_
      refine s_goto (tgt := 2) dX8_notes_80 (by decide) ?_
      exact t_loc [1, 2, 0] rfl (hK2 (x2 + 1)  (up2 (up2 V 417 ((2 * p1) + x2).toNatClampNeg x3) 418 ((2 * p1) + x2).toNatClampNeg ((up2 V 417 ((2 * p1) + x2).toNatClampNeg x3) 416 (104 + x2).toNatClampNeg)) H)
    · have H := H.2 c
      refine s_iload_n dX8_notes_19 rfl ?_
      refine s_aload_n dX8_notes_20 rfl ?_
      refine s_iload_n dX8_notes_21 rfl ?_
      refine s_iload dX8_notes_22 rfl ?_
      refine s_iconst (v := 0) dX8_notes_24 (by decide) ?_
      refine t_cV (h := 405) (As := [.int x2, .int x4, .int 0]) (st := [.int x3]) iv_8_85 dX8_notes_25 ⟨by decide, by decide⟩ rfl (Nat.le_of_ble_eq_true rfl) (by decide) (by decide) rfl ob_405 H (fun r V1 H => ?_)
      obtain ⟨b1, rfl, H⟩ := H
      refine s_if_eq (tgt := 38) dX8_notes_28 (by decide) (fun c => ?_) (fun c => ?_)
      · have H := H.1 (bI_f c)
        refine s_iconst (v := 0) dX8_notes_38 (by decide) ?_
        exact t_loc [0, 1, 2, 4] rfl (v_X8_notes_39 p1  K2 K12 hK2 hK12 x2 x4 0 x3  H)
      · have H := H.2 (bI_t c)
        refine s_iconst (v := 1) dX8_notes_31 (by decide) ?_
        refine s_iload dX8_notes_32 rfl ?_
        refine s_ishl dX8_notes_34 ?_
        refine s_goto (tgt := 39) dX8_notes_35 (by decide) ?_
        exact t_loc [0, 1, 2, 4] rfl (v_X8_notes_39 p1  K2 K12 hK2 hK12 x2 x4 (1 <<< (x4 &&& 31)) x3  H)
  have key : ∀ n, ∀ (x2 : Int32) (x3 : Int32) (x4 : Int32)  (V : Nat → Nat → Int32), I n x2 x3 x4 V → WPc J mX8_notes Qr Qx 12 [(0, .ref 405), (1, .int p1), (2, .int x2), (3, .int x3), (4, .int x4)] [] V 0 0 := by
    refine strong (fun n ih => ?_)
    intro x2 x3 x4  V hI
    exact step _ (fun x2 x3 x4  V hz => Exists.elim hz (fun n1 hz => ih n1 hz.1 x2 x3 x4  V hz.2)) x2 x3 x4  V (hs n x2 x3 x4 V hI)
  exact key n0 x2 x3 x4  V h0
def B_X8_notes_2 (J : Nat → Nat → Int64) (p1 : Int32) (K2 : Int32 → (Nat → Nat → Int32) → Prop) (x2 : Int32) (V : Nat → Nat → Int32) (Qr : Option Value → (Nat → Nat → Int32) → Prop) (Qx : String → (Nat → Nat → Int32) → Prop) : Prop :=
((2 ≤ x2) →
  Qr none V) ∧
((¬ 2 ≤ x2) →
  F_X8_notes_12 J p1 K2 x2 0 0 V Qr Qx)
def F_X8_notes_2 (J : Nat → Nat → Int64) (p1 : Int32) (x2 : Int32) (V : Nat → Nat → Int32) (Qr : Option Value → (Nat → Nat → Int32) → Prop) (Qx : String → (Nat → Nat → Int32) → Prop) : Prop :=
  ∃ I : Nat → Int32 → (Nat → Nat → Int32) → Prop, (∃ n, I n x2 V) ∧ ∀ n (x2 : Int32) (V : Nat → Nat → Int32), I n x2 V → B_X8_notes_2 J p1  (fun x2 V => ∃ n', n' < n ∧ I n' x2 V) x2 V Qr Qx
theorem v_X8_notes_2 {J : Nat → Nat → Int64} (p1 : Int32) {Qr : Option Value → (Nat → Nat → Int32) → Prop} {Qx : String → (Nat → Nat → Int32) → Prop} (x2 : Int32)  {V : Nat → Nat → Int32} (H : F_X8_notes_2 J p1  x2 V Qr Qx) : WPc J mX8_notes Qr Qx 2 [(0, .ref 405), (1, .int p1), (2, .int x2)] [] V 0 0 := by
  obtain ⟨I, ⟨n0, h0⟩, hs⟩ := H
  have step : ∀ (K2 : Int32 → (Nat → Nat → Int32) → Prop), (∀ (x2 : Int32)  (V : Nat → Nat → Int32), K2 x2 V → WPc J mX8_notes Qr Qx 2 [(0, .ref 405), (1, .int p1), (2, .int x2)] [] V 0 0) → ∀ (x2 : Int32)  (V : Nat → Nat → Int32), B_X8_notes_2 J p1  K2 x2 V Qr Qx → WPc J mX8_notes Qr Qx 2 [(0, .ref 405), (1, .int p1), (2, .int x2)] [] V 0 0 := by
    intro K2 hK2 x2  V H
    unfold B_X8_notes_2 at H
    refine s_iload_n dX8_notes_2 rfl ?_
    refine s_iconst (v := 2) dX8_notes_3 (by decide) ?_
    refine s_icmp_ge (tgt := 83) dX8_notes_4 (by decide) (fun c => ?_) (fun c => ?_)
    · have H := H.1 c
      exact s_vret dX8_notes_83 rfl ⟨rfl, H⟩
    · have H := H.2 c
      refine s_iconst (v := 0) dX8_notes_7 (by decide) ?_
      refine t_istore_n (L' := [(3, .int 0), (0, .ref 405), (1, .int p1), (2, .int x2)]) dX8_notes_8 (by decide) rfl ?_
      refine s_iconst (v := 0) dX8_notes_9 (by decide) ?_
      refine t_istore (L' := [(4, .int 0), (3, .int 0), (0, .ref 405), (1, .int p1), (2, .int x2)]) dX8_notes_10 (by decide) rfl ?_
      exact t_loc [2, 3, 4, 1, 0] rfl (v_X8_notes_12 p1  K2 hK2 x2 0 0  H)
  have key : ∀ n, ∀ (x2 : Int32)  (V : Nat → Nat → Int32), I n x2 V → WPc J mX8_notes Qr Qx 2 [(0, .ref 405), (1, .int p1), (2, .int x2)] [] V 0 0 := by
    refine strong (fun n ih => ?_)
    intro x2  V hI
    exact step _ (fun x2  V hz => Exists.elim hz (fun n1 hz => ih n1 hz.1 x2  V hz.2)) x2  V (hs n x2 V hI)
  exact key n0 x2  V h0
def F_X8_notes (J : Nat → Nat → Int64) (p1 : Int32) (V : Nat → Nat → Int32) (Qr : Option Value → (Nat → Nat → Int32) → Prop) (Qx : String → (Nat → Nat → Int32) → Prop) : Prop :=
F_X8_notes_2 J p1  0 V Qr Qx
theorem v_X8_notes {J : Nat → Nat → Int64} (p1 : Int32) {V : Nat → Nat → Int32} {Qr : Option Value → (Nat → Nat → Int32) → Prop} {Qx : String → (Nat → Nat → Int32) → Prop} (H : F_X8_notes J p1 V Qr Qx) : CTc J mX8_notes [.ref 405, .int p1] V Qr Qx := by
  refine ctc_of (M := (T0 J, V)) pX8_notes (fun _ _ => rfl) (Nat.le_of_ble_eq_true rfl) ?_
  unfold F_X8_notes at H
  show WPc J mX8_notes Qr Qx 0 [(0, .ref 405), (1, .int p1)] [] V 0 0
  refine s_iconst (v := 0) dX8_notes_0 (by decide) ?_
  refine t_istore_n (L' := [(2, .int 0), (0, .ref 405), (1, .int p1)]) dX8_notes_1 (by decide) rfl ?_
  exact t_loc [1, 2, 0] rfl (v_X8_notes_2 p1    0  H)

def F_X8_ended (J : Nat → Nat → Int64)  (V : Nat → Nat → Int32) (Qr : Option Value → (Nat → Nat → Int32) → Prop) (Qx : String → (Nat → Nat → Int32) → Prop) : Prop :=
(((V 405 3) = 0) →
  Qr (some (.int (V 405 7))) V) ∧
((¬ (V 405 3) = 0) →
  Qr (some (.int ((V 405 7) - 1))) V)
theorem v_X8_ended {J : Nat → Nat → Int64}  {V : Nat → Nat → Int32} {Qr : Option Value → (Nat → Nat → Int32) → Prop} {Qx : String → (Nat → Nat → Int32) → Prop} (H : F_X8_ended J  V Qr Qx) : CTc J mX8_ended [.ref 405] V Qr Qx := by
  refine ctc_of (M := (T0 J, V)) pX8_ended (fun _ _ => rfl) (Nat.le_of_ble_eq_true rfl) ?_
  unfold F_X8_ended at H
  show WPc J mX8_ended Qr Qx 0 [(0, .ref 405)] [] V 0 0
  refine s_aload_n dX8_ended_0 rfl ?_
  refine t_getI fl_8_147 dX8_ended_1 ob_405 rfl ?_
  refine s_if_eq (tgt := 16) dX8_ended_4 (by decide) (fun c => ?_) (fun c => ?_)
  · have H := H.1 c
    refine s_aload_n dX8_ended_16 rfl ?_
    refine t_getI fl_8_151 dX8_ended_17 ob_405 rfl ?_
    exact s_iret dX8_ended_20 (Or.inl rfl) ⟨rfl, H⟩
  · have H := H.2 c
    refine s_aload_n dX8_ended_7 rfl ?_
    refine t_getI fl_8_151 dX8_ended_8 ob_405 rfl ?_
    refine s_iconst (v := 1) dX8_ended_11 (by decide) ?_
    refine s_isub dX8_ended_12 ?_
    refine s_goto (tgt := 20) dX8_ended_13 (by decide) ?_
    exact s_iret dX8_ended_20 (Or.inl rfl) ⟨rfl, H⟩

def B_X8_plays_6 (J : Nat → Nat → Int64)  (K6 : Int32 → (Nat → Nat → Int32) → Prop) (x1 : Int32) (V : Nat → Nat → Int32) (Qr : Option Value → (Nat → Nat → Int32) → Prop) (Qx : String → (Nat → Nat → Int32) → Prop) : Prop :=
CTc J mX8_ended [.ref 405] V (fun r V1 =>
  ∃ r1 : Int32, r = some (.int r1) ∧
  ((r1 ≤ x1) →
    Qr (some (.int (-1))) V1) ∧
  ((¬ r1 ≤ x1) →
    CTc J mX8_follows [.ref 405, .int x1] V1 (fun r V2 =>
      ∃ b2 : Bool, r = some (.int (bI b2)) ∧
      ((b2 = true) →
        K6 (x1 + 1) V2) ∧
      ((b2 = false) →
        Qr (some (.int x1)) V2)) Qx)) Qx
def F_X8_plays_6 (J : Nat → Nat → Int64)  (x1 : Int32) (V : Nat → Nat → Int32) (Qr : Option Value → (Nat → Nat → Int32) → Prop) (Qx : String → (Nat → Nat → Int32) → Prop) : Prop :=
  ∃ I : Nat → Int32 → (Nat → Nat → Int32) → Prop, (∃ n, I n x1 V) ∧ ∀ n (x1 : Int32) (V : Nat → Nat → Int32), I n x1 V → B_X8_plays_6 J   (fun x1 V => ∃ n', n' < n ∧ I n' x1 V) x1 V Qr Qx
theorem v_X8_plays_6 {J : Nat → Nat → Int64}  {Qr : Option Value → (Nat → Nat → Int32) → Prop} {Qx : String → (Nat → Nat → Int32) → Prop} (x1 : Int32)  {V : Nat → Nat → Int32} (H : F_X8_plays_6 J   x1 V Qr Qx) : WPc J mX8_plays Qr Qx 6 [(0, .ref 405), (1, .int x1)] [] V 0 0 := by
  obtain ⟨I, ⟨n0, h0⟩, hs⟩ := H
  have step : ∀ (K6 : Int32 → (Nat → Nat → Int32) → Prop), (∀ (x1 : Int32)  (V : Nat → Nat → Int32), K6 x1 V → WPc J mX8_plays Qr Qx 6 [(0, .ref 405), (1, .int x1)] [] V 0 0) → ∀ (x1 : Int32)  (V : Nat → Nat → Int32), B_X8_plays_6 J   K6 x1 V Qr Qx → WPc J mX8_plays Qr Qx 6 [(0, .ref 405), (1, .int x1)] [] V 0 0 := by
    intro K6 hK6 x1  V H
    unfold B_X8_plays_6 at H
    refine s_iload_n dX8_plays_6 rfl ?_
    refine s_aload_n dX8_plays_7 rfl ?_
    refine t_cV (h := 405) (As := []) (st := [.int x1]) iv_8_157 dX8_plays_8 ⟨by decide, by decide⟩ rfl (Nat.le_of_ble_eq_true rfl) (by decide) (by decide) rfl ob_405 H (fun r V1 H => ?_)
    obtain ⟨r1, rfl, H⟩ := H
    refine s_icmp_ge (tgt := 30) dX8_plays_11 (by decide) (fun c => ?_) (fun c => ?_)
    · have H := H.1 c
      refine s_iconst (v := (-1)) dX8_plays_30 (by decide) ?_
      exact s_iret dX8_plays_31 (Or.inl rfl) ⟨rfl, H⟩
    · have H := H.2 c
      refine s_aload_n dX8_plays_14 rfl ?_
      refine s_iload_n dX8_plays_15 rfl ?_
      refine t_cV (h := 405) (As := [.int x1]) (st := []) iv_8_160 dX8_plays_16 ⟨by decide, by decide⟩ rfl (Nat.le_of_ble_eq_true rfl) (by decide) (by decide) rfl ob_405 H (fun r V2 H => ?_)
      obtain ⟨b2, rfl, H⟩ := H
      refine s_if_ne (tgt := 24) dX8_plays_19 (by decide) (fun c => ?_) (fun c => ?_)
      · have H := H.1 (bI_t c)
        refine t_iinc (v := (x1 + 1)) (L' := [(1, .int (x1 + 1)), (0, .ref 405)]) dX8_plays_24 rfl (by rfl) (by decide) rfl ?_
        refine s_goto (tgt := 6) dX8_plays_27 (by decide) ?_
        exact t_loc [1, 0] rfl (hK6 (x1 + 1)  V2 H)
      · have H := H.2 (bI_f c)
        refine s_iload_n dX8_plays_22 rfl ?_
        exact s_iret dX8_plays_23 (Or.inl rfl) ⟨rfl, H⟩
  have key : ∀ n, ∀ (x1 : Int32)  (V : Nat → Nat → Int32), I n x1 V → WPc J mX8_plays Qr Qx 6 [(0, .ref 405), (1, .int x1)] [] V 0 0 := by
    refine strong (fun n ih => ?_)
    intro x1  V hI
    exact step _ (fun x1  V hz => Exists.elim hz (fun n1 hz => ih n1 hz.1 x1  V hz.2)) x1  V (hs n x1 V hI)
  exact key n0 x1  V h0
def F_X8_plays (J : Nat → Nat → Int64)  (V : Nat → Nat → Int32) (Qr : Option Value → (Nat → Nat → Int32) → Prop) (Qx : String → (Nat → Nat → Int32) → Prop) : Prop :=
CTc J mX8_starts [.ref 405] V (fun r V1 =>
  r = none ∧
  F_X8_plays_6 J   0 V1 Qr Qx) Qx
theorem v_X8_plays {J : Nat → Nat → Int64}  {V : Nat → Nat → Int32} {Qr : Option Value → (Nat → Nat → Int32) → Prop} {Qx : String → (Nat → Nat → Int32) → Prop} (H : F_X8_plays J  V Qr Qx) : CTc J mX8_plays [.ref 405] V Qr Qx := by
  refine ctc_of (M := (T0 J, V)) pX8_plays (fun _ _ => rfl) (Nat.le_of_ble_eq_true rfl) ?_
  unfold F_X8_plays at H
  show WPc J mX8_plays Qr Qx 0 [(0, .ref 405)] [] V 0 0
  refine s_aload_n dX8_plays_0 rfl ?_
  refine t_cV (h := 405) (As := []) (st := []) iv_8_154 dX8_plays_1 ⟨by decide, by decide⟩ rfl (Nat.le_of_ble_eq_true rfl) (by decide) (by decide) rfl ob_405 H (fun r V1 H => ?_)
  obtain ⟨rfl, H⟩ := H
  refine s_iconst (v := 0) dX8_plays_4 (by decide) ?_
  refine t_istore_n (L' := [(1, .int 0), (0, .ref 405)]) dX8_plays_5 (by decide) rfl ?_
  exact t_loc [1, 0] rfl (v_X8_plays_6     0  H)

def F_X8_begin_65 (J : Nat → Nat → Int64) (p1 : Int32) (p2 : Int32) (p3 : Int32) (s0 : Int32) (V : Nat → Nat → Int32) (Qr : Option Value → (Nat → Nat → Int32) → Prop) (Qx : String → (Nat → Nat → Int32) → Prop) : Prop :=
CTc J mX8_holds [.ref 405, .int s0] V (fun r V1 =>
  ∃ b1 : Bool, r = some (.int (bI b1)) ∧
  ((b1 = true) →
    CTc J mX8_starts [.ref 405] (up2 (up2 (up2 (up2 (up2 (up2 (up2 (up2 V1 405 2 1) 405 3 0) 406 0 p1) 406 1 p2) 405 5 p3) 405 7 0) 407 0 0) 407 1 0) (fun r V2 =>
      r = none ∧
      Qr (some (.int ((up2 V2 405 1 ((V2 405 1) + 1)) 405 1))) (up2 V2 405 1 ((V2 405 1) + 1))) Qx) ∧
  ((b1 = false) →
    Qr (some (.int 0)) V1)) Qx
theorem v_X8_begin_65 {J : Nat → Nat → Int64} (p1 : Int32) (p2 : Int32) (p3 : Int32) {Qr : Option Value → (Nat → Nat → Int32) → Prop} {Qx : String → (Nat → Nat → Int32) → Prop} (s0 : Int32)  {V : Nat → Nat → Int32} (H : F_X8_begin_65 J p1 p2 p3  s0 V Qr Qx) : WPc J mX8_begin Qr Qx 65 [(0, .ref 405), (1, .int p1), (2, .int p2), (3, .int p3)] [.int s0, .ref 405] V 0 0 := by
  unfold F_X8_begin_65 at H
  refine t_cV (h := 405) (As := [.int s0]) (st := []) iv_8_169 dX8_begin_65 ⟨by decide, by decide⟩ rfl (Nat.le_of_ble_eq_true rfl) (by decide) (by decide) rfl ob_405 H (fun r V1 H => ?_)
  obtain ⟨b1, rfl, H⟩ := H
  refine s_if_ne (tgt := 73) dX8_begin_68 (by decide) (fun c => ?_) (fun c => ?_)
  · have H := H.1 (bI_t c)
    refine s_aload_n dX8_begin_73 rfl ?_
    refine s_iconst (v := 1) dX8_begin_74 (by decide) ?_
    refine t_putI fl_8_166 dX8_begin_75 ob_405 (Or.inr ⟨rfl, (Or.inr rfl)⟩) ?_
    refine s_aload_n dX8_begin_78 rfl ?_
    refine s_iconst (v := 0) dX8_begin_79 (by decide) ?_
    refine t_putI fl_8_147 dX8_begin_80 ob_405 (Or.inr ⟨rfl, (Or.inl rfl)⟩) ?_
    refine s_aload_n dX8_begin_83 rfl ?_
    refine t_getR (r := 406) fl_8_7 dX8_begin_84 ob_405 rfl rfl ?_
    refine s_iconst (v := 0) dX8_begin_87 (by decide) ?_
    refine s_iload_n dX8_begin_88 rfl ?_
    refine t_iast dX8_begin_89 ap_406 (vp_of (by decide)) ?_
    refine s_aload_n dX8_begin_90 rfl ?_
    refine t_getR (r := 406) fl_8_7 dX8_begin_91 ob_405 rfl rfl ?_
    refine s_iconst (v := 1) dX8_begin_94 (by decide) ?_
    refine s_iload_n dX8_begin_95 rfl ?_
    refine t_iast dX8_begin_96 ap_406 (vp_of (by decide)) ?_
    refine s_aload_n dX8_begin_97 rfl ?_
    refine s_iload_n dX8_begin_98 rfl ?_
    refine t_putI fl_8_118 dX8_begin_99 ob_405 (Or.inl rfl) ?_
    refine s_aload_n dX8_begin_102 rfl ?_
    refine s_iconst (v := 0) dX8_begin_103 (by decide) ?_
    refine t_putI fl_8_151 dX8_begin_104 ob_405 (Or.inl rfl) ?_
    refine s_aload_n dX8_begin_107 rfl ?_
    refine t_getR (r := 407) fl_8_13 dX8_begin_108 ob_405 rfl rfl ?_
    refine s_iconst (v := 0) dX8_begin_111 (by decide) ?_
    refine s_iconst (v := 0) dX8_begin_112 (by decide) ?_
    refine t_zast dX8_begin_113 (vp_of (by decide)) (Or.inl rfl) ?_
    refine s_aload_n dX8_begin_114 rfl ?_
    refine t_getR (r := 407) fl_8_13 dX8_begin_115 ob_405 rfl rfl ?_
    refine s_iconst (v := 1) dX8_begin_118 (by decide) ?_
    refine s_iconst (v := 0) dX8_begin_119 (by decide) ?_
    refine t_zast dX8_begin_120 (vp_of (by decide)) (Or.inl rfl) ?_
    refine s_aload_n dX8_begin_121 rfl ?_
    refine t_cV (h := 405) (As := []) (st := []) iv_8_154 dX8_begin_122 ⟨by decide, by decide⟩ rfl (Nat.le_of_ble_eq_true rfl) (by decide) (by decide) rfl ob_405 H (fun r V2 H => ?_)
    obtain ⟨rfl, H⟩ := H
    refine s_aload_n dX8_begin_125 rfl ?_
    refine s_dup dX8_begin_126 rfl ?_
    refine t_getI fl_8_172 dX8_begin_127 ob_405 rfl ?_
    refine s_iconst (v := 1) dX8_begin_130 (by decide) ?_
    refine s_iadd dX8_begin_131 ?_
    refine t_putI fl_8_172 dX8_begin_132 ob_405 (Or.inl rfl) ?_
    refine s_aload_n dX8_begin_135 rfl ?_
    refine t_getI fl_8_172 dX8_begin_136 ob_405 rfl ?_
    exact s_iret dX8_begin_139 (Or.inl rfl) ⟨rfl, H⟩
  · have H := H.2 (bI_f c)
    refine s_iconst (v := 0) dX8_begin_71 (by decide) ?_
    exact s_iret dX8_begin_72 (Or.inl rfl) ⟨rfl, H⟩
def F_X8_begin_49 (J : Nat → Nat → Int64) (p1 : Int32) (p2 : Int32) (p3 : Int32)  (V : Nat → Nat → Int32) (Qr : Option Value → (Nat → Nat → Int32) → Prop) (Qx : String → (Nat → Nat → Int32) → Prop) : Prop :=
F_X8_begin_65 J p1 p2 p3  2 V Qr Qx
theorem v_X8_begin_49 {J : Nat → Nat → Int64} (p1 : Int32) (p2 : Int32) (p3 : Int32) {Qr : Option Value → (Nat → Nat → Int32) → Prop} {Qx : String → (Nat → Nat → Int32) → Prop}   {V : Nat → Nat → Int32} (H : F_X8_begin_49 J p1 p2 p3   V Qr Qx) : WPc J mX8_begin Qr Qx 49 [(0, .ref 405), (1, .int p1), (2, .int p2), (3, .int p3)] [.ref 405] V 0 0 := by
  unfold F_X8_begin_49 at H
  refine s_iconst (v := 2) dX8_begin_49 (by decide) ?_
  refine s_goto (tgt := 65) dX8_begin_50 (by decide) ?_
  exact t_loc [0, 1, 2, 3] rfl (v_X8_begin_65 p1 p2 p3    2  H)
def F_X8_begin_19 (J : Nat → Nat → Int64) (p1 : Int32) (p2 : Int32) (p3 : Int32) (s0 : Int32) (V : Nat → Nat → Int32) (Qr : Option Value → (Nat → Nat → Int32) → Prop) (Qx : String → (Nat → Nat → Int32) → Prop) : Prop :=
((¬ s0 = 0) →
  ((p1 = p2) →
    F_X8_begin_49 J p1 p2 p3   V Qr Qx) ∧
  ((¬ p1 = p2) →
    CTc J mX8_in [.int p3, .int 300, .int 24000] V (fun r V1 =>
      ∃ b1 : Bool, r = some (.int (bI b1)) ∧
      ((b1 = true) →
        (((V1 405 2) = 0) →
          F_X8_begin_65 J p1 p2 p3  0 V1 Qr Qx) ∧
        ((¬ (V1 405 2) = 0) →
          F_X8_begin_65 J p1 p2 p3  3 V1 Qr Qx)) ∧
      ((b1 = false) →
        F_X8_begin_49 J p1 p2 p3   V1 Qr Qx)) Qx)) ∧
((s0 = 0) →
  F_X8_begin_65 J p1 p2 p3  1 V Qr Qx)
theorem v_X8_begin_19 {J : Nat → Nat → Int64} (p1 : Int32) (p2 : Int32) (p3 : Int32) {Qr : Option Value → (Nat → Nat → Int32) → Prop} {Qx : String → (Nat → Nat → Int32) → Prop} (s0 : Int32)  {V : Nat → Nat → Int32} (H : F_X8_begin_19 J p1 p2 p3  s0 V Qr Qx) : WPc J mX8_begin Qr Qx 19 [(0, .ref 405), (1, .int p1), (2, .int p2), (3, .int p3)] [.int s0] V 0 0 := by
  unfold F_X8_begin_19 at H
  refine t_istore (L' := [(4, .int s0), (0, .ref 405), (1, .int p1), (2, .int p2), (3, .int p3)]) dX8_begin_19 (by decide) rfl ?_
  refine s_aload_n dX8_begin_21 rfl ?_
  refine s_iload dX8_begin_22 rfl ?_
  refine s_if_ne (tgt := 31) dX8_begin_24 (by decide) (fun c => ?_) (fun c => ?_)
  · have H := H.1 c
    refine s_iload_n dX8_begin_31 rfl ?_
    refine s_iload_n dX8_begin_32 rfl ?_
    refine s_icmp_eq (tgt := 49) dX8_begin_33 (by decide) (fun c => ?_) (fun c => ?_)
    · have H := H.1 c
      exact t_loc [1, 2, 3, 4] rfl (v_X8_begin_49 p1 p2 p3      H)
    · have H := H.2 c
      refine s_iload_n dX8_begin_36 rfl ?_
      refine s_sipush (v := 300) dX8_begin_37 (by decide) ?_
      refine s_sipush (v := 24000) dX8_begin_40 (by decide) ?_
      refine t_cS (As := [.int p3, .int 300, .int 24000]) (st := [.ref 405]) iv_8_81 dX8_begin_43 ⟨by decide, by decide⟩ rfl (Nat.le_of_ble_eq_true rfl) (by decide) (by decide) rfl H (fun r V1 H => ?_)
      obtain ⟨b1, rfl, H⟩ := H
      refine s_if_ne (tgt := 53) dX8_begin_46 (by decide) (fun c => ?_) (fun c => ?_)
      · have H := H.1 (bI_t c)
        refine s_aload_n dX8_begin_53 rfl ?_
        refine t_getI fl_8_166 dX8_begin_54 ob_405 rfl ?_
        refine s_if_eq (tgt := 64) dX8_begin_57 (by decide) (fun c => ?_) (fun c => ?_)
        · have H := H.1 c
          refine s_iconst (v := 0) dX8_begin_64 (by decide) ?_
          exact t_loc [1, 2, 3, 4] rfl (v_X8_begin_65 p1 p2 p3    0  H)
        · have H := H.2 c
          refine s_iconst (v := 3) dX8_begin_60 (by decide) ?_
          refine s_goto (tgt := 65) dX8_begin_61 (by decide) ?_
          exact t_loc [1, 2, 3, 4] rfl (v_X8_begin_65 p1 p2 p3    3  H)
      · have H := H.2 (bI_f c)
        exact t_loc [1, 2, 3, 4] rfl (v_X8_begin_49 p1 p2 p3      H)
  · have H := H.2 c
    refine s_iconst (v := 1) dX8_begin_27 (by decide) ?_
    refine s_goto (tgt := 65) dX8_begin_28 (by decide) ?_
    exact t_loc [1, 2, 3, 4] rfl (v_X8_begin_65 p1 p2 p3    1  H)
def F_X8_begin_18 (J : Nat → Nat → Int64) (p1 : Int32) (p2 : Int32) (p3 : Int32)  (V : Nat → Nat → Int32) (Qr : Option Value → (Nat → Nat → Int32) → Prop) (Qx : String → (Nat → Nat → Int32) → Prop) : Prop :=
F_X8_begin_19 J p1 p2 p3  0 V Qr Qx
theorem v_X8_begin_18 {J : Nat → Nat → Int64} (p1 : Int32) (p2 : Int32) (p3 : Int32) {Qr : Option Value → (Nat → Nat → Int32) → Prop} {Qx : String → (Nat → Nat → Int32) → Prop}   {V : Nat → Nat → Int32} (H : F_X8_begin_18 J p1 p2 p3   V Qr Qx) : WPc J mX8_begin Qr Qx 18 [(0, .ref 405), (1, .int p1), (2, .int p2), (3, .int p3)] [] V 0 0 := by
  unfold F_X8_begin_18 at H
  refine s_iconst (v := 0) dX8_begin_18 (by decide) ?_
  exact t_loc [0, 1, 2, 3] rfl (v_X8_begin_19 p1 p2 p3    0  H)
def F_X8_begin (J : Nat → Nat → Int64) (p1 : Int32) (p2 : Int32) (p3 : Int32) (V : Nat → Nat → Int32) (Qr : Option Value → (Nat → Nat → Int32) → Prop) (Qx : String → (Nat → Nat → Int32) → Prop) : Prop :=
CTc J mX8_isClub [.int p1] V (fun r V1 =>
  ∃ b1 : Bool, r = some (.int (bI b1)) ∧
  ((b1 = false) →
    F_X8_begin_18 J p1 p2 p3   V1 Qr Qx) ∧
  ((b1 = true) →
    CTc J mX8_isClub [.int p2] V1 (fun r V2 =>
      ∃ b2 : Bool, r = some (.int (bI b2)) ∧
      ((b2 = false) →
        F_X8_begin_18 J p1 p2 p3   V2 Qr Qx) ∧
      ((b2 = true) →
        F_X8_begin_19 J p1 p2 p3  1 V2 Qr Qx)) Qx)) Qx
theorem v_X8_begin {J : Nat → Nat → Int64} (p1 : Int32) (p2 : Int32) (p3 : Int32) {V : Nat → Nat → Int32} {Qr : Option Value → (Nat → Nat → Int32) → Prop} {Qx : String → (Nat → Nat → Int32) → Prop} (H : F_X8_begin J p1 p2 p3 V Qr Qx) : CTc J mX8_begin [.ref 405, .int p1, .int p2, .int p3] V Qr Qx := by
  refine ctc_of (M := (T0 J, V)) pX8_begin (fun _ _ => rfl) (Nat.le_of_ble_eq_true rfl) ?_
  unfold F_X8_begin at H
  show WPc J mX8_begin Qr Qx 0 [(0, .ref 405), (1, .int p1), (2, .int p2), (3, .int p3)] [] V 0 0
  refine s_iload_n dX8_begin_0 rfl ?_
  refine t_cS (As := [.int p1]) (st := []) iv_8_163 dX8_begin_1 ⟨by decide, by decide⟩ rfl (Nat.le_of_ble_eq_true rfl) (by decide) (by decide) rfl H (fun r V1 H => ?_)
  obtain ⟨b1, rfl, H⟩ := H
  refine s_if_eq (tgt := 18) dX8_begin_4 (by decide) (fun c => ?_) (fun c => ?_)
  · have H := H.1 (bI_f c)
    exact t_loc [0, 1, 2, 3] rfl (v_X8_begin_18 p1 p2 p3      H)
  · have H := H.2 (bI_t c)
    refine s_iload_n dX8_begin_7 rfl ?_
    refine t_cS (As := [.int p2]) (st := []) iv_8_163 dX8_begin_8 ⟨by decide, by decide⟩ rfl (Nat.le_of_ble_eq_true rfl) (by decide) (by decide) rfl H (fun r V2 H => ?_)
    obtain ⟨b2, rfl, H⟩ := H
    refine s_if_eq (tgt := 18) dX8_begin_11 (by decide) (fun c => ?_) (fun c => ?_)
    · have H := H.1 (bI_f c)
      exact t_loc [0, 1, 2, 3] rfl (v_X8_begin_18 p1 p2 p3      H)
    · have H := H.2 (bI_t c)
      refine s_iconst (v := 1) dX8_begin_14 (by decide) ?_
      refine s_goto (tgt := 19) dX8_begin_15 (by decide) ?_
      exact t_loc [0, 1, 2, 3] rfl (v_X8_begin_19 p1 p2 p3    1  H)
