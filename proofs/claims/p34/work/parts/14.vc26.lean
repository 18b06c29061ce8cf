theorem mt_3 : isMats 3 := Or.inl rfl
theorem mt_16 : isMats 16 := Or.inr rfl
theorem i32_ne {x : Int32} {k : Int} (h : ¬ x = Int32.ofInt k) : ¬ k = x.toInt := fun z => h (by rw [z, Int32.ofInt_toInt])
theorem sw_out {x : Int32} {lo : Int} {n : Nat} (h : ∀ k, k < n → ¬ x = Int32.ofInt (lo + (k : Int))) (hl : -1000 ≤ lo) (hh : lo + n ≤ 1000) : x.toInt < lo ∨ lo + n - 1 < x.toInt := by
  rcases Int.lt_or_le x.toInt lo with q | q
  · exact Or.inl q
  · refine Or.inr ?_
    rcases Int.lt_or_le (lo + n - 1) x.toInt with q2 | q2
    · exact q2
    · exfalso
      refine h (x.toInt - lo).toNat (by omega) ?_
      have e : lo + ((x.toInt - lo).toNat : Int) = x.toInt := by omega
      rw [e]
      exact (Int32.ofInt_toInt x).symm
theorem ap_390 : arrP 390 60 := by unfold arrP; decide +kernel
theorem ap_392 : arrP 392 8 := by unfold arrP; decide +kernel
theorem ap_393 : arrP 393 8 := by unfold arrP; decide +kernel
theorem ap_394 : arrP 394 8 := by unfold arrP; decide +kernel
theorem ap_395 : arrP 395 8 := by unfold arrP; decide +kernel
theorem ap_396 : arrP 396 8 := by unfold arrP; decide +kernel
theorem ap_397 : arrP 397 8 := by unfold arrP; decide +kernel
theorem ap_399 : arrP 399 8 := by unfold arrP; decide +kernel
theorem ap_400 : arrP 400 8 := by unfold arrP; decide +kernel
theorem ap_401 : arrP 401 8 := by unfold arrP; decide +kernel
theorem ap_402 : arrP 402 24 := by unfold arrP; decide +kernel
theorem ap_403 : arrP 403 24 := by unfold arrP; decide +kernel
theorem ap_404 : arrP 404 24 := by unfold arrP; decide +kernel
theorem ob_0 : objP 0 7 := by unfold objP; decide +kernel
theorem ob_1 : objP 1 1 := by unfold objP; decide +kernel
theorem ob_389 : objP 389 5 := by unfold objP; decide +kernel
theorem ob_391 : objP 391 3 := by unfold objP; decide +kernel
theorem ob_398 : objP 398 0 := by unfold objP; decide +kernel

def F_X2_fill (J : Nat → Nat → Int64) (h : Nat) (p1 : Int32) (p2 : Int32) (p3 : Int32) (p4 : Int32) (V : Nat → Nat → Int32) (Qr : Option Value → (Nat → Nat → Int32) → Prop) (Qx : String → (Nat → Nat → Int32) → Prop) : Prop :=
Qr none (up2 (up2 (up2 (up2 (up2 V h 5 p1) h 6 p2) h 7 p3) h 8 p4) h 9 0)
theorem v_X2_fill {J : Nat → Nat → Int64} (h : Nat) (p1 : Int32) (p2 : Int32) (p3 : Int32) (p4 : Int32) (hh : isEv h) {V : Nat → Nat → Int32} {Qr : Option Value → (Nat → Nat → Int32) → Prop} {Qx : String → (Nat → Nat → Int32) → Prop} (H : F_X2_fill J h p1 p2 p3 p4 V Qr Qx) : CTc J mX2_fill [.ref h, .int p1, .int p2, .int p3, .int p4] V Qr Qx := by
  refine ctc_of (M := (T0 J, V)) pX2_fill (fun _ _ => rfl) (Nat.le_of_ble_eq_true rfl) ?_
  unfold F_X2_fill at H
  show WPc J mX2_fill Qr Qx 0 [(0, .ref h), (1, .int p1), (2, .int p2), (3, .int p3), (4, .int p4)] [] V 0 0
  refine s_aload_n dX2_fill_0 rfl ?_
  refine s_iload_n dX2_fill_1 rfl ?_
  refine t_putI fl_2_27 dX2_fill_2 (ev_o hh) (Or.inl rfl) ?_
  refine s_aload_n dX2_fill_5 rfl ?_
  refine s_iload_n dX2_fill_6 rfl ?_
  refine t_putI fl_2_31 dX2_fill_7 (ev_o hh) (Or.inl rfl) ?_
  refine s_aload_n dX2_fill_10 rfl ?_
  refine s_iload_n dX2_fill_11 rfl ?_
  refine t_putI fl_2_34 dX2_fill_12 (ev_o hh) (Or.inl rfl) ?_
  refine s_aload_n dX2_fill_15 rfl ?_
  refine s_iload dX2_fill_16 rfl ?_
  refine t_putI fl_2_37 dX2_fill_18 (ev_o hh) (Or.inl rfl) ?_
  refine s_aload_n dX2_fill_21 rfl ?_
  refine s_iconst (v := 0) dX2_fill_22 (by decide) ?_
  refine t_putI fl_2_40 dX2_fill_23 (ev_o hh) (Or.inl rfl) ?_
  exact s_vret dX2_fill_26 rfl ⟨rfl, H⟩

def F_X2_isRaid (J : Nat → Nat → Int64) (h : Nat) (V : Nat → Nat → Int32) (Qr : Option Value → (Nat → Nat → Int32) → Prop) (Qx : String → (Nat → Nat → Int32) → Prop) : Prop :=
((¬ (V h 5) = 0) →
  Qr (some (.int 0)) V) ∧
(((V h 5) = 0) →
  Qr (some (.int 1)) V)
theorem v_X2_isRaid {J : Nat → Nat → Int64} (h : Nat) (hh : isEv h) {V : Nat → Nat → Int32} {Qr : Option Value → (Nat → Nat → Int32) → Prop} {Qx : String → (Nat → Nat → Int32) → Prop} (H : F_X2_isRaid J h V Qr Qx) : CTc J mX2_isRaid [.ref h] V Qr Qx := by
  refine ctc_of (M := (T0 J, V)) pX2_isRaid (fun _ _ => rfl) (Nat.le_of_ble_eq_true rfl) ?_
  unfold F_X2_isRaid at H
  show WPc J mX2_isRaid Qr Qx 0 [(0, .ref h)] [] V 0 0
  refine s_aload_n dX2_isRaid_0 rfl ?_
  refine t_getI fl_2_27 dX2_isRaid_1 (ev_o hh) rfl ?_
  refine s_if_ne (tgt := 11) dX2_isRaid_4 (by decide) (fun c => ?_) (fun c => ?_)
  · have H := H.1 c
    refine s_iconst (v := 0) dX2_isRaid_11 (by decide) ?_
    exact s_iret dX2_isRaid_12 (Or.inr ⟨rfl, (Or.inl rfl)⟩) ⟨rfl, H⟩
  · have H := H.2 c
    refine s_iconst (v := 1) dX2_isRaid_7 (by decide) ?_
    refine s_goto (tgt := 12) dX2_isRaid_8 (by decide) ?_
    exact s_iret dX2_isRaid_12 (Or.inr ⟨rfl, (Or.inr rfl)⟩) ⟨rfl, H⟩

def F_X2_isPlace (J : Nat → Nat → Int64) (h : Nat) (p1 : Int32) (V : Nat → Nat → Int32) (Qr : Option Value → (Nat → Nat → Int32) → Prop) (Qx : String → (Nat → Nat → Int32) → Prop) : Prop :=
((p1 < 0) →
  Qr (some (.int 0)) V) ∧
((¬ p1 < 0) →
  (((V h 9) ≤ p1) →
    Qr (some (.int 0)) V) ∧
  ((¬ (V h 9) ≤ p1) →
    ((10 ≤ p1) →
      Qr (some (.int 0)) V) ∧
    ((¬ 10 ≤ p1) →
      Qr (some (.int 1)) V)))
theorem v_X2_isPlace {J : Nat → Nat → Int64} (h : Nat) (p1 : Int32) (hh : isEv h) {V : Nat → Nat → Int32} {Qr : Option Value → (Nat → Nat → Int32) → Prop} {Qx : String → (Nat → Nat → Int32) → Prop} (H : F_X2_isPlace J h p1 V Qr Qx) : CTc J mX2_isPlace [.ref h, .int p1] V Qr Qx := by
  refine ctc_of (M := (T0 J, V)) pX2_isPlace (fun _ _ => rfl) (Nat.le_of_ble_eq_true rfl) ?_
  unfold F_X2_isPlace at H
  show WPc J mX2_isPlace Qr Qx 0 [(0, .ref h), (1, .int p1)] [] V 0 0
  refine s_iload_n dX2_isPlace_0 rfl ?_
  refine s_if_lt (tgt := 22) dX2_isPlace_1 (by decide) (fun c => ?_) (fun c => ?_)
  · have H := H.1 c
    refine s_iconst (v := 0) dX2_isPlace_22 (by decide) ?_
    exact s_iret dX2_isPlace_23 (Or.inr ⟨rfl, (Or.inl rfl)⟩) ⟨rfl, H⟩
  · have H := H.2 c
    refine s_iload_n dX2_isPlace_4 rfl ?_
    refine s_aload_n dX2_isPlace_5 rfl ?_
    refine t_getI fl_2_40 dX2_isPlace_6 (ev_o hh) rfl ?_
    refine s_icmp_ge (tgt := 22) dX2_isPlace_9 (by decide) (fun c => ?_) (fun c => ?_)
    · have H := H.1 c
      refine s_iconst (v := 0) dX2_isPlace_22 (by decide) ?_
      exact s_iret dX2_isPlace_23 (Or.inr ⟨rfl, (Or.inl rfl)⟩) ⟨rfl, H⟩
    · have H := H.2 c
      refine s_iload_n dX2_isPlace_12 rfl ?_
      refine s_bipush (v := 10) dX2_isPlace_13 (by decide) ?_
      refine s_icmp_ge (tgt := 22) dX2_isPlace_15 (by decide) (fun c => ?_) (fun c => ?_)
      · have H := H.1 c
        refine s_iconst (v := 0) dX2_isPlace_22 (by decide) ?_
        exact s_iret dX2_isPlace_23 (Or.inr ⟨rfl, (Or.inl rfl)⟩) ⟨rfl, H⟩
      · have H := H.2 c
        refine s_iconst (v := 1) dX2_isPlace_18 (by decide) ?_
        refine s_goto (tgt := 23) dX2_isPlace_19 (by decide) ?_
        exact s_iret dX2_isPlace_23 (Or.inr ⟨rfl, (Or.inr rfl)⟩) ⟨rfl, H⟩

def F_X2_kindAt (J : Nat → Nat → Int64) (h : Nat) (p1 : Int32) (V : Nat → Nat → Int32) (Qr : Option Value → (Nat → Nat → Int32) → Prop) (Qx : String → (Nat → Nat → Int32) → Prop) : Prop :=
CTc J mX2_isPlace [.ref h, .int p1] V (fun r V1 =>
  ∃ b1 : Bool, r = some (.int (bI b1)) ∧
  ((b1 = false) →
    Qr (some (.int (-1))) V1) ∧
  ((b1 = true) →
    vp_in p1 10 ∧
    Qr (some (.int (V1 (h + 1 + 0) p1.toNatClampNeg))) V1)) Qx
theorem v_X2_kindAt {J : Nat → Nat → Int64} (h : Nat) (p1 : Int32) (hh : isEv h) {V : Nat → Nat → Int32} {Qr : Option Value → (Nat → Nat → Int32) → Prop} {Qx : String → (Nat → Nat → Int32) → Prop} (H : F_X2_kindAt J h p1 V Qr Qx) : CTc J mX2_kindAt [.ref h, .int p1] V Qr Qx := by
  refine ctc_of (M := (T0 J, V)) pX2_kindAt (fun _ _ => rfl) (Nat.le_of_ble_eq_true rfl) ?_
  unfold F_X2_kindAt at H
  show WPc J mX2_kindAt Qr Qx 0 [(0, .ref h), (1, .int p1)] [] V 0 0
  refine s_aload_n dX2_kindAt_0 rfl ?_
  refine s_iload_n dX2_kindAt_1 rfl ?_
  refine t_cV (h := h) (As := [.int p1]) (st := []) iv_2_43 dX2_kindAt_2 ⟨by decide, by decide⟩ rfl (Nat.le_of_ble_eq_true rfl) (by decide) (by decide) rfl (ev_o hh) H (fun r V1 H => ?_)
  obtain ⟨b1, rfl, H⟩ := H
  refine s_if_eq (tgt := 17) dX2_kindAt_5 (by decide) (fun c => ?_) (fun c => ?_)
  · have H := H.1 (bI_f c)
    refine s_iconst (v := (-1)) dX2_kindAt_17 (by decide) ?_
    exact s_iret dX2_kindAt_18 (Or.inl rfl) ⟨rfl, H⟩
  · have H := H.2 (bI_t c)
    refine s_aload_n dX2_kindAt_8 rfl ?_
    refine t_getR (r := (h + 1 + 0)) fl_2_9 dX2_kindAt_9 (ev_o hh) rfl (ev_r hh 0 (by decide)) ?_
    refine s_iload_n dX2_kindAt_12 rfl ?_
    refine t_iald dX2_kindAt_13 (ev_a hh 0 (by decide)) H.1 ?_
    have H := H.2
    refine s_goto (tgt := 18) dX2_kindAt_14 (by decide) ?_
    exact s_iret dX2_kindAt_18 (Or.inl rfl) ⟨rfl, H⟩

def F_X2_whoAt (J : Nat → Nat → Int64) (h : Nat) (p1 : Int32) (V : Nat → Nat → Int32) (Qr : Option Value → (Nat → Nat → Int32) → Prop) (Qx : String → (Nat → Nat → Int32) → Prop) : Prop :=
CTc J mX2_isPlace [.ref h, .int p1] V (fun r V1 =>
  ∃ b1 : Bool, r = some (.int (bI b1)) ∧
  ((b1 = false) →
    Qr (some (.int (-1))) V1) ∧
  ((b1 = true) →
    vp_in p1 10 ∧
    Qr (some (.int (V1 (h + 1 + 1) p1.toNatClampNeg))) V1)) Qx
theorem v_X2_whoAt {J : Nat → Nat → Int64} (h : Nat) (p1 : Int32) (hh : isEv h) {V : Nat → Nat → Int32} {Qr : Option Value → (Nat → Nat → Int32) → Prop} {Qx : String → (Nat → Nat → Int32) → Prop} (H : F_X2_whoAt J h p1 V Qr Qx) : CTc J mX2_whoAt [.ref h, .int p1] V Qr Qx := by
  refine ctc_of (M := (T0 J, V)) pX2_whoAt (fun _ _ => rfl) (Nat.le_of_ble_eq_true rfl) ?_
  unfold F_X2_whoAt at H
  show WPc J mX2_whoAt Qr Qx 0 [(0, .ref h), (1, .int p1)] [] V 0 0
  refine s_aload_n dX2_whoAt_0 rfl ?_
  refine s_iload_n dX2_whoAt_1 rfl ?_
  refine t_cV (h := h) (As := [.int p1]) (st := []) iv_2_43 dX2_whoAt_2 ⟨by decide, by decide⟩ rfl (Nat.le_of_ble_eq_true rfl) (by decide) (by decide) rfl (ev_o hh) H (fun r V1 H => ?_)
  obtain ⟨b1, rfl, H⟩ := H
  refine s_if_eq (tgt := 17) dX2_whoAt_5 (by decide) (fun c => ?_) (fun c => ?_)
  · have H := H.1 (bI_f c)
    refine s_iconst (v := (-1)) dX2_whoAt_17 (by decide) ?_
    exact s_iret dX2_whoAt_18 (Or.inl rfl) ⟨rfl, H⟩
  · have H := H.2 (bI_t c)
    refine s_aload_n dX2_whoAt_8 rfl ?_
    refine t_getR (r := (h + 1 + 1)) fl_2_15 dX2_whoAt_9 (ev_o hh) rfl (ev_r hh 1 (by decide)) ?_
    refine s_iload_n dX2_whoAt_12 rfl ?_
    refine t_iald dX2_whoAt_13 (ev_a hh 1 (by decide)) H.1 ?_
    have H := H.2
    refine s_goto (tgt := 18) dX2_whoAt_14 (by decide) ?_
    exact s_iret dX2_whoAt_18 (Or.inl rfl) ⟨rfl, H⟩

def F_X2_tenthAt (J : Nat → Nat → Int64) (h : Nat) (p1 : Int32) (V : Nat → Nat → Int32) (Qr : Option Value → (Nat → Nat → Int32) → Prop) (Qx : String → (Nat → Nat → Int32) → Prop) : Prop :=
CTc J mX2_isPlace [.ref h, .int p1] V (fun r V1 =>
  ∃ b1 : Bool, r = some (.int (bI b1)) ∧
  ((b1 = false) →
    Qr (some (.int 0)) V1) ∧
  ((b1 = true) →
    vp_in p1 10 ∧
    Qr (some (.int (V1 (h + 1 + 2) p1.toNatClampNeg))) V1)) Qx
theorem v_X2_tenthAt {J : Nat → Nat → Int64} (h : Nat) (p1 : Int32) (hh : isEv h) {V : Nat → Nat → Int32} {Qr : Option Value → (Nat → Nat → Int32) → Prop} {Qx : String → (Nat → Nat → Int32) → Prop} (H : F_X2_tenthAt J h p1 V Qr Qx) : CTc J mX2_tenthAt [.ref h, .int p1] V Qr Qx := by
  refine ctc_of (M := (T0 J, V)) pX2_tenthAt (fun _ _ => rfl) (Nat.le_of_ble_eq_true rfl) ?_
  unfold F_X2_tenthAt at H
  show WPc J mX2_tenthAt Qr Qx 0 [(0, .ref h), (1, .int p1)] [] V 0 0
  refine s_aload_n dX2_tenthAt_0 rfl ?_
  refine s_iload_n dX2_tenthAt_1 rfl ?_
  refine t_cV (h := h) (As := [.int p1]) (st := []) iv_2_43 dX2_tenthAt_2 ⟨by decide, by decide⟩ rfl (Nat.le_of_ble_eq_true rfl) (by decide) (by decide) rfl (ev_o hh) H (fun r V1 H => ?_)
  obtain ⟨b1, rfl, H⟩ := H
  refine s_if_eq (tgt := 17) dX2_tenthAt_5 (by decide) (fun c => ?_) (fun c => ?_)
  · have H := H.1 (bI_f c)
    refine s_iconst (v := 0) dX2_tenthAt_17 (by decide) ?_
    exact s_iret dX2_tenthAt_18 (Or.inl rfl) ⟨rfl, H⟩
  · have H := H.2 (bI_t c)
    refine s_aload_n dX2_tenthAt_8 rfl ?_
    refine t_getR (r := (h + 1 + 2)) fl_2_18 dX2_tenthAt_9 (ev_o hh) rfl (ev_r hh 2 (by decide)) ?_
    refine s_iload_n dX2_tenthAt_12 rfl ?_
    refine t_iald dX2_tenthAt_13 (ev_a hh 2 (by decide)) H.1 ?_
    have H := H.2
    refine s_goto (tgt := 18) dX2_tenthAt_14 (by decide) ?_
    exact s_iret dX2_tenthAt_18 (Or.inl rfl) ⟨rfl, H⟩

def F_X2_add (J : Nat → Nat → Int64) (h : Nat) (p1 : Int32) (p2 : Int32) (p3 : Int32) (V : Nat → Nat → Int32) (Qr : Option Value → (Nat → Nat → Int32) → Prop) (Qx : String → (Nat → Nat → Int32) → Prop) : Prop :=
(((V h 9) < 0) →
  Qr none V) ∧
((¬ (V h 9) < 0) →
  ((10 ≤ (V h 9)) →
    Qr none V) ∧
  ((¬ 10 ≤ (V h 9)) →
    vp_in (V h 9) 10 ∧
    vp_in ((up2 V (h + 1 + 0) (V h 9).toNatClampNeg p1) h 9) 10 ∧
    vp_in ((up2 (up2 V (h + 1 + 0) (V h 9).toNatClampNeg p1) (h + 1 + 1) ((up2 V (h + 1 + 0) (V h 9).toNatClampNeg p1) h 9).toNatClampNeg p2) h 9) 10 ∧
    Qr none (up2 (up2 (up2 (up2 V (h + 1 + 0) (V h 9).toNatClampNeg p1) (h + 1 + 1) ((up2 V (h + 1 + 0) (V h 9).toNatClampNeg p1) h 9).toNatClampNeg p2) (h + 1 + 2) ((up2 (up2 V (h + 1 + 0) (V h 9).toNatClampNeg p1) (h + 1 + 1) ((up2 V (h + 1 + 0) (V h 9).toNatClampNeg p1) h 9).toNatClampNeg p2) h 9).toNatClampNeg p3) h 9 (((up2 (up2 (up2 V (h + 1 + 0) (V h 9).toNatClampNeg p1) (h + 1 + 1) ((up2 V (h + 1 + 0) (V h 9).toNatClampNeg p1) h 9).toNatClampNeg p2) (h + 1 + 2) ((up2 (up2 V (h + 1 + 0) (V h 9).toNatClampNeg p1) (h + 1 + 1) ((up2 V (h + 1 + 0) (V h 9).toNatClampNeg p1) h 9).toNatClampNeg p2) h 9).toNatClampNeg p3) h 9) + 1))))
theorem v_X2_add {J : Nat → Nat → Int64} (h : Nat) (p1 : Int32) (p2 : Int32) (p3 : Int32) (hh : isEv h) {V : Nat → Nat → Int32} {Qr : Option Value → (Nat → Nat → Int32) → Prop} {Qx : String → (Nat → Nat → Int32) → Prop} (H : F_X2_add J h p1 p2 p3 V Qr Qx) : CTc J mX2_add [.ref h, .int p1, .int p2, .int p3] V Qr Qx := by
  refine ctc_of (M := (T0 J, V)) pX2_add (fun _ _ => rfl) (Nat.le_of_ble_eq_true rfl) ?_
  unfold F_X2_add at H
  show WPc J mX2_add Qr Qx 0 [(0, .ref h), (1, .int p1), (2, .int p2), (3, .int p3)] [] V 0 0
  refine s_aload_n dX2_add_0 rfl ?_
  refine t_getI fl_2_40 dX2_add_1 (ev_o hh) rfl ?_
  refine s_if_lt (tgt := 56) dX2_add_4 (by decide) (fun c => ?_) (fun c => ?_)
  · have H := H.1 c
    exact s_vret dX2_add_56 rfl ⟨rfl, H⟩
  · have H := H.2 c
    refine s_aload_n dX2_add_7 rfl ?_
    refine t_getI fl_2_40 dX2_add_8 (ev_o hh) rfl ?_
    refine s_bipush (v := 10) dX2_add_11 (by decide) ?_
    refine s_icmp_ge (tgt := 56) dX2_add_13 (by decide) (fun c => ?_) (fun c => ?_)
    · have H := H.1 c
      exact s_vret dX2_add_56 rfl ⟨rfl, H⟩
    · have H := H.2 c
      refine s_aload_n dX2_add_16 rfl ?_
      refine t_getR (r := (h + 1 + 0)) fl_2_9 dX2_add_17 (ev_o hh) rfl (ev_r hh 0 (by decide)) ?_
      refine s_aload_n dX2_add_20 rfl ?_
      refine t_getI fl_2_40 dX2_add_21 (ev_o hh) rfl ?_
      refine s_iload_n dX2_add_24 rfl ?_
      refine t_iast dX2_add_25 (ev_a hh 0 (by decide)) H.1 ?_
      have H := H.2
      refine s_aload_n dX2_add_26 rfl ?_
      refine t_getR (r := (h + 1 + 1)) fl_2_15 dX2_add_27 (ev_o hh) rfl (ev_r hh 1 (by decide)) ?_
      refine s_aload_n dX2_add_30 rfl ?_
      refine t_getI fl_2_40 dX2_add_31 (ev_o hh) rfl ?_
      refine s_iload_n dX2_add_34 rfl ?_
      refine t_iast dX2_add_35 (ev_a hh 1 (by decide)) H.1 ?_
      have H := H.2
      refine s_aload_n dX2_add_36 rfl ?_
      refine t_getR (r := (h + 1 + 2)) fl_2_18 dX2_add_37 (ev_o hh) rfl (ev_r hh 2 (by decide)) ?_
      refine s_aload_n dX2_add_40 rfl ?_
      refine t_getI fl_2_40 dX2_add_41 (ev_o hh) rfl ?_
      refine s_iload_n dX2_add_44 rfl ?_
      refine t_iast dX2_add_45 (ev_a hh 2 (by decide)) H.1 ?_
      have H := H.2
      refine s_aload_n dX2_add_46 rfl ?_
      refine s_dup dX2_add_47 rfl ?_
      refine t_getI fl_2_40 dX2_add_48 (ev_o hh) rfl ?_
      refine s_iconst (v := 1) dX2_add_51 (by decide) ?_
      refine s_iadd dX2_add_52 ?_
      refine t_putI fl_2_40 dX2_add_53 (ev_o hh) (Or.inl rfl) ?_
      exact s_vret dX2_add_56 rfl ⟨rfl, H⟩

def F_X2_correct (J : Nat → Nat → Int64) (h : Nat) (p1 : Int32) (p2 : Int32) (p3 : Int32) (V : Nat → Nat → Int32) (Qr : Option Value → (Nat → Nat → Int32) → Prop) (Qx : String → (Nat → Nat → Int32) → Prop) : Prop :=
CTc J mX2_isPlace [.ref h, .int p1] V (fun r V1 =>
  ∃ b1 : Bool, r = some (.int (bI b1)) ∧
  ((b1 = false) →
    Qr none V1) ∧
  ((b1 = true) →
    vp_in p1 10 ∧
    vp_in p1 10 ∧
    Qr none (up2 (up2 V1 (h + 1 + 0) p1.toNatClampNeg p2) (h + 1 + 1) p1.toNatClampNeg p3))) Qx
theorem v_X2_correct {J : Nat → Nat → Int64} (h : Nat) (p1 : Int32) (p2 : Int32) (p3 : Int32) (hh : isEv h) {V : Nat → Nat → Int32} {Qr : Option Value → (Nat → Nat → Int32) → Prop} {Qx : String → (Nat → Nat → Int32) → Prop} (H : F_X2_correct J h p1 p2 p3 V Qr Qx) : CTc J mX2_correct [.ref h, .int p1, .int p2, .int p3] V Qr Qx := by
  refine ctc_of (M := (T0 J, V)) pX2_correct (fun _ _ => rfl) (Nat.le_of_ble_eq_true rfl) ?_
  unfold F_X2_correct at H
  show WPc J mX2_correct Qr Qx 0 [(0, .ref h), (1, .int p1), (2, .int p2), (3, .int p3)] [] V 0 0
  refine s_aload_n dX2_correct_0 rfl ?_
  refine s_iload_n dX2_correct_1 rfl ?_
  refine t_cV (h := h) (As := [.int p1]) (st := []) iv_2_43 dX2_correct_2 ⟨by decide, by decide⟩ rfl (Nat.le_of_ble_eq_true rfl) (by decide) (by decide) rfl (ev_o hh) H (fun r V1 H => ?_)
  obtain ⟨b1, rfl, H⟩ := H
  refine s_if_eq (tgt := 22) dX2_correct_5 (by decide) (fun c => ?_) (fun c => ?_)
  · have H := H.1 (bI_f c)
    exact s_vret dX2_correct_22 rfl ⟨rfl, H⟩
  · have H := H.2 (bI_t c)
    refine s_aload_n dX2_correct_8 rfl ?_
    refine t_getR (r := (h + 1 + 0)) fl_2_9 dX2_correct_9 (ev_o hh) rfl (ev_r hh 0 (by decide)) ?_
    refine s_iload_n dX2_correct_12 rfl ?_
    refine s_iload_n dX2_correct_13 rfl ?_
    refine t_iast dX2_correct_14 (ev_a hh 0 (by decide)) H.1 ?_
    have H := H.2
    refine s_aload_n dX2_correct_15 rfl ?_
    refine t_getR (r := (h + 1 + 1)) fl_2_15 dX2_correct_16 (ev_o hh) rfl (ev_r hh 1 (by decide)) ?_
    refine s_iload_n dX2_correct_19 rfl ?_
    refine s_iload_n dX2_correct_20 rfl ?_
    refine t_iast dX2_correct_21 (ev_a hh 1 (by decide)) H.1 ?_
    have H := H.2
    exact s_vret dX2_correct_22 rfl ⟨rfl, H⟩

def F_X2_hasAmongFirst_40 (J : Nat → Nat → Int64) (h : Nat) (p1 : Int32) (p2 : Int32) (p3 : Int32) (K3 : Int32 → (Nat → Nat → Int32) → Prop) (x4 : Int32) (V : Nat → Nat → Int32) (Qr : Option Value → (Nat → Nat → Int32) → Prop) (Qx : String → (Nat → Nat → Int32) → Prop) : Prop :=
K3 (x4 + 1) V
theorem v_X2_hasAmongFirst_40 {J : Nat → Nat → Int64} (h : Nat) (p1 : Int32) (p2 : Int32) (p3 : Int32) (hh : isEv h) {Qr : Option Value → (Nat → Nat → Int32) → Prop} {Qx : String → (Nat → Nat → Int32) → Prop} (K3 : Int32 → (Nat → Nat → Int32) → Prop) (hK3 : ∀ (x4 : Int32)  (V : Nat → Nat → Int32), K3 x4 V → WPc J mX2_hasAmongFirst Qr Qx 3 [(0, .ref h), (1, .int p1), (2, .int p2), (3, .int p3), (4, .int x4)] [] V 0 0) (x4 : Int32)  {V : Nat → Nat → Int32} (H : F_X2_hasAmongFirst_40 J h p1 p2 p3 K3 x4 V Qr Qx) : WPc J mX2_hasAmongFirst Qr Qx 40 [(0, .ref h), (1, .int p1), (2, .int p2), (3, .int p3), (4, .int x4)] [] V 0 0 := by
  unfold F_X2_hasAmongFirst_40 at H
  refine t_iinc (v := (x4 + 1)) (L' := [(4, .int (x4 + 1)), (0, .ref h), (1, .int p1), (2, .int p2), (3, .int p3)]) dX2_hasAmongFirst_40 rfl (by rfl) (by decide) rfl ?_
  refine s_goto (tgt := 3) dX2_hasAmongFirst_43 (by decide) ?_
  exact t_loc [1, 2, 3, 4, 0] rfl (hK3 (x4 + 1)  V H)
def B_X2_hasAmongFirst_3 (J : Nat → Nat → Int64) (h : Nat) (p1 : Int32) (p2 : Int32) (p3 : Int32) (K3 : Int32 → (Nat → Nat → Int32) → Prop) (x4 : Int32) (V : Nat → Nat → Int32) (Qr : Option Value → (Nat → Nat → Int32) → Prop) (Qx : String → (Nat → Nat → Int32) → Prop) : Prop :=
((p1 ≤ x4) →
  Qr (some (.int 0)) V) ∧
((¬ p1 ≤ x4) →
  ((10 ≤ x4) →
    Qr (some (.int 0)) V) ∧
  ((¬ 10 ≤ x4) →
    vp_in x4 10 ∧
    ((¬ (V (h + 1 + 0) x4.toNatClampNeg) = p2) →
      F_X2_hasAmongFirst_40 J h p1 p2 p3 K3 x4 V Qr Qx) ∧
    (((V (h + 1 + 0) x4.toNatClampNeg) = p2) →
      vp_in x4 10 ∧
      ((¬ (V (h + 1 + 1) x4.toNatClampNeg) = p3) →
        F_X2_hasAmongFirst_40 J h p1 p2 p3 K3 x4 V Qr Qx) ∧
      (((V (h + 1 + 1) x4.toNatClampNeg) = p3) →
        Qr (some (.int 1)) V))))
def F_X2_hasAmongFirst_3 (J : Nat → Nat → Int64) (h : Nat) (p1 : Int32) (p2 : Int32) (p3 : Int32) (x4 : Int32) (V : Nat → Nat → Int32) (Qr : Option Value → (Nat → Nat → Int32) → Prop) (Qx : String → (Nat → Nat → Int32) → Prop) : Prop :=
  ∃ I : Nat → Int32 → (Nat → Nat → Int32) → Prop, (∃ n, I n x4 V) ∧ ∀ n (x4 : Int32) (V : Nat → Nat → Int32), I n x4 V → B_X2_hasAmongFirst_3 J h p1 p2 p3  (fun x4 V => ∃ n', n' < n ∧ I n' x4 V) x4 V Qr Qx
theorem v_X2_hasAmongFirst_3 {J : Nat → Nat → Int64} (h : Nat) (p1 : Int32) (p2 : Int32) (p3 : Int32) (hh : isEv h) {Qr : Option Value → (Nat → Nat → Int32) → Prop} {Qx : String → (Nat → Nat → Int32) → Prop} (x4 : Int32)  {V : Nat → Nat → Int32} (H : F_X2_hasAmongFirst_3 J h p1 p2 p3  x4 V Qr Qx) : WPc J mX2_hasAmongFirst Qr Qx 3 [(0, .ref h), (1, .int p1), (2, .int p2), (3, .int p3), (4, .int x4)] [] V 0 0 := by
  obtain ⟨I, ⟨n0, h0⟩, hs⟩ := H
  have step : ∀ (K3 : Int32 → (Nat → Nat → Int32) → Prop), (∀ (x4 : Int32)  (V : Nat → Nat → Int32), K3 x4 V → WPc J mX2_hasAmongFirst Qr Qx 3 [(0, .ref h), (1, .int p1), (2, .int p2), (3, .int p3), (4, .int x4)] [] V 0 0) → ∀ (x4 : Int32)  (V : Nat → Nat → Int32), B_X2_hasAmongFirst_3 J h p1 p2 p3  K3 x4 V Qr Qx → WPc J mX2_hasAmongFirst Qr Qx 3 [(0, .ref h), (1, .int p1), (2, .int p2), (3, .int p3), (4, .int x4)] [] V 0 0 := by
    intro K3 hK3 x4  V H
    unfold B_X2_hasAmongFirst_3 at H
    refine s_iload dX2_hasAmongFirst_3 rfl ?_
    refine s_iload_n dX2_hasAmongFirst_5 rfl ?_
    refine s_icmp_ge (tgt := 46) dX2_hasAmongFirst_6 (by decide) (fun c => ?_) (fun c => ?_)
    · have H := H.1 c
      refine s_iconst (v := 0) dX2_hasAmongFirst_46 (by decide) ?_
      exact s_iret dX2_hasAmongFirst_47 (Or.inr ⟨rfl, (Or.inl rfl)⟩) ⟨rfl, H⟩
    · have H := H.2 c
      refine s_iload dX2_hasAmongFirst_9 rfl ?_
      refine s_bipush (v := 10) dX2_hasAmongFirst_11 (by decide) ?_
      refine s_icmp_ge (tgt := 46) dX2_hasAmongFirst_13 (by decide) (fun c => ?_) (fun c => ?_)
      · have H := H.1 c
        refine s_iconst (v := 0) dX2_hasAmongFirst_46 (by decide) ?_
        exact s_iret dX2_hasAmongFirst_47 (Or.inr ⟨rfl, (Or.inl rfl)⟩) ⟨rfl, H⟩
      · have H := H.2 c
        refine s_aload_n dX2_hasAmongFirst_16 rfl ?_
        refine t_getR (r := (h + 1 + 0)) fl_2_9 dX2_hasAmongFirst_17 (ev_o hh) rfl (ev_r hh 0 (by decide)) ?_
        refine s_iload dX2_hasAmongFirst_20 rfl ?_
        refine t_iald dX2_hasAmongFirst_22 (ev_a hh 0 (by decide)) H.1 ?_
        have H := H.2
        refine s_iload_n dX2_hasAmongFirst_23 rfl ?_
        refine s_icmp_ne (tgt := 40) dX2_hasAmongFirst_24 (by decide) (fun c => ?_) (fun c => ?_)
        · have H := H.1 c
          exact t_loc [0, 1, 2, 3, 4] rfl (v_X2_hasAmongFirst_40 h p1 p2 p3 hh  K3 hK3 x4  H)
        · have H := H.2 c
          refine s_aload_n dX2_hasAmongFirst_27 rfl ?_
          refine t_getR (r := (h + 1 + 1)) fl_2_15 dX2_hasAmongFirst_28 (ev_o hh) rfl (ev_r hh 1 (by decide)) ?_
          refine s_iload dX2_hasAmongFirst_31 rfl ?_
          refine t_iald dX2_hasAmongFirst_33 (ev_a hh 1 (by decide)) H.1 ?_
          have H := H.2
          refine s_iload_n dX2_hasAmongFirst_34 rfl ?_
          refine s_icmp_ne (tgt := 40) dX2_hasAmongFirst_35 (by decide) (fun c => ?_) (fun c => ?_)
          · have H := H.1 c
            exact t_loc [0, 1, 2, 3, 4] rfl (v_X2_hasAmongFirst_40 h p1 p2 p3 hh  K3 hK3 x4  H)
          · have H := H.2 c
            refine s_iconst (v := 1) dX2_hasAmongFirst_38 (by decide) ?_
            exact s_iret dX2_hasAmongFirst_39 (Or.inr ⟨rfl, (Or.inr rfl)⟩) ⟨rfl, H⟩
  have key : ∀ n, ∀ (x4 : Int32)  (V : Nat → Nat → Int32), I n x4 V → WPc J mX2_hasAmongFirst Qr Qx 3 [(0, .ref h), (1, .int p1), (2, .int p2), (3, .int p3), (4, .int x4)] [] V 0 0 := by
    refine strong (fun n ih => ?_)
    intro x4  V hI
    exact step _ (fun x4  V hz => Exists.elim hz (fun n1 hz => ih n1 hz.1 x4  V hz.2)) x4  V (hs n x4 V hI)
  exact key n0 x4  V h0
def F_X2_hasAmongFirst (J : Nat → Nat → Int64) (h : Nat) (p1 : Int32) (p2 : Int32) (p3 : Int32) (V : Nat → Nat → Int32) (Qr : Option Value → (Nat → Nat → Int32) → Prop) (Qx : String → (Nat → Nat → Int32) → Prop) : Prop :=
F_X2_hasAmongFirst_3 J h p1 p2 p3  0 V Qr Qx
theorem v_X2_hasAmongFirst {J : Nat → Nat → Int64} (h : Nat) (p1 : Int32) (p2 : Int32) (p3 : Int32) (hh : isEv h) {V : Nat → Nat → Int32} {Qr : Option Value → (Nat → Nat → Int32) → Prop} {Qx : String → (Nat → Nat → Int32) → Prop} (H : F_X2_hasAmongFirst J h p1 p2 p3 V Qr Qx) : CTc J mX2_hasAmongFirst [.ref h, .int p1, .int p2, .int p3] V Qr Qx := by
  refine ctc_of (M := (T0 J, V)) pX2_hasAmongFirst (fun _ _ => rfl) (Nat.le_of_ble_eq_true rfl) ?_
  unfold F_X2_hasAmongFirst at H
  show WPc J mX2_hasAmongFirst Qr Qx 0 [(0, .ref h), (1, .int p1), (2, .int p2), (3, .int p3)] [] V 0 0
  refine s_iconst (v := 0) dX2_hasAmongFirst_0 (by decide) ?_
  refine t_istore (L' := [(4, .int 0), (0, .ref h), (1, .int p1), (2, .int p2), (3, .int p3)]) dX2_hasAmongFirst_1 (by decide) rfl ?_
  exact t_loc [1, 2, 3, 4, 0] rfl (v_X2_hasAmongFirst_3 h p1 p2 p3 hh    0  H)

def F_X2_has (J : Nat → Nat → Int64) (h : Nat) (p1 : Int32) (V : Nat → Nat → Int32) (Qr : Option Value → (Nat → Nat → Int32) → Prop) (Qx : String → (Nat → Nat → Int32) → Prop) : Prop :=
CTc J mX2_hasAmongFirst [.ref h, .int (V h 9), .int p1, .int (-1)] V (fun r V1 =>
  ∃ b1 : Bool, r = some (.int (bI b1)) ∧
  Qr (some (.int (bI b1))) V1) Qx
theorem v_X2_has {J : Nat → Nat → Int64} (h : Nat) (p1 : Int32) (hh : isEv h) {V : Nat → Nat → Int32} {Qr : Option Value → (Nat → Nat → Int32) → Prop} {Qx : String → (Nat → Nat → Int32) → Prop} (H : F_X2_has J h p1 V Qr Qx) : CTc J mX2_has [.ref h, .int p1] V Qr Qx := by
  refine ctc_of (M := (T0 J, V)) pX2_has (fun _ _ => rfl) (Nat.le_of_ble_eq_true rfl) ?_
  unfold F_X2_has at H
  show WPc J mX2_has Qr Qx 0 [(0, .ref h), (1, .int p1)] [] V 0 0
  refine s_aload_n dX2_has_0 rfl ?_
  refine s_aload_n dX2_has_1 rfl ?_
  refine t_getI fl_2_40 dX2_has_2 (ev_o hh) rfl ?_
  refine s_iload_n dX2_has_5 rfl ?_
  refine s_iconst (v := (-1)) dX2_has_6 (by decide) ?_
  refine t_cV (h := h) (As := [.int (V h 9), .int p1, .int (-1)]) (st := []) iv_2_47 dX2_has_7 ⟨by decide, by decide⟩ rfl (Nat.le_of_ble_eq_true rfl) (by decide) (by decide) rfl (ev_o hh) H (fun r V1 H => ?_)
  obtain ⟨b1, rfl, H⟩ := H
  exact s_iret dX2_has_10 (Or.inr ⟨rfl, (bI_01 b1)⟩) ⟨rfl, H⟩

def F_X2_countTouches_30 (J : Nat → Nat → Int64) (h : Nat) (K4 : Int32 → Int32 → (Nat → Nat → Int32) → Prop) (x1 : Int32) (x2 : Int32) (V : Nat → Nat → Int32) (Qr : Option Value → (Nat → Nat → Int32) → Prop) (Qx : String → (Nat → Nat → Int32) → Prop) : Prop :=
K4 x1 (x2 + 1) V
theorem v_X2_countTouches_30 {J : Nat → Nat → Int64} (h : Nat) (hh : isEv h) {Qr : Option Value → (Nat → Nat → Int32) → Prop} {Qx : String → (Nat → Nat → Int32) → Prop} (K4 : Int32 → Int32 → (Nat → Nat → Int32) → Prop) (hK4 : ∀ (x1 : Int32) (x2 : Int32)  (V : Nat → Nat → Int32), K4 x1 x2 V → WPc J mX2_countTouches Qr Qx 4 [(0, .ref h), (1, .int x1), (2, .int x2)] [] V 0 0) (x1 : Int32) (x2 : Int32)  {V : Nat → Nat → Int32} (H : F_X2_countTouches_30 J h K4 x1 x2 V Qr Qx) : WPc J mX2_countTouches Qr Qx 30 [(0, .ref h), (1, .int x1), (2, .int x2)] [] V 0 0 := by
  unfold F_X2_countTouches_30 at H
  refine t_iinc (v := (x2 + 1)) (L' := [(2, .int (x2 + 1)), (0, .ref h), (1, .int x1)]) dX2_countTouches_30 rfl (by rfl) (by decide) rfl ?_
  refine s_goto (tgt := 4) dX2_countTouches_33 (by decide) ?_
  exact t_loc [1, 2, 0] rfl (hK4 x1 (x2 + 1)  V H)
def B_X2_countTouches_4 (J : Nat → Nat → Int64) (h : Nat) (K4 : Int32 → Int32 → (Nat → Nat → Int32) → Prop) (x1 : Int32) (x2 : Int32) (V : Nat → Nat → Int32) (Qr : Option Value → (Nat → Nat → Int32) → Prop) (Qx : String → (Nat → Nat → Int32) → Prop) : Prop :=
(((V h 9) ≤ x2) →
  Qr (some (.int x1)) V) ∧
((¬ (V h 9) ≤ x2) →
  ((10 ≤ x2) →
    Qr (some (.int x1)) V) ∧
  ((¬ 10 ≤ x2) →
    vp_in x2 10 ∧
    ((¬ (V (h + 1 + 0) x2.toNatClampNeg) = 0) →
      F_X2_countTouches_30 J h K4 x1 x2 V Qr Qx) ∧
    (((V (h + 1 + 0) x2.toNatClampNeg) = 0) →
      F_X2_countTouches_30 J h K4 (x1 + 1) x2 V Qr Qx)))
def F_X2_countTouches_4 (J : Nat → Nat → Int64) (h : Nat) (x1 : Int32) (x2 : Int32) (V : Nat → Nat → Int32) (Qr : Option Value → (Nat → Nat → Int32) → Prop) (Qx : String → (Nat → Nat → Int32) → Prop) : Prop :=
  ∃ I : Nat → Int32 → Int32 → (Nat → Nat → Int32) → Prop, (∃ n, I n x1 x2 V) ∧ ∀ n (x1 : Int32) (x2 : Int32) (V : Nat → Nat → Int32), I n x1 x2 V → B_X2_countTouches_4 J h  (fun x1 x2 V => ∃ n', n' < n ∧ I n' x1 x2 V) x1 x2 V Qr Qx
theorem v_X2_countTouches_4 {J : Nat → Nat → Int64} (h : Nat) (hh : isEv h) {Qr : Option Value → (Nat → Nat → Int32) → Prop} {Qx : String → (Nat → Nat → Int32) → Prop} (x1 : Int32) (x2 : Int32)  {V : Nat → Nat → Int32} (H : F_X2_countTouches_4 J h  x1 x2 V Qr Qx) : WPc J mX2_countTouches Qr Qx 4 [(0, .ref h), (1, .int x1), (2, .int x2)] [] V 0 0 := by
  obtain ⟨I, ⟨n0, h0⟩, hs⟩ := H
  have step : ∀ (K4 : Int32 → Int32 → (Nat → Nat → Int32) → Prop), (∀ (x1 : Int32) (x2 : Int32)  (V : Nat → Nat → Int32), K4 x1 x2 V → WPc J mX2_countTouches Qr Qx 4 [(0, .ref h), (1, .int x1), (2, .int x2)] [] V 0 0) → ∀ (x1 : Int32) (x2 : Int32)  (V : Nat → Nat → Int32), B_X2_countTouches_4 J h  K4 x1 x2 V Qr Qx → WPc J mX2_countTouches Qr Qx 4 [(0, .ref h), (1, .int x1), (2, .int x2)] [] V 0 0 := by
    intro K4 hK4 x1 x2  V H
    unfold B_X2_countTouches_4 at H
    refine s_iload_n dX2_countTouches_4 rfl ?_
    refine s_aload_n dX2_countTouches_5 rfl ?_
    refine t_getI fl_2_40 dX2_countTouches_6 (ev_o hh) rfl ?_
    refine s_icmp_ge (tgt := 36) dX2_countTouches_9 (by decide) (fun c => ?_) (fun c => ?_)
    · have H := H.1 c
      refine s_iload_n dX2_countTouches_36 rfl ?_
      exact s_iret dX2_countTouches_37 (Or.inl rfl) ⟨rfl, H⟩
    · have H := H.2 c
      refine s_iload_n dX2_countTouches_12 rfl ?_
      refine s_bipush (v := 10) dX2_countTouches_13 (by decide) ?_
      refine s_icmp_ge (tgt := 36) dX2_countTouches_15 (by decide) (fun c => ?_) (fun c => ?_)
      · have H := H.1 c
        refine s_iload_n dX2_countTouches_36 rfl ?_
        exact s_iret dX2_countTouches_37 (Or.inl rfl) ⟨rfl, H⟩
      · have H := H.2 c
        refine s_aload_n dX2_countTouches_18 rfl ?_
        refine t_getR (r := (h + 1 + 0)) fl_2_9 dX2_countTouches_19 (ev_o hh) rfl (ev_r hh 0 (by decide)) ?_
        refine s_iload_n dX2_countTouches_22 rfl ?_
        refine t_iald dX2_countTouches_23 (ev_a hh 0 (by decide)) H.1 ?_
        have H := H.2
        refine s_if_ne (tgt := 30) dX2_countTouches_24 (by decide) (fun c => ?_) (fun c => ?_)
        · have H := H.1 c
          exact t_loc [0, 1, 2] rfl (v_X2_countTouches_30 h hh  K4 hK4 x1 x2  H)
        · have H := H.2 c
          refine t_iinc (v := (x1 + 1)) (L' := [(1, .int (x1 + 1)), (0, .ref h), (2, .int x2)]) dX2_countTouches_27 rfl (by rfl) (by decide) rfl ?_
          exact t_loc [1, 0, 2] rfl (v_X2_countTouches_30 h hh  K4 hK4 (x1 + 1) x2  H)
  have key : ∀ n, ∀ (x1 : Int32) (x2 : Int32)  (V : Nat → Nat → Int32), I n x1 x2 V → WPc J mX2_countTouches Qr Qx 4 [(0, .ref h), (1, .int x1), (2, .int x2)] [] V 0 0 := by
    refine strong (fun n ih => ?_)
    intro x1 x2  V hI
    exact step _ (fun x1 x2  V hz => Exists.elim hz (fun n1 hz => ih n1 hz.1 x1 x2  V hz.2)) x1 x2  V (hs n x1 x2 V hI)
  exact key n0 x1 x2  V h0
def F_X2_countTouches (J : Nat → Nat → Int64) (h : Nat) (V : Nat → Nat → Int32) (Qr : Option Value → (Nat → Nat → Int32) → Prop) (Qx : String → (Nat → Nat → Int32) → Prop) : Prop :=
F_X2_countTouches_4 J h  0 0 V Qr Qx
theorem v_X2_countTouches {J : Nat → Nat → Int64} (h : Nat) (hh : isEv h) {V : Nat → Nat → Int32} {Qr : Option Value → (Nat → Nat → Int32) → Prop} {Qx : String → (Nat → Nat → Int32) → Prop} (H : F_X2_countTouches J h V Qr Qx) : CTc J mX2_countTouches [.ref h] V Qr Qx := by
  refine ctc_of (M := (T0 J, V)) pX2_countTouches (fun _ _ => rfl) (Nat.le_of_ble_eq_true rfl) ?_
  unfold F_X2_countTouches at H
  show WPc J mX2_countTouches Qr Qx 0 [(0, .ref h)] [] V 0 0
  refine s_iconst (v := 0) dX2_countTouches_0 (by decide) ?_
  refine t_istore_n (L' := [(1, .int 0), (0, .ref h)]) dX2_countTouches_1 (by decide) rfl ?_
  refine s_iconst (v := 0) dX2_countTouches_2 (by decide) ?_
  refine t_istore_n (L' := [(2, .int 0), (1, .int 0), (0, .ref h)]) dX2_countTouches_3 (by decide) rfl ?_
  exact t_loc [2, 1, 0] rfl (v_X2_countTouches_4 h hh    0 0  H)

def F_X2_lastTenth (J : Nat → Nat → Int64) (h : Nat) (V : Nat → Nat → Int32) (Qr : Option Value → (Nat → Nat → Int32) → Prop) (Qx : String → (Nat → Nat → Int32) → Prop) : Prop :=
CTc J mX2_tenthAt [.ref h, .int ((V h 9) - 1)] V (fun r V1 =>
  ∃ r1 : Int32, r = some (.int r1) ∧
  Qr (some (.int r1)) V1) Qx
theorem v_X2_lastTenth {J : Nat → Nat → Int64} (h : Nat) (hh : isEv h) {V : Nat → Nat → Int32} {Qr : Option Value → (Nat → Nat → Int32) → Prop} {Qx : String → (Nat → Nat → Int32) → Prop} (H : F_X2_lastTenth J h V Qr Qx) : CTc J mX2_lastTenth [.ref h] V Qr Qx := by
  refine ctc_of (M := (T0 J, V)) pX2_lastTenth (fun _ _ => rfl) (Nat.le_of_ble_eq_true rfl) ?_
  unfold F_X2_lastTenth at H
  show WPc J mX2_lastTenth Qr Qx 0 [(0, .ref h)] [] V 0 0
  refine s_aload_n dX2_lastTenth_0 rfl ?_
  refine s_aload_n dX2_lastTenth_1 rfl ?_
  refine t_getI fl_2_40 dX2_lastTenth_2 (ev_o hh) rfl ?_
  refine s_iconst (v := 1) dX2_lastTenth_5 (by decide) ?_
  refine s_isub dX2_lastTenth_6 ?_
  refine t_cV (h := h) (As := [.int ((V h 9) - 1)]) (st := []) iv_2_51 dX2_lastTenth_7 ⟨by decide, by decide⟩ rfl (Nat.le_of_ble_eq_true rfl) (by decide) (by decide) rfl (ev_o hh) H (fun r V1 H => ?_)
  obtain ⟨r1, rfl, H⟩ := H
  exact s_iret dX2_lastTenth_10 (Or.inl rfl) ⟨rfl, H⟩

def F_X2_lastKind (J : Nat → Nat → Int64) (h : Nat) (V : Nat → Nat → Int32) (Qr : Option Value → (Nat → Nat → Int32) → Prop) (Qx : String → (Nat → Nat → Int32) → Prop) : Prop :=
CTc J mX2_kindAt [.ref h, .int ((V h 9) - 1)] V (fun r V1 =>
  ∃ r1 : Int32, r = some (.int r1) ∧
  Qr (some (.int r1)) V1) Qx
theorem v_X2_lastKind {J : Nat → Nat → Int64} (h : Nat) (hh : isEv h) {V : Nat → Nat → Int32} {Qr : Option Value → (Nat → Nat → Int32) → Prop} {Qx : String → (Nat → Nat → Int32) → Prop} (H : F_X2_lastKind J h V Qr Qx) : CTc J mX2_lastKind [.ref h] V Qr Qx := by
  refine ctc_of (M := (T0 J, V)) pX2_lastKind (fun _ _ => rfl) (Nat.le_of_ble_eq_true rfl) ?_
  unfold F_X2_lastKind at H
  show WPc J mX2_lastKind Qr Qx 0 [(0, .ref h)] [] V 0 0
  refine s_aload_n dX2_lastKind_0 rfl ?_
  refine s_aload_n dX2_lastKind_1 rfl ?_
  refine t_getI fl_2_40 dX2_lastKind_2 (ev_o hh) rfl ?_
  refine s_iconst (v := 1) dX2_lastKind_5 (by decide) ?_
  refine s_isub dX2_lastKind_6 ?_
  refine t_cV (h := h) (As := [.int ((V h 9) - 1)]) (st := []) iv_2_55 dX2_lastKind_7 ⟨by decide, by decide⟩ rfl (Nat.le_of_ble_eq_true rfl) (by decide) (by decide) rfl (ev_o hh) H (fun r V1 H => ?_)
  obtain ⟨r1, rfl, H⟩ := H
  exact s_iret dX2_lastKind_10 (Or.inl rfl) ⟨rfl, H⟩

def B_X2_keepWhatStands_2 (J : Nat → Nat → Int64) (h : Nat) (q1 : Nat) (K2 : Int32 → (Nat → Nat → Int32) → Prop) (x2 : Int32) (V : Nat → Nat → Int32) (Qr : Option Value → (Nat → Nat → Int32) → Prop) (Qx : String → (Nat → Nat → Int32) → Prop) : Prop :=
((2 ≤ x2) →
  Qr none V) ∧
((¬ 2 ≤ x2) →
  CTc J mX4_sideAt [.ref q1, .int x2] V (fun r V1 =>
    ∃ c1 : Nat, r = some (.ref c1) ∧ isSide c1 ∧
    CTc J mX6_onBits [.ref c1] V1 (fun r V2 =>
      ∃ r2 : Int32, r = some (.int r2) ∧
      vp_in x2 2 ∧
      CTc J mX4_sideAt [.ref q1, .int x2] (up2 V2 (h + 1 + 3) x2.toNatClampNeg r2) (fun r V3 =>
        ∃ c3 : Nat, r = some (.ref c3) ∧ isSide c3 ∧
        vp_in x2 2 ∧
        K2 (x2 + 1) (up2 V3 (h + 1 + 4) x2.toNatClampNeg (V3 c3 7))) Qx) Qx) Qx)
def F_X2_keepWhatStands_2 (J : Nat → Nat → Int64) (h : Nat) (q1 : Nat) (x2 : Int32) (V : Nat → Nat → Int32) (Qr : Option Value → (Nat → Nat → Int32) → Prop) (Qx : String → (Nat → Nat → Int32) → Prop) : Prop :=
  ∃ I : Nat → Int32 → (Nat → Nat → Int32) → Prop, (∃ n, I n x2 V) ∧ ∀ n (x2 : Int32) (V : Nat → Nat → Int32), I n x2 V → B_X2_keepWhatStands_2 J h q1  (fun x2 V => ∃ n', n' < n ∧ I n' x2 V) x2 V Qr Qx
theorem v_X2_keepWhatStands_2 {J : Nat → Nat → Int64} (h : Nat) (q1 : Nat) (hh : isEv h) (hq1 : isMats q1) {Qr : Option Value → (Nat → Nat → Int32) → Prop} {Qx : String → (Nat → Nat → Int32) → Prop} (x2 : Int32)  {V : Nat → Nat → Int32} (H : F_X2_keepWhatStands_2 J h q1  x2 V Qr Qx) : WPc J mX2_keepWhatStands Qr Qx 2 [(0, .ref h), (1, .ref q1), (2, .int x2)] [] V 0 0 := by
  obtain ⟨I, ⟨n0, h0⟩, hs⟩ := H
  have step : ∀ (K2 : Int32 → (Nat → Nat → Int32) → Prop), (∀ (x2 : Int32)  (V : Nat → Nat → Int32), K2 x2 V → WPc J mX2_keepWhatStands Qr Qx 2 [(0, .ref h), (1, .ref q1), (2, .int x2)] [] V 0 0) → ∀ (x2 : Int32)  (V : Nat → Nat → Int32), B_X2_keepWhatStands_2 J h q1  K2 x2 V Qr Qx → WPc J mX2_keepWhatStands Qr Qx 2 [(0, .ref h), (1, .ref q1), (2, .int x2)] [] V 0 0 := by
    intro K2 hK2 x2  V H
    unfold B_X2_keepWhatStands_2 at H
    refine s_iload_n dX2_keepWhatStands_2 rfl ?_
    refine s_iconst (v := 2) dX2_keepWhatStands_3 (by decide) ?_
    refine s_icmp_ge (tgt := 41) dX2_keepWhatStands_4 (by decide) (fun c => ?_) (fun c => ?_)
    · have H := H.1 c
      exact s_vret dX2_keepWhatStands_41 rfl ⟨rfl, H⟩
    · have H := H.2 c
      refine s_aload_n dX2_keepWhatStands_7 rfl ?_
      refine t_getR (r := (h + 1 + 3)) fl_2_21 dX2_keepWhatStands_8 (ev_o hh) rfl (ev_r hh 3 (by decide)) ?_
      refine s_iload_n dX2_keepWhatStands_11 rfl ?_
      refine s_aload_n dX2_keepWhatStands_12 rfl ?_
      refine s_iload_n dX2_keepWhatStands_13 rfl ?_
      refine t_cV (h := q1) (As := [.int x2]) (st := [.int x2, .ref (h + 1 + 3)]) iv_2_58 dX2_keepWhatStands_14 ⟨by decide, by decide⟩ rfl (Nat.le_of_ble_eq_true rfl) (by decide) (by decide) rfl (mt_o hq1) H (fun r V1 H => ?_)
      obtain ⟨c1, rfl, hc1, H⟩ := H
      refine t_cV (h := c1) (As := []) (st := [.int x2, .ref (h + 1 + 3)]) iv_2_64 dX2_keepWhatStands_17 ⟨by decide, by decide⟩ rfl (Nat.le_of_ble_eq_true rfl) (by decide) (by decide) rfl (sd_o hc1) H (fun r V2 H => ?_)
      obtain ⟨r2, rfl, H⟩ := H
      refine t_iast dX2_keepWhatStands_20 (ev_b hh 3 (by decide)) H.1 ?_
      have H := H.2
      refine s_aload_n dX2_keepWhatStands_21 rfl ?_
      refine t_getR (r := (h + 1 + 4)) fl_2_24 dX2_keepWhatStands_22 (ev_o hh) rfl (ev_r hh 4 (by decide)) ?_
      refine s_iload_n dX2_keepWhatStands_25 rfl ?_
      refine s_aload_n dX2_keepWhatStands_26 rfl ?_
      refine s_iload_n dX2_keepWhatStands_27 rfl ?_
      refine t_cV (h := q1) (As := [.int x2]) (st := [.int x2, .ref (h + 1 + 4)]) iv_2_58 dX2_keepWhatStands_28 ⟨by decide, by decide⟩ rfl (Nat.le_of_ble_eq_true rfl) (by decide) (by decide) rfl (mt_o hq1) H (fun r V3 H => ?_)
      obtain ⟨c3, rfl, hc3, H⟩ := H
      refine t_getI fl_2_69 dX2_keepWhatStands_31 (sd_o hc3) rfl ?_
      refine t_iast dX2_keepWhatStands_34 (ev_b hh 4 (by decide)) H.1 ?_
      have H := H.2
      refine t_iinc (v := (x2 + 1)) (L' := [(2, .int (x2 + 1)), (0, .ref h), (1, .ref q1)]) dX2_keepWhatStands_35 rfl (by rfl) (by decide) rfl ?_
      refine s_goto (tgt := 2) dX2_keepWhatStands_38 (by decide) ?_
      exact t_loc [1, 2, 0] rfl (hK2 (x2 + 1)  (up2 V3 (h + 1 + 4) x2.toNatClampNeg (V3 c3 7)) H)
  have key : ∀ n, ∀ (x2 : Int32)  (V : Nat → Nat → Int32), I n x2 V → WPc J mX2_keepWhatStands Qr Qx 2 [(0, .ref h), (1, .ref q1), (2, .int x2)] [] V 0 0 := by
    refine strong (fun n ih => ?_)
    intro x2  V hI
    exact step _ (fun x2  V hz => Exists.elim hz (fun n1 hz => ih n1 hz.1 x2  V hz.2)) x2  V (hs n x2 V hI)
  exact key n0 x2  V h0
def F_X2_keepWhatStands (J : Nat → Nat → Int64) (h : Nat) (q1 : Nat) (V : Nat → Nat → Int32) (Qr : Option Value → (Nat → Nat → Int32) → Prop) (Qx : String → (Nat → Nat → Int32) → Prop) : Prop :=
F_X2_keepWhatStands_2 J h q1  0 V Qr Qx
theorem v_X2_keepWhatStands {J : Nat → Nat → Int64} (h : Nat) (q1 : Nat) (hh : isEv h) (hq1 : isMats q1) {V : Nat → Nat → Int32} {Qr : Option Value → (Nat → Nat → Int32) → Prop} {Qx : String → (Nat → Nat → Int32) → Prop} (H : F_X2_keepWhatStands J h q1 V Qr Qx) : CTc J mX2_keepWhatStands [.ref h, .ref q1] V Qr Qx := by
  refine ctc_of (M := (T0 J, V)) pX2_keepWhatStands (fun _ _ => rfl) (Nat.le_of_ble_eq_true rfl) ?_
  unfold F_X2_keepWhatStands at H
  show WPc J mX2_keepWhatStands Qr Qx 0 [(0, .ref h), (1, .ref q1)] [] V 0 0
  refine s_iconst (v := 0) dX2_keepWhatStands_0 (by decide) ?_
  refine t_istore_n (L' := [(2, .int 0), (0, .ref h), (1, .ref q1)]) dX2_keepWhatStands_1 (by decide) rfl ?_
  exact t_loc [1, 2, 0] rfl (v_X2_keepWhatStands_2 h q1 hh hq1   0  H)

def F_X2_onBitsOf (J : Nat → Nat → Int64) (h : Nat) (p1 : Int32) (V : Nat → Nat → Int32) (Qr : Option Value → (Nat → Nat → Int32) → Prop) (Qx : String → (Nat → Nat → Int32) → Prop) : Prop :=
CTc J mX7_isSide [.int p1] V (fun r V1 =>
  ∃ b1 : Bool, r = some (.int (bI b1)) ∧
  ((b1 = false) →
    Qr (some (.int 0)) V1) ∧
  ((b1 = true) →
    vp_in p1 2 ∧
    Qr (some (.int (V1 (h + 1 + 3) p1.toNatClampNeg))) V1)) Qx
theorem v_X2_onBitsOf {J : Nat → Nat → Int64} (h : Nat) (p1 : Int32) (hh : isEv h) {V : Nat → Nat → Int32} {Qr : Option Value → (Nat → Nat → Int32) → Prop} {Qx : String → (Nat → Nat → Int32) → Prop} (H : F_X2_onBitsOf J h p1 V Qr Qx) : CTc J mX2_onBitsOf [.ref h, .int p1] V Qr Qx := by
  refine ctc_of (M := (T0 J, V)) pX2_onBitsOf (fun _ _ => rfl) (Nat.le_of_ble_eq_true rfl) ?_
  unfold F_X2_onBitsOf at H
  show WPc J mX2_onBitsOf Qr Qx 0 [(0, .ref h), (1, .int p1)] [] V 0 0
  refine s_iload_n dX2_onBitsOf_0 rfl ?_
  refine t_cN (As := [.int p1]) (st := []) iv_2_72 dX2_onBitsOf_1 ⟨by decide, by decide⟩ rfl (Nat.le_of_ble_eq_true rfl) (by decide) (by decide) rfl H (fun r V1 H => ?_)
  obtain ⟨b1, rfl, H⟩ := H
  refine s_if_eq (tgt := 16) dX2_onBitsOf_4 (by decide) (fun c => ?_) (fun c => ?_)
  · have H := H.1 (bI_f c)
    refine s_iconst (v := 0) dX2_onBitsOf_16 (by decide) ?_
    exact s_iret dX2_onBitsOf_17 (Or.inl rfl) ⟨rfl, H⟩
  · have H := H.2 (bI_t c)
    refine s_aload_n dX2_onBitsOf_7 rfl ?_
    refine t_getR (r := (h + 1 + 3)) fl_2_21 dX2_onBitsOf_8 (ev_o hh) rfl (ev_r hh 3 (by decide)) ?_
    refine s_iload_n dX2_onBitsOf_11 rfl ?_
    refine t_iald dX2_onBitsOf_12 (ev_b hh 3 (by decide)) H.1 ?_
    have H := H.2
    refine s_goto (tgt := 17) dX2_onBitsOf_13 (by decide) ?_
    exact s_iret dX2_onBitsOf_17 (Or.inl rfl) ⟨rfl, H⟩

def F_X2_scoreOf (J : Nat → Nat → Int64) (h : Nat) (p1 : Int32) (V : Nat → Nat → Int32) (Qr : Option Value → (Nat → Nat → Int32) → Prop) (Qx : String → (Nat → Nat → Int32) → Prop) : Prop :=
CTc J mX7_isSide [.int p1] V (fun r V1 =>
  ∃ b1 : Bool, r = some (.int (bI b1)) ∧
  ((b1 = false) →
    Qr (some (.int 0)) V1) ∧
  ((b1 = true) →
    vp_in p1 2 ∧
    Qr (some (.int (V1 (h + 1 + 4) p1.toNatClampNeg))) V1)) Qx
theorem v_X2_scoreOf {J : Nat → Nat → Int64} (h : Nat) (p1 : Int32) (hh : isEv h) {V : Nat → Nat → Int32} {Qr : Option Value → (Nat → Nat → Int32) → Prop} {Qx : String → (Nat → Nat → Int32) → Prop} (H : F_X2_scoreOf J h p1 V Qr Qx) : CTc J mX2_scoreOf [.ref h, .int p1] V Qr Qx := by
  refine ctc_of (M := (T0 J, V)) pX2_scoreOf (fun _ _ => rfl) (Nat.le_of_ble_eq_true rfl) ?_
  unfold F_X2_scoreOf at H
  show WPc J mX2_scoreOf Qr Qx 0 [(0, .ref h), (1, .int p1)] [] V 0 0
  refine s_iload_n dX2_scoreOf_0 rfl ?_
  refine t_cN (As := [.int p1]) (st := []) iv_2_72 dX2_scoreOf_1 ⟨by decide, by decide⟩ rfl (Nat.le_of_ble_eq_true rfl) (by decide) (by decide) rfl H (fun r V1 H => ?_)
  obtain ⟨b1, rfl, H⟩ := H
  refine s_if_eq (tgt := 16) dX2_scoreOf_4 (by decide) (fun c => ?_) (fun c => ?_)
  · have H := H.1 (bI_f c)
    refine s_iconst (v := 0) dX2_scoreOf_16 (by decide) ?_
    exact s_iret dX2_scoreOf_17 (Or.inl rfl) ⟨rfl, H⟩
  · have H := H.2 (bI_t c)
    refine s_aload_n dX2_scoreOf_7 rfl ?_
    refine t_getR (r := (h + 1 + 4)) fl_2_24 dX2_scoreOf_8 (ev_o hh) rfl (ev_r hh 4 (by decide)) ?_
    refine s_iload_n dX2_scoreOf_11 rfl ?_
    refine t_iald dX2_scoreOf_12 (ev_b hh 4 (by decide)) H.1 ?_
    have H := H.2
    refine s_goto (tgt := 17) dX2_scoreOf_13 (by decide) ?_
    exact s_iret dX2_scoreOf_17 (Or.inl rfl) ⟨rfl, H⟩

def F_X6_reset_24 (J : Nat → Nat → Int64) (h : Nat) (K2 : Int32 → (Nat → Nat → Int32) → Prop) (x1 : Int32) (s0 : Int32) (s1 : Int32) (V : Nat → Nat → Int32) (Qr : Option Value → (Nat → Nat → Int32) → Prop) (Qx : String → (Nat → Nat → Int32) → Prop) : Prop :=
vp_in s1 10 ∧
vp_in x1 10 ∧
vp_in x1 10 ∧
vp_in x1 10 ∧
K2 (x1 + 1) (up2 (up2 (up2 (up2 V (h + 1 + 0) s1.toNatClampNeg s0) (h + 1 + 1) x1.toNatClampNeg 0) (h + 1 + 2) x1.toNatClampNeg 0) (h + 1 + 3) x1.toNatClampNeg 0)
theorem v_X6_reset_24 {J : Nat → Nat → Int64} (h : Nat) (hh : isSide h) {Qr : Option Value → (Nat → Nat → Int32) → Prop} {Qx : String → (Nat → Nat → Int32) → Prop} (K2 : Int32 → (Nat → Nat → Int32) → Prop) (hK2 : ∀ (x1 : Int32)  (V : Nat → Nat → Int32), K2 x1 V → WPc J mX6_reset Qr Qx 2 [(0, .ref h), (1, .int x1)] [] V 0 0) (x1 : Int32) (s0 : Int32) (s1 : Int32)  {V : Nat → Nat → Int32} (H : F_X6_reset_24 J h K2 x1 s0 s1 V Qr Qx) : WPc J mX6_reset Qr Qx 24 [(0, .ref h), (1, .int x1)] [.int s0, .int s1, .ref (h + 1 + 0)] V 0 0 := by
  unfold F_X6_reset_24 at H
  refine t_iast dX6_reset_24 (sd_a hh 0 (by decide)) H.1 ?_
  have H := H.2
  refine s_aload_n dX6_reset_25 rfl ?_
  refine t_getR (r := (h + 1 + 1)) fl_6_15 dX6_reset_26 (sd_o hh) rfl (sd_r hh 1 (by decide)) ?_
  refine s_iload_n dX6_reset_29 rfl ?_
  refine s_iconst (v := 0) dX6_reset_30 (by decide) ?_
  refine t_iast dX6_reset_31 (sd_a hh 1 (by decide)) H.1 ?_
  have H := H.2
  refine s_aload_n dX6_reset_32 rfl ?_
  refine t_getR (r := (h + 1 + 2)) fl_6_18 dX6_reset_33 (sd_o hh) rfl (sd_r hh 2 (by decide)) ?_
  refine s_iload_n dX6_reset_36 rfl ?_
  refine s_iconst (v := 0) dX6_reset_37 (by decide) ?_
  refine t_iast dX6_reset_38 (sd_a hh 2 (by decide)) H.1 ?_
  have H := H.2
  refine s_aload_n dX6_reset_39 rfl ?_
  refine t_getR (r := (h + 1 + 3)) fl_6_21 dX6_reset_40 (sd_o hh) rfl (sd_r hh 3 (by decide)) ?_
  refine s_iload_n dX6_reset_43 rfl ?_
  refine s_iconst (v := 0) dX6_reset_44 (by decide) ?_
  refine t_iast dX6_reset_45 (sd_a hh 3 (by decide)) H.1 ?_
  have H := H.2
  refine t_iinc (v := (x1 + 1)) (L' := [(1, .int (x1 + 1)), (0, .ref h)]) dX6_reset_46 rfl (by rfl) (by decide) rfl ?_
  refine s_goto (tgt := 2) dX6_reset_49 (by decide) ?_
  exact t_loc [1, 0] rfl (hK2 (x1 + 1)  (up2 (up2 (up2 (up2 V (h + 1 + 0) s1.toNatClampNeg s0) (h + 1 + 1) x1.toNatClampNeg 0) (h + 1 + 2) x1.toNatClampNeg 0) (h + 1 + 3) x1.toNatClampNeg 0) H)
def B_X6_reset_2 (J : Nat → Nat → Int64) (h : Nat) (K2 : Int32 → (Nat → Nat → Int32) → Prop) (x1 : Int32) (V : Nat → Nat → Int32) (Qr : Option Value → (Nat → Nat → Int32) → Prop) (Qx : String → (Nat → Nat → Int32) → Prop) : Prop :=
((10 ≤ x1) →
  Qr none (up2 (up2 (up2 (up2 V h 5 0) h 6 0) h 7 0) h 8 0)) ∧
((¬ 10 ≤ x1) →
  ((7 ≤ x1) →
    F_X6_reset_24 J h K2 x1 1 x1 V Qr Qx) ∧
  ((¬ 7 ≤ x1) →
    F_X6_reset_24 J h K2 x1 0 x1 V Qr Qx))
def F_X6_reset_2 (J : Nat → Nat → Int64) (h : Nat) (x1 : Int32) (V : Nat → Nat → Int32) (Qr : Option Value → (Nat → Nat → Int32) → Prop) (Qx : String → (Nat → Nat → Int32) → Prop) : Prop :=
  ∃ I : Nat → Int32 → (Nat → Nat → Int32) → Prop, (∃ n, I n x1 V) ∧ ∀ n (x1 : Int32) (V : Nat → Nat → Int32), I n x1 V → B_X6_reset_2 J h  (fun x1 V => ∃ n', n' < n ∧ I n' x1 V) x1 V Qr Qx
theorem v_X6_reset_2 {J : Nat → Nat → Int64} (h : Nat) (hh : isSide h) {Qr : Option Value → (Nat → Nat → Int32) → Prop} {Qx : String → (Nat → Nat → Int32) → Prop} (x1 : Int32)  {V : Nat → Nat → Int32} (H : F_X6_reset_2 J h  x1 V Qr Qx) : WPc J mX6_reset Qr Qx 2 [(0, .ref h), (1, .int x1)] [] V 0 0 := by
  obtain ⟨I, ⟨n0, h0⟩, hs⟩ := H
  have step : ∀ (K2 : Int32 → (Nat → Nat → Int32) → Prop), (∀ (x1 : Int32)  (V : Nat → Nat → Int32), K2 x1 V → WPc J mX6_reset Qr Qx 2 [(0, .ref h), (1, .int x1)] [] V 0 0) → ∀ (x1 : Int32)  (V : Nat → Nat → Int32), B_X6_reset_2 J h  K2 x1 V Qr Qx → WPc J mX6_reset Qr Qx 2 [(0, .ref h), (1, .int x1)] [] V 0 0 := by
    intro K2 hK2 x1  V H
    unfold B_X6_reset_2 at H
    refine s_iload_n dX6_reset_2 rfl ?_
    refine s_bipush (v := 10) dX6_reset_3 (by decide) ?_
    refine s_icmp_ge (tgt := 52) dX6_reset_5 (by decide) (fun c => ?_) (fun c => ?_)
    · have H := H.1 c
      refine s_aload_n dX6_reset_52 rfl ?_
      refine s_iconst (v := 0) dX6_reset_53 (by decide) ?_
      refine t_putI fl_6_27 dX6_reset_54 (sd_o hh) (Or.inl rfl) ?_
      refine s_aload_n dX6_reset_57 rfl ?_
      refine s_iconst (v := 0) dX6_reset_58 (by decide) ?_
      refine t_putI fl_6_31 dX6_reset_59 (sd_o hh) (Or.inl rfl) ?_
      refine s_aload_n dX6_reset_62 rfl ?_
      refine s_iconst (v := 0) dX6_reset_63 (by decide) ?_
      refine t_putI fl_6_34 dX6_reset_64 (sd_o hh) (Or.inl rfl) ?_
      refine s_aload_n dX6_reset_67 rfl ?_
      refine s_iconst (v := 0) dX6_reset_68 (by decide) ?_
      refine t_putI fl_6_37 dX6_reset_69 (sd_o hh) (Or.inl rfl) ?_
      exact s_vret dX6_reset_72 rfl ⟨rfl, H⟩
    · have H := H.2 c
      refine s_aload_n dX6_reset_8 rfl ?_
      refine t_getR (r := (h + 1 + 0)) fl_6_9 dX6_reset_9 (sd_o hh) rfl (sd_r hh 0 (by decide)) ?_
      refine s_iload_n dX6_reset_12 rfl ?_
      refine s_iload_n dX6_reset_13 rfl ?_
      refine s_bipush (v := 7) dX6_reset_14 (by decide) ?_
      refine s_icmp_ge (tgt := 23) dX6_reset_16 (by decide) (fun c => ?_) (fun c => ?_)
      · have H := H.1 c
        refine s_iconst (v := 1) dX6_reset_23 (by decide) ?_
        exact t_loc [0, 1] rfl (v_X6_reset_24 h hh  K2 hK2 x1 1 x1  H)
      · have H := H.2 c
        refine s_iconst (v := 0) dX6_reset_19 (by decide) ?_
        refine s_goto (tgt := 24) dX6_reset_20 (by decide) ?_
        exact t_loc [0, 1] rfl (v_X6_reset_24 h hh  K2 hK2 x1 0 x1  H)
  have key : ∀ n, ∀ (x1 : Int32)  (V : Nat → Nat → Int32), I n x1 V → WPc J mX6_reset Qr Qx 2 [(0, .ref h), (1, .int x1)] [] V 0 0 := by
    refine strong (fun n ih => ?_)
    intro x1  V hI
    exact step _ (fun x1  V hz => Exists.elim hz (fun n1 hz => ih n1 hz.1 x1  V hz.2)) x1  V (hs n x1 V hI)
  exact key n0 x1  V h0
def F_X6_reset (J : Nat → Nat → Int64) (h : Nat) (V : Nat → Nat → Int32) (Qr : Option Value → (Nat → Nat → Int32) → Prop) (Qx : String → (Nat → Nat → Int32) → Prop) : Prop :=
F_X6_reset_2 J h  0 V Qr Qx
theorem v_X6_reset {J : Nat → Nat → Int64} (h : Nat) (hh : isSide h) {V : Nat → Nat → Int32} {Qr : Option Value → (Nat → Nat → Int32) → Prop} {Qx : String → (Nat → Nat → Int32) → Prop} (H : F_X6_reset J h V Qr Qx) : CTc J mX6_reset [.ref h] V Qr Qx := by
  refine ctc_of (M := (T0 J, V)) pX6_reset (fun _ _ => rfl) (Nat.le_of_ble_eq_true rfl) ?_
  unfold F_X6_reset at H
  show WPc J mX6_reset Qr Qx 0 [(0, .ref h)] [] V 0 0
  refine s_iconst (v := 0) dX6_reset_0 (by decide) ?_
  refine t_istore_n (L' := [(1, .int 0), (0, .ref h)]) dX6_reset_1 (by decide) rfl ?_
  exact t_loc [1, 0] rfl (v_X6_reset_2 h hh    0  H)

def F_X6_stateOf (J : Nat → Nat → Int64) (h : Nat) (p1 : Int32) (V : Nat → Nat → Int32) (Qr : Option Value → (Nat → Nat → Int32) → Prop) (Qx : String → (Nat → Nat → Int32) → Prop) : Prop :=
CTc J mX7_isPlayer [.int p1] V (fun r V1 =>
  ∃ b1 : Bool, r = some (.int (bI b1)) ∧
  ((b1 = false) →
    Qr (some (.int (-1))) V1) ∧
  ((b1 = true) →
    vp_in p1 10 ∧
    Qr (some (.int (V1 (h + 1 + 0) p1.toNatClampNeg))) V1)) Qx
theorem v_X6_stateOf {J : Nat → Nat → Int64} (h : Nat) (p1 : Int32) (hh : isSide h) {V : Nat → Nat → Int32} {Qr : Option Value → (Nat → Nat → Int32) → Prop} {Qx : String → (Nat → Nat → Int32) → Prop} (H : F_X6_stateOf J h p1 V Qr Qx) : CTc J mX6_stateOf [.ref h, .int p1] V Qr Qx := by
  refine ctc_of (M := (T0 J, V)) pX6_stateOf (fun _ _ => rfl) (Nat.le_of_ble_eq_true rfl) ?_
  unfold F_X6_stateOf at H
  show WPc J mX6_stateOf Qr Qx 0 [(0, .ref h), (1, .int p1)] [] V 0 0
  refine s_iload_n dX6_stateOf_0 rfl ?_
  refine t_cN (As := [.int p1]) (st := []) iv_6_40 dX6_stateOf_1 ⟨by decide, by decide⟩ rfl (Nat.le_of_ble_eq_true rfl) (by decide) (by decide) rfl H (fun r V1 H => ?_)
  obtain ⟨b1, rfl, H⟩ := H
  refine s_if_eq (tgt := 16) dX6_stateOf_4 (by decide) (fun c => ?_) (fun c => ?_)
  · have H := H.1 (bI_f c)
    refine s_iconst (v := (-1)) dX6_stateOf_16 (by decide) ?_
    exact s_iret dX6_stateOf_17 (Or.inl rfl) ⟨rfl, H⟩
  · have H := H.2 (bI_t c)
    refine s_aload_n dX6_stateOf_7 rfl ?_
    refine t_getR (r := (h + 1 + 0)) fl_6_9 dX6_stateOf_8 (sd_o hh) rfl (sd_r hh 0 (by decide)) ?_
    refine s_iload_n dX6_stateOf_11 rfl ?_
    refine t_iald dX6_stateOf_12 (sd_a hh 0 (by decide)) H.1 ?_
    have H := H.2
    refine s_goto (tgt := 17) dX6_stateOf_13 (by decide) ?_
    exact s_iret dX6_stateOf_17 (Or.inl rfl) ⟨rfl, H⟩

def F_X6_isOn (J : Nat → Nat → Int64) (h : Nat) (p1 : Int32) (V : Nat → Nat → Int32) (Qr : Option Value → (Nat → Nat → Int32) → Prop) (Qx : String → (Nat → Nat → Int32) → Prop) : Prop :=
CTc J mX7_isPlayer [.int p1] V (fun r V1 =>
  ∃ b1 : Bool, r = some (.int (bI b1)) ∧
  ((b1 = false) →
    Qr (some (.int 0)) V1) ∧
  ((b1 = true) →
    vp_in p1 10 ∧
    ((¬ (V1 (h + 1 + 0) p1.toNatClampNeg) = 0) →
      Qr (some (.int 0)) V1) ∧
    (((V1 (h + 1 + 0) p1.toNatClampNeg) = 0) →
      Qr (some (.int 1)) V1))) Qx
theorem v_X6_isOn {J : Nat → Nat → Int64} (h : Nat) (p1 : Int32) (hh : isSide h) {V : Nat → Nat → Int32} {Qr : Option Value → (Nat → Nat → Int32) → Prop} {Qx : String → (Nat → Nat → Int32) → Prop} (H : F_X6_isOn J h p1 V Qr Qx) : CTc J mX6_isOn [.ref h, .int p1] V Qr Qx := by
  refine ctc_of (M := (T0 J, V)) pX6_isOn (fun _ _ => rfl) (Nat.le_of_ble_eq_true rfl) ?_
  unfold F_X6_isOn at H
  show WPc J mX6_isOn Qr Qx 0 [(0, .ref h), (1, .int p1)] [] V 0 0
  refine s_iload_n dX6_isOn_0 rfl ?_
  refine t_cN (As := [.int p1]) (st := []) iv_6_40 dX6_isOn_1 ⟨by decide, by decide⟩ rfl (Nat.le_of_ble_eq_true rfl) (by decide) (by decide) rfl H (fun r V1 H => ?_)
  obtain ⟨b1, rfl, H⟩ := H
  refine s_if_eq (tgt := 20) dX6_isOn_4 (by decide) (fun c => ?_) (fun c => ?_)
  · have H := H.1 (bI_f c)
    refine s_iconst (v := 0) dX6_isOn_20 (by decide) ?_
    exact s_iret dX6_isOn_21 (Or.inr ⟨rfl, (Or.inl rfl)⟩) ⟨rfl, H⟩
  · have H := H.2 (bI_t c)
    refine s_aload_n dX6_isOn_7 rfl ?_
    refine t_getR (r := (h + 1 + 0)) fl_6_9 dX6_isOn_8 (sd_o hh) rfl (sd_r hh 0 (by decide)) ?_
    refine s_iload_n dX6_isOn_11 rfl ?_
    refine t_iald dX6_isOn_12 (sd_a hh 0 (by decide)) H.1 ?_
    have H := H.2
    refine s_if_ne (tgt := 20) dX6_isOn_13 (by decide) (fun c => ?_) (fun c => ?_)
    · have H := H.1 c
      refine s_iconst (v := 0) dX6_isOn_20 (by decide) ?_
      exact s_iret dX6_isOn_21 (Or.inr ⟨rfl, (Or.inl rfl)⟩) ⟨rfl, H⟩
    · have H := H.2 c
      refine s_iconst (v := 1) dX6_isOn_16 (by decide) ?_
      refine s_goto (tgt := 21) dX6_isOn_17 (by decide) ?_
      exact s_iret dX6_isOn_21 (Or.inr ⟨rfl, (Or.inr rfl)⟩) ⟨rfl, H⟩

def F_X6_count_23 (J : Nat → Nat → Int64) (h : Nat) (p1 : Int32) (K4 : Int32 → Int32 → (Nat → Nat → Int32) → Prop) (x2 : Int32) (x3 : Int32) (V : Nat → Nat → Int32) (Qr : Option Value → (Nat → Nat → Int32) → Prop) (Qx : String → (Nat → Nat → Int32) → Prop) : Prop :=
K4 x2 (x3 + 1) V
theorem v_X6_count_23 {J : Nat → Nat → Int64} (h : Nat) (p1 : Int32) (hh : isSide h) {Qr : Option Value → (Nat → Nat → Int32) → Prop} {Qx : String → (Nat → Nat → Int32) → Prop} (K4 : Int32 → Int32 → (Nat → Nat → Int32) → Prop) (hK4 : ∀ (x2 : Int32) (x3 : Int32)  (V : Nat → Nat → Int32), K4 x2 x3 V → WPc J mX6_count Qr Qx 4 [(0, .ref h), (1, .int p1), (2, .int x2), (3, .int x3)] [] V 0 0) (x2 : Int32) (x3 : Int32)  {V : Nat → Nat → Int32} (H : F_X6_count_23 J h p1 K4 x2 x3 V Qr Qx) : WPc J mX6_count Qr Qx 23 [(0, .ref h), (1, .int p1), (2, .int x2), (3, .int x3)] [] V 0 0 := by
  unfold F_X6_count_23 at H
  refine t_iinc (v := (x3 + 1)) (L' := [(3, .int (x3 + 1)), (0, .ref h), (1, .int p1), (2, .int x2)]) dX6_count_23 rfl (by rfl) (by decide) rfl ?_
  refine s_goto (tgt := 4) dX6_count_26 (by decide) ?_
  exact t_loc [1, 2, 3, 0] rfl (hK4 x2 (x3 + 1)  V H)
def B_X6_count_4 (J : Nat → Nat → Int64) (h : Nat) (p1 : Int32) (K4 : Int32 → Int32 → (Nat → Nat → Int32) → Prop) (x2 : Int32) (x3 : Int32) (V : Nat → Nat → Int32) (Qr : Option Value → (Nat → Nat → Int32) → Prop) (Qx : String → (Nat → Nat → Int32) → Prop) : Prop :=
((10 ≤ x3) →
  Qr (some (.int x2)) V) ∧
((¬ 10 ≤ x3) →
  vp_in x3 10 ∧
  ((¬ (V (h + 1 + 0) x3.toNatClampNeg) = p1) →
    F_X6_count_23 J h p1 K4 x2 x3 V Qr Qx) ∧
  (((V (h + 1 + 0) x3.toNatClampNeg) = p1) →
    F_X6_count_23 J h p1 K4 (x2 + 1) x3 V Qr Qx))
def F_X6_count_4 (J : Nat → Nat → Int64) (h : Nat) (p1 : Int32) (x2 : Int32) (x3 : Int32) (V : Nat → Nat → Int32) (Qr : Option Value → (Nat → Nat → Int32) → Prop) (Qx : String → (Nat → Nat → Int32) → Prop) : Prop :=
  ∃ I : Nat → Int32 → Int32 → (Nat → Nat → Int32) → Prop, (∃ n, I n x2 x3 V) ∧ ∀ n (x2 : Int32) (x3 : Int32) (V : Nat → Nat → Int32), I n x2 x3 V → B_X6_count_4 J h p1  (fun x2 x3 V => ∃ n', n' < n ∧ I n' x2 x3 V) x2 x3 V Qr Qx
theorem v_X6_count_4 {J : Nat → Nat → Int64} (h : Nat) (p1 : Int32) (hh : isSide h) {Qr : Option Value → (Nat → Nat → Int32) → Prop} {Qx : String → (Nat → Nat → Int32) → Prop} (x2 : Int32) (x3 : Int32)  {V : Nat → Nat → Int32} (H : F_X6_count_4 J h p1  x2 x3 V Qr Qx) : WPc J mX6_count Qr Qx 4 [(0, .ref h), (1, .int p1), (2, .int x2), (3, .int x3)] [] V 0 0 := by
  obtain ⟨I, ⟨n0, h0⟩, hs⟩ := H
  have step : ∀ (K4 : Int32 → Int32 → (Nat → Nat → Int32) → Prop), (∀ (x2 : Int32) (x3 : Int32)  (V : Nat → Nat → Int32), K4 x2 x3 V → WPc J mX6_count Qr Qx 4 [(0, .ref h), (1, .int p1), (2, .int x2), (3, .int x3)] [] V 0 0) → ∀ (x2 : Int32) (x3 : Int32)  (V : Nat → Nat → Int32), B_X6_count_4 J h p1  K4 x2 x3 V Qr Qx → WPc J mX6_count Qr Qx 4 [(0, .ref h), (1, .int p1), (2, .int x2), (3, .int x3)] [] V 0 0 := by
    intro K4 hK4 x2 x3  V H
    unfold B_X6_count_4 at H
    refine s_iload_n dX6_count_4 rfl ?_
    refine s_bipush (v := 10) dX6_count_5 (by decide) ?_
    refine s_icmp_ge (tgt := 29) dX6_count_7 (by decide) (fun c => ?_) (fun c => ?_)
    · have H := H.1 c
      refine s_iload_n dX6_count_29 rfl ?_
      exact s_iret dX6_count_30 (Or.inl rfl) ⟨rfl, H⟩
    · have H := H.2 c
      refine s_aload_n dX6_count_10 rfl ?_
      refine t_getR (r := (h + 1 + 0)) fl_6_9 dX6_count_11 (sd_o hh) rfl (sd_r hh 0 (by decide)) ?_
      refine s_iload_n dX6_count_14 rfl ?_
      refine t_iald dX6_count_15 (sd_a hh 0 (by decide)) H.1 ?_
      have H := H.2
      refine s_iload_n dX6_count_16 rfl ?_
      refine s_icmp_ne (tgt := 23) dX6_count_17 (by decide) (fun c => ?_) (fun c => ?_)
      · have H := H.1 c
        exact t_loc [0, 1, 2, 3] rfl (v_X6_count_23 h p1 hh  K4 hK4 x2 x3  H)
      · have H := H.2 c
        refine t_iinc (v := (x2 + 1)) (L' := [(2, .int (x2 + 1)), (0, .ref h), (1, .int p1), (3, .int x3)]) dX6_count_20 rfl (by rfl) (by decide) rfl ?_
        exact t_loc [1, 2, 0, 3] rfl (v_X6_count_23 h p1 hh  K4 hK4 (x2 + 1) x3  H)
  have key : ∀ n, ∀ (x2 : Int32) (x3 : Int32)  (V : Nat → Nat → Int32), I n x2 x3 V → WPc J mX6_count Qr Qx 4 [(0, .ref h), (1, .int p1), (2, .int x2), (3, .int x3)] [] V 0 0 := by
    refine strong (fun n ih => ?_)
    intro x2 x3  V hI
    exact step _ (fun x2 x3  V hz => Exists.elim hz (fun n1 hz => ih n1 hz.1 x2 x3  V hz.2)) x2 x3  V (hs n x2 x3 V hI)
  exact key n0 x2 x3  V h0
def F_X6_count (J : Nat → Nat → Int64) (h : Nat) (p1 : Int32) (V : Nat → Nat → Int32) (Qr : Option Value → (Nat → Nat → Int32) → Prop) (Qx : String → (Nat → Nat → Int32) → Prop) : Prop :=
F_X6_count_4 J h p1  0 0 V Qr Qx
theorem v_X6_count {J : Nat → Nat → Int64} (h : Nat) (p1 : Int32) (hh : isSide h) {V : Nat → Nat → Int32} {Qr : Option Value → (Nat → Nat → Int32) → Prop} {Qx : String → (Nat → Nat → Int32) → Prop} (H : F_X6_count J h p1 V Qr Qx) : CTc J mX6_count [.ref h, .int p1] V Qr Qx := by
  refine ctc_of (M := (T0 J, V)) pX6_count (fun _ _ => rfl) (Nat.le_of_ble_eq_true rfl) ?_
  unfold F_X6_count at H
  show WPc J mX6_count Qr Qx 0 [(0, .ref h), (1, .int p1)] [] V 0 0
  refine s_iconst (v := 0) dX6_count_0 (by decide) ?_
  refine t_istore_n (L' := [(2, .int 0), (0, .ref h), (1, .int p1)]) dX6_count_1 (by decide) rfl ?_
  refine s_iconst (v := 0) dX6_count_2 (by decide) ?_
  refine t_istore_n (L' := [(3, .int 0), (2, .int 0), (0, .ref h), (1, .int p1)]) dX6_count_3 (by decide) rfl ?_
  exact t_loc [2, 3, 1, 0] rfl (v_X6_count_4 h p1 hh    0 0  H)

def F_X6_countStanding (J : Nat → Nat → Int64) (h : Nat) (V : Nat → Nat → Int32) (Qr : Option Value → (Nat → Nat → Int32) → Prop) (Qx : String → (Nat → Nat → Int32) → Prop) : Prop :=
CTc J mX6_count [.ref h, .int 0] V (fun r V1 =>
  ∃ r1 : Int32, r = some (.int r1) ∧
  CTc J mX6_count [.ref h, .int 3] V1 (fun r V2 =>
    ∃ r2 : Int32, r = some (.int r2) ∧
    Qr (some (.int (r1 + r2))) V2) Qx) Qx
theorem v_X6_countStanding {J : Nat → Nat → Int64} (h : Nat) (hh : isSide h) {V : Nat → Nat → Int32} {Qr : Option Value → (Nat → Nat → Int32) → Prop} {Qx : String → (Nat → Nat → Int32) → Prop} (H : F_X6_countStanding J h V Qr Qx) : CTc J mX6_countStanding [.ref h] V Qr Qx := by
  refine ctc_of (M := (T0 J, V)) pX6_countStanding (fun _ _ => rfl) (Nat.le_of_ble_eq_true rfl) ?_
  unfold F_X6_countStanding at H
  show WPc J mX6_countStanding Qr Qx 0 [(0, .ref h)] [] V 0 0
  refine s_aload_n dX6_countStanding_0 rfl ?_
  refine s_iconst (v := 0) dX6_countStanding_1 (by decide) ?_
  refine t_cV (h := h) (As := [.int 0]) (st := []) iv_6_44 dX6_countStanding_2 ⟨by decide, by decide⟩ rfl (Nat.le_of_ble_eq_true rfl) (by decide) (by decide) rfl (sd_o hh) H (fun r V1 H => ?_)
  obtain ⟨r1, rfl, H⟩ := H
  refine s_aload_n dX6_countStanding_5 rfl ?_
  refine s_iconst (v := 3) dX6_countStanding_6 (by decide) ?_
  refine t_cV (h := h) (As := [.int 3]) (st := [.int r1]) iv_6_44 dX6_countStanding_7 ⟨by decide, by decide⟩ rfl (Nat.le_of_ble_eq_true rfl) (by decide) (by decide) rfl (sd_o hh) H (fun r V2 H => ?_)
  obtain ⟨r2, rfl, H⟩ := H
  refine s_iadd dX6_countStanding_10 ?_
  exact s_iret dX6_countStanding_11 (Or.inl rfl) ⟨rfl, H⟩

def F_X6_onBits_25 (J : Nat → Nat → Int64) (h : Nat) (K4 : Int32 → Int32 → (Nat → Nat → Int32) → Prop) (x1 : Int32) (x2 : Int32) (V : Nat → Nat → Int32) (Qr : Option Value → (Nat → Nat → Int32) → Prop) (Qx : String → (Nat → Nat → Int32) → Prop) : Prop :=
K4 x1 (x2 + 1) V
theorem v_X6_onBits_25 {J : Nat → Nat → Int64} (h : Nat) (hh : isSide h) {Qr : Option Value → (Nat → Nat → Int32) → Prop} {Qx : String → (Nat → Nat → Int32) → Prop} (K4 : Int32 → Int32 → (Nat → Nat → Int32) → Prop) (hK4 : ∀ (x1 : Int32) (x2 : Int32)  (V : Nat → Nat → Int32), K4 x1 x2 V → WPc J mX6_onBits Qr Qx 4 [(0, .ref h), (1, .int x1), (2, .int x2)] [] V 0 0) (x1 : Int32) (x2 : Int32)  {V : Nat → Nat → Int32} (H : F_X6_onBits_25 J h K4 x1 x2 V Qr Qx) : WPc J mX6_onBits Qr Qx 25 [(0, .ref h), (1, .int x1), (2, .int x2)] [] V 0 0 := by
  unfold F_X6_onBits_25 at H
  refine t_iinc (v := (x2 + 1)) (L' := [(2, .int (x2 + 1)), (0, .ref h), (1, .int x1)]) dX6_onBits_25 rfl (by rfl) (by decide) rfl ?_
  refine s_goto (tgt := 4) dX6_onBits_28 (by decide) ?_
  exact t_loc [1, 2, 0] rfl (hK4 x1 (x2 + 1)  V H)
def B_X6_onBits_4 (J : Nat → Nat → Int64) (h : Nat) (K4 : Int32 → Int32 → (Nat → Nat → Int32) → Prop) (x1 : Int32) (x2 : Int32) (V : Nat → Nat → Int32) (Qr : Option Value → (Nat → Nat → Int32) → Prop) (Qx : String → (Nat → Nat → Int32) → Prop) : Prop :=
((10 ≤ x2) →
  Qr (some (.int x1)) V) ∧
((¬ 10 ≤ x2) →
  vp_in x2 10 ∧
  ((¬ (V (h + 1 + 0) x2.toNatClampNeg) = 0) →
    F_X6_onBits_25 J h K4 x1 x2 V Qr Qx) ∧
  (((V (h + 1 + 0) x2.toNatClampNeg) = 0) →
    F_X6_onBits_25 J h K4 (x1 ||| (1 <<< (x2 &&& 31))) x2 V Qr Qx))
def F_X6_onBits_4 (J : Nat → Nat → Int64) (h : Nat) (x1 : Int32) (x2 : Int32) (V : Nat → Nat → Int32) (Qr : Option Value → (Nat → Nat → Int32) → Prop) (Qx : String → (Nat → Nat → Int32) → Prop) : Prop :=
  ∃ I : Nat → Int32 → Int32 → (Nat → Nat → Int32) → Prop, (∃ n, I n x1 x2 V) ∧ ∀ n (x1 : Int32) (x2 : Int32) (V : Nat → Nat → Int32), I n x1 x2 V → B_X6_onBits_4 J h  (fun x1 x2 V => ∃ n', n' < n ∧ I n' x1 x2 V) x1 x2 V Qr Qx
theorem v_X6_onBits_4 {J : Nat → Nat → Int64} (h : Nat) (hh : isSide h) {Qr : Option Value → (Nat → Nat → Int32) → Prop} {Qx : String → (Nat → Nat → Int32) → Prop} (x1 : Int32) (x2 : Int32)  {V : Nat → Nat → Int32} (H : F_X6_onBits_4 J h  x1 x2 V Qr Qx) : WPc J mX6_onBits Qr Qx 4 [(0, .ref h), (1, .int x1), (2, .int x2)] [] V 0 0 := by
  obtain ⟨I, ⟨n0, h0⟩, hs⟩ := H
  have step : ∀ (K4 : Int32 → Int32 → (Nat → Nat → Int32) → Prop), (∀ (x1 : Int32) (x2 : Int32)  (V : Nat → Nat → Int32), K4 x1 x2 V → WPc J mX6_onBits Qr Qx 4 [(0, .ref h), (1, .int x1), (2, .int x2)] [] V 0 0) → ∀ (x1 : Int32) (x2 : Int32)  (V : Nat → Nat → Int32), B_X6_onBits_4 J h  K4 x1 x2 V Qr Qx → WPc J mX6_onBits Qr Qx 4 [(0, .ref h), (1, .int x1), (2, .int x2)] [] V 0 0 := by
    intro K4 hK4 x1 x2  V H
    unfold B_X6_onBits_4 at H
    refine s_iload_n dX6_onBits_4 rfl ?_
    refine s_bipush (v := 10) dX6_onBits_5 (by decide) ?_
    refine s_icmp_ge (tgt := 31) dX6_onBits_7 (by decide) (fun c => ?_) (fun c => ?_)
    · have H := H.1 c
      refine s_iload_n dX6_onBits_31 rfl ?_
      exact s_iret dX6_onBits_32 (Or.inl rfl) ⟨rfl, H⟩
    · have H := H.2 c
      refine s_aload_n dX6_onBits_10 rfl ?_
      refine t_getR (r := (h + 1 + 0)) fl_6_9 dX6_onBits_11 (sd_o hh) rfl (sd_r hh 0 (by decide)) ?_
      refine s_iload_n dX6_onBits_14 rfl ?_
      refine t_iald dX6_onBits_15 (sd_a hh 0 (by decide)) H.1 ?_
      have H := H.2
      refine s_if_ne (tgt := 25) dX6_onBits_16 (by decide) (fun c => ?_) (fun c => ?_)
      · have H := H.1 c
        exact t_loc [0, 1, 2] rfl (v_X6_onBits_25 h hh  K4 hK4 x1 x2  H)
      · have H := H.2 c
        refine s_iload_n dX6_onBits_19 rfl ?_
        refine s_iconst (v := 1) dX6_onBits_20 (by decide) ?_
        refine s_iload_n dX6_onBits_21 rfl ?_
        refine s_ishl dX6_onBits_22 ?_
        refine s_ior dX6_onBits_23 ?_
        refine t_istore_n (L' := [(1, .int (x1 ||| (1 <<< (x2 &&& 31)))), (0, .ref h), (2, .int x2)]) dX6_onBits_24 (by decide) rfl ?_
        exact t_loc [1, 0, 2] rfl (v_X6_onBits_25 h hh  K4 hK4 (x1 ||| (1 <<< (x2 &&& 31))) x2  H)
  have key : ∀ n, ∀ (x1 : Int32) (x2 : Int32)  (V : Nat → Nat → Int32), I n x1 x2 V → WPc J mX6_onBits Qr Qx 4 [(0, .ref h), (1, .int x1), (2, .int x2)] [] V 0 0 := by
    refine strong (fun n ih => ?_)
    intro x1 x2  V hI
    exact step _ (fun x1 x2  V hz => Exists.elim hz (fun n1 hz => ih n1 hz.1 x1 x2  V hz.2)) x1 x2  V (hs n x1 x2 V hI)
  exact key n0 x1 x2  V h0
def F_X6_onBits (J : Nat → Nat → Int64) (h : Nat) (V : Nat → Nat → Int32) (Qr : Option Value → (Nat → Nat → Int32) → Prop) (Qx : String → (Nat → Nat → Int32) → Prop) : Prop :=
F_X6_onBits_4 J h  0 0 V Qr Qx
theorem v_X6_onBits {J : Nat → Nat → Int64} (h : Nat) (hh : isSide h) {V : Nat → Nat → Int32} {Qr : Option Value → (Nat → Nat → Int32) → Prop} {Qx : String → (Nat → Nat → Int32) → Prop} (H : F_X6_onBits J h V Qr Qx) : CTc J mX6_onBits [.ref h] V Qr Qx := by
  refine ctc_of (M := (T0 J, V)) pX6_onBits (fun _ _ => rfl) (Nat.le_of_ble_eq_true rfl) ?_
  unfold F_X6_onBits at H
  show WPc J mX6_onBits Qr Qx 0 [(0, .ref h)] [] V 0 0
  refine s_iconst (v := 0) dX6_onBits_0 (by decide) ?_
  refine t_istore_n (L' := [(1, .int 0), (0, .ref h)]) dX6_onBits_1 (by decide) rfl ?_
  refine s_iconst (v := 0) dX6_onBits_2 (by decide) ?_
  refine t_istore_n (L' := [(2, .int 0), (1, .int 0), (0, .ref h)]) dX6_onBits_3 (by decide) rfl ?_
  exact t_loc [2, 1, 0] rfl (v_X6_onBits_4 h hh    0 0  H)

def F_X6_outAt (J : Nat → Nat → Int64) (h : Nat) (p1 : Int32) (V : Nat → Nat → Int32) (Qr : Option Value → (Nat → Nat → Int32) → Prop) (Qx : String → (Nat → Nat → Int32) → Prop) : Prop :=
((p1 < 0) →
  Qr (some (.int (-1))) V) ∧
((¬ p1 < 0) →
  (((V h 5) ≤ p1) →
    Qr (some (.int (-1))) V) ∧
  ((¬ (V h 5) ≤ p1) →
    ((10 ≤ p1) →
      Qr (some (.int (-1))) V) ∧
    ((¬ 10 ≤ p1) →
      vp_in p1 10 ∧
      Qr (some (.int (V (h + 1 + 4) p1.toNatClampNeg))) V)))
theorem v_X6_outAt {J : Nat → Nat → Int64} (h : Nat) (p1 : Int32) (hh : isSide h) {V : Nat → Nat → Int32} {Qr : Option Value → (Nat → Nat → Int32) → Prop} {Qx : String → (Nat → Nat → Int32) → Prop} (H : F_X6_outAt J h p1 V Qr Qx) : CTc J mX6_outAt [.ref h, .int p1] V Qr Qx := by
  refine ctc_of (M := (T0 J, V)) pX6_outAt (fun _ _ => rfl) (Nat.le_of_ble_eq_true rfl) ?_
  unfold F_X6_outAt at H
  show WPc J mX6_outAt Qr Qx 0 [(0, .ref h), (1, .int p1)] [] V 0 0
  refine s_iload_n dX6_outAt_0 rfl ?_
  refine s_if_lt (tgt := 27) dX6_outAt_1 (by decide) (fun c => ?_) (fun c => ?_)
  · have H := H.1 c
    refine s_iconst (v := (-1)) dX6_outAt_27 (by decide) ?_
    exact s_iret dX6_outAt_28 (Or.inl rfl) ⟨rfl, H⟩
  · have H := H.2 c
    refine s_iload_n dX6_outAt_4 rfl ?_
    refine s_aload_n dX6_outAt_5 rfl ?_
    refine t_getI fl_6_27 dX6_outAt_6 (sd_o hh) rfl ?_
    refine s_icmp_ge (tgt := 27) dX6_outAt_9 (by decide) (fun c => ?_) (fun c => ?_)
    · have H := H.1 c
      refine s_iconst (v := (-1)) dX6_outAt_27 (by decide) ?_
      exact s_iret dX6_outAt_28 (Or.inl rfl) ⟨rfl, H⟩
    · have H := H.2 c
      refine s_iload_n dX6_outAt_12 rfl ?_
      refine s_bipush (v := 10) dX6_outAt_13 (by decide) ?_
      refine s_icmp_ge (tgt := 27) dX6_outAt_15 (by decide) (fun c => ?_) (fun c => ?_)
      · have H := H.1 c
        refine s_iconst (v := (-1)) dX6_outAt_27 (by decide) ?_
        exact s_iret dX6_outAt_28 (Or.inl rfl) ⟨rfl, H⟩
      · have H := H.2 c
        refine s_aload_n dX6_outAt_18 rfl ?_
        refine t_getR (r := (h + 1 + 4)) fl_6_24 dX6_outAt_19 (sd_o hh) rfl (sd_r hh 4 (by decide)) ?_
        refine s_iload_n dX6_outAt_22 rfl ?_
        refine t_iald dX6_outAt_23 (sd_a hh 4 (by decide)) H.1 ?_
        have H := H.2
        refine s_goto (tgt := 28) dX6_outAt_24 (by decide) ?_
        exact s_iret dX6_outAt_28 (Or.inl rfl) ⟨rfl, H⟩

def F_X6_madeBy (J : Nat → Nat → Int64) (h : Nat) (p1 : Int32) (V : Nat → Nat → Int32) (Qr : Option Value → (Nat → Nat → Int32) → Prop) (Qx : String → (Nat → Nat → Int32) → Prop) : Prop :=
CTc J mX7_isPlayer [.int p1] V (fun r V1 =>
  ∃ b1 : Bool, r = some (.int (bI b1)) ∧
  ((b1 = false) →
    Qr (some (.int 0)) V1) ∧
  ((b1 = true) →
    vp_in p1 10 ∧
    Qr (some (.int (V1 (h + 1 + 3) p1.toNatClampNeg))) V1)) Qx
theorem v_X6_madeBy {J : Nat → Nat → Int64} (h : Nat) (p1 : Int32) (hh : isSide h) {V : Nat → Nat → Int32} {Qr : Option Value → (Nat → Nat → Int32) → Prop} {Qx : String → (Nat → Nat → Int32) → Prop} (H : F_X6_madeBy J h p1 V Qr Qx) : CTc J mX6_madeBy [.ref h, .int p1] V Qr Qx := by
  refine ctc_of (M := (T0 J, V)) pX6_madeBy (fun _ _ => rfl) (Nat.le_of_ble_eq_true rfl) ?_
  unfold F_X6_madeBy at H
  show WPc J mX6_madeBy Qr Qx 0 [(0, .ref h), (1, .int p1)] [] V 0 0
  refine s_iload_n dX6_madeBy_0 rfl ?_
  refine t_cN (As := [.int p1]) (st := []) iv_6_40 dX6_madeBy_1 ⟨by decide, by decide⟩ rfl (Nat.le_of_ble_eq_true rfl) (by decide) (by decide) rfl H (fun r V1 H => ?_)
  obtain ⟨b1, rfl, H⟩ := H
  refine s_if_eq (tgt := 16) dX6_madeBy_4 (by decide) (fun c => ?_) (fun c => ?_)
  · have H := H.1 (bI_f c)
    refine s_iconst (v := 0) dX6_madeBy_16 (by decide) ?_
    exact s_iret dX6_madeBy_17 (Or.inl rfl) ⟨rfl, H⟩
  · have H := H.2 (bI_t c)
    refine s_aload_n dX6_madeBy_7 rfl ?_
    refine t_getR (r := (h + 1 + 3)) fl_6_21 dX6_madeBy_8 (sd_o hh) rfl (sd_r hh 3 (by decide)) ?_
    refine s_iload_n dX6_madeBy_11 rfl ?_
    refine t_iald dX6_madeBy_12 (sd_a hh 3 (by decide)) H.1 ?_
    have H := H.2
    refine s_goto (tgt := 17) dX6_madeBy_13 (by decide) ?_
    exact s_iret dX6_madeBy_17 (Or.inl rfl) ⟨rfl, H⟩

def F_X6_scoreBy (J : Nat → Nat → Int64) (h : Nat) (p1 : Int32) (p2 : Int32) (V : Nat → Nat → Int32) (Qr : Option Value → (Nat → Nat → Int32) → Prop) (Qx : String → (Nat → Nat → Int32) → Prop) : Prop :=
CTc J mX7_isPlayer [.int p1] (up2 V h 7 ((V h 7) + p2)) (fun r V1 =>
  ∃ b1 : Bool, r = some (.int (bI b1)) ∧
  ((b1 = false) →
    Qr none V1) ∧
  ((b1 = true) →
    vp_in p1 10 ∧
    vp_in p1 10 ∧
    Qr none (up2 V1 (h + 1 + 3) p1.toNatClampNeg ((V1 (h + 1 + 3) p1.toNatClampNeg) + p2)))) Qx
theorem v_X6_scoreBy {J : Nat → Nat → Int64} (h : Nat) (p1 : Int32) (p2 : Int32) (hh : isSide h) {V : Nat → Nat → Int32} {Qr : Option Value → (Nat → Nat → Int32) → Prop} {Qx : String → (Nat → Nat → Int32) → Prop} (H : F_X6_scoreBy J h p1 p2 V Qr Qx) : CTc J mX6_scoreBy [.ref h, .int p1, .int p2] V Qr Qx := by
  refine ctc_of (M := (T0 J, V)) pX6_scoreBy (fun _ _ => rfl) (Nat.le_of_ble_eq_true rfl) ?_
  unfold F_X6_scoreBy at H
  show WPc J mX6_scoreBy Qr Qx 0 [(0, .ref h), (1, .int p1), (2, .int p2)] [] V 0 0
  refine s_aload_n dX6_scoreBy_0 rfl ?_
  refine s_dup dX6_scoreBy_1 rfl ?_
  refine t_getI fl_6_34 dX6_scoreBy_2 (sd_o hh) rfl ?_
  refine s_iload_n dX6_scoreBy_5 rfl ?_
  refine s_iadd dX6_scoreBy_6 ?_
  refine t_putI fl_6_34 dX6_scoreBy_7 (sd_o hh) (Or.inl rfl) ?_
  refine s_iload_n dX6_scoreBy_10 rfl ?_
  refine t_cN (As := [.int p1]) (st := []) iv_6_40 dX6_scoreBy_11 ⟨by decide, by decide⟩ rfl (Nat.le_of_ble_eq_true rfl) (by decide) (by decide) rfl H (fun r V1 H => ?_)
  obtain ⟨b1, rfl, H⟩ := H
  refine s_if_eq (tgt := 27) dX6_scoreBy_14 (by decide) (fun c => ?_) (fun c => ?_)
  · have H := H.1 (bI_f c)
    exact s_vret dX6_scoreBy_27 rfl ⟨rfl, H⟩
  · have H := H.2 (bI_t c)
    refine s_aload_n dX6_scoreBy_17 rfl ?_
    refine t_getR (r := (h + 1 + 3)) fl_6_21 dX6_scoreBy_18 (sd_o hh) rfl (sd_r hh 3 (by decide)) ?_
    refine s_iload_n dX6_scoreBy_21 rfl ?_
    refine s_dup2 dX6_scoreBy_22 rfl rfl ?_
    refine t_iald dX6_scoreBy_23 (sd_a hh 3 (by decide)) H.1 ?_
    have H := H.2
    refine s_iload_n dX6_scoreBy_24 rfl ?_
    refine s_iadd dX6_scoreBy_25 ?_
    refine t_iast dX6_scoreBy_26 (sd_a hh 3 (by decide)) H.1 ?_
    have H := H.2
    exact s_vret dX6_scoreBy_27 rfl ⟨rfl, H⟩

def F_X6_sendOut (J : Nat → Nat → Int64) (h : Nat) (p1 : Int32) (V : Nat → Nat → Int32) (Qr : Option Value → (Nat → Nat → Int32) → Prop) (Qx : String → (Nat → Nat → Int32) → Prop) : Prop :=
CTc J mX7_isPlayer [.int p1] V (fun r V1 =>
  ∃ b1 : Bool, r = some (.int (bI b1)) ∧
  ((b1 = false) →
    Qr none V1) ∧
  ((b1 = true) →
    (((V1 h 5) < 0) →
      Qr none V1) ∧
    ((¬ (V1 h 5) < 0) →
      ((10 ≤ (V1 h 5)) →
        Qr none V1) ∧
      ((¬ 10 ≤ (V1 h 5)) →
        vp_in p1 10 ∧
        vp_in ((up2 V1 (h + 1 + 0) p1.toNatClampNeg 2) h 5) 10 ∧
        Qr none (up2 (up2 (up2 V1 (h + 1 + 0) p1.toNatClampNeg 2) (h + 1 + 4) ((up2 V1 (h + 1 + 0) p1.toNatClampNeg 2) h 5).toNatClampNeg p1) h 5 (((up2 (up2 V1 (h + 1 + 0) p1.toNatClampNeg 2) (h + 1 + 4) ((up2 V1 (h + 1 + 0) p1.toNatClampNeg 2) h 5).toNatClampNeg p1) h 5) + 1)))))) Qx
theorem v_X6_sendOut {J : Nat → Nat → Int64} (h : Nat) (p1 : Int32) (hh : isSide h) {V : Nat → Nat → Int32} {Qr : Option Value → (Nat → Nat → Int32) → Prop} {Qx : String → (Nat → Nat → Int32) → Prop} (H : F_X6_sendOut J h p1 V Qr Qx) : CTc J mX6_sendOut [.ref h, .int p1] V Qr Qx := by
  refine ctc_of (M := (T0 J, V)) pX6_sendOut (fun _ _ => rfl) (Nat.le_of_ble_eq_true rfl) ?_
  unfold F_X6_sendOut at H
  show WPc J mX6_sendOut Qr Qx 0 [(0, .ref h), (1, .int p1)] [] V 0 0
  refine s_iload_n dX6_sendOut_0 rfl ?_
  refine t_cN (As := [.int p1]) (st := []) iv_6_40 dX6_sendOut_1 ⟨by decide, by decide⟩ rfl (Nat.le_of_ble_eq_true rfl) (by decide) (by decide) rfl H (fun r V1 H => ?_)
  obtain ⟨b1, rfl, H⟩ := H
  refine s_if_eq (tgt := 50) dX6_sendOut_4 (by decide) (fun c => ?_) (fun c => ?_)
  · have H := H.1 (bI_f c)
    exact s_vret dX6_sendOut_50 rfl ⟨rfl, H⟩
  · have H := H.2 (bI_t c)
    refine s_aload_n dX6_sendOut_7 rfl ?_
    refine t_getI fl_6_27 dX6_sendOut_8 (sd_o hh) rfl ?_
    refine s_if_lt (tgt := 50) dX6_sendOut_11 (by decide) (fun c => ?_) (fun c => ?_)
    · have H := H.1 c
      exact s_vret dX6_sendOut_50 rfl ⟨rfl, H⟩
    · have H := H.2 c
      refine s_aload_n dX6_sendOut_14 rfl ?_
      refine t_getI fl_6_27 dX6_sendOut_15 (sd_o hh) rfl ?_
      refine s_bipush (v := 10) dX6_sendOut_18 (by decide) ?_
      refine s_icmp_ge (tgt := 50) dX6_sendOut_20 (by decide) (fun c => ?_) (fun c => ?_)
      · have H := H.1 c
        exact s_vret dX6_sendOut_50 rfl ⟨rfl, H⟩
      · have H := H.2 c
        refine s_aload_n dX6_sendOut_23 rfl ?_
        refine t_getR (r := (h + 1 + 0)) fl_6_9 dX6_sendOut_24 (sd_o hh) rfl (sd_r hh 0 (by decide)) ?_
        refine s_iload_n dX6_sendOut_27 rfl ?_
        refine s_iconst (v := 2) dX6_sendOut_28 (by decide) ?_
        refine t_iast dX6_sendOut_29 (sd_a hh 0 (by decide)) H.1 ?_
        have H := H.2
        refine s_aload_n dX6_sendOut_30 rfl ?_
        refine t_getR (r := (h + 1 + 4)) fl_6_24 dX6_sendOut_31 (sd_o hh) rfl (sd_r hh 4 (by decide)) ?_
        refine s_aload_n dX6_sendOut_34 rfl ?_
        refine t_getI fl_6_27 dX6_sendOut_35 (sd_o hh) rfl ?_
        refine s_iload_n dX6_sendOut_38 rfl ?_
        refine t_iast dX6_sendOut_39 (sd_a hh 4 (by decide)) H.1 ?_
        have H := H.2
        refine s_aload_n dX6_sendOut_40 rfl ?_
        refine s_dup dX6_sendOut_41 rfl ?_
        refine t_getI fl_6_27 dX6_sendOut_42 (sd_o hh) rfl ?_
        refine s_iconst (v := 1) dX6_sendOut_45 (by decide) ?_
        refine s_iadd dX6_sendOut_46 ?_
        refine t_putI fl_6_27 dX6_sendOut_47 (sd_o hh) (Or.inl rfl) ?_
        exact s_vret dX6_sendOut_50 rfl ⟨rfl, H⟩

def F_X6_comeBack_88 (J : Nat → Nat → Int64) (h : Nat) (p1 : Int32) (K2 : Int32 → (Nat → Nat → Int32) → Prop) (x2 : Int32) (V : Nat → Nat → Int32) (Qr : Option Value → (Nat → Nat → Int32) → Prop) (Qx : String → (Nat → Nat → Int32) → Prop) : Prop :=
K2 (x2 + 1) V
theorem v_X6_comeBack_88 {J : Nat → Nat → Int64} (h : Nat) (p1 : Int32) (hh : isSide h) {Qr : Option Value → (Nat → Nat → Int32) → Prop} {Qx : String → (Nat → Nat → Int32) → Prop} (K2 : Int32 → (Nat → Nat → Int32) → Prop) (hK2 : ∀ (x2 : Int32)  (V : Nat → Nat → Int32), K2 x2 V → WPc J mX6_comeBack Qr Qx 2 [(0, .ref h), (1, .int p1), (2, .int x2)] [] V 0 0) (x2 : Int32)  {V : Nat → Nat → Int32} (H : F_X6_comeBack_88 J h p1 K2 x2 V Qr Qx) : WPc J mX6_comeBack Qr Qx 88 [(0, .ref h), (1, .int p1), (2, .int x2)] [] V 0 0 := by
  unfold F_X6_comeBack_88 at H
  refine t_iinc (v := (x2 + 1)) (L' := [(2, .int (x2 + 1)), (0, .ref h), (1, .int p1)]) dX6_comeBack_88 rfl (by rfl) (by decide) rfl ?_
  refine s_goto (tgt := 2) dX6_comeBack_91 (by decide) ?_
  exact t_loc [1, 2, 0] rfl (hK2 (x2 + 1)  V H)
def B_X6_comeBack_48 (J : Nat → Nat → Int64) (h : Nat) (p1 : Int32) (K2 : Int32 → (Nat → Nat → Int32) → Prop) (K48 : Int32 → Int32 → (Nat → Nat → Int32) → Prop) (x2 : Int32) (x4 : Int32) (V : Nat → Nat → Int32) (Qr : Option Value → (Nat → Nat → Int32) → Prop) (Qx : String → (Nat → Nat → Int32) → Prop) : Prop :=
(((V h 5) ≤ x4) →
  F_X6_comeBack_88 J h p1 K2 x2 V Qr Qx) ∧
((¬ (V h 5) ≤ x4) →
  ((10 ≤ (x4 + 1)) →
    F_X6_comeBack_88 J h p1 K2 x2 V Qr Qx) ∧
  ((¬ 10 ≤ (x4 + 1)) →
    vp_in (x4 + 1) 10 ∧
    vp_in x4 10 ∧
    K48 x2 (x4 + 1) (up2 V (h + 1 + 4) x4.toNatClampNeg (V (h + 1 + 4) (x4 + 1).toNatClampNeg))))
def F_X6_comeBack_48 (J : Nat → Nat → Int64) (h : Nat) (p1 : Int32) (K2 : Int32 → (Nat → Nat → Int32) → Prop) (x2 : Int32) (x4 : Int32) (V : Nat → Nat → Int32) (Qr : Option Value → (Nat → Nat → Int32) → Prop) (Qx : String → (Nat → Nat → Int32) → Prop) : Prop :=
  ∃ I : Nat → Int32 → Int32 → (Nat → Nat → Int32) → Prop, (∃ n, I n x2 x4 V) ∧ ∀ n (x2 : Int32) (x4 : Int32) (V : Nat → Nat → Int32), I n x2 x4 V → B_X6_comeBack_48 J h p1 K2 (fun x2 x4 V => ∃ n', n' < n ∧ I n' x2 x4 V) x2 x4 V Qr Qx
theorem v_X6_comeBack_48 {J : Nat → Nat → Int64} (h : Nat) (p1 : Int32) (hh : isSide h) {Qr : Option Value → (Nat → Nat → Int32) → Prop} {Qx : String → (Nat → Nat → Int32) → Prop} (K2 : Int32 → (Nat → Nat → Int32) → Prop) (hK2 : ∀ (x2 : Int32)  (V : Nat → Nat → Int32), K2 x2 V → WPc J mX6_comeBack Qr Qx 2 [(0, .ref h), (1, .int p1), (2, .int x2)] [] V 0 0) (x2 : Int32) (x4 : Int32)  {V : Nat → Nat → Int32} (H : F_X6_comeBack_48 J h p1 K2 x2 x4 V Qr Qx) : WPc J mX6_comeBack Qr Qx 48 [(0, .ref h), (1, .int p1), (2, .int x2), (4, .int x4)] [] V 0 0 := by
  obtain ⟨I, ⟨n0, h0⟩, hs⟩ := H
  have step : ∀ (K48 : Int32 → Int32 → (Nat → Nat → Int32) → Prop), (∀ (x2 : Int32) (x4 : Int32)  (V : Nat → Nat → Int32), K48 x2 x4 V → WPc J mX6_comeBack Qr Qx 48 [(0, .ref h), (1, .int p1), (2, .int x2), (4, .int x4)] [] V 0 0) → ∀ (x2 : Int32) (x4 : Int32)  (V : Nat → Nat → Int32), B_X6_comeBack_48 J h p1 K2 K48 x2 x4 V Qr Qx → WPc J mX6_comeBack Qr Qx 48 [(0, .ref h), (1, .int p1), (2, .int x2), (4, .int x4)] [] V 0 0 := by
    intro K48 hK48 x2 x4  V H
    unfold B_X6_comeBack_48 at H
    refine s_iload dX6_comeBack_48 rfl ?_
    refine s_aload_n dX6_comeBack_50 rfl ?_
    refine t_getI fl_6_27 dX6_comeBack_51 (sd_o hh) rfl ?_
    refine s_icmp_ge (tgt := 88) dX6_comeBack_54 (by decide) (fun c => ?_) (fun c => ?_)
    · have H := H.1 c
      exact t_loc [0, 1, 2] rfl (v_X6_comeBack_88 h p1 hh  K2 hK2 x2  H)
    · have H := H.2 c
      refine s_iload dX6_comeBack_57 rfl ?_
      refine s_iconst (v := 1) dX6_comeBack_59 (by decide) ?_
      refine s_iadd dX6_comeBack_60 ?_
      refine s_bipush (v := 10) dX6_comeBack_61 (by decide) ?_
      refine s_icmp_ge (tgt := 88) dX6_comeBack_63 (by decide) (fun c => ?_) (fun c => ?_)
      · have H := H.1 c
        exact t_loc [0, 1, 2] rfl (v_X6_comeBack_88 h p1 hh  K2 hK2 x2  H)
      · have H := H.2 c
        refine s_aload_n dX6_comeBack_66 rfl ?_
        refine t_getR (r := (h + 1 + 4)) fl_6_24 dX6_comeBack_67 (sd_o hh) rfl (sd_r hh 4 (by decide)) ?_
        refine s_iload dX6_comeBack_70 rfl ?_
        refine s_aload_n dX6_comeBack_72 rfl ?_
        refine t_getR (r := (h + 1 + 4)) fl_6_24 dX6_comeBack_73 (sd_o hh) rfl (sd_r hh 4 (by decide)) ?_
        refine s_iload dX6_comeBack_76 rfl ?_
        refine s_iconst (v := 1) dX6_comeBack_78 (by decide) ?_
        refine s_iadd dX6_comeBack_79 ?_
        refine t_iald dX6_comeBack_80 (sd_a hh 4 (by decide)) H.1 ?_
        have H := H.2
        refine t_iast dX6_comeBack_81 (sd_a hh 4 (by decide)) H.1 ?_
        have H := H.2
        refine t_iinc (v := (x4 + 1)) (L' := [(4, .int (x4 + 1)), (0, .ref h), (1, .int p1), (2, .int x2)]) dX6_comeBack_82 rfl (by rfl) (by decide) rfl ?_
        refine s_goto (tgt := 48) dX6_comeBack_85 (by decide) ?_
        exact t_loc [1, 2, 3, 0] rfl (hK48 x2 (x4 + 1)  (up2 V (h + 1 + 4) x4.toNatClampNeg (V (h + 1 + 4) (x4 + 1).toNatClampNeg)) H)
  have key : ∀ n, ∀ (x2 : Int32) (x4 : Int32)  (V : Nat → Nat → Int32), I n x2 x4 V → WPc J mX6_comeBack Qr Qx 48 [(0, .ref h), (1, .int p1), (2, .int x2), (4, .int x4)] [] V 0 0 := by
    refine strong (fun n ih => ?_)
    intro x2 x4  V hI
    exact step _ (fun x2 x4  V hz => Exists.elim hz (fun n1 hz => ih n1 hz.1 x2 x4  V hz.2)) x2 x4  V (hs n x2 x4 V hI)
  exact key n0 x2 x4  V h0
def F_X6_comeBack_35 (J : Nat → Nat → Int64) (h : Nat) (p1 : Int32) (K2 : Int32 → (Nat → Nat → Int32) → Prop) (x2 : Int32) (V : Nat → Nat → Int32) (Qr : Option Value → (Nat → Nat → Int32) → Prop) (Qx : String → (Nat → Nat → Int32) → Prop) : Prop :=
F_X6_comeBack_48 J h p1 K2 x2 0 (up2 V h 5 ((V h 5) - 1)) Qr Qx
theorem v_X6_comeBack_35 {J : Nat → Nat → Int64} (h : Nat) (p1 : Int32) (hh : isSide h) {Qr : Option Value → (Nat → Nat → Int32) → Prop} {Qx : String → (Nat → Nat → Int32) → Prop} (K2 : Int32 → (Nat → Nat → Int32) → Prop) (hK2 : ∀ (x2 : Int32)  (V : Nat → Nat → Int32), K2 x2 V → WPc J mX6_comeBack Qr Qx 2 [(0, .ref h), (1, .int p1), (2, .int x2)] [] V 0 0) (x2 : Int32)  {V : Nat → Nat → Int32} (H : F_X6_comeBack_35 J h p1 K2 x2 V Qr Qx) : WPc J mX6_comeBack Qr Qx 35 [(0, .ref h), (1, .int p1), (2, .int x2)] [] V 0 0 := by
  unfold F_X6_comeBack_35 at H
  refine s_aload_n dX6_comeBack_35 rfl ?_
  refine s_dup dX6_comeBack_36 rfl ?_
  refine t_getI fl_6_27 dX6_comeBack_37 (sd_o hh) rfl ?_
  refine s_iconst (v := 1) dX6_comeBack_40 (by decide) ?_
  refine s_isub dX6_comeBack_41 ?_
  refine t_putI fl_6_27 dX6_comeBack_42 (sd_o hh) (Or.inl rfl) ?_
  refine s_iconst (v := 0) dX6_comeBack_45 (by decide) ?_
  refine t_istore (L' := [(4, .int 0), (0, .ref h), (1, .int p1), (2, .int x2)]) dX6_comeBack_46 (by decide) rfl ?_
  exact t_loc [1, 2, 3, 0] rfl (v_X6_comeBack_48 h p1 hh  K2 hK2 x2 0  H)
def B_X6_comeBack_2 (J : Nat → Nat → Int64) (h : Nat) (p1 : Int32) (K2 : Int32 → (Nat → Nat → Int32) → Prop) (x2 : Int32) (V : Nat → Nat → Int32) (Qr : Option Value → (Nat → Nat → Int32) → Prop) (Qx : String → (Nat → Nat → Int32) → Prop) : Prop :=
((p1 ≤ x2) →
  Qr none V) ∧
((¬ p1 ≤ x2) →
  (((V h 5) ≤ 0) →
    Qr none V) ∧
  ((¬ (V h 5) ≤ 0) →
    CTc J mX7_isPlayer [.int (V (h + 1 + 4) 0)] V (fun r V1 =>
      ∃ b1 : Bool, r = some (.int (bI b1)) ∧
      ((b1 = false) →
        F_X6_comeBack_35 J h p1 K2 x2 V1 Qr Qx) ∧
      ((b1 = true) →
        vp_in (V (h + 1 + 4) 0) 10 ∧
        F_X6_comeBack_35 J h p1 K2 x2 (up2 V1 (h + 1 + 0) (V (h + 1 + 4) 0).toNatClampNeg 0) Qr Qx)) Qx))
def F_X6_comeBack_2 (J : Nat → Nat → Int64) (h : Nat) (p1 : Int32) (x2 : Int32) (V : Nat → Nat → Int32) (Qr : Option Value → (Nat → Nat → Int32) → Prop) (Qx : String → (Nat → Nat → Int32) → Prop) : Prop :=
  ∃ I : Nat → Int32 → (Nat → Nat → Int32) → Prop, (∃ n, I n x2 V) ∧ ∀ n (x2 : Int32) (V : Nat → Nat → Int32), I n x2 V → B_X6_comeBack_2 J h p1  (fun x2 V => ∃ n', n' < n ∧ I n' x2 V) x2 V Qr Qx
theorem v_X6_comeBack_2 {J : Nat → Nat → Int64} (h : Nat) (p1 : Int32) (hh : isSide h) {Qr : Option Value → (Nat → Nat → Int32) → Prop} {Qx : String → (Nat → Nat → Int32) → Prop} (x2 : Int32)  {V : Nat → Nat → Int32} (H : F_X6_comeBack_2 J h p1  x2 V Qr Qx) : WPc J mX6_comeBack Qr Qx 2 [(0, .ref h), (1, .int p1), (2, .int x2)] [] V 0 0 := by
  obtain ⟨I, ⟨n0, h0⟩, hs⟩ := H
  have step : ∀ (K2 : Int32 → (Nat → Nat → Int32) → Prop), (∀ (x2 : Int32)  (V : Nat → Nat → Int32), K2 x2 V → WPc J mX6_comeBack Qr Qx 2 [(0, .ref h), (1, .int p1), (2, .int x2)] [] V 0 0) → ∀ (x2 : Int32)  (V : Nat → Nat → Int32), B_X6_comeBack_2 J h p1  K2 x2 V Qr Qx → WPc J mX6_comeBack Qr Qx 2 [(0, .ref h), (1, .int p1), (2, .int x2)] [] V 0 0 := by
    intro K2 hK2 x2  V H
    unfold B_X6_comeBack_2 at H
    refine s_iload_n dX6_comeBack_2 rfl ?_
    refine s_iload_n dX6_comeBack_3 rfl ?_
    refine s_icmp_ge (tgt := 94) dX6_comeBack_4 (by decide) (fun c => ?_) (fun c => ?_)
    · have H := H.1 c
      exact s_vret dX6_comeBack_94 rfl ⟨rfl, H⟩
    · have H := H.2 c
      refine s_aload_n dX6_comeBack_7 rfl ?_
      refine t_getI fl_6_27 dX6_comeBack_8 (sd_o hh) rfl ?_
      refine s_if_le (tgt := 94) dX6_comeBack_11 (by decide) (fun c => ?_) (fun c => ?_)
      · have H := H.1 c
        exact s_vret dX6_comeBack_94 rfl ⟨rfl, H⟩
      · have H := H.2 c
        refine s_aload_n dX6_comeBack_14 rfl ?_
        refine t_getR (r := (h + 1 + 4)) fl_6_24 dX6_comeBack_15 (sd_o hh) rfl (sd_r hh 4 (by decide)) ?_
        refine s_iconst (v := 0) dX6_comeBack_18 (by decide) ?_
        refine t_iald dX6_comeBack_19 (sd_a hh 4 (by decide)) (vp_of (by decide)) ?_
        refine t_istore_n (L' := [(3, .int (V (h + 1 + 4) 0)), (0, .ref h), (1, .int p1), (2, .int x2)]) dX6_comeBack_20 (by decide) rfl ?_
        refine s_iload_n dX6_comeBack_21 rfl ?_
        refine t_cN (As := [.int (V (h + 1 + 4) 0)]) (st := []) iv_6_40 dX6_comeBack_22 ⟨by decide, by decide⟩ rfl (Nat.le_of_ble_eq_true rfl) (by decide) (by decide) rfl H (fun r V1 H => ?_)
        obtain ⟨b1, rfl, H⟩ := H
        refine s_if_eq (tgt := 35) dX6_comeBack_25 (by decide) (fun c => ?_) (fun c => ?_)
        · have H := H.1 (bI_f c)
          exact t_loc [1, 2, 3] rfl (v_X6_comeBack_35 h p1 hh  K2 hK2 x2  H)
        · have H := H.2 (bI_t c)
          refine s_aload_n dX6_comeBack_28 rfl ?_
          refine t_getR (r := (h + 1 + 0)) fl_6_9 dX6_comeBack_29 (sd_o hh) rfl (sd_r hh 0 (by decide)) ?_
          refine s_iload_n dX6_comeBack_32 rfl ?_
          refine s_iconst (v := 0) dX6_comeBack_33 (by decide) ?_
          refine t_iast dX6_comeBack_34 (sd_a hh 0 (by decide)) H.1 ?_
          have H := H.2
          exact t_loc [1, 2, 3] rfl (v_X6_comeBack_35 h p1 hh  K2 hK2 x2  H)
  have key : ∀ n, ∀ (x2 : Int32)  (V : Nat → Nat → Int32), I n x2 V → WPc J mX6_comeBack Qr Qx 2 [(0, .ref h), (1, .int p1), (2, .int x2)] [] V 0 0 := by
    refine strong (fun n ih => ?_)
    intro x2  V hI
    exact step _ (fun x2  V hz => Exists.elim hz (fun n1 hz => ih n1 hz.1 x2  V hz.2)) x2  V (hs n x2 V hI)
  exact key n0 x2  V h0
def F_X6_comeBack (J : Nat → Nat → Int64) (h : Nat) (p1 : Int32) (V : Nat → Nat → Int32) (Qr : Option Value → (Nat → Nat → Int32) → Prop) (Qx : String → (Nat → Nat → Int32) → Prop) : Prop :=
F_X6_comeBack_2 J h p1  0 V Qr Qx
theorem v_X6_comeBack {J : Nat → Nat → Int64} (h : Nat) (p1 : Int32) (hh : isSide h) {V : Nat → Nat → Int32} {Qr : Option Value → (Nat → Nat → Int32) → Prop} {Qx : String → (Nat → Nat → Int32) → Prop} (H : F_X6_comeBack J h p1 V Qr Qx) : CTc J mX6_comeBack [.ref h, .int p1] V Qr Qx := by
  refine ctc_of (M := (T0 J, V)) pX6_comeBack (fun _ _ => rfl) (Nat.le_of_ble_eq_true rfl) ?_
  unfold F_X6_comeBack at H
  show WPc J mX6_comeBack Qr Qx 0 [(0, .ref h), (1, .int p1)] [] V 0 0
  refine s_iconst (v := 0) dX6_comeBack_0 (by decide) ?_
  refine t_istore_n (L' := [(2, .int 0), (0, .ref h), (1, .int p1)]) dX6_comeBack_1 (by decide) rfl ?_
  exact t_loc [1, 2, 0] rfl (v_X6_comeBack_2 h p1 hh    0  H)

def F_X6_endSuspensions_35 (J : Nat → Nat → Int64) (h : Nat) (p1 : Int32) (K2 : Int32 → (Nat → Nat → Int32) → Prop) (x2 : Int32) (V : Nat → Nat → Int32) (Qr : Option Value → (Nat → Nat → Int32) → Prop) (Qx : String → (Nat → Nat → Int32) → Prop) : Prop :=
K2 (x2 + 1) V
theorem v_X6_endSuspensions_35 {J : Nat → Nat → Int64} (h : Nat) (p1 : Int32) (hh : isSide h) {Qr : Option Value → (Nat → Nat → Int32) → Prop} {Qx : String → (Nat → Nat → Int32) → Prop} (K2 : Int32 → (Nat → Nat → Int32) → Prop) (hK2 : ∀ (x2 : Int32)  (V : Nat → Nat → Int32), K2 x2 V → WPc J mX6_endSuspensions Qr Qx 2 [(0, .ref h), (1, .int p1), (2, .int x2)] [] V 0 0) (x2 : Int32)  {V : Nat → Nat → Int32} (H : F_X6_endSuspensions_35 J h p1 K2 x2 V Qr Qx) : WPc J mX6_endSuspensions Qr Qx 35 [(0, .ref h), (1, .int p1), (2, .int x2)] [] V 0 0 := by
  unfold F_X6_endSuspensions_35 at H
  refine t_iinc (v := (x2 + 1)) (L' := [(2, .int (x2 + 1)), (0, .ref h), (1, .int p1)]) dX6_endSuspensions_35 rfl (by rfl) (by decide) rfl ?_
  refine s_goto (tgt := 2) dX6_endSuspensions_38 (by decide) ?_
  exact t_loc [1, 2, 0] rfl (hK2 (x2 + 1)  V H)
def B_X6_endSuspensions_2 (J : Nat → Nat → Int64) (h : Nat) (p1 : Int32) (K2 : Int32 → (Nat → Nat → Int32) → Prop) (x2 : Int32) (V : Nat → Nat → Int32) (Qr : Option Value → (Nat → Nat → Int32) → Prop) (Qx : String → (Nat → Nat → Int32) → Prop) : Prop :=
((10 ≤ x2) →
  Qr none V) ∧
((¬ 10 ≤ x2) →
  vp_in x2 10 ∧
  ((¬ (V (h + 1 + 0) x2.toNatClampNeg) = 3) →
    F_X6_endSuspensions_35 J h p1 K2 x2 V Qr Qx) ∧
  (((V (h + 1 + 0) x2.toNatClampNeg) = 3) →
    vp_in x2 10 ∧
    ((p1 < (V (h + 1 + 1) x2.toNatClampNeg)) →
      F_X6_endSuspensions_35 J h p1 K2 x2 V Qr Qx) ∧
    ((¬ p1 < (V (h + 1 + 1) x2.toNatClampNeg)) →
      vp_in x2 10 ∧
      F_X6_endSuspensions_35 J h p1 K2 x2 (up2 V (h + 1 + 0) x2.toNatClampNeg 0) Qr Qx)))
def F_X6_endSuspensions_2 (J : Nat → Nat → Int64) (h : Nat) (p1 : Int32) (x2 : Int32) (V : Nat → Nat → Int32) (Qr : Option Value → (Nat → Nat → Int32) → Prop) (Qx : String → (Nat → Nat → Int32) → Prop) : Prop :=
  ∃ I : Nat → Int32 → (Nat → Nat → Int32) → Prop, (∃ n, I n x2 V) ∧ ∀ n (x2 : Int32) (V : Nat → Nat → Int32), I n x2 V → B_X6_endSuspensions_2 J h p1  (fun x2 V => ∃ n', n' < n ∧ I n' x2 V) x2 V Qr Qx
theorem v_X6_endSuspensions_2 {J : Nat → Nat → Int64} (h : Nat) (p1 : Int32) (hh : isSide h) {Qr : Option Value → (Nat → Nat → Int32) → Prop} {Qx : String → (Nat → Nat → Int32) → Prop} (x2 : Int32)  {V : Nat → Nat → Int32} (H : F_X6_endSuspensions_2 J h p1  x2 V Qr Qx) : WPc J mX6_endSuspensions Qr Qx 2 [(0, .ref h), (1, .int p1), (2, .int x2)] [] V 0 0 := by
  obtain ⟨I, ⟨n0, h0⟩, hs⟩ := H
  have step : ∀ (K2 : Int32 → (Nat → Nat → Int32) → Prop), (∀ (x2 : Int32)  (V : Nat → Nat → Int32), K2 x2 V → WPc J mX6_endSuspensions Qr Qx 2 [(0, .ref h), (1, .int p1), (2, .int x2)] [] V 0 0) → ∀ (x2 : Int32)  (V : Nat → Nat → Int32), B_X6_endSuspensions_2 J h p1  K2 x2 V Qr Qx → WPc J mX6_endSuspensions Qr Qx 2 [(0, .ref h), (1, .int p1), (2, .int x2)] [] V 0 0 := by
    intro K2 hK2 x2  V H
    unfold B_X6_endSuspensions_2 at H
    refine s_iload_n dX6_endSuspensions_2 rfl ?_
    refine s_bipush (v := 10) dX6_endSuspensions_3 (by decide) ?_
    refine s_icmp_ge (tgt := 41) dX6_endSuspensions_5 (by decide) (fun c => ?_) (fun c => ?_)
    · have H := H.1 c
      exact s_vret dX6_endSuspensions_41 rfl ⟨rfl, H⟩
    · have H := H.2 c
      refine s_aload_n dX6_endSuspensions_8 rfl ?_
      refine t_getR (r := (h + 1 + 0)) fl_6_9 dX6_endSuspensions_9 (sd_o hh) rfl (sd_r hh 0 (by decide)) ?_
      refine s_iload_n dX6_endSuspensions_12 rfl ?_
      refine t_iald dX6_endSuspensions_13 (sd_a hh 0 (by decide)) H.1 ?_
      have H := H.2
      refine s_iconst (v := 3) dX6_endSuspensions_14 (by decide) ?_
      refine s_icmp_ne (tgt := 35) dX6_endSuspensions_15 (by decide) (fun c => ?_) (fun c => ?_)
      · have H := H.1 c
        exact t_loc [0, 1, 2] rfl (v_X6_endSuspensions_35 h p1 hh  K2 hK2 x2  H)
      · have H := H.2 c
        refine s_aload_n dX6_endSuspensions_18 rfl ?_
        refine t_getR (r := (h + 1 + 1)) fl_6_15 dX6_endSuspensions_19 (sd_o hh) rfl (sd_r hh 1 (by decide)) ?_
        refine s_iload_n dX6_endSuspensions_22 rfl ?_
        refine t_iald dX6_endSuspensions_23 (sd_a hh 1 (by decide)) H.1 ?_
        have H := H.2
        refine s_iload_n dX6_endSuspensions_24 rfl ?_
        refine s_icmp_gt (tgt := 35) dX6_endSuspensions_25 (by decide) (fun c => ?_) (fun c => ?_)
        · have H := H.1 c
          exact t_loc [0, 1, 2] rfl (v_X6_endSuspensions_35 h p1 hh  K2 hK2 x2  H)
        · have H := H.2 c
          refine s_aload_n dX6_endSuspensions_28 rfl ?_
          refine t_getR (r := (h + 1 + 0)) fl_6_9 dX6_endSuspensions_29 (sd_o hh) rfl (sd_r hh 0 (by decide)) ?_
          refine s_iload_n dX6_endSuspensions_32 rfl ?_
          refine s_iconst (v := 0) dX6_endSuspensions_33 (by decide) ?_
          refine t_iast dX6_endSuspensions_34 (sd_a hh 0 (by decide)) H.1 ?_
          have H := H.2
          exact t_loc [0, 1, 2] rfl (v_X6_endSuspensions_35 h p1 hh  K2 hK2 x2  H)
  have key : ∀ n, ∀ (x2 : Int32)  (V : Nat → Nat → Int32), I n x2 V → WPc J mX6_endSuspensions Qr Qx 2 [(0, .ref h), (1, .int p1), (2, .int x2)] [] V 0 0 := by
    refine strong (fun n ih => ?_)
    intro x2  V hI
    exact step _ (fun x2  V hz => Exists.elim hz (fun n1 hz => ih n1 hz.1 x2  V hz.2)) x2  V (hs n x2 V hI)
  exact key n0 x2  V h0
def F_X6_endSuspensions (J : Nat → Nat → Int64) (h : Nat) (p1 : Int32) (V : Nat → Nat → Int32) (Qr : Option Value → (Nat → Nat → Int32) → Prop) (Qx : String → (Nat → Nat → Int32) → Prop) : Prop :=
F_X6_endSuspensions_2 J h p1  0 V Qr Qx
theorem v_X6_endSuspensions {J : Nat → Nat → Int64} (h : Nat) (p1 : Int32) (hh : isSide h) {V : Nat → Nat → Int32} {Qr : Option Value → (Nat → Nat → Int32) → Prop} {Qx : String → (Nat → Nat → Int32) → Prop} (H : F_X6_endSuspensions J h p1 V Qr Qx) : CTc J mX6_endSuspensions [.ref h, .int p1] V Qr Qx := by
  refine ctc_of (M := (T0 J, V)) pX6_endSuspensions (fun _ _ => rfl) (Nat.le_of_ble_eq_true rfl) ?_
  unfold F_X6_endSuspensions at H
  show WPc J mX6_endSuspensions Qr Qx 0 [(0, .ref h), (1, .int p1)] [] V 0 0
  refine s_iconst (v := 0) dX6_endSuspensions_0 (by decide) ?_
  refine t_istore_n (L' := [(2, .int 0), (0, .ref h), (1, .int p1)]) dX6_endSuspensions_1 (by decide) rfl ?_
  exact t_loc [1, 2, 0] rfl (v_X6_endSuspensions_2 h p1 hh    0  H)

def B_X6_colourFor_21 (J : Nat → Nat → Int64) (h : Nat) (p1 : Int32) (p2 : Int32) (K21 : Int32 → Int32 → (Nat → Nat → Int32) → Prop) (x3 : Int32) (x4 : Int32) (V : Nat → Nat → Int32) (Qr : Option Value → (Nat → Nat → Int32) → Prop) (Qx : String → (Nat → Nat → Int32) → Prop) : Prop :=
((2 ≤ x4) →
  Qr (some (.int x4)) V) ∧
((¬ 2 ≤ x4) →
  ((¬ ((x3 >>> (x4 &&& 31)) &&& 1) = 1) →
    Qr (some (.int x4)) V) ∧
  ((((x3 >>> (x4 &&& 31)) &&& 1) = 1) →
    K21 x3 (x4 + 1) V))
def F_X6_colourFor_21 (J : Nat → Nat → Int64) (h : Nat) (p1 : Int32) (p2 : Int32) (x3 : Int32) (x4 : Int32) (V : Nat → Nat → Int32) (Qr : Option Value → (Nat → Nat → Int32) → Prop) (Qx : String → (Nat → Nat → Int32) → Prop) : Prop :=
  ∃ I : Nat → Int32 → Int32 → (Nat → Nat → Int32) → Prop, (∃ n, I n x3 x4 V) ∧ ∀ n (x3 : Int32) (x4 : Int32) (V : Nat → Nat → Int32), I n x3 x4 V → B_X6_colourFor_21 J h p1 p2  (fun x3 x4 V => ∃ n', n' < n ∧ I n' x3 x4 V) x3 x4 V Qr Qx
theorem v_X6_colourFor_21 {J : Nat → Nat → Int64} (h : Nat) (p1 : Int32) (p2 : Int32) (hh : isSide h) {Qr : Option Value → (Nat → Nat → Int32) → Prop} {Qx : String → (Nat → Nat → Int32) → Prop} (x3 : Int32) (x4 : Int32)  {V : Nat → Nat → Int32} (H : F_X6_colourFor_21 J h p1 p2  x3 x4 V Qr Qx) : WPc J mX6_colourFor Qr Qx 21 [(3, .int x3), (4, .int x4)] [] V 0 0 := by
  obtain ⟨I, ⟨n0, h0⟩, hs⟩ := H
  have step : ∀ (K21 : Int32 → Int32 → (Nat → Nat → Int32) → Prop), (∀ (x3 : Int32) (x4 : Int32)  (V : Nat → Nat → Int32), K21 x3 x4 V → WPc J mX6_colourFor Qr Qx 21 [(3, .int x3), (4, .int x4)] [] V 0 0) → ∀ (x3 : Int32) (x4 : Int32)  (V : Nat → Nat → Int32), B_X6_colourFor_21 J h p1 p2  K21 x3 x4 V Qr Qx → WPc J mX6_colourFor Qr Qx 21 [(3, .int x3), (4, .int x4)] [] V 0 0 := by
    intro K21 hK21 x3 x4  V H
    unfold B_X6_colourFor_21 at H
    refine s_iload dX6_colourFor_21 rfl ?_
    refine s_iconst (v := 2) dX6_colourFor_23 (by decide) ?_
    refine s_icmp_ge (tgt := 43) dX6_colourFor_24 (by decide) (fun c => ?_) (fun c => ?_)
    · have H := H.1 c
      refine s_iload dX6_colourFor_43 rfl ?_
      exact s_iret dX6_colourFor_45 (Or.inl rfl) ⟨rfl, H⟩
    · have H := H.2 c
      refine s_iload_n dX6_colourFor_27 rfl ?_
      refine s_iload dX6_colourFor_28 rfl ?_
      refine s_ishr dX6_colourFor_30 ?_
      refine s_iconst (v := 1) dX6_colourFor_31 (by decide) ?_
      refine s_iand dX6_colourFor_32 ?_
      refine s_iconst (v := 1) dX6_colourFor_33 (by decide) ?_
      refine s_icmp_ne (tgt := 43) dX6_colourFor_34 (by decide) (fun c => ?_) (fun c => ?_)
      · have H := H.1 c
        refine s_iload dX6_colourFor_43 rfl ?_
        exact s_iret dX6_colourFor_45 (Or.inl rfl) ⟨rfl, H⟩
      · have H := H.2 c
        refine t_iinc (v := (x4 + 1)) (L' := [(4, .int (x4 + 1)), (3, .int x3)]) dX6_colourFor_37 rfl (by rfl) (by decide) rfl ?_
        refine s_goto (tgt := 21) dX6_colourFor_40 (by decide) ?_
        exact t_loc [1, 0] rfl (hK21 x3 (x4 + 1)  V H)
  have key : ∀ n, ∀ (x3 : Int32) (x4 : Int32)  (V : Nat → Nat → Int32), I n x3 x4 V → WPc J mX6_colourFor Qr Qx 21 [(3, .int x3), (4, .int x4)] [] V 0 0 := by
    refine strong (fun n ih => ?_)
    intro x3 x4  V hI
    exact step _ (fun x3 x4  V hz => Exists.elim hz (fun n1 hz => ih n1 hz.1 x3 x4  V hz.2)) x3 x4  V (hs n x3 x4 V hI)
  exact key n0 x3 x4  V h0
def F_X6_colourFor_17 (J : Nat → Nat → Int64) (h : Nat) (p1 : Int32) (p2 : Int32) (s0 : Int32) (V : Nat → Nat → Int32) (Qr : Option Value → (Nat → Nat → Int32) → Prop) (Qx : String → (Nat → Nat → Int32) → Prop) : Prop :=
F_X6_colourFor_21 J h p1 p2  s0 p2 V Qr Qx
theorem v_X6_colourFor_17 {J : Nat → Nat → Int64} (h : Nat) (p1 : Int32) (p2 : Int32) (hh : isSide h) {Qr : Option Value → (Nat → Nat → Int32) → Prop} {Qx : String → (Nat → Nat → Int32) → Prop} (s0 : Int32)  {V : Nat → Nat → Int32} (H : F_X6_colourFor_17 J h p1 p2  s0 V Qr Qx) : WPc J mX6_colourFor Qr Qx 17 [(2, .int p2)] [.int s0] V 0 0 := by
  unfold F_X6_colourFor_17 at H
  refine t_istore_n (L' := [(3, .int s0), (2, .int p2)]) dX6_colourFor_17 (by decide) rfl ?_
  refine s_iload_n dX6_colourFor_18 rfl ?_
  refine t_istore (L' := [(4, .int p2), (3, .int s0), (2, .int p2)]) dX6_colourFor_19 (by decide) rfl ?_
  exact t_loc [1, 0] rfl (v_X6_colourFor_21 h p1 p2 hh    s0 p2  H)
def F_X6_colourFor (J : Nat → Nat → Int64) (h : Nat) (p1 : Int32) (p2 : Int32) (V : Nat → Nat → Int32) (Qr : Option Value → (Nat → Nat → Int32) → Prop) (Qx : String → (Nat → Nat → Int32) → Prop) : Prop :=
CTc J mX7_isPlayer [.int p1] V (fun r V1 =>
  ∃ b1 : Bool, r = some (.int (bI b1)) ∧
  ((b1 = false) →
    F_X6_colourFor_17 J h p1 p2  0 V1 Qr Qx) ∧
  ((b1 = true) →
    vp_in p1 10 ∧
    F_X6_colourFor_17 J h p1 p2  (V1 (h + 1 + 2) p1.toNatClampNeg) V1 Qr Qx)) Qx
theorem v_X6_colourFor {J : Nat → Nat → Int64} (h : Nat) (p1 : Int32) (p2 : Int32) (hh : isSide h) {V : Nat → Nat → Int32} {Qr : Option Value → (Nat → Nat → Int32) → Prop} {Qx : String → (Nat → Nat → Int32) → Prop} (H : F_X6_colourFor J h p1 p2 V Qr Qx) : CTc J mX6_colourFor [.ref h, .int p1, .int p2] V Qr Qx := by
  refine ctc_of (M := (T0 J, V)) pX6_colourFor (fun _ _ => rfl) (Nat.le_of_ble_eq_true rfl) ?_
  unfold F_X6_colourFor at H
  show WPc J mX6_colourFor Qr Qx 0 [(0, .ref h), (1, .int p1), (2, .int p2)] [] V 0 0
  refine s_iload_n dX6_colourFor_0 rfl ?_
  refine t_cN (As := [.int p1]) (st := []) iv_6_40 dX6_colourFor_1 ⟨by decide, by decide⟩ rfl (Nat.le_of_ble_eq_true rfl) (by decide) (by decide) rfl H (fun r V1 H => ?_)
  obtain ⟨b1, rfl, H⟩ := H
  refine s_if_eq (tgt := 16) dX6_colourFor_4 (by decide) (fun c => ?_) (fun c => ?_)
  · have H := H.1 (bI_f c)
    refine s_iconst (v := 0) dX6_colourFor_16 (by decide) ?_
    exact t_loc [2] rfl (v_X6_colourFor_17 h p1 p2 hh    0  H)
  · have H := H.2 (bI_t c)
    refine s_aload_n dX6_colourFor_7 rfl ?_
    refine t_getR (r := (h + 1 + 2)) fl_6_18 dX6_colourFor_8 (sd_o hh) rfl (sd_r hh 2 (by decide)) ?_
    refine s_iload_n dX6_colourFor_11 rfl ?_
    refine t_iald dX6_colourFor_12 (sd_a hh 2 (by decide)) H.1 ?_
    have H := H.2
    refine s_goto (tgt := 17) dX6_colourFor_13 (by decide) ?_
    exact t_loc [2] rfl (v_X6_colourFor_17 h p1 p2 hh    (V1 (h + 1 + 2) p1.toNatClampNeg)  H)

def F_X6_mayGet (J : Nat → Nat → Int64) (h : Nat) (p1 : Int32) (p2 : Int32) (V : Nat → Nat → Int32) (Qr : Option Value → (Nat → Nat → Int32) → Prop) (Qx : String → (Nat → Nat → Int32) → Prop) : Prop :=
CTc J mX6_isOn [.ref h, .int p1] V (fun r V1 =>
  ∃ b1 : Bool, r = some (.int (bI b1)) ∧
  ((b1 = false) →
    Qr (some (.int 0)) V1) ∧
  ((b1 = true) →
    CTc J mX6_colourFor [.ref h, .int p1, .int p2] V1 (fun r V2 =>
      ∃ r2 : Int32, r = some (.int r2) ∧
      ((r2 = 0) →
        Qr (some (.int 1)) V2) ∧
      ((¬ r2 = 0) →
        CTc J mX6_count [.ref h, .int 3] V2 (fun r V3 =>
          ∃ r3 : Int32, r = some (.int r3) ∧
          CTc J mX6_count [.ref h, .int 4] V3 (fun r V4 =>
            ∃ r4 : Int32, r = some (.int r4) ∧
            ((3 ≤ (r3 + r4)) →
              Qr (some (.int 0)) V4) ∧
            ((¬ 3 ≤ (r3 + r4)) →
              Qr (some (.int 1)) V4)) Qx) Qx)) Qx)) Qx
theorem v_X6_mayGet {J : Nat → Nat → Int64} (h : Nat) (p1 : Int32) (p2 : Int32) (hh : isSide h) {V : Nat → Nat → Int32} {Qr : Option Value → (Nat → Nat → Int32) → Prop} {Qx : String → (Nat → Nat → Int32) → Prop} (H : F_X6_mayGet J h p1 p2 V Qr Qx) : CTc J mX6_mayGet [.ref h, .int p1, .int p2] V Qr Qx := by
  refine ctc_of (M := (T0 J, V)) pX6_mayGet (fun _ _ => rfl) (Nat.le_of_ble_eq_true rfl) ?_
  unfold F_X6_mayGet at H
  show WPc J mX6_mayGet Qr Qx 0 [(0, .ref h), (1, .int p1), (2, .int p2)] [] V 0 0
  refine s_aload_n dX6_mayGet_0 rfl ?_
  refine s_iload_n dX6_mayGet_1 rfl ?_
  refine t_cV (h := h) (As := [.int p1]) (st := []) iv_6_48 dX6_mayGet_2 ⟨by decide, by decide⟩ rfl (Nat.le_of_ble_eq_true rfl) (by decide) (by decide) rfl (sd_o hh) H (fun r V1 H => ?_)
  obtain ⟨b1, rfl, H⟩ := H
  refine s_if_eq (tgt := 36) dX6_mayGet_5 (by decide) (fun c => ?_) (fun c => ?_)
  · have H := H.1 (bI_f c)
    refine s_iconst (v := 0) dX6_mayGet_36 (by decide) ?_
    exact s_iret dX6_mayGet_37 (Or.inr ⟨rfl, (Or.inl rfl)⟩) ⟨rfl, H⟩
  · have H := H.2 (bI_t c)
    refine s_aload_n dX6_mayGet_8 rfl ?_
    refine s_iload_n dX6_mayGet_9 rfl ?_
    refine s_iload_n dX6_mayGet_10 rfl ?_
    refine t_cV (h := h) (As := [.int p1, .int p2]) (st := []) iv_6_51 dX6_mayGet_11 ⟨by decide, by decide⟩ rfl (Nat.le_of_ble_eq_true rfl) (by decide) (by decide) rfl (sd_o hh) H (fun r V2 H => ?_)
    obtain ⟨r2, rfl, H⟩ := H
    refine s_if_eq (tgt := 32) dX6_mayGet_14 (by decide) (fun c => ?_) (fun c => ?_)
    · have H := H.1 c
      refine s_iconst (v := 1) dX6_mayGet_32 (by decide) ?_
      refine s_goto (tgt := 37) dX6_mayGet_33 (by decide) ?_
      exact s_iret dX6_mayGet_37 (Or.inr ⟨rfl, (Or.inr rfl)⟩) ⟨rfl, H⟩
    · have H := H.2 c
      refine s_aload_n dX6_mayGet_17 rfl ?_
      refine s_iconst (v := 3) dX6_mayGet_18 (by decide) ?_
      refine t_cV (h := h) (As := [.int 3]) (st := []) iv_6_44 dX6_mayGet_19 ⟨by decide, by decide⟩ rfl (Nat.le_of_ble_eq_true rfl) (by decide) (by decide) rfl (sd_o hh) H (fun r V3 H => ?_)
      obtain ⟨r3, rfl, H⟩ := H
      refine s_aload_n dX6_mayGet_22 rfl ?_
      refine s_iconst (v := 4) dX6_mayGet_23 (by decide) ?_
      refine t_cV (h := h) (As := [.int 4]) (st := [.int r3]) iv_6_44 dX6_mayGet_24 ⟨by decide, by decide⟩ rfl (Nat.le_of_ble_eq_true rfl) (by decide) (by decide) rfl (sd_o hh) H (fun r V4 H => ?_)
      obtain ⟨r4, rfl, H⟩ := H
      refine s_iadd dX6_mayGet_27 ?_
      refine s_iconst (v := 3) dX6_mayGet_28 (by decide) ?_
      refine s_icmp_ge (tgt := 36) dX6_mayGet_29 (by decide) (fun c => ?_) (fun c => ?_)
      · have H := H.1 c
        refine s_iconst (v := 0) dX6_mayGet_36 (by decide) ?_
        exact s_iret dX6_mayGet_37 (Or.inr ⟨rfl, (Or.inl rfl)⟩) ⟨rfl, H⟩
      · have H := H.2 c
        refine s_iconst (v := 1) dX6_mayGet_32 (by decide) ?_
        refine s_goto (tgt := 37) dX6_mayGet_33 (by decide) ?_
        exact s_iret dX6_mayGet_37 (Or.inr ⟨rfl, (Or.inr rfl)⟩) ⟨rfl, H⟩

def F_X6_takeCard (J : Nat → Nat → Int64) (h : Nat) (p1 : Int32) (p2 : Int32) (p3 : Int32) (V : Nat → Nat → Int32) (Qr : Option Value → (Nat → Nat → Int32) → Prop) (Qx : String → (Nat → Nat → Int32) → Prop) : Prop :=
CTc J mX7_isPlayer [.int p1] V (fun r V1 =>
  ∃ b1 : Bool, r = some (.int (bI b1)) ∧
  ((b1 = true) →
    vp_in p1 10 ∧
    vp_in p1 10 ∧
    ((¬ p2 = 1) →
      ((¬ p2 = 2) →
        Qr none (up2 V1 (h + 1 + 2) p1.toNatClampNeg ((V1 (h + 1 + 2) p1.toNatClampNeg) ||| (1 <<< (p2 &&& 31))))) ∧
      ((p2 = 2) →
        vp_in p1 10 ∧
        Qr none (up2 (up2 V1 (h + 1 + 2) p1.toNatClampNeg ((V1 (h + 1 + 2) p1.toNatClampNeg) ||| (1 <<< (p2 &&& 31)))) (h + 1 + 0) p1.toNatClampNeg 4))) ∧
    ((p2 = 1) →
      vp_in p1 10 ∧
      vp_in p1 10 ∧
      Qr none (up2 (up2 (up2 V1 (h + 1 + 2) p1.toNatClampNeg ((V1 (h + 1 + 2) p1.toNatClampNeg) ||| (1 <<< (p2 &&& 31)))) (h + 1 + 0) p1.toNatClampNeg 3) (h + 1 + 1) p1.toNatClampNeg (p3 + 1200)))) ∧
  ((b1 = false) →
    Qr none V1)) Qx
theorem v_X6_takeCard {J : Nat → Nat → Int64} (h : Nat) (p1 : Int32) (p2 : Int32) (p3 : Int32) (hh : isSide h) {V : Nat → Nat → Int32} {Qr : Option Value → (Nat → Nat → Int32) → Prop} {Qx : String → (Nat → Nat → Int32) → Prop} (H : F_X6_takeCard J h p1 p2 p3 V Qr Qx) : CTc J mX6_takeCard [.ref h, .int p1, .int p2, .int p3] V Qr Qx := by
  refine ctc_of (M := (T0 J, V)) pX6_takeCard (fun _ _ => rfl) (Nat.le_of_ble_eq_true rfl) ?_
  unfold F_X6_takeCard at H
  show WPc J mX6_takeCard Qr Qx 0 [(0, .ref h), (1, .int p1), (2, .int p2), (3, .int p3)] [] V 0 0
  refine s_iload_n dX6_takeCard_0 rfl ?_
  refine t_cN (As := [.int p1]) (st := []) iv_6_40 dX6_takeCard_1 ⟨by decide, by decide⟩ rfl (Nat.le_of_ble_eq_true rfl) (by decide) (by decide) rfl H (fun r V1 H => ?_)
  obtain ⟨b1, rfl, H⟩ := H
  refine s_if_ne (tgt := 8) dX6_takeCard_4 (by decide) (fun c => ?_) (fun c => ?_)
  · have H := H.1 (bI_t c)
    refine s_aload_n dX6_takeCard_8 rfl ?_
    refine t_getR (r := (h + 1 + 2)) fl_6_18 dX6_takeCard_9 (sd_o hh) rfl (sd_r hh 2 (by decide)) ?_
    refine s_iload_n dX6_takeCard_12 rfl ?_
    refine s_dup2 dX6_takeCard_13 rfl rfl ?_
    refine t_iald dX6_takeCard_14 (sd_a hh 2 (by decide)) H.1 ?_
    have H := H.2
    refine s_iconst (v := 1) dX6_takeCard_15 (by decide) ?_
    refine s_iload_n dX6_takeCard_16 rfl ?_
    refine s_ishl dX6_takeCard_17 ?_
    refine s_ior dX6_takeCard_18 ?_
    refine t_iast dX6_takeCard_19 (sd_a hh 2 (by decide)) H.1 ?_
    have H := H.2
    refine s_iload_n dX6_takeCard_20 rfl ?_
    refine s_iconst (v := 1) dX6_takeCard_21 (by decide) ?_
    refine s_icmp_ne (tgt := 46) dX6_takeCard_22 (by decide) (fun c => ?_) (fun c => ?_)
    · have H := H.1 c
      refine s_iload_n dX6_takeCard_46 rfl ?_
      refine s_iconst (v := 2) dX6_takeCard_47 (by decide) ?_
      refine s_icmp_ne (tgt := 58) dX6_takeCard_48 (by decide) (fun c => ?_) (fun c => ?_)
      · have H := H.1 c
        exact s_vret dX6_takeCard_58 rfl ⟨rfl, H⟩
      · have H := H.2 c
        refine s_aload_n dX6_takeCard_51 rfl ?_
        refine t_getR (r := (h + 1 + 0)) fl_6_9 dX6_takeCard_52 (sd_o hh) rfl (sd_r hh 0 (by decide)) ?_
        refine s_iload_n dX6_takeCard_55 rfl ?_
        refine s_iconst (v := 4) dX6_takeCard_56 (by decide) ?_
        refine t_iast dX6_takeCard_57 (sd_a hh 0 (by decide)) H.1 ?_
        have H := H.2
        exact s_vret dX6_takeCard_58 rfl ⟨rfl, H⟩
    · have H := H.2 c
      refine s_aload_n dX6_takeCard_25 rfl ?_
      refine t_getR (r := (h + 1 + 0)) fl_6_9 dX6_takeCard_26 (sd_o hh) rfl (sd_r hh 0 (by decide)) ?_
      refine s_iload_n dX6_takeCard_29 rfl ?_
      refine s_iconst (v := 3) dX6_takeCard_30 (by decide) ?_
      refine t_iast dX6_takeCard_31 (sd_a hh 0 (by decide)) H.1 ?_
      have H := H.2
      refine s_aload_n dX6_takeCard_32 rfl ?_
      refine t_getR (r := (h + 1 + 1)) fl_6_15 dX6_takeCard_33 (sd_o hh) rfl (sd_r hh 1 (by decide)) ?_
      refine s_iload_n dX6_takeCard_36 rfl ?_
      refine s_iload_n dX6_takeCard_37 rfl ?_
      refine s_sipush (v := 1200) dX6_takeCard_38 (by decide) ?_
      refine s_iadd dX6_takeCard_41 ?_
      refine t_iast dX6_takeCard_42 (sd_a hh 1 (by decide)) H.1 ?_
      have H := H.2
      refine s_goto (tgt := 58) dX6_takeCard_43 (by decide) ?_
      exact s_vret dX6_takeCard_58 rfl ⟨rfl, H⟩
  · have H := H.2 (bI_f c)
    exact s_vret dX6_takeCard_7 rfl ⟨rfl, H⟩

def F_X6_mayChange (J : Nat → Nat → Int64) (h : Nat) (p1 : Int32) (p2 : Int32) (V : Nat → Nat → Int32) (Qr : Option Value → (Nat → Nat → Int32) → Prop) (Qx : String → (Nat → Nat → Int32) → Prop) : Prop :=
CTc J mX6_isOn [.ref h, .int p1] V (fun r V1 =>
  ∃ b1 : Bool, r = some (.int (bI b1)) ∧
  ((b1 = false) →
    Qr (some (.int 0)) V1) ∧
  ((b1 = true) →
    CTc J mX6_stateOf [.ref h, .int p2] V1 (fun r V2 =>
      ∃ r2 : Int32, r = some (.int r2) ∧
      ((¬ r2 = 1) →
        Qr (some (.int 0)) V2) ∧
      ((r2 = 1) →
        ((5 ≤ (V2 h 6)) →
          Qr (some (.int 0)) V2) ∧
        ((¬ 5 ≤ (V2 h 6)) →
          Qr (some (.int 1)) V2))) Qx)) Qx
theorem v_X6_mayChange {J : Nat → Nat → Int64} (h : Nat) (p1 : Int32) (p2 : Int32) (hh : isSide h) {V : Nat → Nat → Int32} {Qr : Option Value → (Nat → Nat → Int32) → Prop} {Qx : String → (Nat → Nat → Int32) → Prop} (H : F_X6_mayChange J h p1 p2 V Qr Qx) : CTc J mX6_mayChange [.ref h, .int p1, .int p2] V Qr Qx := by
  refine ctc_of (M := (T0 J, V)) pX6_mayChange (fun _ _ => rfl) (Nat.le_of_ble_eq_true rfl) ?_
  unfold F_X6_mayChange at H
  show WPc J mX6_mayChange Qr Qx 0 [(0, .ref h), (1, .int p1), (2, .int p2)] [] V 0 0
  refine s_aload_n dX6_mayChange_0 rfl ?_
  refine s_iload_n dX6_mayChange_1 rfl ?_
  refine t_cV (h := h) (As := [.int p1]) (st := []) iv_6_48 dX6_mayChange_2 ⟨by decide, by decide⟩ rfl (Nat.le_of_ble_eq_true rfl) (by decide) (by decide) rfl (sd_o hh) H (fun r V1 H => ?_)
  obtain ⟨b1, rfl, H⟩ := H
  refine s_if_eq (tgt := 29) dX6_mayChange_5 (by decide) (fun c => ?_) (fun c => ?_)
  · have H := H.1 (bI_f c)
    refine s_iconst (v := 0) dX6_mayChange_29 (by decide) ?_
    exact s_iret dX6_mayChange_30 (Or.inr ⟨rfl, (Or.inl rfl)⟩) ⟨rfl, H⟩
  · have H := H.2 (bI_t c)
    refine s_aload_n dX6_mayChange_8 rfl ?_
    refine s_iload_n dX6_mayChange_9 rfl ?_
    refine t_cV (h := h) (As := [.int p2]) (st := []) iv_6_55 dX6_mayChange_10 ⟨by decide, by decide⟩ rfl (Nat.le_of_ble_eq_true rfl) (by decide) (by decide) rfl (sd_o hh) H (fun r V2 H => ?_)
    obtain ⟨r2, rfl, H⟩ := H
    refine s_iconst (v := 1) dX6_mayChange_13 (by decide) ?_
    refine s_icmp_ne (tgt := 29) dX6_mayChange_14 (by decide) (fun c => ?_) (fun c => ?_)
    · have H := H.1 c
      refine s_iconst (v := 0) dX6_mayChange_29 (by decide) ?_
      exact s_iret dX6_mayChange_30 (Or.inr ⟨rfl, (Or.inl rfl)⟩) ⟨rfl, H⟩
    · have H := H.2 c
      refine s_aload_n dX6_mayChange_17 rfl ?_
      refine t_getI fl_6_31 dX6_mayChange_18 (sd_o hh) rfl ?_
      refine s_iconst (v := 5) dX6_mayChange_21 (by decide) ?_
      refine s_icmp_ge (tgt := 29) dX6_mayChange_22 (by decide) (fun c => ?_) (fun c => ?_)
      · have H := H.1 c
        refine s_iconst (v := 0) dX6_mayChange_29 (by decide) ?_
        exact s_iret dX6_mayChange_30 (Or.inr ⟨rfl, (Or.inl rfl)⟩) ⟨rfl, H⟩
      · have H := H.2 c
        refine s_iconst (v := 1) dX6_mayChange_25 (by decide) ?_
        refine s_goto (tgt := 30) dX6_mayChange_26 (by decide) ?_
        exact s_iret dX6_mayChange_30 (Or.inr ⟨rfl, (Or.inr rfl)⟩) ⟨rfl, H⟩

def F_X6_swapPlayers (J : Nat → Nat → Int64) (h : Nat) (p1 : Int32) (p2 : Int32) (V : Nat → Nat → Int32) (Qr : Option Value → (Nat → Nat → Int32) → Prop) (Qx : String → (Nat → Nat → Int32) → Prop) : Prop :=
CTc J mX7_isPlayer [.int p1] V (fun r V1 =>
  ∃ b1 : Bool, r = some (.int (bI b1)) ∧
  ((b1 = false) →
    Qr none V1) ∧
  ((b1 = true) →
    CTc J mX7_isPlayer [.int p2] V1 (fun r V2 =>
      ∃ b2 : Bool, r = some (.int (bI b2)) ∧
      ((b2 = false) →
        Qr none V2) ∧
      ((b2 = true) →
        vp_in p1 10 ∧
        vp_in p2 10 ∧
        Qr none (up2 (up2 (up2 V2 (h + 1 + 0) p1.toNatClampNeg 1) (h + 1 + 0) p2.toNatClampNeg 0) h 6 (((up2 (up2 V2 (h + 1 + 0) p1.toNatClampNeg 1) (h + 1 + 0) p2.toNatClampNeg 0) h 6) + 1)))) Qx)) Qx
theorem v_X6_swapPlayers {J : Nat → Nat → Int64} (h : Nat) (p1 : Int32) (p2 : Int32) (hh : isSide h) {V : Nat → Nat → Int32} {Qr : Option Value → (Nat → Nat → Int32) → Prop} {Qx : String → (Nat → Nat → Int32) → Prop} (H : F_X6_swapPlayers J h p1 p2 V Qr Qx) : CTc J mX6_swapPlayers [.ref h, .int p1, .int p2] V Qr Qx := by
  refine ctc_of (M := (T0 J, V)) pX6_swapPlayers (fun _ _ => rfl) (Nat.le_of_ble_eq_true rfl) ?_
  unfold F_X6_swapPlayers at H
  show WPc J mX6_swapPlayers Qr Qx 0 [(0, .ref h), (1, .int p1), (2, .int p2)] [] V 0 0
  refine s_iload_n dX6_swapPlayers_0 rfl ?_
  refine t_cN (As := [.int p1]) (st := []) iv_6_40 dX6_swapPlayers_1 ⟨by decide, by decide⟩ rfl (Nat.le_of_ble_eq_true rfl) (by decide) (by decide) rfl H (fun r V1 H => ?_)
  obtain ⟨b1, rfl, H⟩ := H
  refine s_if_eq (tgt := 38) dX6_swapPlayers_4 (by decide) (fun c => ?_) (fun c => ?_)
  · have H := H.1 (bI_f c)
    exact s_vret dX6_swapPlayers_38 rfl ⟨rfl, H⟩
  · have H := H.2 (bI_t c)
    refine s_iload_n dX6_swapPlayers_7 rfl ?_
    refine t_cN (As := [.int p2]) (st := []) iv_6_40 dX6_swapPlayers_8 ⟨by decide, by decide⟩ rfl (Nat.le_of_ble_eq_true rfl) (by decide) (by decide) rfl H (fun r V2 H => ?_)
    obtain ⟨b2, rfl, H⟩ := H
    refine s_if_eq (tgt := 38) dX6_swapPlayers_11 (by decide) (fun c => ?_) (fun c => ?_)
    · have H := H.1 (bI_f c)
      exact s_vret dX6_swapPlayers_38 rfl ⟨rfl, H⟩
    · have H := H.2 (bI_t c)
      refine s_aload_n dX6_swapPlayers_14 rfl ?_
      refine t_getR (r := (h + 1 + 0)) fl_6_9 dX6_swapPlayers_15 (sd_o hh) rfl (sd_r hh 0 (by decide)) ?_
      refine s_iload_n dX6_swapPlayers_18 rfl ?_
      refine s_iconst (v := 1) dX6_swapPlayers_19 (by decide) ?_
      refine t_iast dX6_swapPlayers_20 (sd_a hh 0 (by decide)) H.1 ?_
      have H := H.2
      refine s_aload_n dX6_swapPlayers_21 rfl ?_
      refine t_getR (r := (h + 1 + 0)) fl_6_9 dX6_swapPlayers_22 (sd_o hh) rfl (sd_r hh 0 (by decide)) ?_
      refine s_iload_n dX6_swapPlayers_25 rfl ?_
      refine s_iconst (v := 0) dX6_swapPlayers_26 (by decide) ?_
      refine t_iast dX6_swapPlayers_27 (sd_a hh 0 (by decide)) H.1 ?_
      have H := H.2
      refine s_aload_n dX6_swapPlayers_28 rfl ?_
      refine s_dup dX6_swapPlayers_29 rfl ?_
      refine t_getI fl_6_31 dX6_swapPlayers_30 (sd_o hh) rfl ?_
      refine s_iconst (v := 1) dX6_swapPlayers_33 (by decide) ?_
      refine s_iadd dX6_swapPlayers_34 ?_
      refine t_putI fl_6_31 dX6_swapPlayers_35 (sd_o hh) (Or.inl rfl) ?_
      exact s_vret dX6_swapPlayers_38 rfl ⟨rfl, H⟩
