/-! what all calls share: throwing -/
def xIO : String := "java/lang/IndexOutOfBoundsException"
def xIA : String := "java/lang/IllegalArgumentException"
def xIS : String := "java/lang/IllegalStateException"
theorem at_IO : ∀ w ∈ vx_atS (fC 7) 235 xIO xNms, w ∈ TBg ∨ w ∈ xW := by decide +kernel
theorem at_IA : ∀ w ∈ vx_atS (fC 7) 242 xIA xNms, w ∈ TBg ∨ w ∈ xW := by decide +kernel
theorem at_IS : ∀ w ∈ vx_atS (fC 7) 247 xIS xNms, w ∈ TBg ∨ w ∈ xW := by decide +kernel
theorem gd_IO : ∀ w ∈ Cond.classLink (fC 7) 231 xIO :: Cond.initialized xIO :: vx_atS (fC 7) 235 xIO xNms, vx_ot w = true := by decide +kernel
theorem gd_IA : ∀ w ∈ Cond.classLink (fC 7) 238 xIA :: Cond.initialized xIA :: vx_atS (fC 7) 242 xIA xNms, vx_ot w = true := by decide +kernel
theorem gd_IS : ∀ w ∈ Cond.classLink (fC 7) 243 xIS :: Cond.initialized xIS :: vx_atS (fC 7) 247 xIS xNms, vx_ot w = true := by decide +kernel
theorem v_X7_needIndex {J : Nat → Nat → Int64} (i n : Int32) {V : Nat → Nat → Int32} {Qr : Option Value → (Nat → Nat → Int32) → Prop} {Qx : String → (Nat → Nat → Int32) → Prop} (H : ((0 ≤ i.toInt ∧ i.toInt < n.toInt) → Qr none V) ∧ (¬ (0 ≤ i.toInt ∧ i.toInt < n.toInt) → Qx xIO V)) : CTc J mX7_needIndex [.int i, .int n] V Qr Qx := by
  refine ctc_of (M := (T0 J, V)) pX7_needIndex (fun _ _ => rfl) (Nat.le_of_ble_eq_true rfl) ?_
  show WPc J mX7_needIndex Qr Qx 0 [(0, .int i), (1, .int n)] [] V 1 6
  have thr : ∀ L, ¬ (0 ≤ i.toInt ∧ i.toInt < n.toInt) → WPc J mX7_needIndex Qr Qx 9 L [] V 1 6 := fun L c => s_throw (cls := xIO) (ik := 231) (is := 233) (ic := 235) (sk := 8) (TBg_of (i := 333) (by decide +kernel) (by decide +kernel)) (TBg_of (i := 41) (by decide +kernel) (by decide +kernel)) (by omega) rfl rfl at_IO gd_IO (by decide +kernel) dX7_needIndex_9 dX7_needIndex_12 dX7_needIndex_13 dX7_needIndex_15 dX7_needIndex_18 rfl (by decide) (by decide) (by decide) (by decide) ⟨rfl, H.2 c⟩
  refine s_iload_n dX7_needIndex_0 rfl ?_
  refine s_if_lt (tgt := 9) dX7_needIndex_1 (by decide) (fun c => ?_) (fun c => ?_)
  · rw [i_lt, show (0 : Int32).toInt = 0 from rfl] at c
    exact thr _ (by omega)
  · rw [i_lt, show (0 : Int32).toInt = 0 from rfl] at c
    refine s_iload_n dX7_needIndex_4 rfl (s_iload_n dX7_needIndex_5 rfl ?_)
    refine s_icmp_lt (tgt := 19) dX7_needIndex_6 (by decide) (fun c2 => ?_) (fun c2 => ?_)
    · rw [i_lt] at c2
      exact s_vret dX7_needIndex_19 rfl ⟨rfl, H.1 (by omega)⟩
    · rw [i_lt] at c2
      exact thr _ (by omega)
theorem v_X7_needArgument {J : Nat → Nat → Int64} (b : Int32) {V : Nat → Nat → Int32} {Qr : Option Value → (Nat → Nat → Int32) → Prop} {Qx : String → (Nat → Nat → Int32) → Prop} (H : (¬ b = 0 → Qr none V) ∧ (b = 0 → Qx xIA V)) : CTc J mX7_needArgument [.int b] V Qr Qx := by
  refine ctc_of (M := (T0 J, V)) pX7_needArgument (fun _ _ => rfl) (Nat.le_of_ble_eq_true rfl) ?_
  show WPc J mX7_needArgument Qr Qx 0 [(0, .int b)] [] V 1 6
  refine s_iload_n dX7_needArgument_0 rfl ?_
  refine s_if_ne (tgt := 14) dX7_needArgument_1 (by decide) (fun c => ?_) (fun c => ?_)
  · exact s_vret dX7_needArgument_14 rfl ⟨rfl, H.1 c⟩
  · exact s_throw (cls := xIA) (ik := 238) (is := 240) (ic := 242) (sk := 9) (TBg_of (i := 407) (by decide +kernel) (by decide +kernel)) (TBg_of (i := 42) (by decide +kernel) (by decide +kernel)) (by omega) rfl rfl at_IA gd_IA (by decide +kernel) dX7_needArgument_4 dX7_needArgument_7 dX7_needArgument_8 dX7_needArgument_10 dX7_needArgument_13 rfl (by decide) (by decide) (by decide) (by decide) ⟨rfl, H.2 c⟩
theorem v_X7_needState {J : Nat → Nat → Int64} (b : Int32) {V : Nat → Nat → Int32} {Qr : Option Value → (Nat → Nat → Int32) → Prop} {Qx : String → (Nat → Nat → Int32) → Prop} (H : (¬ b = 0 → Qr none V) ∧ (b = 0 → Qx xIS V)) : CTc J mX7_needState [.int b] V Qr Qx := by
  refine ctc_of (M := (T0 J, V)) pX7_needState (fun _ _ => rfl) (Nat.le_of_ble_eq_true rfl) ?_
  show WPc J mX7_needState Qr Qx 0 [(0, .int b)] [] V 1 6
  refine s_iload_n dX7_needState_0 rfl ?_
  refine s_if_ne (tgt := 14) dX7_needState_1 (by decide) (fun c => ?_) (fun c => ?_)
  · exact s_vret dX7_needState_14 rfl ⟨rfl, H.1 c⟩
  · exact s_throw (cls := xIS) (ik := 243) (is := 245) (ic := 247) (sk := 10) (TBg_of (i := 430) (by decide +kernel) (by decide +kernel)) (TBg_of (i := 43) (by decide +kernel) (by decide +kernel)) (by omega) rfl rfl at_IS gd_IS (by decide +kernel) dX7_needState_4 dX7_needState_7 dX7_needState_8 dX7_needState_10 dX7_needState_13 rfl (by decide) (by decide) (by decide) (by decide) ⟨rfl, H.2 c⟩
/-! in words of the calls -/
theorem nd_ix {J : Nat → Nat → Int64} (i : Int32) (n : Nat) (hn : n < 2147483648) {V : Mem} {Q : Mem → Prop} {Qx : String → Mem → Prop} (h1 : isIx i n = true → Q V) (h2 : isIx i n = false → Qx xIO V) : CTc J mX7_needIndex [.int i, .int (nI n)] V (fun r V' => r = none ∧ Q V') Qx := by
  have hz : (nI n).toInt = (n : Int) := nI_toInt (by omega)
  refine v_X7_needIndex i (nI n) ⟨fun c => ⟨rfl, h1 ?_⟩, fun c => h2 ?_⟩
  · rw [isIx_t, vp_in_iff]; omega
  · rw [Bool.eq_false_iff]
    intro z
    rw [isIx_t, vp_in_iff] at z
    omega
theorem nd_arg {J : Nat → Nat → Int64} (b : Bool) {V : Mem} {Q : Mem → Prop} {Qx : String → Mem → Prop} (h1 : b = true → Q V) (h2 : b = false → Qx xIA V) : CTc J mX7_needArgument [.int (bI b)] V (fun r V' => r = none ∧ Q V') Qx :=
  v_X7_needArgument _ ⟨fun c => ⟨rfl, h1 (bI_t c)⟩, fun c => h2 (bI_f c)⟩
theorem nd_st {J : Nat → Nat → Int64} (b : Bool) {V : Mem} {Q : Mem → Prop} {Qx : String → Mem → Prop} (h1 : b = true → Q V) (h2 : b = false → Qx xIS V) : CTc J mX7_needState [.int (bI b)] V (fun r V' => r = none ∧ Q V') Qx :=
  v_X7_needState _ ⟨fun c => ⟨rfl, h1 (bI_t c)⟩, fun c => h2 (bI_f c)⟩
