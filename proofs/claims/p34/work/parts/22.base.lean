/-! PURE PART: contracts in words of numbers -/
abbrev Mem : Type := Nat → Nat → Int32
abbrev NX : String → Mem → Prop := fun _ _ => False
/-- a method that only reads, and answers an int -/
def RD (J : Nat → Nat → Int64) (d : pD) (as : List Value) (V : Mem) (x : Int32) : Prop := CTc J d as V (fun r V' => r = some (.int x) ∧ V' = V) NX
theorem rd_use {J : Nat → Nat → Int64} {d : pD} {as : List Value} {V : Mem} {x : Int32} {post : Option Value → Mem → Prop} {Qx : String → Mem → Prop} (h : RD J d as V x) (q : post (some (.int x)) V) : CTc J d as V post Qx :=
  CTc_nx h (fun v V' z => by rw [z.1, z.2]; exact q)
theorem rd_i {J : Nat → Nat → Int64} {d : pD} {as : List Value} {V : Mem} {x : Int32} {P : Int32 → Mem → Prop} {Qx : String → Mem → Prop} (h : RD J d as V x) (q : P x V) : CTc J d as V (fun r V' => ∃ r1 : Int32, r = some (.int r1) ∧ P r1 V') Qx := rd_use h ⟨x, rfl, q⟩
theorem rd_b {J : Nat → Nat → Int64} {d : pD} {as : List Value} {V : Mem} {b : Bool} {P : Bool → Mem → Prop} {Qx : String → Mem → Prop} (h : RD J d as V (bI b)) (q : P b V) : CTc J d as V (fun r V' => ∃ r1 : Bool, r = some (.int (bI r1)) ∧ P r1 V') Qx := rd_use h ⟨b, rfl, q⟩
theorem i_le (a b : Int32) : a ≤ b ↔ a.toInt ≤ b.toInt := Int32.le_iff_toInt_le
theorem i_lt (a b : Int32) : a < b ↔ a.toInt < b.toInt := Int32.lt_iff_toInt_lt
theorem i_eq (a b : Int32) : a = b ↔ a.toInt = b.toInt := Int32.toInt_inj.symm
theorem cle {n k : Nat} (hn : n < 2147483648) (hk : k < 2147483648) : nI n ≤ nI k ↔ n ≤ k := nI_leI hn hk
theorem clt {n k : Nat} (hn : n < 2147483648) (hk : k < 2147483648) : nI n < nI k ↔ n < k := nI_ltI hn hk
theorem ceq {n k : Nat} (hn : n < 2147483648) (hk : k < 2147483648) : nI n = nI k ↔ n = k := nI_eq hn hk
theorem ccl {n : Nat} (h : n < 2147483648) : (nI n).toNatClampNeg = n := nI_clamp h
theorem bI_dec {c : Prop} {b : Bool} (h : b = true ↔ c) : (c → bI b = 1) ∧ (¬ c → bI b = 0) := by
  cases b <;> simp_all [bI]
/-- in a range -/
def inB (v a b : Int32) : Bool := decide (a ≤ v) && decide (v ≤ b)
theorem inB_t {v a b : Int32} : inB v a b = true ↔ a ≤ v ∧ v ≤ b := by simp [inB]
theorem k7_isWithin (J : Nat → Nat → Int64) (v a b : Int32) (V : Mem) : RD J mX7_isWithin [.int v, .int a, .int b] V (bI (inB v a b)) := by
  refine v_X7_isWithin v a b ?_
  unfold F_X7_isWithin
  refine ⟨fun c => ⟨?_, rfl⟩, fun c => ⟨fun c2 => ⟨?_, rfl⟩, fun c2 => ⟨?_, rfl⟩⟩⟩
  · have h : inB v a b = false := by simp [inB, i_le, i_lt] at *; intro; omega
    rw [h]; rfl
  · have h : inB v a b = false := by simp [inB, i_le, i_lt] at *; intro; omega
    rw [h]; rfl
  · have h : inB v a b = true := by simp [inB, i_le, i_lt] at *; omega
    rw [h]; rfl
/-- a number below n -/
def isIx (v : Int32) (n : Nat) : Bool := decide (0 ≤ v.toInt) && decide (v.toInt < n)
theorem isIx_t {v : Int32} {n : Nat} : isIx v n = true ↔ vp_in v n := by rw [vp_in_iff]; simp [isIx]
theorem isIx_ex {v : Int32} {n : Nat} (hn : n < 2147483648) (h : isIx v n = true) : ∃ a, a < n ∧ v = nI a := vp_in_of (isIx_t.mp h) hn
theorem isIx_nI {a n : Nat} (hn : n < 2147483648) (h : a < n) : isIx (nI a) n = true := isIx_t.mpr (vp_in_nI h hn)
theorem inB_ix {v b : Int32} {n : Nat} (h : b.toInt + 1 = n) : inB v 0 b = isIx v n := by
  have h0 : (0 : Int32).toInt = 0 := rfl
  rw [Bool.eq_iff_iff, inB_t, i_le, i_le, h0]
  simp only [isIx, Bool.and_eq_true, decide_eq_true_eq]
  omega
theorem k7_isPlayer (J : Nat → Nat → Int64) (v : Int32) (V : Mem) : RD J mX7_isPlayer [.int v] V (bI (isIx v 10)) := by
  refine v_X7_isPlayer v ?_
  unfold F_X7_isPlayer
  have h0 : (0 : Int32).toInt = 0 := rfl
  have h10 : (10 : Int32).toInt = 10 := rfl
  refine ⟨fun c => ⟨?_, rfl⟩, fun c => ⟨fun c2 => ⟨?_, rfl⟩, fun c2 => ⟨?_, rfl⟩⟩⟩
  · have h : isIx v 10 = false := by simp [isIx, i_le, i_lt, h0] at *; intro; omega
    rw [h]; rfl
  · have h : isIx v 10 = false := by simp [isIx, i_le, i_lt, h0, h10] at *; intro; omega
    rw [h]; rfl
  · have h : isIx v 10 = true := by simp [isIx, i_le, i_lt, h0, h10] at *; omega
    rw [h]; rfl
theorem k7_isClub (J : Nat → Nat → Int64) (v : Int32) (V : Mem) : RD J mX7_isClub [.int v] V (bI (isIx v 8)) := by
  refine v_X7_isClub v (rd_b (k7_isWithin J v 0 7 V) ?_)
  rw [inB_ix (n := 8) rfl]
  exact ⟨rfl, rfl⟩
theorem k7_isLot (J : Nat → Nat → Int64) (v : Int32) (V : Mem) : RD J mX7_isLot [.int v] V (bI (isIx v 24)) := by
  refine v_X7_isLot v (rd_b (k7_isWithin J v 0 23 V) ?_)
  rw [inB_ix (n := 24) rfl]
  exact ⟨rfl, rfl⟩
theorem k7_isEnd (J : Nat → Nat → Int64) (v : Int32) (V : Mem) : RD J mX7_isEnd [.int v] V (bI (decide (3 ≤ v))) := by
  refine v_X7_isEnd v ?_
  unfold F_X7_isEnd
  refine ⟨fun c => ⟨?_, rfl⟩, fun c => ⟨?_, rfl⟩⟩
  · have h : decide (3 ≤ v) = false := by simp [i_le, i_lt] at *; omega
    rw [h]; rfl
  · have h : decide (3 ≤ v) = true := by simp [i_le, i_lt] at *; omega
    rw [h]; rfl
theorem k7_isSide (J : Nat → Nat → Int64) (v : Int32) (V : Mem) : RD J mX7_isSide [.int v] V (bI (isIx v 2)) := by
  refine v_X7_isSide v ?_
  unfold F_X7_isSide
  have h0 : (0 : Int32).toInt = 0 := rfl
  have h1 : (1 : Int32).toInt = 1 := rfl
  refine ⟨fun c => ⟨?_, rfl⟩, fun c => ⟨fun c2 => ⟨?_, rfl⟩, fun c2 => ⟨?_, rfl⟩⟩⟩
  · subst c; rfl
  · have h : isIx v 2 = false := by
      cases h : isIx v 2 with
      | false => rfl
      | true =>
        obtain ⟨a, ha, rfl⟩ := isIx_ex (by decide) h
        rcases (show a = 0 ∨ a = 1 by omega) with rfl | rfl
        · exact (c rfl).elim
        · exact (c2 rfl).elim
    rw [h]; rfl
  · subst c2; rfl
def stepB (k w b : Int32) : Bool := inB k 0 b && (if k = 0 then isIx w 10 else decide (w = -1))
theorem k7_isStep (J : Nat → Nat → Int64) (k w b : Int32) (V : Mem) : RD J mX7_isStep [.int k, .int w, .int b] V (bI (stepB k w b)) := by
  refine v_X7_isStep k w b (rd_b (k7_isWithin J k 0 b V) ?_)
  refine ⟨fun c => ⟨?_, rfl⟩, fun c => ⟨fun c2 => ⟨fun c3 => ⟨?_, rfl⟩, fun c3 => ⟨?_, rfl⟩⟩, fun c2 => rd_b (k7_isPlayer J w V) ⟨fun c3 => ⟨?_, rfl⟩, fun c3 => ⟨?_, rfl⟩⟩⟩⟩ <;> first | (simp [stepB, bI, *]; done) | (subst c2; simp [stepB, bI, c, c3])
