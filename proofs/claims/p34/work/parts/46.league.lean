/-! the league: g (6 c + j), j = matches, won, even, gained, made, let -/
abbrev Lg : Type := Nat → Nat
def clL (V : Mem) (g : Lg) : Prop := ∀ c j, c < 8 → j < 6 → V (392 + j) c = nI (g (6 * c + j))
def addF (j own ag : Nat) : Nat := if j = 0 then 1 else if j = 1 then (if ag < own then 1 else 0) else if j = 2 then (if own = ag then 1 else 0) else if j = 3 then (if ag < own then 5 else if own = ag then 3 else if ag - own ≤ 7 then 1 else 0) else if j = 4 then own else ag
def noteG (g : Lg) (c own ag : Nat) : Lg := fun k => if k / 6 = c then g k + addF (k % 6) own ag else g k
theorem noteG_s (g : Lg) (c own ag j : Nat) (hj : j < 6) : noteG g c own ag (6 * c + j) = g (6 * c + j) + addF j own ag := by
  unfold noteG
  rw [if_pos (by omega), show (6 * c + j) % 6 = j by omega]
theorem noteG_o (g : Lg) (c d own ag j : Nat) (hj : j < 6) (h : d ≠ c) : noteG g c own ag (6 * d + j) = g (6 * d + j) := by
  unfold noteG
  rw [if_neg (by omega)]
def bddL (g : Lg) (B : Nat) : Prop := ∀ k, k < 48 → g k ≤ B
theorem addF_le (j own ag B : Nat) (ho : own ≤ B) (ha : ag ≤ B) (hB : 5 ≤ B) : addF j own ag ≤ B := by
  unfold addF
  repeat' split
  all_goals omega
theorem bddL_note {g : Lg} {B C c own ag : Nat} (q : bddL g B) (ho : own ≤ C) (ha : ag ≤ C) (hC : 5 ≤ C) : bddL (noteG g c own ag) (B + C) := by
  intro k hk
  have h1 := q k hk
  have h2 := addF_le (k % 6) own ag C ho ha hC
  unfold noteG
  split <;> omega
theorem nI_sub {a b : Nat} (h : b ≤ a) : nI a - nI b = nI (a - b) := by
  have h1 : nI (a - b) + nI b = nI a := by rw [nI_add, show a - b + b = a by omega]
  rw [← h1, Int32.add_sub_cancel]
theorem L_toInt {n : Nat} (h : n < 9223372036854775808) : (lN n).toInt = (n : Int) := lg_ofNat_toInt (by omega)
theorem L_le {a b : Nat} (ha : a < 9223372036854775808) (hb : b < 9223372036854775808) : lN a ≤ lN b ↔ a ≤ b := by
  rw [Int64.le_iff_toInt_le, L_toInt ha, L_toInt hb]; omega
theorem L_eq {a b : Nat} (ha : a < 9223372036854775808) (hb : b < 9223372036854775808) : lN a = lN b ↔ a = b := by
  rw [← Int64.toInt_inj, L_toInt ha, L_toInt hb]; omega
def upF (g : Lg) (c : Nat) : Nat := if g (6 * c + 5) = 0 then 1 else g (6 * c + 4)
def loF (g : Lg) (c : Nat) : Nat := if g (6 * c + 5) = 0 ∧ g (6 * c + 4) = 0 then 1 else g (6 * c + 5)
def aheadB (g : Lg) (c d : Nat) : Bool := if g (6 * c + 3) = g (6 * d + 3) then (if upF g c * loF g d = upF g d * loF g c then decide (c < d) else decide (upF g d * loF g c < upF g c * loF g d)) else decide (g (6 * d + 3) < g (6 * c + 3))
def rankTo (g : Lg) (c : Nat) : Nat → Nat
  | 0 => 0
  | n + 1 => rankTo g c n + (if n ≠ c ∧ aheadB g n c = true then 1 else 0)
theorem rankTo_le (g : Lg) (c : Nat) : ∀ n, rankTo g c n ≤ n
  | 0 => Nat.le_refl 0
  | n + 1 => by
    have := rankTo_le g c n
    unfold rankTo
    split <;> omega
def lgV (g : Lg) (c k : Nat) : Int32 := if k < 6 then nI (g (6 * c + k)) else nI (rankTo g c 8)
theorem upF_le {g : Lg} {c B : Nat} (q : bddL g B) (hc : c < 8) (hB : 1 ≤ B) : upF g c ≤ B ∧ loF g c ≤ B := by
  have h1 := q (6 * c + 4) (by omega)
  have h2 := q (6 * c + 5) (by omega)
  unfold upF loF
  constructor
  · split <;> omega
  · split <;> omega
theorem prod_lt {a b : Nat} (ha : a ≤ 1000000000) (hb : b ≤ 1000000000) : a * b < 9223372036854775808 := by
  have : a * b ≤ 1000000000 * 1000000000 := Nat.mul_le_mul ha hb
  omega
section Lgx
variable {J : Nat → Nat → Int64} {V : Mem} {g : Lg}
theorem k3_noteFor (q : clL V g) (c own ag : Nat) (hc : c < 8) (ho : own < 1000000) (ha : ag < 1000000) : WR J mX3_noteFor [.ref 391, .int (nI c), .int (nI own), .int (nI ag)] V 391 7 (fun V' => clL V' (noteG g c own ag)) := by
  have ec : (nI c).toNatClampNeg = c := ccl (by omega)
  have in8 := vp_in_nI hc (show 8 < 2147483648 by decide)
  have fin : ∀ V' : Mem, (∀ j, j < 6 → V' (392 + j) c = nI (g (6 * c + j) + addF j own ag)) → (∀ d j, d < 8 → j < 6 → d ≠ c → V' (392 + j) d = V (392 + j) d) → clL V' (noteG g c own ag) := by
    intro V' h1 h2 d j hd hj
    by_cases hdc : d = c
    · subst hdc; rw [noteG_s _ _ _ _ _ hj]; exact h1 j hj
    · rw [noteG_o _ _ _ _ _ _ hj hdc, h2 d j hd hj hdc]; exact q d j hd hj
  refine v_X3_noteFor _ _ _ (rd_b (k7_isClub J _ V) ?_)
  rw [isIx_nI (by omega) hc, ec, cle (by omega) (by omega), ceq (by omega) (by omega)]
  have q0 := q c 0 hc (by omega)
  have q1 := q c 1 hc (by omega)
  have q2 := q c 2 hc (by omega)
  have q3 := q c 3 hc (by omega)
  have q4 := q c 4 hc (by omega)
  have q5 := q c 5 hc (by omega)
  simp only [Nat.add_zero, show 392 + 1 = 393 from rfl, show 392 + 2 = 394 from rfl, show 392 + 3 = 395 from rfl, show 392 + 4 = 396 from rfl, show 392 + 5 = 397 from rfl] at q0 q1 q2 q3 q4 q5
  have cs : ∀ j, j < 6 → j = 0 ∨ j = 1 ∨ j = 2 ∨ j = 3 ∨ j = 4 ∨ j = 5 := fun j hj => by omega
  refine ⟨fun _ => ⟨in8, in8, in8, in8, in8, in8, fun z => ⟨fun y => ⟨fun w => ⟨rfl, ?_, fin _ (fun j hj => ?_) (fun d j hd hj hdc => ?_)⟩, fun w => ⟨in8, in8, rfl, ?_, fin _ (fun j hj => ?_) (fun d j hd hj hdc => ?_)⟩⟩, fun y => ⟨in8, in8, in8, in8, rfl, ?_, fin _ (fun j hj => ?_) (fun d j hd hj hdc => ?_)⟩⟩, fun z => ⟨in8, in8, in8, in8, rfl, ?_, fin _ (fun j hj => ?_) (fun d j hd hj hdc => ?_)⟩⟩, fun z => Bool.noConfusion z⟩
  · exact offF_up (offF_up (offF_up (offF_rf _ _ _) (by omega)) (by omega)) (by omega)
  · rw [nI_sub (by omega), show (7 : Int32) = nI 7 from rfl, clt (by omega) (by omega)] at w
    rcases cs j hj with rfl | rfl | rfl | rfl | rfl | rfl
    · simp [up2_rw, up1, q0, addF, nI_1]
    · simp [up2_rw, up1, q1, addF, show ¬ ag < own by omega]
    · simp [up2_rw, up1, q2, addF, y]
    · simp [up2_rw, up1, q3, addF, y, show ¬ ag < own by omega, show ¬ ag - own ≤ 7 by omega]
    · simp [up2_rw, up1, q4, addF, nI_add]
    · simp [up2_rw, up1, q5, addF, nI_add]
  · rcases cs j hj with rfl | rfl | rfl | rfl | rfl | rfl <;> simp [up2_rw, up1, hdc]
  · exact offF_up (offF_up (offF_up (offF_up (offF_rf _ _ _) (by omega)) (by omega)) (by omega)) (by omega)
  · rw [nI_sub (by omega), show (7 : Int32) = nI 7 from rfl, clt (by omega) (by omega)] at w
    rcases cs j hj with rfl | rfl | rfl | rfl | rfl | rfl
    · simp [up2_rw, up1, q0, addF, nI_1]
    · simp [up2_rw, up1, q1, addF, show ¬ ag < own by omega]
    · simp [up2_rw, up1, q2, addF, y]
    · simp [up2_rw, up1, q3, addF, y, show ¬ ag < own by omega, show ag - own ≤ 7 by omega, nI_1]
    · simp [up2_rw, up1, q4, addF, nI_add]
    · simp [up2_rw, up1, q5, addF, nI_add]
  · rcases cs j hj with rfl | rfl | rfl | rfl | rfl | rfl <;> simp [up2_rw, up1, hdc]
  · exact offF_up (offF_up (offF_up (offF_up (offF_up (offF_rf _ _ _) (by omega)) (by omega)) (by omega)) (by omega)) (by omega)
  · rcases cs j hj with rfl | rfl | rfl | rfl | rfl | rfl
    · simp [up2_rw, up1, q0, addF, nI_1]
    · simp [up2_rw, up1, q1, addF, show ¬ ag < own by omega]
    · simp [up2_rw, up1, q2, addF, y, nI_1]
    · simp [up2_rw, up1, q3, addF, y]; exact nI_add _ 3
    · simp [up2_rw, up1, q4, addF, nI_add]
    · simp [up2_rw, up1, q5, addF, nI_add]
  · rcases cs j hj with rfl | rfl | rfl | rfl | rfl | rfl <;> simp [up2_rw, up1, hdc]
  · exact offF_up (offF_up (offF_up (offF_up (offF_up (offF_rf _ _ _) (by omega)) (by omega)) (by omega)) (by omega)) (by omega)
  · rcases cs j hj with rfl | rfl | rfl | rfl | rfl | rfl
    · simp [up2_rw, up1, q0, addF, nI_1]
    · simp [up2_rw, up1, q1, addF, show ag < own by omega, nI_1]
    · simp [up2_rw, up1, q2, addF, show ¬ own = ag by omega]
    · simp [up2_rw, up1, q3, addF, show ag < own by omega]; exact nI_add _ 5
    · simp [up2_rw, up1, q4, addF, nI_add]
    · simp [up2_rw, up1, q5, addF, nI_add]
  · rcases cs j hj with rfl | rfl | rfl | rfl | rfl | rfl <;> simp [up2_rw, up1, hdc]
def noteV (c own d other : Nat) : Int32 := if own = other then -1 else if other < own then nI c else nI d
theorem k3_note (q : clL V g) (c own d other : Nat) (hc : c < 8) (hd : d < 8) (ho : own < 1000000) (ha : other < 1000000) : CTc J mX3_note [.ref 391, .int (nI c), .int (nI own), .int (nI d), .int (nI other)] V (fun r V' => r = some (.int (noteV c own d other)) ∧ offF V V' 391 7 ∧ clL V' (noteG (noteG g c own other) d other own)) NX := by
  refine v_X3_note _ _ _ _ (wr_use (k3_noteFor q c own other hc ho ha) (fun V1 f1 q1 => wr_use (k3_noteFor q1 d other own hd ha ho) (fun V2 f2 q2 => ?_)))
  rw [ceq (by omega) (by omega), cle (by omega) (by omega)]
  unfold noteV
  refine ⟨fun z => ⟨fun y => ?_, fun y => ?_⟩, fun z => ?_⟩
  · rw [if_neg z, if_neg (by omega)]; exact ⟨rfl, offF_tr f1 f2, q2⟩
  · rw [if_neg z, if_pos (by omega)]; exact ⟨rfl, offF_tr f1 f2, q2⟩
  · rw [if_pos z]; exact ⟨rfl, offF_tr f1 f2, q2⟩
theorem rd_l {d : pD} {as : List Value} {x : Int64} {P : Int64 → Mem → Prop} {Qx : String → Mem → Prop} (h : CTc J d as V (fun r V' => r = some (.long x) ∧ V' = V) NX) (q : P x V) : CTc J d as V (fun r V' => ∃ r1 : Int64, r = some (.long r1) ∧ P r1 V') Qx :=
  CTc_nx h (fun v V' z => by rw [z.1, z.2]; exact ⟨x, rfl, q⟩)
theorem k3_upper (q : clL V g) (c : Nat) (hc : c < 8) (hb : bddL g 1000000000) : CTc J mX3_upper [.ref 391, .int (nI c)] V (fun r V' => r = some (.long (lN (upF g c))) ∧ V' = V) NX := by
  have ec : (nI c).toNatClampNeg = c := ccl (by omega)
  have b4 := hb (6 * c + 4) (by omega)
  have b5 := hb (6 * c + 5) (by omega)
  refine v_X3_upper _ ?_
  unfold F_X3_upper upF
  rw [ec, show V 397 c = nI (g (6 * c + 5)) from q c 5 hc (by omega), show V 396 c = nI (g (6 * c + 4)) from q c 4 hc (by omega), nI_0', ceq (by omega) (by omega), nI_l (by omega)]
  refine ⟨vp_in_nI hc (by decide), fun z => ⟨vp_in_nI hc (by decide), ?_⟩, fun z => ?_⟩
  · rw [if_neg z]; exact ⟨rfl, rfl⟩
  · rw [if_pos z]; exact ⟨rfl, rfl⟩
theorem k3_lower (q : clL V g) (c : Nat) (hc : c < 8) (hb : bddL g 1000000000) : CTc J mX3_lower [.ref 391, .int (nI c)] V (fun r V' => r = some (.long (lN (loF g c))) ∧ V' = V) NX := by
  have ec : (nI c).toNatClampNeg = c := ccl (by omega)
  have b4 := hb (6 * c + 4) (by omega)
  have b5 := hb (6 * c + 5) (by omega)
  refine v_X3_lower _ ?_
  unfold F_X3_lower F_X3_lower_22 loF
  rw [ec, show V 397 c = nI (g (6 * c + 5)) from q c 5 hc (by omega), show V 396 c = nI (g (6 * c + 4)) from q c 4 hc (by omega), nI_0', ceq (by omega) (by omega), ceq (by omega) (by omega), nI_l (by omega)]
  refine ⟨vp_in_nI hc (by decide), fun z => ⟨vp_in_nI hc (by decide), ?_⟩, fun z => ⟨vp_in_nI hc (by decide), fun y => ⟨vp_in_nI hc (by decide), ?_⟩, fun y => ?_⟩⟩
  · rw [if_neg (fun w => z w.1)]; exact ⟨rfl, rfl⟩
  · rw [if_neg (fun w => y w.2)]; exact ⟨rfl, rfl⟩
  · rw [if_pos ⟨z, y⟩]; exact ⟨rfl, rfl⟩
theorem k3_isAhead (q : clL V g) (c d : Nat) (hc : c < 8) (hd : d < 8) (hb : bddL g 1000000000) : RD J mX3_isAhead [.ref 391, .int (nI c), .int (nI d)] V (bI (aheadB g c d)) := by
  have ec : (nI c).toNatClampNeg = c := ccl (by omega)
  have ed : (nI d).toNatClampNeg = d := ccl (by omega)
  have b1 := hb (6 * c + 3) (by omega)
  have b2 := hb (6 * d + 3) (by omega)
  obtain ⟨u1, l1⟩ := upF_le hb hc (by omega)
  obtain ⟨u2, l2⟩ := upF_le hb hd (by omega)
  have p1 := prod_lt u1 l2
  have p2 := prod_lt u2 l1
  refine v_X3_isAhead _ _ (rd_b (k7_isClub J _ V) ?_)
  rw [isIx_nI (by omega) hc]
  refine ⟨fun z => Bool.noConfusion z, fun _ => rd_b (k7_isClub J _ V) ?_⟩
  rw [isIx_nI (by omega) hd, ec, ed, show V 395 c = nI (g (6 * c + 3)) from q c 3 hc (by omega), show V 395 d = nI (g (6 * d + 3)) from q d 3 hd (by omega), ceq (by omega) (by omega), cle (by omega) (by omega)]
  unfold aheadB
  refine ⟨fun _ => ⟨vp_in_nI hc (by decide), vp_in_nI hd (by decide), fun z => rd_l (k3_upper q c hc hb) (rd_l (k3_lower q d hd hb) (rd_l (k3_upper q d hd hb) (rd_l (k3_lower q c hc hb) ?_))), fun z => ⟨vp_in_nI hc (by decide), vp_in_nI hd (by decide), fun y => ?_, fun y => ?_⟩⟩, fun z => Bool.noConfusion z⟩
  · rw [if_pos z, lN_mul, lN_mul, lg_cmp_eq, lg_cmp_le, L_eq p1 p2, L_le p1 p2]
    refine ⟨fun y => ⟨fun w => ?_, fun w => ?_⟩, fun y => ⟨fun w => ?_, fun w => ?_⟩⟩
    · rw [if_neg y, decide_eq_false (by omega)]; exact ⟨rfl, rfl⟩
    · rw [if_neg y, decide_eq_true (by omega)]; exact ⟨rfl, rfl⟩
    · rw [if_pos y, decide_eq_false (by omega)]; exact ⟨rfl, rfl⟩
    · rw [if_pos y, decide_eq_true (by omega)]; exact ⟨rfl, rfl⟩
  · rw [cle (by omega) (by omega)] at y
    rw [if_neg z, decide_eq_false (by omega)]; exact ⟨rfl, rfl⟩
  · rw [cle (by omega) (by omega)] at y
    rw [if_neg z, decide_eq_true (by omega)]; exact ⟨rfl, rfl⟩
theorem k3_rankOf (q : clL V g) (c : Nat) (hc : c < 8) (hb : bddL g 1000000000) : RD J mX3_rankOf [.ref 391, .int (nI c)] V (nI (rankTo g c 8)) := by
  refine v_X3_rankOf _ ?_
  unfold F_X3_rankOf F_X3_rankOf_4
  refine ⟨fun n x2 x3 V' => ∃ k, k ≤ 8 ∧ n = 8 - k ∧ x3 = nI k ∧ x2 = nI (rankTo g c k) ∧ V = V', ⟨8, 0, by omega, rfl, rfl, rfl, rfl⟩, ?_⟩
  rintro n x2 x3 V' ⟨k, hk, hn, rfl, rfl, rfl⟩
  unfold B_X3_rankOf_4 F_X3_rankOf_27
  refine ⟨fun c1 => ?_, fun c1 => ?_⟩
  · have h2 := lpE (n := 8) (by omega) hk c1
    subst h2
    exact ⟨rfl, rfl⟩
  · have h1 := lpL (n := 8) (by omega) hk c1
    rw [ceq (by omega) (by omega)]
    refine ⟨fun z => ⟨8 - (k + 1), by omega, k + 1, by omega, rfl, nI_1 k, ?_, rfl⟩, fun z => rd_b (k3_isAhead q k c h1 hc hb) ⟨fun y => ⟨8 - (k + 1), by omega, k + 1, by omega, rfl, nI_1 k, ?_, rfl⟩, fun y => ⟨8 - (k + 1), by omega, k + 1, by omega, rfl, nI_1 k, ?_, rfl⟩⟩⟩
    · simp [rankTo, z]
    · simp [rankTo, y]
    · simp [rankTo, y, z, nI_1]
theorem k3_tellOf (q : clL V g) (c k : Nat) (hc : c < 8) (hk : k < 7) (hb : bddL g 1000000000) : RD J mX3_tellOf [.ref 391, .int (nI c), .int (nI k)] V (lgV g c k) := by
  have ec : (nI c).toNatClampNeg = c := ccl (by omega)
  have in8 := vp_in_nI hc (show 8 < 2147483648 by decide)
  have hz : (nI k).toInt = (k : Int) := nI_toInt (by omega)
  refine v_X3_tellOf _ _ (rd_b (k7_isClub J _ V) ?_)
  rw [isIx_nI (by omega) hc, ec, hz]
  have cq : ∀ j, j < 6 → (nI k = nI j) → lgV g c k = nI (g (6 * c + j)) := by
    intro j hj h
    rw [ceq (by omega) (by omega)] at h
    unfold lgV
    rw [h, if_pos hj]
  refine ⟨fun _ => ⟨fun z => ⟨in8, ?_⟩, fun z => ⟨in8, ?_⟩, fun z => ⟨in8, ?_⟩, fun z => ⟨in8, ?_⟩, fun z => ⟨in8, ?_⟩, fun z => ⟨in8, ?_⟩, fun z => rd_i (k3_rankOf q c hc hb) ?_⟩, fun z => Bool.noConfusion z⟩
  · rw [cq 0 (by omega) z, show V 392 c = nI (g (6 * c + 0)) from q c 0 hc (by omega)]; exact ⟨rfl, rfl⟩
  · rw [cq 1 (by omega) z, show V 393 c = nI (g (6 * c + 1)) from q c 1 hc (by omega)]; exact ⟨rfl, rfl⟩
  · rw [cq 2 (by omega) z, show V 394 c = nI (g (6 * c + 2)) from q c 2 hc (by omega)]; exact ⟨rfl, rfl⟩
  · rw [cq 3 (by omega) z, show V 395 c = nI (g (6 * c + 3)) from q c 3 hc (by omega)]; exact ⟨rfl, rfl⟩
  · rw [cq 4 (by omega) z, show V 396 c = nI (g (6 * c + 4)) from q c 4 hc (by omega)]; exact ⟨rfl, rfl⟩
  · rw [cq 5 (by omega) z, show V 397 c = nI (g (6 * c + 5)) from q c 5 hc (by omega)]; exact ⟨rfl, rfl⟩
  · unfold lgV; rw [if_neg (by omega)]; exact ⟨rfl, rfl⟩
theorem h_club (q : clL V g) (hb : bddL g 1000000000) (c k : Int32) : CR J mX7_club [.ref 0, .int c, .int k] V 391 7 xsD (twoK (isIx c 8) (isIx k 7)) (lgV g c.toNatClampNeg k.toNatClampNeg) (fun V' => clL V' g) := by
  unfold CR
  refine v_X7_club c k (nd_ix c 8 (by omega) (fun h1 => rd_b (k7_isWithin J k 0 6 V) ?_) (fun h1 => ?_))
  · rw [inB_ix (n := 7) rfl]
    refine nd_arg _ (fun h2 => ?_) (fun h2 => ?_)
    · rw [h1, h2]
      obtain ⟨c, hc, rfl⟩ := isIx_ex (by omega) h1
      obtain ⟨k, hk, rfl⟩ := isIx_ex (by omega) h2
      rw [ccl (n := c) (by omega), ccl (n := k) (by omega)]
      exact rd_i (k3_tellOf q c k hc hk hb) ⟨rfl, rfl, offF_rf _ _ _, q⟩
    · rw [h1, h2]; exact ⟨by decide, by decide, offF_rf _ _ _, q⟩
  · rw [h1]; exact ⟨show (1 : Nat) ≠ 0 by decide, show ((1 : Nat), xIO) ∈ xsD by simp [xsD], offF_rf _ _ _, q⟩
end Lgx
