/-! the reference: the league -/
def rfL (V : Mem) (g : Lg) : Prop := ∀ k, k < 48 → V 420 k = nI (g k)
theorem rfL_off {V V' : Mem} {g : Lg} (q : rfL V g) (f : V' 420 = V 420) : rfL V' g := fun k hk => by rw [f]; exact q k hk
theorem rfL_up {V : Mem} {g : Lg} {k v : Nat} (q : rfL V g) : rfL (up2 V 420 k (nI v)) (up1 g k v) := by
  intro j hj
  rw [up2_at]
  by_cases h : j = k
  · subst h; rw [up1_at, up1_at]
  · rw [up1_off _ _ h, up1_off _ _ h]; exact q j hj
theorem s48 {k : Nat} (h : k < 48) : vp_in (nI k) 48 := vp_in_nI h (by decide)
theorem i6 (c j : Nat) : 6 * nI c + nI j = nI (6 * c + j) := by rw [show (6 : Int32) = nI 6 from rfl, nI_mul, nI_add]
theorem i_sub {a b : Nat} (ha : a < 2147483648) (hb : b < 2147483648) : (nI a - nI b).toInt = (a : Int) - b := by
  rw [Int32.toInt_sub, nI_toInt ha, nI_toInt hb]
  exact Int.bmod_eq_of_le (by omega) (by omega)
theorem i_sub0 {a b : Nat} (ha : a < 2147483648) (hb : b < 2147483648) : (nI a - nI b = 0) ↔ a = b := by
  rw [i_eq, i_sub ha hb, show (0 : Int32).toInt = 0 from rfl]; omega
theorem i_suble {a b : Nat} (ha : a < 2147483648) (hb : b < 2147483648) : (nI a - nI b ≤ 0) ↔ a ≤ b := by
  rw [i_le, i_sub ha hb, show (0 : Int32).toInt = 0 from rfl]; omega
theorem i_subge {a b : Nat} (ha : a < 2147483648) (hb : b < 2147483648) : (0 ≤ nI a - nI b) ↔ b ≤ a := by
  rw [i_le, i_sub ha hb, show (0 : Int32).toInt = 0 from rfl]; omega
theorem i_sub7 {a b : Nat} (ha : a < 2147483648) (hb : b < 2147483648) : (nI a - nI b < -7) ↔ a + 7 < b := by
  rw [i_lt, i_sub ha hb, show (-7 : Int32).toInt = -7 from rfl]; omega
theorem l_sub {a b : Nat} (ha : a < 9223372036854775808) (hb : b < 9223372036854775808) : (lN a - lN b).toInt = (a : Int) - b := by
  rw [Int64.toInt_sub, L_toInt ha, L_toInt hb]
  exact Int.bmod_eq_of_le (by omega) (by omega)
theorem l_cmp_gt {a b : Nat} (ha : a < 9223372036854775808) (hb : b < 9223372036854775808) : (0 < lg_cmp (lN a - lN b) 0) ↔ b < a := by
  rw [lg_cmp_gt, Int64.lt_iff_toInt_lt, l_sub ha hb, show (0 : Int64).toInt = 0 from rfl]; omega
theorem l_cmp_eq {a b : Nat} (ha : a < 9223372036854775808) (hb : b < 9223372036854775808) : (lg_cmp (lN a - lN b) 0 = 0) ↔ a = b := by
  rw [lg_cmp_eq, ← Int64.toInt_inj, l_sub ha hb, show (0 : Int64).toInt = 0 from rfl]; omega
section Mdg
variable {J : Nat → Nat → Int64} {V : Mem} {g : Lg}
theorem m_isAhead (q : rfL V g) (c d : Nat) (hc : c < 8) (hd : d < 8) (hb : bddL g 1000000000) : RD J mX8_isAhead [.ref 405, .int (nI c), .int (nI d)] V (bI (aheadB g c d)) := by
  obtain ⟨u1, l1⟩ := upF_le hb hc (by omega)
  obtain ⟨u2, l2⟩ := upF_le hb hd (by omega)
  have p1 := prod_lt u1 l2
  have p2 := prod_lt u2 l1
  have b3 := hb (6 * c + 3) (by omega)
  have b4 := hb (6 * c + 4) (by omega)
  have b5 := hb (6 * c + 5) (by omega)
  have d3 := hb (6 * d + 3) (by omega)
  have d4 := hb (6 * d + 4) (by omega)
  have d5 := hb (6 * d + 5) (by omega)
  have i3 : ∀ c j, 6 * nI c + nI j = nI (6 * c + j) := i6
  have cl : ∀ c j, c < 8 → j < 6 → (nI (6 * c + j)).toNatClampNeg = 6 * c + j := fun c j h1 h2 => ccl (by omega)
  have rd : ∀ c j, c < 8 → j < 6 → V 420 (6 * c + j) = nI (g (6 * c + j)) := fun c j h1 h2 => q _ (by omega)
  have L178 : g (6 * c + 3) = g (6 * d + 3) → F_X8_isAhead_178 J (nI c) (nI d) (nI (upF g c)) (nI (loF g c)) (nI (upF g d)) (nI (loF g d)) V (fun r V' => r = some (.int (bI (aheadB g c d))) ∧ V' = V) NX := by
    intro he
    unfold F_X8_isAhead_178 aheadB
    rw [if_pos he, nI_l (by omega), nI_l (by omega), nI_l (by omega), nI_l (by omega), lN_mul, lN_mul, l_cmp_gt p1 p2, l_cmp_eq p1 p2, cle (by omega) (by omega)]
    refine ⟨fun z => ⟨?_, rfl⟩, fun z => ⟨fun y => ⟨?_, rfl⟩, fun y => ⟨fun x => ⟨?_, rfl⟩, fun x => ⟨?_, rfl⟩⟩⟩⟩
    · rw [if_neg (by omega), decide_eq_true z]; rfl
    · rw [if_neg y, decide_eq_false z]; rfl
    · rw [if_pos y, decide_eq_false (by omega)]; rfl
    · rw [if_pos y, decide_eq_true (by omega)]; rfl
  have L153 : g (6 * c + 3) = g (6 * d + 3) → ∀ z, z = upF g d → F_X8_isAhead_153 J (nI c) (nI d) (nI (upF g c)) (nI (loF g c)) (nI (g (6 * d + 5))) (nI z) V (fun r V' => r = some (.int (bI (aheadB g c d))) ∧ V' = V) NX := by
    intro he z hz
    subst hz
    have h := L178 he
    unfold F_X8_isAhead_153
    rw [show (4 : Int32) = nI 4 from rfl, i3, cl d 4 hd (by omega), rd d 4 hd (by omega), nI_add, nI_0', ceq (by omega) (by omega)]
    unfold loF at h
    refine ⟨s48 (by omega), fun y => ?_, fun y => ?_⟩
    · rw [if_neg (show ¬ (g (6 * d + 5) = 0 ∧ g (6 * d + 4) = 0) by omega)] at h; exact h
    · rw [if_pos (show g (6 * d + 5) = 0 ∧ g (6 * d + 4) = 0 by omega)] at h; exact h
  have L128 : g (6 * c + 3) = g (6 * d + 3) → ∀ z, z = loF g c → F_X8_isAhead_128 J (nI c) (nI d) (nI (upF g c)) (nI (g (6 * d + 4))) (nI (g (6 * d + 5))) (nI z) V (fun r V' => r = some (.int (bI (aheadB g c d))) ∧ V' = V) NX := by
    intro he z hz
    subst hz
    unfold F_X8_isAhead_128
    rw [nI_add, nI_0', ceq (by omega) (by omega), ceq (by omega) (by omega)]
    refine ⟨fun y => ⟨fun x => L153 he _ ?_, fun x => L153 he 1 ?_⟩, fun y => L153 he 1 ?_⟩
    · unfold upF; rw [if_neg x]
    · unfold upF; rw [if_pos x]
    · unfold upF; rw [if_pos (by omega)]
  have L103 : g (6 * c + 3) = g (6 * d + 3) → ∀ z, z = upF g c → F_X8_isAhead_103 J (nI c) (nI d) (nI (g (6 * c + 5))) (nI (g (6 * d + 4))) (nI (g (6 * d + 5))) (nI z) V (fun r V' => r = some (.int (bI (aheadB g c d))) ∧ V' = V) NX := by
    intro he z hz
    subst hz
    unfold F_X8_isAhead_103
    rw [show (4 : Int32) = nI 4 from rfl, i3, cl c 4 hc (by omega), rd c 4 hc (by omega), nI_add, nI_0', ceq (by omega) (by omega)]
    refine ⟨s48 (by omega), fun y => L128 he _ ?_, fun y => L128 he 1 ?_⟩
    · unfold loF; rw [if_neg (by omega)]
    · unfold loF; rw [if_pos (by omega)]
  refine v_X8_isAhead _ _ ?_
  unfold F_X8_isAhead
  rw [show (3 : Int32) = nI 3 from rfl, show (4 : Int32) = nI 4 from rfl, show (5 : Int32) = nI 5 from rfl, i3 c 3, i3 d 3, i3 c 4, i3 c 5, i3 d 4, i3 d 5, cl c 3 hc (by omega), cl d 3 hd (by omega), cl c 4 hc (by omega), cl c 5 hc (by omega), cl d 4 hd (by omega), cl d 5 hd (by omega), rd c 3 hc (by omega), rd d 3 hd (by omega), rd c 4 hc (by omega), rd c 5 hc (by omega), rd d 4 hd (by omega), rd d 5 hd (by omega), i_sub0 (by omega) (by omega), i_suble (by omega) (by omega), nI_add]
  have ez1 : (nI (g (6 * c + 4) + g (6 * c + 5)) = 0) ↔ g (6 * c + 4) + g (6 * c + 5) = 0 := by rw [nI_0', ceq (by omega) (by omega)]
  have ez2 : (nI (g (6 * c + 5)) = 0) ↔ g (6 * c + 5) = 0 := by rw [nI_0', ceq (by omega) (by omega)]
  rw [ez1, ez2]
  refine ⟨s48 (by omega), s48 (by omega), fun z => ⟨fun y => ⟨?_, rfl⟩, fun y => ⟨?_, rfl⟩⟩, fun z => ⟨s48 (by omega), s48 (by omega), s48 (by omega), s48 (by omega), fun y => ⟨fun x => L103 z _ ?_, fun x => L103 z 1 ?_⟩, fun y => L103 z 1 ?_⟩⟩
  · unfold aheadB; rw [if_neg z, decide_eq_false (by omega)]; rfl
  · unfold aheadB; rw [if_neg z, decide_eq_true (by omega)]; rfl
  · unfold upF; rw [if_neg x]
  · unfold upF; rw [if_pos x]
  · unfold upF; rw [if_pos (by omega)]
theorem m_rankOf (q : rfL V g) (c : Nat) (hc : c < 8) (hb : bddL g 1000000000) : RD J mX8_rankOf [.ref 405, .int (nI c)] V (nI (rankTo g c 8)) := by
  refine v_X8_rankOf _ ?_
  unfold F_X8_rankOf F_X8_rankOf_4
  refine ⟨fun n x2 x3 V' => ∃ k, k ≤ 8 ∧ n = 8 - k ∧ x3 = nI k ∧ x2 = nI (rankTo g c k) ∧ V = V', ⟨8, 0, by omega, rfl, rfl, rfl, rfl⟩, ?_⟩
  rintro n x2 x3 V' ⟨k, hk, hn, rfl, rfl, rfl⟩
  unfold B_X8_rankOf_4 F_X8_rankOf_29 F_X8_rankOf_30
  refine ⟨fun c1 => ?_, fun c1 => ?_⟩
  · have h2 := lpE (n := 8) (by omega) hk c1
    subst h2
    exact ⟨rfl, rfl⟩
  · have h1 := lpL (n := 8) (by omega) hk c1
    rw [ceq (by omega) (by omega)]
    refine ⟨fun z => ⟨8 - (k + 1), by omega, k + 1, by omega, rfl, nI_1 k, ?_, rfl⟩, fun z => rd_b (m_isAhead q k c h1 hc hb) ⟨fun y => ⟨8 - (k + 1), by omega, k + 1, by omega, rfl, nI_1 k, ?_, rfl⟩, fun y => ⟨8 - (k + 1), by omega, k + 1, by omega, rfl, nI_1 k, ?_, rfl⟩⟩⟩
    · simp [rankTo, z]
    · simp [rankTo, y]
    · simp [rankTo, y, z, nI_1]
theorem m_club (q : rfL V g) (hb : bddL g 1000000000) (c k : Int32) : CTc J mX8_club [.ref 405, .int c, .int k] V (ROg frM V (twoK (isIx c 8) (isIx k 7)) (lgV g c.toNatClampNeg k.toNatClampNeg) (fun V' => rfL V' g)) NX := by
  have o : ∀ x, up2 V 405 0 x 420 = V 420 := fun x => up2_off _ _ _ (by omega)
  have bad : ∀ j, j ≠ 0 → j < 100 → twoK (isIx c 8) (isIx k 7) = j → F_X8_club_27 J c k (nI j) V (ROg frM V (twoK (isIx c 8) (isIx k 7)) (lgV g c.toNatClampNeg k.toNatClampNeg) (fun V' => rfL V' g)) NX := by
    intro j hj hj1 hjj
    unfold F_X8_club_27
    refine m_holds j hj1 (fun z => (hj z).elim) (fun _ => ?_)
    rw [hjj]
    exact ⟨⟨0, rfl, fun z => (hj z).elim⟩, frM_up (frM_rf V) (by omega), up2_same _ _ _ _, rfL_off q (o _)⟩
  refine v_X8_club c k (rd_b (k8_isClub J c V) ⟨fun z => rd_b (k8_in J k 0 6 V) ?_, fun z => bad 1 (by omega) (by omega) (by rw [z]; rfl)⟩)
  rw [inB_ix (n := 7) rfl]
  refine ⟨fun y => bad 2 (by omega) (by omega) (by rw [z, y]; rfl), fun y => ?_⟩
  have hk0 : twoK (isIx c 8) (isIx k 7) = 0 := by rw [z, y]; rfl
  obtain ⟨c, hc, rfl⟩ := isIx_ex (by omega) z
  obtain ⟨k, hk, rfl⟩ := isIx_ex (by omega) y
  have q0 : rfL (up2 V 405 0 (nI 0)) g := rfL_off q (o _)
  have fin : ∀ x, x = lgV g c k → ROg frM V (twoK (isIx (nI c) 8) (isIx (nI k) 7)) (lgV g c k) (fun V' => rfL V' g) (some (.int x)) (up2 V 405 0 (nI 0)) := fun x hx => ⟨⟨x, rfl, fun _ => hx⟩, frM_up (frM_rf V) (by omega), by rw [hk0]; exact up2_same _ _ _ _, q0⟩
  unfold F_X8_club_27
  refine m_holds 0 (by omega) (fun _ => ?_) (fun z => (z rfl).elim)
  rw [ccl (n := c) (by omega), ccl (n := k) (by omega), i6, ccl (n := 6 * c + k) (by omega), show (6 : Int32) = nI 6 from rfl, cle (by omega) (by omega)]
  refine ⟨fun w => rd_i (m_rankOf q0 c hc hb) (fin _ ?_), fun w => ⟨s48 (by omega), fin _ ?_⟩⟩
  · unfold lgV; rw [if_neg (by omega)]
  · unfold lgV; rw [if_pos (by omega)]; exact q0 _ (by omega)
end Mdg
