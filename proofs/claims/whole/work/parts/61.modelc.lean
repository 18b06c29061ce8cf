/-! the reference: the auction -/
def frA (V V' : Mem) : Prop := (∀ x, x ≠ 405 → (x < 421 ∨ 427 ≤ x) → V' x = V x) ∧ ∀ j, j ≠ 0 → (j < 33 ∨ 38 ≤ j) → V' 405 j = V 405 j
theorem frA_rf (V : Mem) : frA V V := ⟨fun _ _ _ => rfl, fun _ _ _ => rfl⟩
theorem frA_tr {V V' V'' : Mem} (h1 : frA V V') (h2 : frA V' V'') : frA V V'' := ⟨fun x hx hy => (h2.1 x hx hy).trans (h1.1 x hx hy), fun j hj hk => (h2.2 j hj hk).trans (h1.2 j hj hk)⟩
theorem frA_up {V V' : Mem} {a j : Nat} {x : Int32} (h : frA V V') (ha : (421 ≤ a ∧ a < 427) ∨ (a = 405 ∧ (j = 0 ∨ (33 ≤ j ∧ j < 38)))) : frA V (up2 V' a j x) := ⟨fun y hy hz => (up2_off V' j x (by omega)).trans (h.1 y hy hz), fun i hi hk => (up2_ne V' x (by omega)).trans (h.2 i hi hk)⟩
def rfA (V : Mem) (u : Au) : Prop := (∀ i j, i < 6 → j < szA i → V (421 + i) j = u (ofA i + j)) ∧ ∀ i, i < 5 → V 405 (33 + i) = u (120 + i)
def ROg (F : Mem → Mem → Prop) (V : Mem) (k : Nat) (x : Int32) (P : Mem → Prop) (r : Option Value) (V' : Mem) : Prop := (∃ z, r = some (Value.int z) ∧ (k = 0 → z = x)) ∧ F V V' ∧ V' 405 0 = nI k ∧ P V'
def RA (J : Nat → Nat → Int64) (d : pD) (as : List Value) (V : Mem) (k : Nat) (x : Int32) (P : Mem → Prop) : Prop := CTc J d as V (ROg frA V k x P) NX
theorem rfA_arr {V : Mem} {u : Au} (q : rfA V u) (i j : Nat) (hi : i < 6) (hj : j < szA i) (x : Int32) : rfA (up2 V (421 + i) j x) (up1 u (ofA i + j) x) := by
  obtain ⟨q1, q2⟩ := q
  have hl := ofA_lt hi hj
  refine ⟨fun i' j' hi' hj' => ?_, fun k hk => ?_⟩
  · by_cases h : i = i' ∧ j = j'
    · obtain ⟨rfl, rfl⟩ := h
      rw [up2_at, up1_at, up1_at]
    · have h1 : ofA i' + j' ≠ ofA i + j := fun z => h (ofA_inj hi hj hi' hj' z.symm)
      rw [up1_off _ _ h1, ← q1 i' j' hi' hj']
      by_cases h2 : i' = i
      · subst h2
        rw [up2_at]
        exact up1_off _ _ (fun z => h ⟨rfl, z.symm⟩)
      · rw [up2_off _ _ _ (by omega)]
  · rw [up2_off _ _ _ (by omega), up1_off _ _ (by omega)]
    exact q2 k hk
theorem rfA_fld {V : Mem} {u : Au} (q : rfA V u) (i : Nat) (hi : i < 5) (x : Int32) : rfA (up2 V 405 (33 + i) x) (up1 u (120 + i) x) := by
  obtain ⟨q1, q2⟩ := q
  refine ⟨fun i' j' hi' hj' => ?_, fun k hk => ?_⟩
  · have hl := ofA_lt hi' hj'
    rw [up2_off _ _ _ (by omega), up1_off _ _ (by omega)]
    exact q1 i' j' hi' hj'
  · by_cases h : k = i
    · subst h; rw [up2_same, up1_at]
    · rw [up2_ne _ _ (Or.inr (by omega)), up1_off _ _ (by omega)]; exact q2 k hk
theorem rfA_th {V : Mem} {u : Au} {x : Int32} (q : rfA V u) : rfA (up2 V 405 0 x) u :=
  ⟨fun i j hi hj => by rw [up2_off _ _ _ (by omega)]; exact q.1 i j hi hj, fun i hi => by rw [up2_ne _ _ (Or.inr (by omega))]; exact q.2 i hi⟩
theorem ra_bad {V : Mem} {u : Au} {k : Nat} {x : Int32} {P : Mem → Prop} (hk : k ≠ 0) (p : P (up2 V 405 0 (nI k))) : ROg frA V k x P (some (.int 0)) (up2 V 405 0 (nI k)) := ⟨⟨0, rfl, fun z => (hk z).elim⟩, frA_up (frA_rf V) (by omega), up2_same _ _ _ _, p⟩
theorem ra_at {V V' : Mem} {k : Nat} {x z : Int32} {P : Mem → Prop} (f : frA V V') (t : V' 405 0 = nI 0) (hk : k = 0) (hz : z = x) (p : P V') : ROg frA V k x P (some (.int z)) V' := by
  subst hk
  exact ⟨⟨z, rfl, fun _ => hz⟩, f, t, p⟩
section Mdd
variable {J : Nat → Nat → Int64} {V : Mem} {u : Au}
theorem rfA_c {i c : Nat} (q : rfA V u) (hi : i < 3) (hc : c < 8) : V (421 + i) c = u (10 * i + c) := by
  have h := q.1 i c (by omega) (by unfold szA; rw [if_pos hi]; exact hc)
  unfold ofA at h
  rw [if_pos hi] at h
  exact h
theorem rfA_l {i l : Nat} (q : rfA V u) (hi : 3 ≤ i ∧ i < 6) (hl : l < 24) : V (421 + i) l = u (30 * (i - 2) + l) := by
  have h := q.1 i l (by omega) (by unfold szA; rw [if_neg (by omega)]; exact hl)
  unfold ofA at h
  rw [if_neg (by omega)] at h
  exact h
theorem m_baseOf (l : Nat) (hl : l < 24) : RD J mX8_baseOf [.int (nI l)] V (nI (baseF l)) := by
  refine v_X8_baseOf _ ?_
  unfold F_X8_baseOf
  rw [rem3 l hl, nI_0', show (1 : Int32) = nI 1 from rfl, ceq (by omega) (by omega), ceq (by omega) (by omega)]
  unfold baseF
  refine ⟨fun z => ⟨fun y => ?_, fun y => ?_⟩, fun z => ?_⟩
  · rw [if_neg z, if_neg y]; exact ⟨rfl, rfl⟩
  · rw [if_neg z, if_pos y]; exact ⟨rfl, rfl⟩
  · rw [if_pos z]; exact ⟨rfl, rfl⟩
theorem m_isForeign (l : Nat) (hl : l < 24) : RD J mX8_isForeign [.int (nI l)] V (bI (decide (l % 4 = 0))) := by
  refine v_X8_isForeign _ ?_
  unfold F_X8_isForeign
  rw [rem4 l hl, nI_0', ceq (by omega) (by omega)]
  exact ⟨fun z => ⟨by rw [bI_d0 z]; rfl, rfl⟩, fun z => ⟨by rw [bI_d1 z], rfl⟩⟩
theorem m_canBid (q : rfA V u) (c l : Nat) (hc : c < 8) (hl : l < 24) (x : Int32) : RD J mX8_canBid [.ref 405, .int (nI c), .int (nI l), .int x] V (bI (canF u c x l)) := by
  refine v_X8_canBid _ _ x ?_
  unfold F_X8_canBid
  have e1 : V 421 c = u c := (rfA_c q (i := 0) (by omega) hc).trans (by rw [show 10 * 0 + c = c by omega])
  have e2 : V 422 c = u (10 + c) := rfA_c q (i := 1) (by omega) hc
  have e4 : V 423 c = u (20 + c) := rfA_c q (i := 2) (by omega) hc
  rw [ccl (n := c) (by omega), e1, e2]
  unfold canF
  refine ⟨vp_in_nI hc (by decide), fun z => ?_, fun z => ⟨vp_in_nI hc (by decide), fun y => ?_, fun y => rd_b (m_isForeign l hl) ⟨fun w => ?_, fun w => ⟨vp_in_nI hc (by decide), fun v => ?_, fun v => ?_⟩⟩⟩⟩
  · simp [z, bI]
  · simp [y, bI]
  · have w := of_decide_eq_false w
    simp [z, y, w, bI]
  · have w := of_decide_eq_true w
    rw [e4] at v
    simp [w, v, bI]
  · have w := of_decide_eq_true w
    rw [e4] at v
    simp [z, y, v, bI]
theorem m_sells (q : rfA V u) (c l : Nat) (hc : c < 8) (hl : l < 24) (h2 : u 120 = nI l) {Q : Int32 → Mem → Prop} {Qx : String → Mem → Prop} (k : ∀ V', frA V V' → V' 405 0 = V 405 0 → rfA V' (sellF u c l) → Q (nI c) V') : CTc J mX8_sells [.ref 405, .int (nI c)] V (fun r V' => ∃ r1 : Int32, r = some (.int r1) ∧ Q r1 V') Qx := by
  have e6 : V 405 33 = nI l := (q.2 0 (by omega)).trans h2
  have e8 : V 405 35 = u 122 := q.2 2 (by omega)
  have el : (nI l).toNatClampNeg = l := ccl (by omega)
  have ec : (nI c).toNatClampNeg = c := ccl (by omega)
  refine v_X8_sells _ ?_
  unfold F_X8_sells
  have o : ∀ (W : Mem) a j x, a ≠ 405 → up2 W a j x 405 = W 405 := fun W a j x h => up2_off _ _ _ (fun z => h z.symm)
  have o1 : ∀ (W : Mem) j x, up2 W 424 j x 421 = W 421 := fun W j x => up2_off _ _ _ (by omega)
  have o2 : ∀ (W : Mem) j x, up2 W 425 j x 421 = W 421 := fun W j x => up2_off _ _ _ (by omega)
  have o3 : ∀ (W : Mem) j x, up2 W 424 j x 422 = W 422 := fun W j x => up2_off _ _ _ (by omega)
  have o4 : ∀ (W : Mem) j x, up2 W 425 j x 422 = W 422 := fun W j x => up2_off _ _ _ (by omega)
  have o5 : ∀ (W : Mem) j x, up2 W 421 j x 422 = W 422 := fun W j x => up2_off _ _ _ (by omega)
  simp only [o _ 424 _ _ (by omega), o _ 425 _ _ (by omega), o _ 421 _ _ (by omega), o _ 422 _ _ (by omega), o1, o2, o3, o4, o5, e6, e8, el, ec]
  have p1 : V 421 c = u c := (rfA_c q (i := 0) (by omega) hc).trans (by rw [show 10 * 0 + c = c by omega])
  have p2 : V 422 c = u (10 + c) := rfA_c q (i := 1) (by omega) hc
  rw [p1, p2]
  have a1 := rfA_arr q 3 l (by omega) hl (nI c)
  have a2 := rfA_arr a1 4 l (by omega) hl (u 122)
  have a3 := rfA_arr a2 0 c (by omega) hc (u c - u 122)
  have a4 := rfA_arr a3 1 c (by omega) hc (u (10 + c) + 1)
  have z3 : ofA 0 + c = c := Nat.zero_add c
  have z1 : ofA 3 + l = 30 + l := rfl
  have z2 : ofA 4 + l = 60 + l := rfl
  have z4 : ofA 1 + c = 10 + c := rfl
  rw [z3, z1, z2, z4] at a4
  generalize hM : up2 (up2 (up2 (up2 V 424 l (nI c)) 425 l (u 122)) 421 c (u c - u 122)) 422 c (u (10 + c) + 1) = M
  have fM : frA V M := by rw [← hM]; exact frA_up (frA_up (frA_up (frA_up (frA_rf _) (by omega)) (by omega)) (by omega)) (by omega)
  have tM : M 405 0 = V 405 0 := by rw [← hM, o _ 422 _ _ (by omega), o _ 421 _ _ (by omega), o _ 425 _ _ (by omega), o _ 424 _ _ (by omega)]
  have qM : rfA M (sell1 u c l) := by rw [← hM]; exact a4
  refine ⟨vp_in_nI hl (by decide), vp_in_nI hl (by decide), vp_in_nI hc (by decide), vp_in_nI hc (by decide), vp_in_nI hc (by decide), vp_in_nI hc (by decide), vp_in_nI hc (by decide), rd_b (m_isForeign l hl) ?_⟩
  have e20 : M 423 c = u (20 + c) := by
    have := rfA_c qM (i := 2) (by omega) hc
    unfold sell1 at this
    rw [up1_off _ _ (by omega), up1_off _ _ (by omega), up1_off _ _ (by omega), up1_off _ _ (by omega)] at this
    exact this
  have fin : ∀ x, rfA (up2 M 423 c x) (if l % 4 = 0 then up1 (sell1 u c l) (20 + c) (u (20 + c) + 1) else sell1 u c l) → Q (nI c) (up2 (up2 (up2 M 423 c x) 405 33 (-1)) 405 37 0) := by
    intro x hx
    refine k _ (frA_up (frA_up (frA_up fM (by omega)) (by omega)) (by omega)) ?_ ?_
    · rw [up2_ne _ _ (Or.inr (by omega)), up2_ne _ _ (Or.inr (by omega)), up2_off _ _ _ (by omega), tM]
    · unfold sellF
      exact rfA_fld (rfA_fld hx 0 (by omega) (-1)) 4 (by omega) 0
  have a5 := rfA_arr qM 2 c (by omega) hc
  have z5 : ofA 2 + c = 20 + c := rfl
  rw [z5] at a5
  refine ⟨fun w => ?_, fun w => ?_⟩
  · have w := of_decide_eq_false w
    unfold F_X8_sells_68
    rw [ec, e20]
    refine ⟨vp_in_nI hc (by decide), _, rfl, fin _ ?_⟩
    rw [if_neg w]
    have h := a5 (u (20 + c) + 0)
    have e9 : up1 (sell1 u c l) (20 + c) (u (20 + c) + 0) = sell1 u c l := by
      have h5 : sell1 u c l (20 + c) = u (20 + c) := by
        unfold sell1
        rw [up1_off _ _ (by omega), up1_off _ _ (by omega), up1_off _ _ (by omega), up1_off _ _ (by omega)]
      rw [Int32.add_zero, ← h5, up1_id]
    rwa [e9] at h
  · have w := of_decide_eq_true w
    unfold F_X8_sells_68
    rw [ec, e20]
    refine ⟨vp_in_nI hc (by decide), _, rfl, fin _ ?_⟩
    rw [if_pos w]
    exact a5 _
end Mdd
