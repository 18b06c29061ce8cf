/-! the reference: what would fall, a review, taking back -/
theorem i_top {N : Nat} (h : N < 2147483648) : (nI N - 1).toInt + 1 = N := by
  cases N with
  | zero => decide
  | succ k => rw [nI_pred, nI_toInt (by omega)]; omega
theorem inB_top {v : Int32} {N : Nat} (h : N < 2147483648) : inB v 0 (nI N - 1) = isIx v N := inB_ix (i_top h)
theorem mdE_fix {V V' : Mem} {n : Nat} {e : Ev} {p x w : Nat} (q : mdE V n e) (h10 : e 4 ≤ 10) (hp : p < e 4) (v3 : V' 413 = up1 (V 413) (14 * n + p) (nI x)) (v4 : V' 414 = up1 (V 414) (14 * n + p) (wI w)) (f : ∀ y, 408 ≤ y → y < 416 → y ≠ 413 → y ≠ 414 → V' y = V y) : mdE V' n (evFix e p x w) := by
  obtain ⟨q1, q2, q3, q4, q5⟩ := q
  obtain ⟨a1, a2⟩ := evFix_at e p x w (by omega)
  have o : ∀ j, j < 5 → evFix e p x w j = e j := fun j hj => evFix_o (by omega) (by omega)
  refine ⟨?_, ?_, fun h => ?_, ?_, fun k hk => ?_⟩
  · rw [f 408 (by omega) (by omega) (by omega) (by omega), o 0 (by omega)]; exact q1
  · rw [f 409 (by omega) (by omega) (by omega) (by omega), o 0 (by omega), o 1 (by omega), o 2 (by omega)]; exact q2
  · rw [o 0 (by omega)] at h
    rw [f 410 (by omega) (by omega) (by omega) (by omega), f 411 (by omega) (by omega) (by omega) (by omega), o 2 (by omega), o 3 (by omega)]; exact q3 h
  · rw [f 412 (by omega) (by omega) (by omega) (by omega), o 4 (by omega)]; exact q4
  · rw [o 4 (by omega)] at hk
    obtain ⟨r1, r2, r3⟩ := q5 k hk
    rw [f 415 (by omega) (by omega) (by omega) (by omega), v3, v4, evFix_o (j := 50 + k) (by omega) (by omega)]
    by_cases hkp : k = p
    · subst hkp; rw [a1, a2, up1_at, up1_at]; exact ⟨rfl, rfl, r3⟩
    · rw [up1_off _ _ (by omega), up1_off _ _ (by omega), evFix_o (j := 10 + k) (by omega) (by omega), evFix_o (j := 30 + k) (by omega) (by omega)]; exact ⟨r1, r2, r3⟩
theorem mdE_fix_o {V V' : Mem} {n m : Nat} {e : Ev} {p : Nat} {x y : Int32} (q : mdE V m e) (hmn : m ≠ n) (h10 : e 4 ≤ 10) (hp : p ≤ 10) (v3 : V' 413 = up1 (V 413) (14 * n + p) x) (v4 : V' 414 = up1 (V 414) (14 * n + p) y) (f : ∀ y, 408 ≤ y → y < 416 → y ≠ 413 → y ≠ 414 → V' y = V y) : mdE V' m e := by
  refine mdE_keep q (fun z h1 h2 => by rw [f z (by omega) (by omega) (by omega) (by omega)]) (fun z h1 h2 k hk => ?_)
  have hne : 14 * m + k ≠ 14 * n + p := by omega
  rcases (show z = 413 ∨ z = 414 ∨ z = 415 by omega) with z1 | z1 | z1 <;> subst z1
  · rw [v3, up1_off _ _ hne]
  · rw [v4, up1_off _ _ hne]
  · rw [f 415 (by omega) (by omega) (by omega) (by omega)]
theorem up1_id {α : Type} (f : Nat → α) (k : Nat) : up1 f k (f k) = f := by
  funext j
  by_cases h : j = k
  · subst h; rw [up1_at]
  · rw [up1_off _ _ h]
theorem up1_up {α : Type} (f : Nat → α) (k : Nat) (x y : α) : up1 (up1 f k x) k y = up1 f k y := by
  funext j
  by_cases h : j = k
  · subst h; rw [up1_at, up1_at]
  · rw [up1_off _ _ h, up1_off _ _ h, up1_off _ _ h]
theorem rf_replay {V V' : Mem} {s : Ms} {E : Evs} (m : rfM V s E) (f : ∀ y, 405 ≤ y → y < 416 → V' y = V y) (q : sOK V' (nowF s E)) (d : mdN V' E (s 2 - s 1)) : rfM V' s E := by
  refine ⟨by rw [f 405 (by omega) (by omega)]; exact m.1, by rw [f 405 (by omega) (by omega)]; exact m.2.1, fun h0 => ?_⟩
  obtain ⟨a, b, c, -, -⟩ := m.2.2 h0
  exact ⟨by rw [f 405 (by omega) (by omega)]; exact a, by rw [f 406 (by omega) (by omega), f 407 (by omega) (by omega)]; exact b, fun k hk => mdE_off (c k hk) (fun y h1 h2 => f y (by omega) (by omega)), d, q⟩
section Mdb
variable {J : Nat → Nat → Int64} {V : Mem} {s : Ms} {E : Evs}
theorem m_isStep (m : rfM V s E) (G : Gd s E) (n p : Int32) : RD J mX8_isStep [.ref 405, .int n, .int p] V (bI (stepIx s E n p)) := by
  have g0 := G.1
  have g1 := G.2.1
  have g2 := G.2.2.1
  have g12 := G.2.2.2.1
  refine v_X8_isStep n p ?_
  unfold F_X8_isStep
  rw [m.2.1, nI_0', ceq (by omega) (by omega)]
  have no : ∀ b : Bool, stepIx s E n p = (isIx n (s 2 - s 1) && b) → (isIx n (s 2 - s 1) = false ∨ b = false) → stepIx s E n p = false := by
    intro b h1 h2
    rw [h1]
    rcases h2 with h | h
    · rw [h]; rfl
    · rw [h, Bool.and_false]
  refine ⟨fun z => ⟨?_, rfl⟩, fun z => ?_⟩
  · have s2 := G.2.2.2.2.2.2.1 z
    have h : isIx n (s 2 - s 1) = false := by
      cases y : isIx n (s 2 - s 1) with
      | false => rfl
      | true =>
        obtain ⟨a, ha, -⟩ := isIx_ex (by omega) y
        omega
    rw [no _ rfl (Or.inl h)]; rfl
  · obtain ⟨⟨a1, a2, a3⟩, b, c, d, e⟩ := m.2.2 (by omega)
    refine rd_i (m_ended (s 2) (s 1) a1 a3 g1 (by omega) g12) (rd_b (k8_in J n 0 _ V) ?_)
    rw [inB_top (by omega)]
    refine ⟨fun y => ⟨?_, rfl⟩, fun y => ?_⟩
    · rw [no _ rfl (Or.inl y)]; rfl
    · obtain ⟨a, ha, rfl⟩ := isIx_ex (by omega) y
      have hW := Gd_W G (show a < s 2 by omega)
      have e0 : E a 0 ≤ 2 := ((Gd_ok G) a ha).1.1
      have ev := c a (by omega)
      have hst : stepIx s E (nI a) p = (decide (E a 0 = 0) && isIx p (E a 4)) := by unfold stepIx; rw [y, Bool.true_and, ccl (by omega)]
      rw [ccl (n := a) (by omega), ev.1, ceq (by omega) (by omega), ev.2.2.2.1, hst]
      refine ⟨s60 (by omega), fun x => ⟨?_, rfl⟩, fun x => ⟨s60 (by omega), rd_b (k8_in J p 0 _ V) ?_⟩⟩
      · rw [decide_eq_false x]; rfl
      · have := hW.1
        rw [inB_top (by omega), decide_eq_true x, Bool.true_and]
        refine ⟨fun u => ⟨?_, rfl⟩, fun u => ⟨?_, rfl⟩⟩
        · rw [u]; rfl
        · rw [u]; rfl
theorem m_says {at' : Nat} (h : at' < 840) (x y : Int32) {Q : Mem → Prop} {Qx : String → Mem → Prop} (k : ∀ V', V' 413 = up1 (V 413) at' x → V' 414 = up1 (V 414) at' y → (∀ z, z ≠ 413 → z ≠ 414 → V' z = V z) → Q V') : CTc J mX8_says [.ref 405, .int (nI at'), .int x, .int y] V (fun r V' => r = none ∧ Q V') Qx := by
  refine v_X8_says _ _ _ ?_
  unfold F_X8_says
  rw [ccl (n := at') (by omega)]
  refine ⟨s840 h, s840 h, rfl, k _ ?_ ?_ (fun z h1 h2 => ?_)⟩
  · rw [up2_off _ _ _ (by omega), up2_at]
  · rw [up2_at, up2_off _ _ _ (by omega)]
  · rw [up2_off _ _ _ h2, up2_off _ _ _ h1]
theorem m_falls (m : rfM V s E) (G : Gd s E) (n p x w : Nat) (hn : n < s 2 - s 1) (h00 : E n 0 = 0) (hp : p < E n 4) (hx : x ≤ 6) (hw : w ≤ 10) (hxw : x = 0 ↔ 1 ≤ w) :
    CTc J mX8_falls [.ref 405, .int (nI n), .int (nI p), .int (nI x), .int (wI w)] V (fun r V' => r = some (.int (fallsI s E n p x w)) ∧ offF V V' 413 6 ∧ rfM V' s E) NX := by
  have g0 := G.1
  have g1 := G.2.1
  have g2 := G.2.2.1
  have g12 := G.2.2.2.1
  have ok := Gd_ok G
  have hW := Gd_W G (show n < s 2 by omega)
  have h10 := hW.1
  have h0 : s 0 = 1 := by
    rcases (show s 0 = 0 ∨ s 0 = 1 by omega) with z | z
    · have := G.2.2.2.2.2.2.1 z; omega
    · exact z
  have hg := G.2.2.2.2.2.2.2.1 h0
  have hck := G.2.2.2.2.2.2.2.2.2.1
  obtain ⟨⟨a1, a2, a3⟩, b, c, d, e⟩ := m.2.2 h0
  have ev := c n (by omega)
  have hR := (ok n hn).1
  have hend := (hR.2.2.2.2.2.2 h00).2 p hp
  have hcan : CTc J mX8_canBeSaid [.ref 405, .int (nI n), .int (nI p), .int (nI x)] V (fun r V' => r = some (.int (bI (decide (3 ≤ E n (10 + p) ↔ 3 ≤ x)))) ∧ V' = V) NX := by
    refine v_X8_canBeSaid _ _ _ ?_
    unfold F_X8_canBeSaid F_X8_canBeSaid_17
    rw [ccl (n := n) (by omega), ev.2.2.2.1, nI_p1 (by omega), ceq (by omega) (by omega), show (3 : Int32) = nI 3 from rfl, clt (by omega) (by omega)]
    refine ⟨s60 (by omega), fun z => ⟨fun y => ⟨fun t => absurd rfl t, fun _ => ⟨?_, rfl⟩⟩, fun y => ⟨fun _ => ⟨?_, rfl⟩, fun t => absurd t (by decide)⟩⟩, fun z => ⟨fun y => ⟨fun _ => ⟨?_, rfl⟩, fun t => absurd t (by decide)⟩, fun y => ⟨fun t => absurd rfl t, fun _ => ⟨?_, rfl⟩⟩⟩⟩
    · rw [decide_eq_true (by omega)]; rfl
    · rw [decide_eq_false (by omega)]; rfl
    · rw [decide_eq_false (by omega)]; rfl
    · rw [decide_eq_true (by omega)]; rfl
  refine v_X8_falls _ _ _ _ ?_
  unfold F_X8_falls
  refine rd_b hcan ⟨fun z => ?_, fun z => ?_⟩
  · have z := of_decide_eq_true z
    have hF : fallsI s E n p x w = fI (fallF (fixE E n p x w) (s 2 - s 1)) := by unfold fallsI; rw [if_pos z]
    have hat : 14 * n + p < 840 := by omega
    rw [i14, ccl (n := 14 * n + p) (by omega)]
    refine ⟨s840 hat, s840 hat, m_says hat _ _ (fun V2 v3 v4 vo => ?_)⟩
    refine CTc_nx (m_plays (E := fixE E n p x w) (s 2) (s 1) (s 2 - s 1) (by rw [vo 405 (by omega) (by omega)]; exact a1) (by rw [vo 405 (by omega) (by omega)]; exact a3) g1 g2 g12 rfl (s 5) (by rw [vo 405 (by omega) (by omega)]; exact a2) (by omega) (fun k hk => ?_) (fun k hk => ?_) (fun k hk hk0 => ?_)) (fun r V3 hr => ?_)
    · unfold fixE
      by_cases hkn : k = n
      · subst hkn
        rw [up1_at]
        exact mdE_fix ev h10 hp v3 v4 (fun y h1 h2 h3 h4 => vo y h3 h4)
      · rw [up1_off _ _ hkn]
        exact mdE_fix_o (c k (by omega)) hkn (Gd_W G (show k < s 2 by omega)).1 (by omega) v3 v4 (fun y h1 h2 h3 h4 => vo y h3 h4)
    · unfold fixE
      by_cases hkn : k = n
      · subst hkn; rw [up1_at]; exact evR_fix hR h00 hp hx hw hxw z
      · rw [up1_off _ _ hkn]; exact (ok k hk).1
    · rw [clk_fix h10 hp]
      refine hck k (by omega) ?_
      unfold fixE at hk0
      by_cases hkn : k = n
      · subst hkn; exact h00
      · rwa [up1_off _ _ hkn] at hk0
    · obtain ⟨hr1, f3, -⟩ := hr
      refine ⟨_, hr1, m_says hat _ _ (fun V4 u3 u4 uo => ?_)⟩
      have fin : ∀ y, y < 416 ∨ 419 ≤ y → V4 y = V y := by
        intro y hy
        by_cases h3 : y = 413
        · subst h3; rw [u3, f3 413 (by omega), v3, up1_up, up1_id]
        · by_cases h4 : y = 414
          · subst h4; rw [u4, f3 414 (by omega), v4, up1_up, up1_id]
          · rw [uo y h3 h4, f3 y (by omega), vo y h3 h4]
      refine CTc_nx (m_plays (E := E) (s 2) (s 1) (s 2 - s 1) (by rw [fin 405 (by omega)]; exact a1) (by rw [fin 405 (by omega)]; exact a3) g1 g2 g12 rfl (s 5) (by rw [fin 405 (by omega)]; exact a2) (by omega) (fun k hk => mdE_off (c k (by omega)) (fun y h1 h2 => fin y (by omega))) (fun k hk => (ok k hk).1) (fun k hk hk0 => hck k (by omega) hk0)) (fun r V5 hr => ?_)
      obtain ⟨hr2, f5, h5⟩ := hr
      obtain ⟨q5, d5⟩ := h5 (fallF_none.mpr (fun k hk => (ok k hk).2))
      refine ⟨_, hr2, by rw [hF], fun y hy => (f5 y (by omega)).trans (fin y (by omega)), rf_replay m (fun y h1 h2 => (f5 y (by omega)).trans (fin y (by omega))) q5 d5⟩
  · have z := of_decide_eq_false z
    unfold fallsI
    rw [if_neg z]
    exact ⟨rfl, offF_rf _ _ _, m⟩
theorem m_wouldFall (m : rfM V s E) (G : Gd s E) (n p k w : Int32) : RO J mX8_wouldFall [.ref 405, .int n, .int p, .int k, .int w] V (fallsK s E n p k w) (fallsV s E n p k w) (fun V' => rfM V' s E) := by
  have bad : ∀ j, j ≠ 0 → j < 100 → fallsK s E n p k w = j → F_X8_wouldFall_49 J n p k w (nI j) V (ROp V (fallsK s E n p k w) (fallsV s E n p k w) (fun V' => rfM V' s E)) NX := by
    intro j hj hj1 hjj
    unfold F_X8_wouldFall_49
    refine m_holds j hj1 (fun z => (hj z).elim) (fun _ => ?_)
    rw [hjj]
    exact ro_bad (frM_rf _) hj (rfM_th m)
  have L23 : ∀ b : Bool, stepB k w 5 = b → F_X8_wouldFall_23 J n p k w (bI b) V (ROp V (fallsK s E n p k w) (fallsV s E n p k w) (fun V' => rfM V' s E)) NX := by
    intro b hb
    unfold F_X8_wouldFall_23
    refine rd_b (m_isStep m G n p) ⟨fun z => ?_, fun z => bad 1 (by omega) (by omega) (by unfold fallsK; rw [if_pos z])⟩
    rw [bI_0]
    refine ⟨fun y => bad 2 (by omega) (by omega) (by unfold fallsK; rw [if_neg (by rw [z]; decide), if_pos (by rw [hb, y])]), fun y => ?_⟩
    have hb1 : stepB k w 5 = true := by rw [hb]; cases b <;> simp_all
    have hk0 : fallsK s E n p k w = 0 := by unfold fallsK; rw [if_neg (by rw [z]; decide), if_neg (by rw [hb1]; decide)]
    obtain ⟨a, c, ha, h00, hc, rfl, rfl, hc10⟩ := stepIx_ex G z
    obtain ⟨x, v, hx, hv, hxv, rfl, rfl, hwN⟩ := stepB_of (b := 5) (by omega) hb1
    have g2 := G.2.2.1
    have hV : fallsV s E (nI a) (nI c) (nI x) (wI v) = fallsI s E a c x v := by unfold fallsV; rw [ccl (by omega), ccl (by omega), ccl (by omega), hwN]
    unfold F_X8_wouldFall_49
    refine m_holds 0 (by omega) (fun _ => ?_) (fun z => (z rfl).elim)
    refine CTc_nx (m_falls (rfM_th (x := nI 0) m) G a c x v ha h00 hc (by omega) hv hxv) (fun r V' hr => ⟨_, hr.1, ?_⟩)
    obtain ⟨-, f, m'⟩ := hr
    rw [hk0, hV]
    exact ⟨⟨_, rfl, fun _ => rfl⟩, frM_tr (frM_up (frM_rf V) (by omega)) (frM_of f (by omega)), by rw [f 405 (by omega)]; exact up2_same _ _ _ _, m'⟩
  refine v_X8_wouldFall n p k w (rd_b (k8_in J k 0 5 V) ⟨fun z => L23 false ?_, fun z => rd_b (m_isWho k w) ⟨fun z2 => L23 false ?_, fun z2 => L23 true ?_⟩⟩)
  · unfold stepB; rw [z]; rfl
  · unfold stepB; rw [z, z2]; rfl
  · unfold stepB; rw [z, z2]; rfl
theorem m_takeBack (m : rfM V s E) (G : Gd s E) (n : Int32) : RO J mX8_takeBack [.ref 405, .int n] V (backK s n) (nI (s 2 - n.toNatClampNeg)) (fun V' => rfX V' (backN s E n)) := by
  have g0 := G.1
  have g1 := G.2.1
  have g2 := G.2.2.1
  have g12 := G.2.2.2.1
  have ok := Gd_ok G
  have bad : isIx n (s 2) = false → F_X8_takeBack_37 J n 1 V (ROp V (backK s n) (nI (s 2 - n.toNatClampNeg)) (fun V' => rfX V' (backN s E n))) NX := by
    intro h
    have hk : backK s n = 1 := by unfold backK; rw [if_pos h]
    unfold F_X8_takeBack_37
    refine m_holds 1 (by omega) (fun z => absurd z (by decide)) (fun _ => ?_)
    rw [hk]
    refine ro_bad (frM_rf _) (by omega) ?_
    unfold backN
    rw [if_neg (by omega)]
    exact rfM_th m
  refine v_X8_takeBack n ?_
  unfold F_X8_takeBack F_X8_takeBack_25 F_X8_takeBack_26
  rw [m.2.1, nI_0', ceq (by omega) (by omega)]
  refine ⟨fun z => ⟨fun _ => bad ?_, fun t => absurd rfl t⟩, fun z => ?_⟩
  · have s2 := G.2.2.2.2.2.2.1 z
    cases y : isIx n (s 2) with
    | false => rfl
    | true =>
      obtain ⟨a, ha, -⟩ := isIx_ex (by omega) y
      omega
  · have h0 : s 0 = 1 := by omega
    have hg := G.2.2.2.2.2.2.2.1 h0
    have hck := G.2.2.2.2.2.2.2.2.2.1
    obtain ⟨⟨a1, a2, a3⟩, b, c, d, e⟩ := m.2.2 h0
    refine rd_b (k8_in J n 0 _ V) ?_
    rw [a3, inB_top (by omega)]
    refine ⟨fun y => ⟨fun _ => bad y, fun t => absurd rfl t⟩, fun y => ⟨fun t => absurd t (by decide), fun _ => ?_⟩⟩
    have hk0 : backK s n = 0 := by unfold backK; rw [if_neg (by rw [y]; decide)]
    obtain ⟨a, ha, rfl⟩ := isIx_ex (by omega) y
    unfold F_X8_takeBack_37
    refine m_holds 0 (by omega) (fun _ => ?_) (fun z => (z rfl).elim)
    have o : ∀ x, x ≠ 405 → up2 (up2 (up2 V 405 0 (nI 0)) 405 3 0) 405 7 (nI a) x = V x := fun x hx => by rw [up2_off _ _ _ hx, up2_off _ _ _ hx, up2_off _ _ _ hx]
    have o5 : up2 (up2 (up2 V 405 0 (nI 0)) 405 3 0) 405 7 (nI a) 405 = up1 (up1 (up1 (V 405) 0 (nI 0)) 3 0) 7 (nI a) := by rw [up2_at, up2_at, up2_at]
    have fr : frM V (up2 (up2 (up2 V 405 0 (nI 0)) 405 3 0) 405 7 (nI a)) := frM_up (frM_up (frM_up (frM_rf _) (by omega)) (by omega)) (by omega)
    have e7 : up2 V 405 0 (nI 0) 405 7 = nI (s 2) := by rw [up2_ne _ _ (Or.inr (by omega))]; exact a3
    rw [e7]
    generalize up2 (up2 (up2 V 405 0 (nI 0)) 405 3 0) 405 7 (nI a) = V2 at o o5 fr ⊢
    refine CTc_nx (m_plays (E := E) a 0 a (by rw [o5, up1_off _ _ (by omega), up1_at]; rfl) (by rw [o5, up1_at]) (by omega) (by omega) (by omega) rfl (s 5) (by rw [o5, up1_off _ _ (by omega), up1_off _ _ (by omega), up1_off _ _ (by omega)]; exact a2) (by omega) (fun k hk => mdE_off (c k (by omega)) (fun y h1 h2 => o y (by omega))) (fun k hk => (ok k (by omega)).1) (fun k hk hk0 => hck k (by omega) hk0)) (fun r V3 hr => ⟨_, hr.1, ?_⟩)
    obtain ⟨-, f3, h3⟩ := hr
    obtain ⟨q3, d3⟩ := h3 (fallF_none.mpr (fun k hk => (ok k (by omega)).2))
    have g5 := f3 405 (by omega)
    rw [hk0, nI_sub (by omega), ccl (n := a) (by omega)]
    refine ⟨⟨_, rfl, fun _ => rfl⟩, frM_tr fr (frM_of f3 (by omega)), by rw [g5, o5, up1_off _ _ (by omega), up1_off _ _ (by omega), up1_at], ?_⟩
    unfold backN
    rw [if_pos hk0, ccl (n := a) (by omega)]
    show rfM V3 (dropS s a) E
    have d1 : dropS s a 1 = 0 := up1_at _ _ _
    have d2 : dropS s a 2 = a := by unfold dropS; rw [up1_off _ _ (by omega), up1_at]
    have dd : ∀ j, j ≠ 1 → j ≠ 2 → dropS s a j = s j := fun j h1 h2 => by unfold dropS; rw [up1_off _ _ h1, up1_off _ _ h2]
    refine ⟨by rw [g5, o5, up1_off _ _ (by omega), up1_off _ _ (by omega), up1_off _ _ (by omega), dd 6 (by omega) (by omega)]; exact m.1, by rw [g5, o5, up1_off _ _ (by omega), up1_off _ _ (by omega), up1_off _ _ (by omega), dd 0 (by omega) (by omega)]; exact m.2.1, fun _ => ⟨⟨?_, ?_, ?_⟩, ?_, fun k hk => ?_, ?_, ?_⟩⟩
    · rw [g5, o5, up1_off _ _ (by omega), up1_at, d1]; rfl
    · rw [g5, o5, up1_off _ _ (by omega), up1_off _ _ (by omega), up1_off _ _ (by omega), dd 5 (by omega) (by omega)]; exact a2
    · rw [g5, o5, up1_at, d2]
    · rw [f3 406 (by omega), f3 407 (by omega), o 406 (by omega), o 407 (by omega), dd 3 (by omega) (by omega), dd 4 (by omega) (by omega), dd 7 (by omega) (by omega), dd 8 (by omega) (by omega)]; exact b
    · rw [d2] at hk
      exact mdE_off (c k (by omega)) (fun y h1 h2 => (f3 y (by omega)).trans (o y (by omega)))
    · rw [d1, d2, Nat.sub_zero]; exact d3
    · unfold nowF
      rw [d1, d2, Nat.sub_zero]; exact q3
theorem m_review (m : rfM V s E) (G : Gd s E) (a n p k w : Int32) : RO J mX8_review [.ref 405, .int a, .int n, .int p, .int k, .int w] V (revK s E a n p k w) (revV s E a n p k w) (fun V' => rfX V' (revN s E a n p k w)) := by
  have g0 := G.1
  have g1 := G.2.1
  have g2 := G.2.2.1
  have g12 := G.2.2.2.1
  have g7 := G.2.2.2.2.1
  have g8 := G.2.2.2.2.2.1
  have bad : ∀ V1, frM V V1 → rfM V1 s E → ∀ j, j ≠ 0 → j < 100 → revK s E a n p k w = j → F_X8_review_104 J a n p k w (nI j) V1 (ROp V (revK s E a n p k w) (revV s E a n p k w) (fun V' => rfX V' (revN s E a n p k w))) NX := by
    intro V1 fr m1 j hj hj1 hjj
    unfold F_X8_review_104
    refine m_holds j hj1 (fun z => (hj z).elim) (fun _ => ?_)
    rw [hjj]
    refine ro_bad fr hj ?_
    unfold revN
    rw [if_neg (by omega)]
    exact rfM_th m1
  have hstep : ∀ b c : Bool, b = (isIx a 2 && stepIx s E n p) → c = stepB k w 5 → F_X8_review_48 J a n p k w (bI b) (bI c) V (ROp V (revK s E a n p k w) (revV s E a n p k w) (fun V' => rfX V' (revN s E a n p k w))) NX := by
    intro b c hb hc
    unfold F_X8_review_48 F_X8_review_99
    rw [bI_0, bI_0]
    refine ⟨fun zb => ?_, fun zb => bad V (frM_rf _) m 1 (by omega) (by omega) ?_⟩
    · have zb : b = true := by cases b <;> simp_all
      rw [zb] at hb
      have hb := hb.symm
      rw [Bool.and_eq_true] at hb
      obtain ⟨i1, i2⟩ := hb
      refine ⟨fun zc => ?_, fun zc => bad V (frM_rf _) m 2 (by omega) (by omega) ?_⟩
      · have zc : c = true := by cases c <;> simp_all
        rw [zc] at hc
        have hc := hc.symm
        obtain ⟨x, hx, rfl⟩ := isIx_ex (by omega) i1
        obtain ⟨i, j, hi, h00, hj, rfl, rfl, hj10⟩ := stepIx_ex G i2
        obtain ⟨y, v, hy, hv, hyv, rfl, rfl, hwN⟩ := stepB_of (b := 5) (by omega) hc
        have e1 : (nI x).toNatClampNeg = x := ccl (by omega)
        have hV : fallsV s E (nI i) (nI j) (nI y) (wI v) = fallsI s E i j y v := by unfold fallsV; rw [ccl (by omega), ccl (by omega), ccl (by omega), hwN]
        have hK : revK s E (nI x) (nI i) (nI j) (nI y) (wI v) = if s 1 = 1 ∨ s (7 + x) = 1 ∨ fallsI s E i j y v ≠ -1 then 3 else 0 := by
          unfold revK
          rw [if_neg (by rw [i1, i2]; decide), if_neg (by rw [hc]; decide), e1, hV]
        have h0 : s 0 = 1 := by
          rcases (show s 0 = 0 ∨ s 0 = 1 by omega) with z | z
          · have := G.2.2.2.2.2.2.1 z; omega
          · exact z
        have hg := G.2.2.2.2.2.2.2.1 h0
        have hck := G.2.2.2.2.2.2.2.2.2.1
        obtain ⟨⟨a1, a2, a3⟩, b4, cE, d, e⟩ := m.2.2 h0
        have hl : V 407 x = nI (s (7 + x)) := by
          rcases (show x = 0 ∨ x = 1 by omega) with rfl | rfl
          · exact b4.2.2.1
          · exact b4.2.2.2
        have h7x : s (7 + x) ≤ 1 := by
          rcases (show x = 0 ∨ x = 1 by omega) with rfl | rfl
          · exact g7
          · exact g8
        rw [a1, nI_0', ceq (by omega) (by omega), e1, hl, ceq (by omega) (by omega)]
        refine ⟨fun z1 => bad V (frM_rf _) m 3 (by omega) (by omega) (by rw [hK, if_pos (Or.inl (by omega))]), fun z1 => ⟨vp_in_nI hx (by decide), fun z2 => bad V (frM_rf _) m 3 (by omega) (by omega) (by rw [hK, if_pos (Or.inr (Or.inl (by omega)))]), fun z2 => ?_⟩⟩
        refine CTc_nx (m_falls m G i j y v hi h00 hj (by omega) hv hyv) (fun r V1 hr => ⟨_, hr.1, ?_⟩)
        obtain ⟨-, f1, m1⟩ := hr
        have fr1 : frM V V1 := frM_of f1 (by omega)
        refine ⟨fun z3 => ?_, fun z3 => bad V1 fr1 m1 3 (by omega) (by omega) (by rw [hK, if_pos (Or.inr (Or.inr z3))])⟩
        have hk0 : revK s E (nI x) (nI i) (nI j) (nI y) (wI v) = 0 := by rw [hK, if_neg (fun h => by rcases h with h | h | h; omega; omega; exact h z3)]
        have hi2 : i < s 2 := by omega
        obtain ⟨hend, okF, GF⟩ := Gd_fix G z1 i j y v hi2 h00 hj (by omega) hv hyv z3
        have hW := Gd_W G hi2
        obtain ⟨⟨b1, b2, b3⟩, c4, cE1, d1, q1⟩ := m1.2.2 h0
        have hat : 14 * i + j < 840 := by omega
        unfold F_X8_review_104
        refine m_holds 0 (by omega) (fun _ => ?_) (fun z => (z rfl).elim)
        have q1' : sOK (up2 V1 405 0 (nI 0)) (nowF s E) := sOK_off q1 (up2_off _ _ _ (by omega))
        rw [i104, i105 _ hx, ccl (n := 104 + x) (by omega), ccl (n := 104 + (1 - x)) (by omega), q1' (104 + x) (by omega), q1' (104 + (1 - x)) (by omega), i14]
        have o1 : ∀ z, z ≠ 405 → up2 V1 405 0 (nI 0) z = V1 z := fun z hz => up2_off _ _ _ hz
        have o5 : up2 V1 405 0 (nI 0) 405 = up1 (V1 405) 0 (nI 0) := up2_at _ _ _ _
        have frA : frM V (up2 V1 405 0 (nI 0)) := frM_up fr1 (by omega)
        generalize up2 V1 405 0 (nI 0) = VA at o1 o5 frA q1' ⊢
        refine ⟨s110 (by omega), s110 (by omega), m_says hat _ _ (fun V2 v3 v4 vo => ?_)⟩
        have r5 : V2 405 = up1 (V1 405) 0 (nI 0) := (vo 405 (by omega) (by omega)).trans o5
        have evs : ∀ k, k < s 2 → mdE V2 k (fixE E i j y v k) := by
          intro k hk
          unfold fixE
          by_cases hki : k = i
          · subst hki
            rw [up1_at]
            refine mdE_fix (cE1 k hk) hW.1 hj (by rw [v3, o1 413 (by omega)]) (by rw [v4, o1 414 (by omega)]) (fun y h1 h2 h3 h4 => (vo y h3 h4).trans (o1 y (by omega)))
          · rw [up1_off _ _ hki]
            exact mdE_fix_o (p := j) (cE1 k hk) hki (Gd_W G hk).1 (by omega) (by rw [v3, o1 413 (by omega)]) (by rw [v4, o1 414 (by omega)]) (fun y h1 h2 h3 h4 => (vo y h3 h4).trans (o1 y (by omega)))
        have hcF : ∀ k, k < s 2 → fixE E i j y v k 0 = 0 → clkTo (fixE E i j y v) k < s 5 := GF.2.2.2.2.2.2.2.2.2.1
        refine CTc_nx (m_plays (E := fixE E i j y v) (s 2) 0 (s 2) (by rw [r5, up1_off _ _ (by omega), b1, z1]) (by rw [r5, up1_off _ _ (by omega)]; exact b3) (by omega) g2 (by omega) rfl (s 5) (by rw [r5, up1_off _ _ (by omega)]; exact b2) (by omega) evs (fun k hk => (okF k hk).1) hcF) (fun r V3 hr => ⟨_, hr.1, ?_⟩)
        obtain ⟨-, f3, h3⟩ := hr
        obtain ⟨q3, d3⟩ := h3 (fallF_none.mpr (fun k hk => (okF k hk).2))
        have hnow : nowF s (fixE E i j y v) = runE (fixE E i j y v) (s 2) := by unfold nowF; rw [z1, Nat.sub_zero]
        rw [q3 (104 + x) (by omega), q3 (104 + (1 - x)) (by omega)]
        have g5 : V3 405 = up1 (V1 405) 0 (nI 0) := (f3 405 (by omega)).trans r5
        have frB : frM VA V2 := ⟨fun z hz => vo z (by omega) (by omega), fun t _ => by rw [vo 405 (by omega) (by omega)]⟩
        have fr3 : frM V V3 := frM_tr frA (frM_tr frB (frM_of f3 (by omega)))
        have hR : revV s E (nI x) (nI i) (nI j) (nI y) (wI v) = amendR s E x i j y v := by unfold revV; rw [e1, ccl (by omega), ccl (by omega), ccl (by omega), hwN]
        have hA : nI (runE (fixE E i j y v) (s 2) (104 + x)) - nI (runE (fixE E i j y v) (s 2) (104 + (1 - x))) - (nI (nowF s E (104 + x)) - nI (nowF s E (104 + (1 - x)))) = amendR s E x i j y v := by unfold amendR; rw [hnow]
        have hNN : revN s E (nI x) (nI i) (nI j) (nI y) (wI v) = (amendS s E x i j y v, fixE E i j y v) := by unfold revN; rw [if_pos hk0, e1, ccl (by omega), ccl (by omega), ccl (by omega), hwN]
        rw [hA, hk0, hR, hNN]
        have fin : ∀ u, u = (if 0 < amendR s E x i j y v then 0 else 1) → ROp V 0 (amendR s E x i j y v) (fun V' => rfX V' (amendS s E x i j y v, fixE E i j y v)) (some (.int (amendR s E x i j y v))) (up2 V3 407 x (nI u)) := by
          intro u hu
          have o7 : ∀ z, z ≠ 407 → up2 V3 407 x (nI u) z = V3 z := fun z hz => up2_off _ _ _ hz
          refine ⟨⟨_, rfl, fun _ => rfl⟩, frM_up fr3 (by omega), by rw [o7 405 (by omega), g5, up1_at], ?_⟩
          show rfM (up2 V3 407 x (nI u)) (up1 s (7 + x) (if 0 < amendR s E x i j y v then 0 else 1)) (fixE E i j y v)
          rw [← hu]
          have so : ∀ t, t < 7 → up1 s (7 + x) u t = s t := fun t ht => up1_off _ _ (by omega)
          refine ⟨by rw [o7 405 (by omega), g5, up1_off _ _ (by omega), so 6 (by omega)]; exact m1.1, by rw [o7 405 (by omega), g5, up1_off _ _ (by omega), so 0 (by omega)]; exact m1.2.1, fun _ => ⟨⟨?_, ?_, ?_⟩, ⟨?_, ?_, ?_⟩, fun k hk => ?_, ?_, ?_⟩⟩
          · rw [o7 405 (by omega), g5, up1_off _ _ (by omega), so 1 (by omega)]; exact b1
          · rw [o7 405 (by omega), g5, up1_off _ _ (by omega), so 5 (by omega)]; exact b2
          · rw [o7 405 (by omega), g5, up1_off _ _ (by omega), so 2 (by omega)]; exact b3
          · rw [o7 406 (by omega), f3 406 (by omega), vo 406 (by omega) (by omega), o1 406 (by omega), so 3 (by omega)]; exact c4.1
          · rw [o7 406 (by omega), f3 406 (by omega), vo 406 (by omega) (by omega), o1 406 (by omega), so 4 (by omega)]; exact c4.2.1
          · have e7 : up2 V3 407 x (nI u) 407 = up1 (V1 407) x (nI u) := by rw [up2_at, f3 407 (by omega), vo 407 (by omega) (by omega), o1 407 (by omega)]
            rw [e7]
            rcases (show x = 0 ∨ x = 1 by omega) with hx0 | hx0 <;> subst hx0
            · refine ⟨by rw [up1_at, up1_at], ?_⟩
              rw [up1_off _ _ (by omega), up1_off _ _ (by omega)]; exact c4.2.2.2
            · refine ⟨?_, by rw [up1_at, up1_at]⟩
              rw [up1_off _ _ (by omega), up1_off _ _ (by omega)]; exact c4.2.2.1
          · rw [so 2 (by omega)] at hk
            exact mdE_off (evs k hk) (fun z h1 h2 => (o7 z (by omega)).trans (f3 z (by omega)))
          · rw [so 2 (by omega), so 1 (by omega), z1, Nat.sub_zero]
            exact mdN_off d3 (fun z hz => o7 z (by omega))
          · unfold nowF
            rw [so 2 (by omega), so 1 (by omega), z1, Nat.sub_zero]
            exact sOK_off q3 (o7 416 (by omega))
        rw [e1]
        exact ⟨s110 (by omega), s110 (by omega), fun z => ⟨vp_in_nI hx (by decide), fin 0 (by rw [if_pos z])⟩, fun z => ⟨vp_in_nI hx (by decide), fin 1 (by rw [if_neg z])⟩⟩
      · unfold revK
        rw [if_neg (by rw [i1, i2]; decide), if_pos (by rw [← hc, zc])]
    · unfold revK
      rw [if_pos]
      rw [zb] at hb
      have hb := hb.symm
      rw [Bool.and_eq_false_iff] at hb
      exact hb
  have L21 : ∀ b : Bool, b = (isIx a 2 && stepIx s E n p) → F_X8_review_21 J a n p k w (bI b) V (ROp V (revK s E a n p k w) (revV s E a n p k w) (fun V' => rfX V' (revN s E a n p k w))) NX := by
    intro b hb
    unfold F_X8_review_21 F_X8_review_47
    refine rd_b (k8_in J k 0 5 V) ⟨fun z => hstep b false hb ?_, fun z => rd_b (m_isWho k w) ⟨fun z2 => hstep b false hb ?_, fun z2 => hstep b true hb ?_⟩⟩
    · unfold stepB; rw [z]; rfl
    · unfold stepB; rw [z, z2]; rfl
    · unfold stepB; rw [z, z2]; rfl
  refine v_X8_review a n p k w (rd_b (k8_isSide J a V) ⟨fun z => L21 false (by rw [z]; rfl), fun z => rd_b (m_isStep m G n p) ⟨fun z2 => L21 false (by rw [z, z2]; rfl), fun z2 => L21 true (by rw [z, z2]; rfl)⟩⟩)
end Mdb
