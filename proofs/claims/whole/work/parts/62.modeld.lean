/-! the reference: the calls of the auction -/
theorem nI_ne1 {k : Nat} (h : k < 2147483648) : (nI k = -1) ↔ False := ⟨nI_n1 h, False.elim⟩
section Mde
variable {J : Nat → Nat → Int64} {V : Mem} {u : Au}
theorem th_33 {x : Int32} (q : rfA V u) (i : Nat) (hi : i < 5) : up2 V 405 0 x 405 (33 + i) = u (120 + i) := by rw [up2_ne _ _ (Or.inr (by omega))]; exact q.2 i hi
theorem m_right (q : rfA V u) (G : GdA u) (c l : Int32) : RA J mX8_right [.ref 405, .int c, .int l] V (rightK u c l) (u (90 + l.toNatClampNeg)) (fun V' => rfA V' (rightN u c l)) := by
  have bad : ∀ j, j ≠ 0 → j < 100 → rightK u c l = j → F_X8_right_52 J c l (nI j) V (ROg frA V (rightK u c l) (u (90 + l.toNatClampNeg)) (fun V' => rfA V' (rightN u c l))) NX := by
    intro j hj hj1 hjj
    unfold F_X8_right_52
    refine m_holds j hj1 (fun z => (hj z).elim) (fun _ => ?_)
    rw [hjj]
    refine ra_bad (u := u) hj ?_
    unfold rightN
    rw [if_neg (by omega)]
    exact rfA_th q
  refine v_X8_right c l (rd_b (k8_isClub J c V) ⟨fun z => ?_, fun z => rd_b (k8_isLot J l V) ⟨fun y => ?_, fun y => ?_⟩⟩)
  · exact ⟨fun w => (w rfl).elim, fun _ => bad 1 (by omega) (by omega) (by unfold rightK; rw [if_pos (Or.inl z)])⟩
  · exact ⟨fun w => (w rfl).elim, fun _ => bad 1 (by omega) (by omega) (by unfold rightK; rw [if_pos (Or.inr y)])⟩
  · have hK : rightK u c l = if u 120 = l ∨ u (30 + l.toNatClampNeg) ≠ -1 then 2 else 0 := by unfold rightK; rw [if_neg (by rw [z, y]; decide)]
    obtain ⟨c, hc, rfl⟩ := isIx_ex (by omega) z
    obtain ⟨l, hl, rfl⟩ := isIx_ex (by omega) y
    have el : (nI l).toNatClampNeg = l := ccl (by omega)
    have ec : (nI c).toNatClampNeg = c := ccl (by omega)
    rw [el] at hK bad
    unfold F_X8_right_19 F_X8_right_47
    rw [show V 405 33 = u 120 from q.2 0 (by omega), el, show V 424 l = u (30 + l) from rfA_l q (i := 3) (by omega) hl]
    refine ⟨fun _ => ⟨fun x => bad 2 (by omega) (by omega) (by rw [hK, if_pos (Or.inl x)]), fun x => ⟨vp_in_nI hl (by decide), fun v => ?_, fun v => bad 2 (by omega) (by omega) (by rw [hK, if_pos (Or.inr v)])⟩⟩, fun w => absurd w (by decide)⟩
    have hk0 : rightK u (nI c) (nI l) = 0 := by rw [hK, if_neg (fun h => by rcases h with h | h; exact x h; exact h v)]
    unfold F_X8_right_52
    refine m_holds 0 (by omega) (fun _ => ?_) (fun z => (z rfl).elim)
    rw [el]
    have e9 : up2 V 405 0 (nI 0) 426 l = u (90 + l) := by rw [up2_off _ _ _ (by omega)]; exact rfA_l q (i := 5) (by omega) hl
    refine ⟨vp_in_nI hl (by decide), vp_in_nI hl (by decide), ra_at (frA_up (frA_up (frA_rf V) (by omega)) (by omega)) (by rw [up2_off _ _ _ (by omega), up2_same]) hk0 e9 ?_⟩
    unfold rightN
    rw [if_pos hk0, ec, el]
    exact rfA_arr (rfA_th q) 5 l (by omega) hl (nI c)
theorem m_call (q : rfA V u) (G : GdA u) (l : Int32) : RA J mX8_call [.ref 405, .int l] V (callK u l) (nI (baseF l.toNatClampNeg)) (fun V' => rfA V' (callN u l)) := by
  have bad : ∀ j, j ≠ 0 → j < 100 → callK u l = j → F_X8_call_37 J l (nI j) V (ROg frA V (callK u l) (nI (baseF l.toNatClampNeg)) (fun V' => rfA V' (callN u l))) NX := by
    intro j hj hj1 hjj
    unfold F_X8_call_37
    refine m_holds j hj1 (fun z => (hj z).elim) (fun _ => ?_)
    rw [hjj]
    refine ra_bad (u := u) hj ?_
    unfold callN
    rw [if_neg (by omega)]
    exact rfA_th q
  refine v_X8_call l (rd_b (k8_isLot J l V) ⟨fun y => ?_, fun y => bad 1 (by omega) (by omega) (by unfold callK; rw [if_pos y])⟩)
  have hK : callK u l = if u 120 ≠ -1 ∨ u (30 + l.toNatClampNeg) ≠ -1 then 2 else 0 := by unfold callK; rw [if_neg (by rw [y]; decide)]
  obtain ⟨l, hl, rfl⟩ := isIx_ex (by omega) y
  have el : (nI l).toNatClampNeg = l := ccl (by omega)
  rw [el] at hK bad
  unfold F_X8_call_32
  rw [show V 405 33 = u 120 from q.2 0 (by omega), el, show V 424 l = u (30 + l) from rfA_l q (i := 3) (by omega) hl]
  refine ⟨fun x => bad 2 (by omega) (by omega) (by rw [hK, if_pos (Or.inl x)]), fun x => ⟨vp_in_nI hl (by decide), fun v => ?_, fun v => bad 2 (by omega) (by omega) (by rw [hK, if_pos (Or.inr v)])⟩⟩
  have hk0 : callK u (nI l) = 0 := by rw [hK, if_neg (fun h => by rcases h with h | h; exact h x; exact h v)]
  unfold F_X8_call_37
  refine m_holds 0 (by omega) (fun _ => rd_i (m_baseOf l hl) ?_) (fun z => (z rfl).elim)
  refine ra_at (frA_up (frA_up (frA_up (frA_up (frA_up (frA_up (frA_rf V) (by omega)) (by omega)) (by omega)) (by omega)) (by omega)) (by omega)) ?_ hk0 rfl ?_
  · rw [up2_ne _ _ (Or.inr (by omega)), up2_ne _ _ (Or.inr (by omega)), up2_ne _ _ (Or.inr (by omega)), up2_ne _ _ (Or.inr (by omega)), up2_ne _ _ (Or.inr (by omega)), up2_same]
  · unfold callN callF
    rw [if_pos hk0, el]
    exact rfA_fld (rfA_fld (rfA_fld (rfA_fld (rfA_fld (rfA_th q) 0 (by omega) (nI l)) 1 (by omega) 0) 2 (by omega) 0) 3 (by omega) (-1)) 4 (by omega) 0
theorem m_bid (q : rfA V u) (G : GdA u) (c x : Int32) : RA J mX8_bid [.ref 405, .int c, .int x] V (bidK u c x) (u 121 + 1) (fun V' => rfA V' (bidN u c x)) := by
  have bad : ∀ j, j ≠ 0 → j < 100 → bidK u c x = j → F_X8_bid_28 J c x (nI j) V (ROg frA V (bidK u c x) (u 121 + 1) (fun V' => rfA V' (bidN u c x))) NX := by
    intro j hj hj1 hjj
    unfold F_X8_bid_28
    refine m_holds j hj1 (fun z => (hj z).elim) (fun _ => ?_)
    rw [hjj]
    refine ra_bad (u := u) hj ?_
    unfold bidN
    rw [if_neg (by omega)]
    exact rfA_th q
  refine v_X8_bid c x (rd_b (k8_isClub J c V) ⟨fun z => rd_b (k8_in J x 1 1000 V) ⟨fun y => ?_, fun y => bad 2 (by omega) (by omega) (by unfold bidK; rw [if_neg (by rw [z]; decide), if_pos y])⟩, fun z => bad 1 (by omega) (by omega) (by unfold bidK; rw [if_pos z])⟩)
  have hK : bidK u c x = if bidG u c.toNatClampNeg x = false then 3 else 0 := by unfold bidK; rw [if_neg (by rw [z]; decide), if_neg (by rw [y]; decide)]
  obtain ⟨c, hc, rfl⟩ := isIx_ex (by omega) z
  obtain ⟨n, hn1, hn2, rfl⟩ := inB_nI (a := 1) (b := 1000) (by omega) y (by omega)
  have ec : (nI c).toNatClampNeg = c := ccl (by omega)
  rw [ec] at hK
  unfold F_X8_bid_28
  refine m_holds 0 (by omega) (fun _ => ?_) (fun z => (z rfl).elim)
  have q0 := rfA_th (x := nI 0) q
  have t0 : up2 V 405 0 (nI 0) 405 0 = nI 0 := up2_same _ _ _ _
  have f0 : frA V (up2 V 405 0 (nI 0)) := frA_up (frA_rf V) (by omega)
  generalize up2 V 405 0 (nI 0) = W at q0 t0 f0 ⊢
  have no : bidG u c (nI n) = false → F_X8_bid_97 J (nI c) (nI n) 1 W (ROg frA V (bidK u (nI c) (nI n)) (u 121 + 1) (fun V' => rfA V' (bidN u (nI c) (nI n)))) NX := by
    intro h
    have hk : bidK u (nI c) (nI n) = 3 := by rw [hK, if_pos h]
    unfold F_X8_bid_97 F_X8_bid_108
    refine ⟨fun w => absurd w (by decide), fun _ => m_holds 3 (by omega) (fun w => absurd w (by decide)) (fun _ => ?_)⟩
    rw [hk]
    refine ⟨⟨0, rfl, fun w => absurd w (by decide)⟩, frA_up f0 (by omega), up2_same _ _ _ _, ?_⟩
    unfold bidN
    rw [if_neg (by omega)]
    exact rfA_th q0
  unfold F_X8_bid_92
  have w33 : W 405 33 = u 120 := q0.2 0 (by omega)
  have w34 : W 405 34 = u 121 := q0.2 1 (by omega)
  have w35 : W 405 35 = u 122 := q0.2 2 (by omega)
  have w37 : W 405 37 = u 124 := q0.2 4 (by omega)
  rw [w33, w37]
  refine ⟨fun h => no (by unfold bidG; rw [decide_eq_false (fun w => w.1 h)]; rfl), fun h1 => ⟨fun h => no (by unfold bidG; rw [decide_eq_false (fun w => h w.2)]; rfl), fun h2 => ?_⟩⟩
  have G1 := G.1
  rcases G1 with G1 | ⟨l, hl, hul, b, hb, hb1, hbb⟩
  · exact (h1 G1).elim
  have hG : bidG u c (nI n) = (decide (¬ nI n < leastF u) && canF u c (nI n) l) := by
    unfold bidG
    rw [decide_eq_true ⟨h1, h2⟩, Bool.true_and, hul, ccl (by omega)]
  have bl : baseF l ≤ 50 := by unfold baseF; repeat' split
                               all_goals omega
  have L79 : ¬ nI n < leastF u → F_X8_bid_79 J (nI c) (nI n) W (ROg frA V (bidK u (nI c) (nI n)) (u 121 + 1) (fun V' => rfA V' (bidN u (nI c) (nI n)))) NX := by
    intro hle
    unfold F_X8_bid_79 F_X8_bid_92
    rw [w33, hul]
    refine rd_b (m_canBid q0 c l hc hl (nI n)) ⟨fun h => ?_, fun h => no (by rw [hG, h, Bool.and_false])⟩
    have hk0 : bidK u (nI c) (nI n) = 0 := by rw [hK, hG, decide_eq_true hle, h]; rfl
    unfold F_X8_bid_97 F_X8_bid_108
    refine ⟨fun _ => m_holds 0 (by omega) (fun _ => ?_) (fun z => (z rfl).elim), fun z => (z rfl).elim⟩
    have e34 : up2 (up2 (up2 W 405 0 (nI 0)) 405 35 (nI n)) 405 36 (nI c) 405 34 = u 121 := by
      rw [up2_ne _ _ (Or.inr (by omega)), up2_ne _ _ (Or.inr (by omega)), up2_ne _ _ (Or.inr (by omega)), w34]
    rw [e34]
    refine ra_at (frA_up (frA_up (frA_up (frA_up f0 (by omega)) (by omega)) (by omega)) (by omega)) ?_ hk0 (up2_same _ _ _ _) ?_
    · rw [up2_ne _ _ (Or.inr (by omega)), up2_ne _ _ (Or.inr (by omega)), up2_ne _ _ (Or.inr (by omega)), up2_same]
    · unfold bidN bidF
      rw [if_pos hk0, ec]
      exact rfA_fld (rfA_fld (rfA_fld (rfA_th q0) 2 (by omega) (nI n)) 3 (by omega) (nI c)) 1 (by omega) (u 121 + 1)
  rw [hul]
  refine rd_i (m_baseOf l hl) ?_
  have eb : (u 121 ≤ 0) ↔ b ≤ 0 := by rw [hb, nI_0', cle (by omega) (by omega)]
  rw [w34, w35, clt (by omega) (by omega), eb]
  have hle : leastF u = if b = 0 then nI (baseF l) else u 122 + 5 := by
    unfold leastF
    rw [hb, hul, ccl (by omega)]
    by_cases h : b = 0
    · rw [if_pos h, if_pos (by rw [h]; rfl)]
    · rw [if_neg h, if_neg (fun z => h (by rwa [nI_0', ceq (by omega) (by omega)] at z))]
  refine ⟨fun h => no ?_, fun h => ⟨fun h3 => L79 ?_, fun h3 => ?_⟩⟩
  · rw [hG, hle]
    by_cases h0 : b = 0
    · rw [if_pos h0, decide_eq_false (fun z => z ((clt (by omega) (by omega)).mpr h))]; rfl
    · obtain ⟨hh, cc, e1, e2, e3, e4, -⟩ := hbb h0
      rw [if_neg h0, e1, show (5 : Int32) = nI 5 from rfl, nI_add, decide_eq_false (fun z => z ((clt (by omega) (by omega)).mpr (by omega)))]; rfl
  · rw [hle, if_pos (by omega), clt (by omega) (by omega)]; exact h
  · obtain ⟨hh, cc, e1, e2, e3, e4, -⟩ := hbb (by omega)
    rw [if_neg (by omega)] at hle
    refine ⟨fun h4 => no ?_, fun h4 => L79 ?_⟩
    · rw [hG, hle, decide_eq_false (fun z => z h4)]; rfl
    · rw [hle]; exact h4
end Mde
