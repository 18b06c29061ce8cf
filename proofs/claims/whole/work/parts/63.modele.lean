/-! the reference: hammer, answer, lot, squad -/
theorem up1_cgj {α : Type} {f g : Nat → α} {k j : Nat} {x : α} (h : f j = g j) : up1 f k x j = up1 g k x j := by
  unfold up1
  split
  · rfl
  · exact h
theorem sellF_124 (u : Au) (c l : Nat) (hc : c < 8) : sellF (up1 u 124 0) c l = sellF u c l := by
  have h1 : up1 u 124 0 c = u c := up1_off _ _ (by omega)
  have h2 : up1 u 124 0 (10 + c) = u (10 + c) := up1_off _ _ (by omega)
  have h3 : up1 u 124 0 (20 + c) = u (20 + c) := up1_off _ _ (by omega)
  have h4 : up1 u 124 0 122 = u 122 := up1_off _ _ (by omega)
  funext j
  unfold sellF sell1
  rw [h1, h2, h3, h4]
  by_cases h : j = 124
  · subst h; rw [up1_at, up1_at]
  · rw [up1_off _ _ h, up1_off _ _ h]
    have hj : up1 u 124 0 j = u j := up1_off _ _ h
    split
    · exact up1_cgj (up1_cgj (up1_cgj (up1_cgj (up1_cgj (up1_cgj hj)))))
    · exact up1_cgj (up1_cgj (up1_cgj (up1_cgj (up1_cgj hj))))
section Mdf
variable {J : Nat → Nat → Int64} {V : Mem} {u : Au}
theorem m_hammer (q : rfA V u) (G : GdA u) : RA J mX8_hammer [.ref 405] V (hamK u) (strikeV u) (fun V' => rfA V' (hamN u)) := by
  have w33 : V 405 33 = u 120 := q.2 0 (by omega)
  have w37 : V 405 37 = u 124 := q.2 4 (by omega)
  have bad : hamK u = 1 → F_X8_hammer_21 J 1 V (ROg frA V (hamK u) (strikeV u) (fun V' => rfA V' (hamN u))) NX := by
    intro hjj
    unfold F_X8_hammer_21
    refine m_holds 1 (by omega) (fun z => absurd z (by decide)) (fun _ => ?_)
    rw [hjj]
    refine ra_bad (u := u) (k := 1) (by omega) ?_
    unfold hamN
    rw [if_neg (by omega)]
    exact rfA_th q
  refine v_X8_hammer ?_
  unfold F_X8_hammer F_X8_hammer_16
  rw [w33, w37]
  refine ⟨fun h => bad (by unfold hamK; rw [if_neg (fun w => w.1 h)]), fun h1 => ⟨fun h2 => ?_, fun h => bad (by unfold hamK; rw [if_neg (fun w => h w.2)])⟩⟩
  have hk0 : hamK u = 0 := by unfold hamK; rw [if_pos ⟨h1, h2⟩]
  have hN : hamN u = strikeF u := by unfold hamN; rw [if_pos hk0]
  rw [hN]
  obtain ⟨G1, g2, -⟩ := G
  rcases G1 with G1 | ⟨l, hl, hul, b, hb, hb1, hbb⟩
  · exact (h1 G1).elim
  have el : (u 120).toNatClampNeg = l := by rw [hul]; exact ccl (by omega)
  unfold F_X8_hammer_21
  refine m_holds 0 (by omega) (fun _ => ?_) (fun z => (z rfl).elim)
  have q0 := rfA_th (x := nI 0) q
  have t0 : up2 V 405 0 (nI 0) 405 0 = nI 0 := up2_same _ _ _ _
  have f0 : frA V (up2 V 405 0 (nI 0)) := frA_up (frA_rf V) (by omega)
  generalize up2 V 405 0 (nI 0) = W at q0 t0 f0 ⊢
  have x33 : W 405 33 = nI l := (q0.2 0 (by omega)).trans hul
  have x34 : W 405 34 = u 121 := q0.2 1 (by omega)
  have x35 : W 405 35 = u 122 := q0.2 2 (by omega)
  have x36 : W 405 36 = u 123 := q0.2 3 (by omega)
  have xr : W 426 l = u (90 + l) := rfA_l q0 (i := 5) (by omega) hl
  rw [x33, x34, x35, x36, ccl (n := l) (by omega), xr]
  refine ⟨fun hb0 => ⟨vp_in_nI hl (by decide), ?_⟩, fun hb0 => ?_⟩
  · have hbn : b ≠ 0 := fun z => hb0 (by rw [hb, z]; rfl)
    obtain ⟨h, c, hh, h5, hh1, hbs, hc8, h123⟩ := hbb hbn
    have ec : (u 123).toNatClampNeg = c := by rw [h123]; exact ccl (by omega)
    have hF : strikeF u = if strikeB u l c = true then up1 u 124 1 else sellF u c l := by unfold strikeF; rw [if_neg hb0, el, ec]
    have hV : strikeV u = if strikeB u l c = true then -1 else nI c := by unfold strikeV; rw [if_neg hb0, el, ec, h123]
    rw [hF, hV, h123]
    have sell : strikeB u l c = false → CTc J mX8_sells [.ref 405, .int (nI c)] W (fun r V2 => ∃ r2 : Int32, r = some (.int r2) ∧ ROg frA V (hamK u) (if strikeB u l c = true then -1 else nI c) (fun V' => rfA V' (if strikeB u l c = true then up1 u 124 1 else sellF u c l)) (some (.int r2)) V2) NX := by
      intro hs
      rw [hs]
      exact m_sells q0 c l hc8 hl hul (fun V' f' t' c' => ra_at (frA_tr f0 f') (by rw [t', t0]) hk0 rfl c')
    refine ⟨fun y => sell ?_, fun y => ⟨fun w => sell ?_, fun w => ?_⟩⟩
    · unfold strikeB; rw [decide_eq_false (fun v => v y)]; rfl
    · unfold strikeB; rw [decide_eq_false (p := u (90 + l) ≠ nI c) (fun v => v w), Bool.false_and, Bool.and_false]
    · rcases g2 l hl with v | ⟨d, hd, v⟩
      · exact (y v).elim
      · have hsb : strikeB u l c = canF u d (u 122) l := by
          unfold strikeB
          rw [decide_eq_true y, decide_eq_true w, v, ccl (by omega)]; rfl
        rw [v]
        refine rd_b (m_canBid q0 d l hd hl (u 122)) ⟨fun x => ?_, fun x => ?_⟩
        · rw [x36, h123]
          exact sell (by rw [hsb]; exact x)
        · rw [hsb, x, if_pos rfl, if_pos rfl]
          refine ra_at (frA_up f0 (by omega)) (by rw [up2_ne _ _ (Or.inr (by omega)), t0]) hk0 rfl ?_
          exact rfA_fld q0 4 (by omega) 1
  · have hF : strikeF u = up1 u 120 (-1) := by unfold strikeF; rw [if_pos hb0]
    have hV : strikeV u = -1 := by unfold strikeV; rw [if_pos hb0]
    rw [hF, hV]
    exact ra_at (frA_up f0 (by omega)) (by rw [up2_ne _ _ (Or.inr (by omega)), t0]) hk0 rfl (rfA_fld q0 0 (by omega) (-1))
theorem m_answer (q : rfA V u) (G : GdA u) (t : Bool) : RA J mX8_answer [.ref 405, .int (bI t)] V (ansK u) (settleC u t) (fun V' => rfA V' (ansN u t)) := by
  have w33 : V 405 33 = u 120 := q.2 0 (by omega)
  have w37 : V 405 37 = u 124 := q.2 4 (by omega)
  have bad : ansK u = 1 → F_X8_answer_21 J (bI t) 1 V (ROg frA V (ansK u) (settleC u t) (fun V' => rfA V' (ansN u t))) NX := by
    intro hjj
    unfold F_X8_answer_21
    refine m_holds 1 (by omega) (fun z => absurd z (by decide)) (fun _ => ?_)
    rw [hjj]
    refine ra_bad (u := u) (k := 1) (by omega) ?_
    unfold ansN
    rw [if_neg (by omega)]
    exact rfA_th q
  refine v_X8_answer _ ?_
  unfold F_X8_answer F_X8_answer_20
  rw [w33, w37]
  obtain ⟨G1, g2, g3⟩ := G
  refine ⟨fun h => bad ?_, fun h1 => ⟨fun h => bad (by unfold ansK; rw [if_neg (by rw [h]; decide)]), fun h2 => ?_⟩⟩
  · unfold ansK
    rcases g3 with g | ⟨-, g, -⟩
    · rw [if_neg (by rw [g]; decide)]
    · exact (g h).elim
  rcases g3 with g | ⟨g124, -, gb, l, hl, hul, gr⟩
  · exact (h2 g).elim
  have hk0 : ansK u = 0 := by unfold ansK; rw [if_pos g124]
  have el : (u 120).toNatClampNeg = l := by rw [hul]; exact ccl (by omega)
  rcases G1 with G1 | ⟨l2, hl2, hul2, b, hb, hb1, hbb⟩
  · exact (h1 G1).elim
  have hbn : b ≠ 0 := fun z => gb (by rw [hb, z]; rfl)
  obtain ⟨h, c, hh, h5, hh1, hbs, hc8, h123⟩ := hbb hbn
  rcases g2 l hl with v | ⟨d, hd, v⟩
  · exact (gr v).elim
  unfold F_X8_answer_21
  refine m_holds 0 (by omega) (fun _ => ?_) (fun z => (z rfl).elim)
  have q0 := rfA_th (x := nI 0) q
  have t0 : up2 V 405 0 (nI 0) 405 0 = nI 0 := up2_same _ _ _ _
  have f0 : frA V (up2 V 405 0 (nI 0)) := frA_up (frA_rf V) (by omega)
  generalize up2 V 405 0 (nI 0) = W at q0 t0 f0 ⊢
  have x33 : W 405 33 = nI l := (q0.2 0 (by omega)).trans hul
  have x36 : W 405 36 = u 123 := q0.2 3 (by omega)
  have xr : W 426 l = u (90 + l) := rfA_l q0 (i := 5) (by omega) hl
  rw [x33, ccl (n := l) (by omega), xr, v, show up2 W 426 l (-1) 405 = W 405 from up2_off _ _ _ (by omega), x36, h123]
  have q1 : rfA (up2 W 426 l (-1)) (up1 u (90 + l) (-1)) := rfA_arr q0 5 l (by omega) hl (-1)
  have hu1 : up1 u (90 + l) (-1) 120 = nI l := by rw [up1_off _ _ (by omega)]; exact hul
  have hN : ansN u t = sellF (up1 u (90 + l) (-1)) (settleC u t).toNatClampNeg l := by
    unfold ansN settleF
    rw [if_pos hk0, el]
    cases t with
    | true =>
      rw [show settleC u true = nI d by unfold settleC; rw [if_pos rfl, el, v], ccl (by omega), sellF_124 _ _ _ hd]
    | false =>
      rw [show settleC u false = nI c by unfold settleC; rw [if_neg (by decide), h123], ccl (by omega), sellF_124 _ _ _ hc8]
  rw [hN]
  have sell : ∀ z, z < 8 → settleC u t = nI z → CTc J mX8_sells [.ref 405, .int (nI z)] (up2 W 426 l (-1)) (fun r V2 => ∃ r2 : Int32, r = some (.int r2) ∧ ROg frA V (ansK u) (settleC u t) (fun V' => rfA V' (sellF (up1 u (90 + l) (-1)) (settleC u t).toNatClampNeg l)) (some (.int r2)) V2) NX := by
    intro z hz hs
    rw [hs, ccl (n := z) (by omega)]
    exact m_sells q1 z l hz hl hu1 (fun V' f' t' c' => ra_at (frA_tr (frA_up f0 (by omega)) f') (by rw [t', up2_off _ _ _ (by omega), t0]) hk0 rfl c')
  rw [bI_0]
  refine ⟨vp_in_nI hl (by decide), vp_in_nI hl (by decide), fun ht => sell c hc8 ?_, fun ht => sell d hd ?_⟩
  · unfold settleC; rw [ht, if_neg (by decide), h123]
  · have ht : t = true := by cases t <;> simp_all
    unfold settleC; rw [ht, if_pos rfl, el, v]
theorem m_lot (q : rfA V u) (G : GdA u) (l k : Int32) : RA J mX8_lot [.ref 405, .int l, .int k] V (twoK (isIx l 24) (isIx k 4)) (lotV u l.toNatClampNeg k.toNatClampNeg) (fun V' => rfA V' u) := by
  have bad : ∀ j, j ≠ 0 → j < 100 → twoK (isIx l 24) (isIx k 4) = j → F_X8_lot_26 J l k (nI j) V (ROg frA V (twoK (isIx l 24) (isIx k 4)) (lotV u l.toNatClampNeg k.toNatClampNeg) (fun V' => rfA V' u)) NX := by
    intro j hj hj1 hjj
    unfold F_X8_lot_26
    refine m_holds j hj1 (fun z => (hj z).elim) (fun _ => ?_)
    rw [hjj]
    exact ra_bad (u := u) hj (rfA_th q)
  refine v_X8_lot l k (rd_b (k8_isLot J l V) ⟨fun z => rd_b (k8_in J k 0 3 V) ?_, fun z => bad 1 (by omega) (by omega) (by rw [z]; rfl)⟩)
  rw [inB_ix (n := 4) rfl]
  refine ⟨fun y => bad 2 (by omega) (by omega) (by rw [z, y]; rfl), fun y => ?_⟩
  have hk0 : twoK (isIx l 24) (isIx k 4) = 0 := by rw [z, y]; rfl
  obtain ⟨l, hl, rfl⟩ := isIx_ex (by omega) z
  obtain ⟨k, hk, rfl⟩ := isIx_ex (by omega) y
  have q0 := rfA_th (x := nI 0) q
  have t0 : up2 V 405 0 (nI 0) 405 0 = nI 0 := up2_same _ _ _ _
  have f0 : frA V (up2 V 405 0 (nI 0)) := frA_up (frA_rf V) (by omega)
  unfold F_X8_lot_26
  refine m_holds 0 (by omega) (fun _ => ?_) (fun z => (z rfl).elim)
  generalize up2 V 405 0 (nI 0) = W at q0 t0 f0 ⊢
  have x33 : W 405 33 = u 120 := q0.2 0 (by omega)
  have x34 : W 405 34 = u 121 := q0.2 1 (by omega)
  have x35 : W 405 35 = u 122 := q0.2 2 (by omega)
  have y4 : W 424 l = u (30 + l) := rfA_l q0 (i := 3) (by omega) hl
  have y5 : W 425 l = u (60 + l) := rfA_l q0 (i := 4) (by omega) hl
  have y6 : W 426 l = u (90 + l) := rfA_l q0 (i := 5) (by omega) hl
  rw [ccl (n := l) (by omega), ccl (n := k) (by omega), x33, x34, x35, y4, y5, y6, nI_0', show (1 : Int32) = nI 1 from rfl, show (2 : Int32) = nI 2 from rfl, ceq (n := k) (k := 0) (by omega) (by omega), ceq (n := k) (k := 1) (by omega) (by omega), ceq (n := k) (k := 2) (by omega) (by omega)]
  have fin : ∀ x, x = lotV u l k → ROg frA V (twoK (isIx (nI l) 24) (isIx (nI k) 4)) (lotV u l k) (fun V' => rfA V' u) (some (.int x)) W := fun x hx => ra_at f0 t0 hk0 hx q0
  have l24 := vp_in_nI hl (show 24 < 2147483648 by decide)
  refine ⟨fun k0 => ⟨fun k1 => ⟨fun k2 => ⟨fun v => fin _ ?_, fun v => ⟨fun w => fin _ ?_, fun w => fin _ ?_⟩⟩, fun k2 => ⟨l24, fin _ ?_⟩⟩, fun k1 => ⟨l24, fin _ ?_⟩⟩, fun k0 => ⟨l24, fin _ ?_⟩⟩
  · unfold lotV; rw [if_neg k0, if_neg k1, if_neg k2, if_neg (fun z => v z.1)]; rfl
  · have hno : ¬ (u 120 = nI l ∧ u 121 ≠ 0) := by
      intro z
      rcases G.1 with G1 | ⟨l2, hl2, hul2, b, hb, hb1, hbb⟩
      · rw [G1] at v; exact nI_n1 (k := l) (by omega) v.symm
      · have w2 : u 121 ≤ nI 0 := w
        rw [hb, cle (by omega) (by omega)] at w2
        exact z.2 (by rw [hb, show b = 0 by omega]; rfl)
    unfold lotV; rw [if_neg k0, if_neg k1, if_neg k2, if_neg hno]; rfl
  · unfold lotV
    rw [if_neg k0, if_neg k1, if_neg k2, if_pos ⟨v, fun z => w (by rw [z]; decide)⟩]
  · unfold lotV; rw [if_neg k0, if_neg k1, if_pos k2]
  · unfold lotV; rw [if_neg k0, if_pos k1]
  · unfold lotV; rw [if_pos k0]
theorem m_squad (q : rfA V u) (c k : Int32) : RA J mX8_squad [.ref 405, .int c, .int k] V (twoK (isIx c 8) (isIx k 3)) (u (10 * k.toNatClampNeg + c.toNatClampNeg)) (fun V' => rfA V' u) := by
  have bad : ∀ j, j ≠ 0 → j < 100 → twoK (isIx c 8) (isIx k 3) = j → F_X8_squad_26 J c k (nI j) V (ROg frA V (twoK (isIx c 8) (isIx k 3)) (u (10 * k.toNatClampNeg + c.toNatClampNeg)) (fun V' => rfA V' u)) NX := by
    intro j hj hj1 hjj
    unfold F_X8_squad_26
    refine m_holds j hj1 (fun z => (hj z).elim) (fun _ => ?_)
    rw [hjj]
    exact ra_bad (u := u) hj (rfA_th q)
  refine v_X8_squad c k (rd_b (k8_isClub J c V) ⟨fun z => rd_b (k8_in J k 0 2 V) ?_, fun z => bad 1 (by omega) (by omega) (by rw [z]; rfl)⟩)
  rw [inB_ix (n := 3) rfl]
  refine ⟨fun y => bad 2 (by omega) (by omega) (by rw [z, y]; rfl), fun y => ?_⟩
  have hk0 : twoK (isIx c 8) (isIx k 3) = 0 := by rw [z, y]; rfl
  obtain ⟨c, hc, rfl⟩ := isIx_ex (by omega) z
  obtain ⟨k, hk, rfl⟩ := isIx_ex (by omega) y
  have q0 := rfA_th (x := nI 0) q
  have t0 : up2 V 405 0 (nI 0) 405 0 = nI 0 := up2_same _ _ _ _
  have f0 : frA V (up2 V 405 0 (nI 0)) := frA_up (frA_rf V) (by omega)
  unfold F_X8_squad_26
  refine m_holds 0 (by omega) (fun _ => ?_) (fun z => (z rfl).elim)
  generalize up2 V 405 0 (nI 0) = W at q0 t0 f0 ⊢
  have y1 : W 421 c = u (10 * 0 + c) := rfA_c q0 (i := 0) (by omega) hc
  have y2 : W 422 c = u (10 * 1 + c) := rfA_c q0 (i := 1) (by omega) hc
  have y3 : W 423 c = u (10 * 2 + c) := rfA_c q0 (i := 2) (by omega) hc
  rw [ccl (n := c) (by omega), ccl (n := k) (by omega), y1, y2, y3, nI_0', show (1 : Int32) = nI 1 from rfl, ceq (n := k) (k := 0) (by omega) (by omega), ceq (n := k) (k := 1) (by omega) (by omega)]
  have fin : ∀ x, x = u (10 * k + c) → ROg frA V (twoK (isIx (nI c) 8) (isIx (nI k) 3)) (u (10 * k + c)) (fun V' => rfA V' u) (some (.int x)) W := fun x hx => ra_at f0 t0 hk0 hx q0
  have c8 := vp_in_nI hc (show 8 < 2147483648 by decide)
  exact ⟨fun k0 => ⟨fun k1 => ⟨c8, fin _ (by rw [show k = 2 by omega])⟩, fun k1 => ⟨c8, fin _ (by rw [k1])⟩⟩, fun k0 => ⟨c8, fin _ (by rw [k0])⟩⟩
end Mdf
