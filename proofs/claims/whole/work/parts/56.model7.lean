/-! the reference: a step, a card, a change -/
theorem i_tell (a b c d : Nat) : 10 * (nI c - nI a) + nI d - nI b = nI (10 * c + d) - nI (10 * a + b) := by
  rw [← nI_add, ← nI_add, ← nI_mul, ← nI_mul, show (10 : Int32) = nI 10 from rfl, Int32.mul_sub, Int32.sub_eq_add_neg, Int32.sub_eq_add_neg, Int32.sub_eq_add_neg, Int32.neg_add, Int32.sub_eq_add_neg]
  rw [Int32.add_assoc, Int32.add_assoc, Int32.add_assoc]
  congr 1
  rw [← Int32.add_assoc, Int32.add_comm (-(nI 10 * nI a)), Int32.add_assoc]
theorem rf_put {V V' Vb : Mem} {s s' : Ms} {E : Evs} {n : Nat} {e : Ev} (m : rfM V s E) (h0 : s 0 = 1) (hn : n = s 2 - s 1) (s2 : s' 2 = n + 1) (s1 : s' 1 = 0) (so : ∀ j, j ≠ 1 → j ≠ 2 → s' j = s j)
    (v1 : V' 405 1 = V 405 1) (v2 : V' 405 2 = V 405 2) (v5 : V' 405 5 = V 405 5) (v3 : V' 405 3 = nI 0) (v7 : V' 405 7 = nI (n + 1)) (c6 : V' 406 = V 406) (c7 : V' 407 = V 407)
    (old : ∀ k, k < n → mdE V' k (E k)) (new : mdE V' n e) (b7 : Vb 417 = V 417) (b8 : Vb 418 = V 418) (no : noP Vb V' n (playF (runE E n) e)) (q : sOK V' (playF (runE E n) e)) : rfM V' s' (up1 E n e) := by
  obtain ⟨⟨a1, a2, a3⟩, b, c, d, f⟩ := m.2.2 h0
  have o : ∀ k, k < n → up1 E n e k = E k := fun k hk => up1_off _ _ (by omega)
  have rm : runE (up1 E n e) n = runE E n := runE_cg o
  have rs : runE (up1 E n e) (n + 1) = playF (runE E n) e := by
    show playF (runE (up1 E n e) n) (up1 E n e n) = _
    rw [rm, up1_at]
  refine ⟨by rw [v1, so 6 (by omega) (by omega)]; exact m.1, by rw [v2, so 0 (by omega) (by omega)]; exact m.2.1, fun _ => ⟨⟨by rw [v3, s1], by rw [v5, so 5 (by omega) (by omega)]; exact a2, by rw [v7, s2]⟩, ?_, ?_, ?_, ?_⟩⟩
  · rw [c6, c7, so 3 (by omega) (by omega), so 4 (by omega) (by omega), so 7 (by omega) (by omega), so 8 (by omega) (by omega)]; exact b
  · intro k hk
    by_cases hk2 : k = n
    · subst hk2; rw [up1_at]; exact new
    · rw [o k (by omega)]; exact old k (by omega)
  · rw [s2, s1, Nat.sub_zero]
    intro k hk a ha
    by_cases hk2 : k = n
    · subst hk2; rw [rs]; exact no.1 a ha
    · obtain ⟨g1, g2⟩ := no.2 (2 * k + a) (by omega) (by omega)
      rw [g1, g2, b7, b8]
      exact mdN_cg d (F := up1 E n e) (fun j hj => (o j (by omega)).symm) k (by omega) a ha
  · show sOK V' (runE (up1 E n e) (s' 2 - s' 1))
    rw [s2, s1, Nat.sub_zero, rs]; exact q
section Md8
variable {J : Nat → Nat → Int64} {V : Mem} {s : Ms} {E : Evs}
theorem ad_follow (m : rfM V s E) (G : Gd s E) (h0 : s 0 = 1) (h1 : s 1 = 0) (h60 : s 2 < 60) (t a p d : Nat) (ht : t = 1 ∨ t = 2) (ha : a < 2) (hp : p < 10) (hd : d < 10) (h3 : t = 1 → d < 3) (hs : standsF (nowF s E) (evNew t a p d)) {Q B : Mem → Prop} {Qx : String → Mem → Prop}
    (k : ∀ V', frM V V' → V' 405 0 = V 405 0 → rfM V' (up1 s 2 (s 2 + 1)) (up1 E (s 2) (evNew t a p d)) → sOK V' (playF (nowF s E) (evNew t a p d)) → Q V') :
    CTc J mX8_adds [.ref 405, .int (nI t), .int (nI a), .int (nI p), .int (nI d)] V (fun r V2 => ∃ r2 : Int32, r = some (.int r2) ∧ CTc J mX8_follows [.ref 405, .int r2] V2 (fun r V3 => ∃ b3 : Bool, r = some (.int (bI b3)) ∧ (b3 = false → B V3) ∧ (b3 = true → Q V3)) Qx) Qx := by
  obtain ⟨w, hb, hr, -⟩ := Gd_run G
  have hg := G.2.2.2.2.2.2.2.1 h0
  obtain ⟨⟨a1, a2, a3⟩, b, c, dd, e⟩ := m.2.2 h0
  have hnow : nowF s E = runE E (s 2) := by unfold nowF; rw [h1, Nat.sub_zero]
  refine m_adds a3 h60 _ _ _ _ (fun V2 hV => ?_)
  have evn := ad_new hV (evNew t a p d) rfl (if_neg (show t ≠ 0 by omega)) (fun _ => ⟨rfl, rfl⟩) rfl
  have q2 : sOK V2 (nowF s E) := sOK_off e (hV.1 416 (by omega))
  have z : standB (nowF s E) (evNew t a p d) = true := standB_t.mpr hs
  refine CTc_nx (m_follows q2 w hb hr evn h60 (evR_new ht ha hp hd h3) (s 5) (by rw [hV.2.1, up1_off _ _ (by omega)]; exact a2) (by omega) (fun y => by have y : t = 0 := y; omega)) (fun v V3 hv => ⟨true, by rw [hv.1, z], fun y => Bool.noConfusion y, fun _ => ?_⟩)
  obtain ⟨p1, p2, p3⟩ := hv.2
  rw [z, if_pos rfl] at p2 p3
  have g5 := p1 405 (by omega)
  refine k V3 (frM_tr (ad_fr hV) (frM_of p1 (by omega))) (by rw [g5, hV.2.1, up1_off _ _ (by omega)]) ?_ p2
  rw [hnow] at p2 p3
  refine rf_put m h0 (show s 2 = s 2 - s 1 by omega) (up1_at _ _ _) (by rw [up1_off _ _ (by omega)]; exact h1) (fun j hj1 hj2 => up1_off _ _ hj2) ?_ ?_ ?_ ?_ ?_ ?_ ?_ (fun k hk => mdE_off (ad_old hV (by omega) (c k hk)) (fun x h1 h2 => p1 x (by omega))) (mdE_off evn (fun x h1 h2 => p1 x (by omega))) (hV.1 417 (by omega)) (hV.1 418 (by omega)) p3 p2
  · rw [g5, hV.2.1, up1_off _ _ (by omega)]
  · rw [g5, hV.2.1, up1_off _ _ (by omega)]
  · rw [g5, hV.2.1, up1_off _ _ (by omega)]
  · rw [g5, hV.2.1, up1_off _ _ (by omega), a1, h1]
  · rw [g5, hV.2.1, up1_at]
  · rw [p1 406 (by omega), hV.1 406 (by omega)]
  · rw [p1 407 (by omega), hV.1 407 (by omega)]
theorem m_card (m : rfM V s E) (G : Gd s E) (a p k : Int32) : RO J mX8_card [.ref 405, .int a, .int p, .int k] V (cardK s E a p k) (cardV s E a p k) (fun V' => rfX V' (cardN s E a p k)) := by
  obtain ⟨w, hb, hr, -⟩ := Gd_run G
  have bad : ∀ j, j ≠ 0 → j < 100 → cardK s E a p k = j → F_X8_card_66 J a p k (nI j) V (ROp V (cardK s E a p k) (cardV s E a p k) (fun V' => rfX V' (cardN s E a p k))) NX := by
    intro j hj hj1 hjj
    unfold F_X8_card_66
    refine m_holds j hj1 (fun z => (hj z).elim) (fun _ => ?_)
    rw [hjj]
    refine ro_bad (frM_rf _) hj ?_
    unfold cardN
    rw [if_neg (by omega)]
    exact rfM_th m
  refine v_X8_card a p k (rd_b (k8_isSide J a V) ⟨fun z => ?_, fun z => rd_b (k8_isPlayer J p V) ⟨fun z2 => ?_, fun z2 => ?_⟩⟩)
  · exact ⟨fun w => (w rfl).elim, fun _ => bad 1 (by omega) (by omega) (by unfold cardK; rw [if_pos (Or.inl z)])⟩
  · exact ⟨fun w => (w rfl).elim, fun _ => bad 1 (by omega) (by omega) (by unfold cardK; rw [if_pos (Or.inr z2)])⟩
  · unfold F_X8_card_19 F_X8_card_61
    refine ⟨fun _ => rd_b (k8_in J k 0 2 V) ⟨fun d => ?_, fun d => bad 2 (by omega) (by omega) (by unfold cardK; rw [if_neg (by rw [z, z2]; decide), if_pos d])⟩, fun w => absurd w (by decide)⟩
    obtain ⟨x, hx, rfl⟩ := isIx_ex (by omega) z
    obtain ⟨y, hy, rfl⟩ := isIx_ex (by omega) z2
    obtain ⟨c, -, hc, rfl⟩ := inB_nI (a := 0) (b := 2) (by omega) d (by omega)
    have e1 : (nI x).toNatClampNeg = x := ccl (by omega)
    have e2 : (nI y).toNatClampNeg = y := ccl (by omega)
    have e3 : (nI c).toNatClampNeg = c := ccl (by omega)
    have hK : cardK s E (nI x) (nI y) (nI c) = if cardB s E x y c = false then 3 else 0 := by
      unfold cardK
      rw [if_neg (by rw [z, z2]; decide), if_neg (by rw [d]; decide), e1, e2, e3]
    refine rd_b (m_isBetween m G) ⟨fun v => ?_, fun v => ?_⟩
    · refine bad 3 (by omega) (by omega) ?_
      rw [hK, if_pos]
      unfold cardB
      rw [v]; rfl
    · obtain ⟨v0, v1, v2⟩ := of_decide_eq_true v
      obtain ⟨⟨a1, a2, a3⟩, b, cc, dd, e⟩ := m.2.2 v0
      refine rd_b (m_canCard e w x y c hx hy (by omega)) ⟨fun u => ?_, fun u => ?_⟩
      · have hB : cardB s E x y c = true := by unfold cardB; rw [v]; exact u
        have hk0 : cardK s E (nI x) (nI y) (nI c) = 0 := by rw [hK, if_neg (by rw [hB]; decide)]
        have hs : standsF (nowF s E) (evNew 1 x y c) := standB_t.mp u
        unfold F_X8_card_66
        refine m_holds 0 (by omega) (fun _ => ?_) (fun z => (z rfl).elim)
        have e' : sOK (up2 V 405 0 (nI 0)) (nowF s E) := sOK_off e (up2_off _ _ _ (by omega))
        refine rd_i (m_colourFor e' x y c hx hy (by omega) ((wfM_at w hx).2.2.2.2.2.2.2 y hy)) ?_
        refine ad_follow (rfM_th (x := nI 0) m) G v0 v1 v2 1 x y c (Or.inl rfl) hx hy (by omega) (fun _ => by omega) hs (fun V' fr f0 m' q' => ?_)
        rw [hk0]
        refine ⟨⟨_, rfl, fun _ => ?_⟩, frM_tr (frM_up (frM_rf V) (by omega)) fr, by rw [f0]; exact up2_same _ _ _ _, ?_⟩
        · unfold cardV; rw [e1, e2, e3]
        · unfold cardN; rw [if_pos hk0, e1, e2, e3]; exact m'
      · refine bad 3 (by omega) (by omega) ?_
        rw [hK, if_pos]
        unfold cardB
        rw [v]; exact u
theorem m_change (m : rfM V s E) (G : Gd s E) (a p k : Int32) : RO J mX8_change [.ref 405, .int a, .int p, .int k] V (swapK s E a p k) (swapV s E a) (fun V' => rfX V' (swapN s E a p k)) := by
  obtain ⟨w, hb, hr, -⟩ := Gd_run G
  have bad : ∀ j, j ≠ 0 → j < 100 → swapK s E a p k = j → F_X8_change_60 J a p k (nI j) V (ROp V (swapK s E a p k) (swapV s E a) (fun V' => rfX V' (swapN s E a p k))) NX := by
    intro j hj hj1 hjj
    unfold F_X8_change_60
    refine m_holds j hj1 (fun z => (hj z).elim) (fun _ => ?_)
    rw [hjj]
    refine ro_bad (frM_rf _) hj ?_
    unfold swapN
    rw [if_neg (by omega)]
    exact rfM_th m
  refine v_X8_change a p k (rd_b (k8_isSide J a V) ⟨fun z => ?_, fun z => rd_b (k8_isPlayer J p V) ⟨fun z2 => ?_, fun z2 => rd_b (k8_isPlayer J k V) ⟨fun z3 => ?_, fun z3 => ?_⟩⟩⟩)
  · exact ⟨fun w => (w rfl).elim, fun _ => bad 1 (by omega) (by omega) (by unfold swapK; rw [if_pos (Or.inl z)])⟩
  · exact ⟨fun w => (w rfl).elim, fun _ => bad 1 (by omega) (by omega) (by unfold swapK; rw [if_pos (Or.inr (Or.inl z2))])⟩
  · exact ⟨fun w => (w rfl).elim, fun _ => bad 1 (by omega) (by omega) (by unfold swapK; rw [if_pos (Or.inr (Or.inr z3))])⟩
  · unfold F_X8_change_26 F_X8_change_55
    obtain ⟨x, hx, rfl⟩ := isIx_ex (by omega) z
    obtain ⟨y, hy, rfl⟩ := isIx_ex (by omega) z2
    obtain ⟨c, hc, rfl⟩ := isIx_ex (by omega) z3
    have e1 : (nI x).toNatClampNeg = x := ccl (by omega)
    have e2 : (nI y).toNatClampNeg = y := ccl (by omega)
    have e3 : (nI c).toNatClampNeg = c := ccl (by omega)
    have hK : swapK s E (nI x) (nI y) (nI c) = if swapB s E x y c = false then 2 else 0 := by
      unfold swapK
      rw [if_neg (by rw [z, z2, z3]; decide), e1, e2, e3]
    refine ⟨fun _ => rd_b (m_isBetween m G) ⟨fun v => ?_, fun v => ?_⟩, fun w => absurd w (by decide)⟩
    · refine bad 2 (by omega) (by omega) ?_
      rw [hK, if_pos]
      unfold swapB
      rw [v]; rfl
    · obtain ⟨v0, v1, v2⟩ := of_decide_eq_true v
      obtain ⟨⟨a1, a2, a3⟩, b, cc, dd, e⟩ := m.2.2 v0
      refine rd_b (m_canChange e w x y c hx hy hc) ⟨fun u => ?_, fun u => ?_⟩
      · have hB : swapB s E x y c = true := by unfold swapB; rw [v]; exact u
        have hk0 : swapK s E (nI x) (nI y) (nI c) = 0 := by rw [hK, if_neg (by rw [hB]; decide)]
        have hs : standsF (nowF s E) (evNew 2 x y c) := standB_t.mp u
        unfold F_X8_change_60
        refine m_holds 0 (by omega) (fun _ => ?_) (fun z => (z rfl).elim)
        refine ad_follow (rfM_th (x := nI 0) m) G v0 v1 v2 2 x y c (Or.inr rfl) hx hy (by omega) (fun z => by omega) hs (fun V' fr f0 m' q' => ?_)
        have e9 : playF (nowF s E) (evNew 2 x y c) (102 + x) = nowF s E (102 + x) + 1 := by
          show sgSwap (nowF s E) x y c (102 + x) = _
          unfold sgSwap
          rw [up1_at]
        rw [hk0, i102, ccl (n := 102 + x) (by omega), q' (102 + x) (by omega), e9]
        refine ⟨s110 (by omega), ⟨_, rfl, fun _ => ?_⟩, frM_tr (frM_up (frM_rf V) (by omega)) fr, by rw [f0]; exact up2_same _ _ _ _, ?_⟩
        · unfold swapV; rw [e1]
        · unfold swapN; rw [if_pos hk0, e1, e2, e3]; exact m'
      · refine bad 2 (by omega) (by omega) ?_
        rw [hK, if_pos]
        unfold swapB
        rw [v]; exact u
end Md8
