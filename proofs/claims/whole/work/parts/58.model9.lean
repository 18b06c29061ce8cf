/-! the reference: the call of a step -/
theorem mdE_add {V V' : Mem} {n : Nat} {e : Ev} {x w t : Nat} (q : mdE V n e) (h9 : e 4 ≤ 9) (te : V' 413 (14 * n + e 4) = nI x ∧ V' 414 (14 * n + e 4) = wI w ∧ V' 415 (14 * n + e 4) = nI t) (f : ∀ y, 408 ≤ y → y < 412 → V' y = V y) (g : ∀ y, 413 ≤ y → y < 416 → V' y = V y) (h4 : V' 412 n = nI (e 4 + 1)) : mdE V' n (evAdd e x w t) := by
  obtain ⟨q1, q2, q3, q4, q5⟩ := q
  obtain ⟨a1, a2, a3, a4⟩ := evAdd_at e x w t (by omega)
  have o : ∀ j, j ≠ 4 → j ≠ 10 + e 4 → j ≠ 30 + e 4 → j ≠ 50 + e 4 → evAdd e x w t j = e j := fun j h1 h2 h3 h4 => evAdd_o h1 h2 h3 h4
  refine ⟨?_, ?_, fun h => ?_, ?_, fun k hk => ?_⟩
  · rw [f 408 (by omega) (by omega), o 0 (by omega) (by omega) (by omega) (by omega)]; exact q1
  · rw [f 409 (by omega) (by omega), o 0 (by omega) (by omega) (by omega) (by omega), o 1 (by omega) (by omega) (by omega) (by omega), o 2 (by omega) (by omega) (by omega) (by omega)]; exact q2
  · rw [o 0 (by omega) (by omega) (by omega) (by omega)] at h
    rw [f 410 (by omega) (by omega), f 411 (by omega) (by omega), o 2 (by omega) (by omega) (by omega) (by omega), o 3 (by omega) (by omega) (by omega) (by omega)]; exact q3 h
  · rw [h4, a1]
  · rw [a1] at hk
    by_cases hk2 : k = e 4
    · subst hk2; rw [a2, a3, a4]; exact te
    · rw [g 413 (by omega) (by omega), g 414 (by omega) (by omega), g 415 (by omega) (by omega), o (10 + k) (by omega) (by omega) (by omega) (by omega), o (30 + k) (by omega) (by omega) (by omega) (by omega), o (50 + k) (by omega) (by omega) (by omega) (by omega)]
      exact q5 k (by omega)
theorem runE_put (E : Evs) (n : Nat) (e : Ev) : runE (up1 E n e) (n + 1) = playF (runE E n) e := by
  show playF (runE (up1 E n e) n) (up1 E n e n) = _
  rw [runE_cg (E := up1 E n e) (F := E) (n := n) (fun k hk => up1_off _ _ (by omega)), up1_at]
section Mda
variable {J : Nat → Nat → Int64} {V : Mem} {s : Ms} {E : Evs}
theorem m_step (m : rfM V s E) (G : Gd s E) (k w t : Int32) : RO J mX8_step [.ref 405, .int k, .int w, .int t] V (stepK s E k w t) (stepV s E k w t) (fun V' => rfX V' (stepN s E k w t)) := by
  obtain ⟨w0, hb, hr, -⟩ := Gd_run G
  have bad : ∀ V1, frM V V1 → rfM V1 s E → ∀ j, j ≠ 0 → j < 100 → stepK s E k w t = j → F_X8_step_61 J k w t (nI j) V1 (ROp V (stepK s E k w t) (stepV s E k w t) (fun V' => rfX V' (stepN s E k w t))) NX := by
    intro V1 fr m1 j hj hj1 hjj
    unfold F_X8_step_61
    refine m_holds j hj1 (fun z => (hj z).elim) (fun _ => ?_)
    rw [hjj]
    refine ro_bad fr hj ?_
    unfold stepN
    rw [if_neg (by omega)]
    exact rfM_th m1
  have bad1 : (stepB k w 6 && inB t 1 300) = false → F_X8_step_33 J k w t V (ROp V (stepK s E k w t) (stepV s E k w t) (fun V' => rfX V' (stepN s E k w t))) NX := by
    intro hB
    exact ⟨fun z => (z rfl).elim, fun _ => bad V (frM_rf _) m 1 (by omega) (by omega) (by unfold stepK; rw [if_pos hB])⟩
  refine v_X8_step k w t (rd_b (k8_in J k 0 6 V) ⟨fun z => bad1 ?_, fun z => rd_b (m_isWho k w) ⟨fun z2 => bad1 ?_, fun z2 => rd_b (k8_in J t 1 300 V) ⟨fun z3 => bad1 ?_, fun z3 => ?_⟩⟩⟩)
  · unfold stepB; rw [z]; rfl
  · unfold stepB; rw [z, z2]; rfl
  · rw [z3, Bool.and_false]
  have hsb : stepB k w 6 = true := by unfold stepB; rw [z, z2]; rfl
  obtain ⟨x, v, hx, hv, hxv, rfl, rfl, hwN⟩ := stepB_of (b := 6) (by omega) hsb
  obtain ⟨n, hn1, hn2, rfl⟩ := inB_nI (a := 1) (b := 300) (by omega) z3 (by omega)
  have e1 : (nI x).toNatClampNeg = x := ccl (by omega)
  have e2 : (nI n).toNatClampNeg = n := ccl (by omega)
  have hK : stepK s E (nI x) (wI v) (nI n) = if tellB s E x v n = false then 2 else 0 := by unfold stepK; rw [if_neg (by rw [hsb, z3]; decide), e1, e2, hwN]
  unfold F_X8_step_34
  refine ⟨fun _ => ?_, fun z => absurd z (by decide)⟩
  refine CTc_nx (m_canTell m G x v n hx hv hxv hn1 hn2) (fun r V1 hr1 => ⟨_, hr1.1, ?_⟩)
  obtain ⟨-, fr, v5, ot, m1, te⟩ := hr1
  refine ⟨fun y => bad V1 fr m1 2 (by omega) (by omega) (by rw [hK, if_pos y]), fun y => ?_⟩
  have hk0 : stepK s E (nI x) (wI v) (nI n) = 0 := by rw [hK, if_neg (by rw [y]; decide)]
  have hs01 : s 0 = 1 ∧ s 1 = 1 := by
    have h := y
    unfold tellB at h
    rw [Bool.and_eq_true, decide_eq_true_eq] at h
    exact h.1
  obtain ⟨h0, h1⟩ := hs01
  have te := te h1
  have g2 := G.2.2.1
  obtain ⟨h2, hO, h9⟩ := evO_at G h1
  obtain ⟨GT, hen⟩ := Gd_tell G x v n hx hv hxv hn2 y
  have hN : rfX = fun V' (X : St) => rfM V' X.1 X.2 := rfl
  have hNN : stepN s E (nI x) (wI v) (nI n) = (tellS s x, tellE s E x v n) := by unfold stepN; rw [if_pos hk0, e1, e2, hwN]
  have hV : stepV s E (nI x) (wI v) (nI n) = tellR s E x v n := by unfold stepV; rw [e1, e2, hwN]
  rw [hk0, hNN, hV]
  have hnow : nowF s E = runE E (s 2 - 1) := by unfold nowF; rw [h1]
  unfold tellE
  unfold teP at te
  obtain ⟨⟨a1, a2, a3⟩, b, c, d, e⟩ := m1.2.2 h0
  unfold F_X8_step_61
  refine m_holds 0 (by omega) (fun _ => ?_) (fun z => (z rfl).elim)
  have a3' : up2 V1 405 0 (nI 0) 405 7 - 1 = nI (s 2 - 1) := by rw [up2_ne _ _ (Or.inr (by omega)), a3, nI_p1 h2]
  have hi2 : s 2 = s 2 - 1 + 1 := by omega
  rw [a3', ccl (n := s 2 - 1) (by omega)]
  have evi := c (s 2 - 1) (by omega)
  have e4 : up2 V1 405 0 (nI 0) 412 (s 2 - 1) + 1 = nI (E (s 2 - 1) 4 + 1) := by rw [up2_off _ _ _ (by omega), evi.2.2.2.1, nI_1]
  rw [e4]
  have o3 : ∀ y, y ≠ 405 → y ≠ 412 → up2 (up2 V1 405 0 (nI 0)) 412 (s 2 - 1) (nI (E (s 2 - 1) 4 + 1)) y = V1 y := fun y h1 h2 => by rw [up2_off _ _ _ h2, up2_off _ _ _ h1]
  have r5 : up2 (up2 V1 405 0 (nI 0)) 412 (s 2 - 1) (nI (E (s 2 - 1) 4 + 1)) 405 = up1 (V1 405) 0 (nI 0) := by rw [up2_off _ _ _ (by omega), up2_at]
  have r12 : up2 (up2 V1 405 0 (nI 0)) 412 (s 2 - 1) (nI (E (s 2 - 1) 4 + 1)) 412 = up1 (V1 412) (s 2 - 1) (nI (E (s 2 - 1) 4 + 1)) := by rw [up2_at, up2_off _ _ _ (by omega)]
  have fr3 : frM V (up2 (up2 V1 405 0 (nI 0)) 412 (s 2 - 1) (nI (E (s 2 - 1) 4 + 1))) := frM_up (frM_up fr (by omega)) (by omega)
  generalize up2 (up2 V1 405 0 (nI 0)) 412 (s 2 - 1) (nI (E (s 2 - 1) 4 + 1)) = V3 at o3 r5 r12 fr3 ⊢
  have evn : mdE V3 (s 2 - 1) (evAdd (E (s 2 - 1)) x v n) := by
    refine mdE_add evi h9 ?_ (fun y h1 h2 => o3 y (by omega) (by omega)) (fun y h1 h2 => o3 y (by omega) (by omega)) (by rw [r12, up1_at])
    rw [o3 413 (by omega) (by omega), o3 414 (by omega) (by omega), o3 415 (by omega) (by omega)]
    exact te
  have old : ∀ k, k < s 2 - 1 → mdE V3 k (E k) := fun k hk => mdE_keep (c k (by omega)) (fun y h1 h2 => by
    by_cases h12 : y = 412
    · subst h12; rw [r12, up1_off _ _ (by omega)]
    · rw [o3 y (by omega) h12]) (fun y h1 h2 j hj => by rw [o3 y (by omega) (by omega)])
  have q3 : sOK V3 (nowF s E) := sOK_off e (o3 416 (by omega) (by omega))
  rw [show (3 : Int32) = nI 3 from rfl, cle (by omega) (by omega)]
  refine ⟨s60 (by omega), s60 (by omega), fun z => ?_, fun z => ?_⟩
  · obtain ⟨eR, eS⟩ := hen z
    have ht := turnF_lt (nowF s E)
    refine rd_i (m_turn q3 hr) ?_
    rw [i104, i105 _ ht, ccl (n := 104 + turnF (nowF s E)) (by omega), ccl (n := 104 + (1 - turnF (nowF s E))) (by omega), q3 (104 + turnF (nowF s E)) (by omega), q3 (104 + (1 - turnF (nowF s E))) (by omega)]
    have e00 : evAdd (E (s 2 - 1)) x v n 0 = 0 := by rw [evAdd_o (by omega) (by omega) (by omega) (by omega)]; exact hO.1
    have eS' := eS
    unfold standsF at eS'
    rw [if_neg (by omega), if_neg (by omega)] at eS'
    have hp : playF (nowF s E) (evAdd (E (s 2 - 1)) x v n) = raidF (nowF s E) (evAdd (E (s 2 - 1)) x v n) := by unfold playF; rw [if_neg (by omega), if_neg (by omega)]
    have wst := wfM_play w0 eR eS
    refine ⟨s110 (by omega), s110 (by omega), wr_use (m_endsRaid q3 w0 hb hr evn (by omega) eR.2.1 e00 (eR.2.2.2.2.2.2 e00).1 eR.2.2.2.1 eS'.1 eS'.2) (fun V4 f4 q4 => ?_)⟩
    rw [← hp] at q4
    refine notesOf f4 q4 wst (by omega) (fun V5 h5 => ?_)
    obtain ⟨p1, p2, p3⟩ := h5
    have g5 := p1 405 (by omega)
    have pn : up2 V5 405 3 0 416 = V5 416 := up2_off _ _ _ (by omega)
    rw [pn, p2 (104 + turnF (nowF s E)) (by omega), p2 (104 + (1 - turnF (nowF s E))) (by omega), i_tell]
    have hrun : nowF (tellS s x) (up1 E (s 2 - 1) (evAdd (E (s 2 - 1)) x v n)) = playF (nowF s E) (evAdd (E (s 2 - 1)) x v n) := by
      unfold nowF tellS
      rw [if_neg (by omega)]
      have hq : up1 s 1 0 2 - up1 s 1 0 1 = s 2 - 1 + 1 := by rw [up1_off _ _ (by omega), up1_at]; omega
      rw [hq, runE_put, show s 2 - s 1 = s 2 - 1 by omega]
    refine ⟨s110 (by omega), s110 (by omega), ⟨_, rfl, fun _ => ?_⟩, frM_up (frM_tr fr3 (frM_of p1 (by omega))) (by omega), by rw [up2_ne _ _ (Or.inr (by omega)), g5, r5, up1_at], ?_⟩
    · unfold tellR tellE
      rw [if_neg (by omega), hrun]
    · show rfM (up2 V5 405 3 0) (tellS s x) (up1 E (s 2 - 1) (evAdd (E (s 2 - 1)) x v n))
      unfold tellS
      rw [if_neg (by omega)]
      rw [hnow] at p2 p3
      have ou : ∀ y, y ≠ 405 → up2 V5 405 3 0 y = V5 y := fun y hy => up2_off _ _ _ hy
      refine rf_put (Vb := V3) m1 h0 (show s 2 - 1 = s 2 - s 1 by omega) (by rw [up1_off _ _ (by omega)]; exact hi2) (up1_at _ _ _) (fun j hj1 hj2 => up1_off _ _ hj1) ?_ ?_ ?_ ?_ ?_ ?_ ?_ (fun k hk => mdE_off (old k hk) (fun y h1 h2 => by rw [ou y (by omega)]; exact p1 y (by omega))) (mdE_off evn (fun y h1 h2 => by rw [ou y (by omega)]; exact p1 y (by omega))) (o3 417 (by omega) (by omega)) (o3 418 (by omega) (by omega)) ?_ (sOK_off p2 pn)
      · rw [up2_ne _ _ (Or.inr (by omega)), g5, r5, up1_off _ _ (by omega)]
      · rw [up2_ne _ _ (Or.inr (by omega)), g5, r5, up1_off _ _ (by omega)]
      · rw [up2_ne _ _ (Or.inr (by omega)), g5, r5, up1_off _ _ (by omega)]
      · exact up2_same _ _ _ _
      · rw [up2_ne _ _ (Or.inr (by omega)), g5, r5, up1_off _ _ (by omega), a3, ← hi2]
      · rw [ou 406 (by omega), p1 406 (by omega), o3 406 (by omega) (by omega)]
      · rw [ou 407 (by omega), p1 407 (by omega), o3 407 (by omega) (by omega)]
      · unfold noP
        rw [ou 417 (by omega), ou 418 (by omega)]
        exact p3
  · refine ⟨⟨_, rfl, fun _ => ?_⟩, fr3, by rw [r5, up1_at], ?_⟩
    · unfold tellR; rw [if_pos (by omega)]
    · show rfM V3 (tellS s x) (up1 E (s 2 - 1) (evAdd (E (s 2 - 1)) x v n))
      unfold tellS
      rw [if_pos (by omega)]
      have on : ∀ k, k < s 2 - 1 → up1 E (s 2 - 1) (evAdd (E (s 2 - 1)) x v n) k = E k := fun k hk => up1_off _ _ (by omega)
      refine ⟨by rw [r5, up1_off _ _ (by omega)]; exact m1.1, by rw [r5, up1_off _ _ (by omega)]; exact m1.2.1, fun _ => ⟨⟨by rw [r5, up1_off _ _ (by omega)]; exact a1, by rw [r5, up1_off _ _ (by omega)]; exact a2, by rw [r5, up1_off _ _ (by omega)]; exact a3⟩, by rw [o3 406 (by omega) (by omega), o3 407 (by omega) (by omega)]; exact b, fun k hk => ?_, ?_, ?_⟩⟩
      · by_cases hk2 : k = s 2 - 1
        · subst hk2; rw [up1_at]; exact evn
        · rw [on k (by omega)]; exact old k (by omega)
      · exact mdN_cg (mdN_off d (fun y hy => o3 y (by omega) (by omega))) (fun k hk => (on k (by omega)).symm)
      · have hrun : nowF s (up1 E (s 2 - 1) (evAdd (E (s 2 - 1)) x v n)) = nowF s E := by
          unfold nowF
          exact runE_cg (fun k hk => on k (by omega))
        rw [hrun]; exact q3
end Mda
