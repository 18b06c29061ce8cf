/-! playing and standing, the class -/
theorem sgAdd_0 (σ : Sg) (k : Nat) : sgAdd σ k 0 = σ := by
  funext j
  unfold sgAdd up1
  split
  · next h => rw [h]; rfl
  · rfl
theorem mt_unt {V : Mem} {q a p t : Nat} {σ : Sg} (ha : a < 2) (hp : p < 10) (m : mtOK V q σ) (w : wfM σ) (h3 : σ (10 * a + p) ≠ 3) : mtOK V q (up1 σ (20 + 10 * a + p) t) :=
  mt_side ha m (offF_rf _ _ _) (sd_unt (mt_sd m ha) ha hp (wfS_m (wfM_at w ha)) h3) (fun j hj => up1_off _ _ (by unfold inSd at hj; omega)) (wfS_m (wfM_at w (by omega)))
theorem cnt_pos {σ : Sg} {a x p : Nat} (hp : p < 10) (h : σ (10 * a + p) = x) : cnt σ a x x ≠ 0 := by
  have h1 := cnt_up (σ := σ) (a := a) (x := x) (v := x + 1) hp
  rw [if_pos h, if_neg (by omega)] at h1
  omega
theorem stepsTo_has {e : Ev} {x : Nat} : ∀ {n}, (∀ k, k < n → e (10 + k) = x → e (30 + k) = 0) → (hasTo e x 0 n = true ↔ stepsTo e x n ≠ 0)
  | 0, _ => by simp [hasTo, stepsTo]
  | n + 1, h => by
    have ih := stepsTo_has (e := e) (x := x) (n := n) (fun k hk => h k (by omega))
    unfold hasTo stepsTo
    rw [Bool.or_eq_true, Bool.and_eq_true, decide_eq_true_eq, decide_eq_true_eq, ih]
    by_cases hx : e (10 + n) = x
    · have := h n (by omega) hx
      simp [hx, this]
    · simp [hx]
theorem steps_has {e : Ev} {x : Nat} (hw : evW e) (hx : x ≠ 0) : hasTo e x 0 (e 4) = true ↔ steps e x ≠ 0 := by
  refine stepsTo_has (fun k hk hk2 => ?_)
  obtain ⟨w1, w2, w3, w4⟩ := hw.2 k hk
  omega
theorem mt_ev {q h : Nat} (hq : isMats q) (hh : isEv h) : q + 13 ≤ h := by
  have h1 := hh.1
  rcases hq with rfl | rfl <;> omega
section MatP
variable {J : Nat → Nat → Int64} {V : Mem} {q h : Nat} {σ : Sg} {e : Ev}
theorem k4_playCard (hq : isMats q) (hh : isEv h) (m : mtOK V q σ) (w : wfM σ) (hb : bdd σ 700000) (ev : evOK V h e) (h1 : e 0 = 1) (ha : e 1 < 2) (hp : e 2 < 10) (hk : e 3 < 3) (h0 : σ (10 * e 1 + e 2) = 0) : WR J mX4_playCard [.ref q, .ref h] V q 13 (fun V' => mtOK V' q (cardF σ (e 1) (e 2) (e 3))) := by
  have hqh := mt_ev hq hh
  have wa := wfM_at w ha
  have h8 := wa.2.2.2.2.2.2.2 _ hp
  have hc := colF_lt _ h8 _ hk
  have hb8 := hb 108 (by omega)
  have hcd : cardF σ (e 1) (e 2) (e 3) = if colF (σ (40 + 10 * e 1 + e 2)) (e 3) = 0 then sgTake σ (e 1) (e 2) 0 0 else lookF (sgAdd (up1 (up1 (up1 σ (40 + 10 * e 1 + e 2) (orN (σ (40 + 10 * e 1 + e 2)) (colF (σ (40 + 10 * e 1 + e 2)) (e 3)))) (10 * e 1 + e 2) (if colF (σ (40 + 10 * e 1 + e 2)) (e 3) = 1 then 3 else 4)) (20 + 10 * e 1 + e 2) (σ 108 + 1200)) (104 + (1 - e 1)) (if colF (σ (40 + 10 * e 1 + e 2)) (e 3) = 2 then 1 else 0)) (e 1) := rfl
  refine v_X4_playCard q h hq hh ?_
  unfold F_X4_playCard
  obtain ⟨v5, v6, v7, v8, -, -⟩ := ev
  have v8 := v8 (by omega)
  rw [v6]
  refine k4_sideAt hq _ ha ?_
  rw [v7, v8]
  refine rd_i (k6_colourFor (sOf_s hq ha) (mt_sd m ha) _ _ hp hk h8) ?_
  rw [v7, m.2.2.1]
  generalize hcc : colF (σ (40 + 10 * e 1 + e 2)) (e 3) = c at *
  generalize hpp : e 2 = p at *
  generalize haa : e 1 = a at *
  refine wr_use (k6_takeCard (sOf_s hq ha) (mt_sd m ha) ha p c (σ 108) hp hc (wfS_m wa) h8) (fun V3 f3 s3 => ?_)
  have v6' : V3 h 6 = nI a := by rw [f3 h (by unfold sOf; omega)]; exact v6
  have ot : ∀ j, ¬ inSd a j → sgTake σ a p c (σ 108) j = σ j := by
    intro j hj
    unfold inSd at hj
    unfold sgTake
    split
    · rw [up1_off _ _ (by omega), up1_off _ _ (by omega), up1_off _ _ (by omega)]
    · split
      · rw [up1_off _ _ (by omega), up1_off _ _ (by omega)]
      · rw [up1_off _ _ (by omega)]
  have m3 := mt_side ha m f3 s3 ot (wfS_m (wfM_at w (by omega)))
  have w1 : ∀ c, c < 3 → wfM (up1 σ (40 + 10 * a + p) (orN (σ (40 + 10 * a + p)) c)) := fun c hc => wfM_side w ha (wfS_card wa ha hp hc) (fun j hj => up1_off _ _ (by unfold inSd at hj; omega))
  have st1 : ∀ v, v = 3 ∨ v = 4 → wfM (up1 (up1 σ (40 + 10 * a + p) (orN (σ (40 + 10 * a + p)) c)) (10 * a + p) v) := fun v hv => wfM_side (w1 c hc) ha (wfS_st (wfM_at (w1 c hc) ha) ha hp (by rw [up1_off _ _ (by omega)]; exact h0) hv) (fun j hj => up1_off _ _ (by unfold inSd at hj; omega))
  rw [show (2 : Int32) = nI 2 from rfl, ceq (by omega) (by omega)]
  refine ⟨fun c2 => ?_, fun c2 => ?_⟩
  · rw [v6']
    have wt : wfM (sgTake σ a p c (σ 108)) := by
      unfold sgTake
      split
      · exact wfM_up (st1 3 (by omega)) (by omega)
      · exact w1 c hc
    refine wr_use (k4_endAllOut hq m3 wt a ha) (fun V4 f4 m4 => ⟨rfl, offF_tr (offF_weak f3 (by unfold sOf; omega)) f4, ?_⟩)
    rw [hcd]
    by_cases c0 : c = 0
    · rw [if_pos c0]
      have e1 : sgTake σ a p c (σ 108) = sgTake σ a p 0 0 := by rw [c0]; rfl
      have e2 : lookF (sgTake σ a p c (σ 108)) a = sgTake σ a p c (σ 108) := by
        unfold lookF
        rw [if_neg]
        refine cnt_pos hp ?_
        rw [e1]
        unfold sgTake
        rw [if_neg (by omega), if_neg (by omega), up1_off _ _ (by omega)]
        exact h0
      rw [e2, e1] at m4
      exact m4
    · have c1 : c = 1 := by omega
      rw [if_neg c0, if_pos c1, if_neg c2, sgAdd_0]
      unfold sgTake at m4
      rw [if_pos c1] at m4
      exact m4
  · rw [v6', nI_other a ha]
    have hbb : 1 - a < 2 := by omega
    refine k4_sideAt hq _ hbb ?_
    unfold sgTake at m3
    rw [if_neg (by omega), if_pos c2] at m3
    have m4 := mt_unt (t := σ 108 + 1200) ha hp m3 (st1 4 (by omega)) (by rw [up1_at]; omega)
    have w4 := wfM_up (k := 20 + 10 * a + p) (v := σ 108 + 1200) (st1 4 (by omega)) (by omega)
    rw [(mt_sd m4 hbb).2.2.2.2.2.2.2.1, nI_1]
    have m5 := mt_fld (v := up1 (up1 (up1 σ (40 + 10 * a + p) (orN (σ (40 + 10 * a + p)) c)) (10 * a + p) 4) (20 + 10 * a + p) (σ 108 + 1200) (104 + (1 - a)) + 1) hbb m4 w4 (f := 7) (by omega)
    have w5 := wfM_add (g := 1) w4 hbb
    have v6'' : ∀ x, up2 V3 (sOf q (1 - a)) 7 x h 6 = nI a := fun x => by rw [up2_off _ _ _ (by unfold sOf; omega)]; exact v6'
    rw [v6'']
    refine wr_use (k4_endAllOut hq m5 w5 a ha) (fun V5 f5 m6 => ⟨rfl, offF_tr (offF_tr (offF_weak f3 (by unfold sOf; omega)) (offF_up (offF_rf _ _ _) (by unfold sOf; omega))) f5, ?_⟩)
    rw [hcd, if_neg (by omega), if_neg (by omega), if_pos c2]
    exact m6
/-- the end of a raid -/
theorem r4_215 {V0 : Mem} {τ : Sg} {a v : Nat} {P : Mem → Prop} (hq : isMats q) (hh : isEv h) (ha : a < 2) (m : mtOK V q τ) (w : wfM τ) (hb : bdd τ 800000) (hv : v ≤ 2) (ev : evOK V h e) (hw : evW e) (hf : offF V0 V q 13) (hP : ∀ V', mtOK V' q (timeF (lookF (lookF (up1 τ (106 + a) v) 0) 1) (lastT e)) → P V') : F_X4_playRaid_215 J q h (nI v) (sOf q a) V (fun r V' => r = none ∧ offF V0 V' q 13 ∧ P V') NX := by
  have hqh := mt_ev hq hh
  unfold F_X4_playRaid_215
  have m1 := mt_fld (v := v) ha m w (f := 8) (by omega)
  have w1 := wfM_emp w ha hv
  have b1 : bdd (up1 τ (106 + a) v) 800000 := bdd_up hb (by omega)
  have f1 : offF V0 (up2 V (sOf q a) 8 (nI v)) q 13 := offF_up hf (by unfold sOf; omega)
  refine wr_use (k4_endAllOut hq m1 w1 0 (by omega)) (fun V2 f2 m2 => ?_)
  have w2 := wfM_look w1 (a := 0) (by omega)
  refine wr_use (k4_endAllOut hq m2 w2 1 (by omega)) (fun V3 f3 m3 => ?_)
  have w3 := wfM_look w2 (a := 1) (by omega)
  have e3 := evOK_off (evOK_off (evOK_off ev (offF_up (lo := q) (n := 13) (offF_rf _ _ _) (by unfold sOf; omega)) (by omega)) f2 (by omega)) f3 (by omega)
  refine rd_i (k2_lastTenth hh e3 hw.1) ?_
  have b2 := bdd_look b1 w1 (a := 0) (by omega)
  have b3 := bdd_look b2 w2 (a := 1) (by omega)
  exact wr_use (k4_passTime hq m3 w3 _ (lastT_le hw) (bdd_mono b3 (by omega))) (fun V4 f4 m4 => ⟨rfl, offF_tr (offF_tr (offF_tr f1 f2) f3) f4, hP V4 m4⟩)
theorem r4_199 {V0 : Mem} {τ : Sg} {a d : Nat} {P : Mem → Prop} (hq : isMats q) (hh : isEv h) (ha : a < 2) (m : mtOK V q τ) (w : wfM τ) (hb : bdd τ 800000) (hd : d ≤ 1) (hv : d ≠ 0 → τ (106 + a) < 2) (ev : evOK V h e) (hw : evW e) (hf : offF V0 V q 13) (hP : ∀ V', mtOK V' q (timeF (lookF (lookF (up1 τ (106 + a) (if d = 0 then 0 else τ (106 + a) + 1)) 0) 1) (lastT e)) → P V') : F_X4_playRaid_199 J q h (sOf q a) (nI d) V (fun r V' => r = none ∧ offF V0 V' q 13 ∧ P V') NX := by
  unfold F_X4_playRaid_199
  rw [show (0 : Int32) = nI 0 from rfl, ceq (by omega) (by omega)]
  refine ⟨fun c => ?_, fun c => ?_⟩
  · rw [if_pos c] at hP
    exact r4_215 hq hh ha m w hb (by omega) ev hw hf hP
  · rw [if_neg c] at hP
    have := hv c
    rw [(mt_sd m ha).2.2.2.2.2.2.2.2, nI_1]
    exact r4_215 hq hh ha m w hb (by omega) ev hw hf hP
theorem k4_playRaid (hq : isMats q) (hh : isEv h) (m : mtOK V q σ) (w : wfM σ) (hb : bdd σ 700000) (hr : σ 109 < 100) (ev : evOK V h e) (hw : evW e) (hp : e 2 < 10) (h1 : 1 ≤ e 4) (h0 : σ (10 * turnF σ + e 2) = 0) (hs : ∀ k, k < e 4 → canSt σ e k) : WR J mX4_playRaid [.ref q, .ref h] V q 13 (fun V' => mtOK V' q (raidF σ e)) := by
  have hqh := mt_ev hq hh
  have ht := turnF_lt σ
  have hg := evW_go hw hs
  have hbt : 1 - turnF σ < 2 := by omega
  have wo := wfM_at w hbt
  have hlk : lastK e ≤ 6 := (hw.2 (e 4 - 1) (by omega)).1
  have hs0 := steps_le e 0
  have h4 := hw.1
  have v7 := ev.2.2.1
  have hb1 := bonusF_le σ e
  -- the leaves
  have L110 : ∀ g, lastK e ≠ 3 → g = (if lastK e = 4 ∧ cnt σ (1 - turnF σ) 0 3 ≤ 3 then 2 else 1) → F_X4_playRaid_110 J q h (sOf q (turnF σ)) (sOf q (1 - turnF σ)) (nI (bonusF σ e)) (nI 0) (nI g) V (fun r V' => r = none ∧ offF V V' q 13 ∧ mtOK V' q (raidF σ e)) NX := by
    intro g h3 hg2
    have hg3 : g ≤ 2 := by rw [hg2]; split <;> omega
    unfold F_X4_playRaid_110
    rw [v7]
    refine wr_use (k6_scoreBy (sOf_s hq ht) (mt_sd m ht) ht _ _ hp (wfS_m (wfM_at w ht))) (fun V1 f1 s1 => ?_)
    have m1 := mt_side ht m f1 s1 (fun j hj => sgScore_o (by unfold inSd at hj; omega) (by unfold inSd at hj; omega)) (wfS_m wo)
    have w1 := wfM_score (g := bonusF σ e) w ht hp
    have f1' : offF V V1 q 13 := offF_weak f1 (by unfold sOf; omega)
    have ev1 := evOK_off ev f1' (by omega)
    have z1 : sgScore σ (turnF σ) (e 2) (bonusF σ e) (10 * turnF σ + e 2) = 0 := by rw [sgScore_o (by omega) (by omega)]; exact h0
    rw [ev1.2.2.1]
    refine wr_use (k4_loseRaider hq m1 w1 _ _ g ht hp z1) (fun V2 f2 m2 => ?_)
    have w2 := wfM_lose (g := g) w1 ht hp z1
    have b2 := bdd_lose (g := g) (bdd_score (g := bonusF σ e) hb ht hp) (by omega) w1 ht hp z1
    refine r4_199 hq hh ht m2 w2 (bdd_mono b2 (by omega)) (by omega) (by omega) (evOK_off ev1 f2 (by omega)) hw (offF_tr f1' f2) (fun V3 m3 => ?_)
    rw [if_pos rfl] at m3
    unfold raidF
    rw [if_neg h3]
    unfold missF
    rw [← hg2, sgScore_c (by omega) ht hp, loseF_c (by omega) ht hp w1 z1]
    exact m3
  have L183 : lastK e = 3 → ((steps e 0 = 0 ∧ steps e 1 = 0 ∧ steps e 2 = 0) ∨ (steps e 0 + bonusF σ e = 0 ∧ σ (106 + turnF σ) = 2)) → F_X4_playRaid_183 J q h (sOf q (turnF σ)) (sOf q (1 - turnF σ)) (nI 0) V (fun r V' => r = none ∧ offF V V' q 13 ∧ mtOK V' q (raidF σ e)) NX := by
    intro h3 hc
    unfold F_X4_playRaid_183
    rw [v7]
    refine wr_use (k4_loseRaider hq m w _ _ 1 ht hp h0) (fun V2 f2 m2 => ?_)
    have w2 := wfM_lose (g := 1) w ht hp h0
    have b2 := bdd_lose (g := 1) hb (by omega) w ht hp h0
    refine r4_199 hq hh ht m2 w2 (bdd_mono b2 (by omega)) (by omega) (by omega) (evOK_off ev f2 (by omega)) hw f2 (fun V3 m3 => ?_)
    rw [if_pos rfl] at m3
    unfold raidF
    rw [if_pos h3]
    unfold homeF
    rw [if_pos hc, loseF_c (by omega) ht hp w h0]
    exact m3
  have L76 : ∀ d, d ≤ 1 → (d ≠ 0 ↔ (steps e 0 = 0 ∧ steps e 1 = 0 ∧ steps e 2 = 0)) → F_X4_playRaid_76 J q h (sOf q (turnF σ)) (sOf q (1 - turnF σ)) (nI (steps e 0)) (nI (bonusF σ e)) (nI d) V (fun r V' => r = none ∧ offF V V' q 13 ∧ mtOK V' q (raidF σ e)) NX := by
    intro d hd1 hd
    unfold F_X4_playRaid_76
    refine rd_i (k2_lastKind hh ev hw.1 (by omega)) ?_
    rw [nI_add, show (3 : Int32) = nI 3 from rfl, show (0 : Int32) = nI 0 from rfl, ceq (by omega) (by omega), cle (by omega) (by omega), ceq (by omega) (by omega)]
    refine ⟨fun c3 => ⟨fun ct => ⟨fun cd => L183 c3 (Or.inl (hd.mp cd)), fun cd => ?_⟩, fun ct => ?_⟩, fun c3 => ?_⟩
    · refine rd_b (k4_isDoOrDie hq m hr w) ⟨fun c5 => ?_, fun c5 => L183 c3 (Or.inr ⟨by omega, of_decide_eq_true c5⟩)⟩
      have h2 := (wfM_at w ht).2.2.2.2.2.2.1
      have h5 : ¬ σ (106 + turnF σ) = 2 := of_decide_eq_false c5
      refine r4_199 (d := 1) hq hh ht m w (bdd_mono hb (by omega)) (by omega) (by omega) ev hw (offF_rf _ _ _) (fun V3 m3 => ?_)
      rw [if_neg (by omega)] at m3
      unfold raidF
      rw [if_pos c3]
      unfold homeF
      have nd : ¬ ((steps e 0 = 0 ∧ steps e 1 = 0 ∧ steps e 2 = 0) ∨ (steps e 0 + bonusF σ e = 0 ∧ σ (106 + turnF σ) = 2)) := by
        intro z
        rcases z with z | z
        · exact (hd.mpr z) cd
        · exact h5 z.2
      rw [if_neg nd, if_pos (by omega)]
      exact m3
    · rw [v7]
      refine wr_use (k6_scoreBy (sOf_s hq ht) (mt_sd m ht) ht _ _ hp (wfS_m (wfM_at w ht))) (fun V1 f1 s1 => ?_)
      have m1 := mt_side ht m f1 s1 (fun j hj => sgScore_o (by unfold inSd at hj; omega) (by unfold inSd at hj; omega)) (wfS_m wo)
      have w1 := wfM_score (g := steps e 0 + bonusF σ e) w ht hp
      have f1' : offF V V1 q 13 := offF_weak f1 (by unfold sOf; omega)
      have ev1 := evOK_off ev f1' (by omega)
      have g1 : toGo (sgScore σ (turnF σ) (e 2) (steps e 0 + bonusF σ e)) (1 - turnF σ) e := toGo_cg hg (fun i hi => sgScore_o (by omega) (by omega))
      have b1 := bdd_score (g := steps e 0 + bonusF σ e) hb ht hp
      refine wr_use (k4_sendTouchedOut hq hh m1 w1 ev1 hw _ hbt g1) (fun V2 f2 m2 => ?_)
      have w2 := (touchTo_ok w1 hbt g1 (e 4) (Nat.le_refl _)).1
      have b2 := bdd_touch b1 (by omega) w1 hbt g1 (e 4) (Nat.le_refl _)
      refine wr_use (k6_comeBack (sOf_s hq ht) (mt_sd m2 ht) ht (steps e 0) (by omega) (wfS_rows (wfM_at w2 ht))) (fun V3 f3 s3 => ?_)
      have m3 := mt_side ht m2 f3 s3 (fun j hj => sgCome_oo (wfM_at w2 ht) ht hj _) (wfS_m (wfM_at w2 hbt))
      have w3 := wfM_come w2 ht (steps e 0)
      have b3 := bdd_come b2 ht (wfM_at w2 ht) (steps e 0)
      have f3' : offF V2 V3 q 13 := offF_weak f3 (by unfold sOf; omega)
      refine r4_199 (d := 0) hq hh ht m3 w3 (bdd_mono b3 (by omega)) (by omega) (by omega) (evOK_off (evOK_off ev1 f2 (by omega)) f3' (by omega)) hw (offF_tr (offF_tr f1' f2) f3') (fun V4 m4 => ?_)
      rw [if_pos rfl] at m4
      unfold raidF
      rw [if_pos c3]
      unfold homeF
      have nd : ¬ ((steps e 0 = 0 ∧ steps e 1 = 0 ∧ steps e 2 = 0) ∨ (steps e 0 + bonusF σ e = 0 ∧ σ (106 + turnF σ) = 2)) := by
        intro z
        rcases z with z | z
        · have : bonusF σ e = 0 := by unfold bonusF; rw [if_neg (by omega)]
          omega
        · omega
      rw [if_neg nd, if_neg (by omega), sgScore_c (by omega) ht hp, touchTo_c (by omega) hbt w1 g1 _ (Nat.le_refl _), sgCome_c (by omega) ht (wfM_at w2 ht)]
      exact m4
    · refine rd_i (k2_lastKind hh ev hw.1 (by omega)) ?_
      have hcn := cnt_le σ (1 - turnF σ) 0 3
      rw [show (4 : Int32) = nI 4 from rfl, ceq (by omega) (by omega)]
      refine ⟨fun c4 => ?_, fun c4 => rd_i (k6_countStanding (sOf_s hq hbt) (mt_sd m hbt).1 wo.1) ?_⟩
      · exact L110 1 c3 (by rw [if_neg (fun z => c4 z.1)])
      · rw [clt (by omega) (by omega)]
        refine ⟨fun c5 => ?_, fun c5 => ?_⟩
        · exact L110 1 c3 (by rw [if_neg (by omega)])
        · exact L110 2 c3 (by rw [if_pos ⟨c4, by omega⟩])
  have L48 : F_X4_playRaid_48 J q h (sOf q (turnF σ)) (sOf q (1 - turnF σ)) (nI (steps e 0)) (nI (bonusF σ e)) V (fun r V' => r = none ∧ offF V V' q 13 ∧ mtOK V' q (raidF σ e)) NX := by
    unfold F_X4_playRaid_48
    rw [show (0 : Int32) = nI 0 from rfl, ceq (by omega) (by omega)]
    refine ⟨fun c => L76 0 (by omega) (by omega), fun c => rd_b (k2_has hh ev hw 1 (by omega)) ⟨fun c1 => L76 0 (by omega) ?_, fun c1 => rd_b (k2_has hh ev hw 2 (by omega)) ⟨fun c2 => L76 0 (by omega) ?_, fun c2 => L76 1 (by omega) ?_⟩⟩⟩
    · have := (steps_has hw (x := 1) (by omega)).mp c1; omega
    · have := (steps_has hw (x := 2) (by omega)).mp c2; omega
    · have n1 : steps e 1 = 0 := by
        rcases Nat.eq_zero_or_pos (steps e 1) with z | z
        · exact z
        · rw [(steps_has hw (x := 1) (by omega)).mpr (by omega)] at c1; exact Bool.noConfusion c1
      have n2 : steps e 2 = 0 := by
        rcases Nat.eq_zero_or_pos (steps e 2) with z | z
        · exact z
        · rw [(steps_has hw (x := 2) (by omega)).mpr (by omega)] at c2; exact Bool.noConfusion c2
      omega
  refine v_X4_playRaid q h hq hh ?_
  unfold F_X4_playRaid
  refine rd_i (k4_turn hq m hr) (k4_sideAt hq _ ht (rd_i (k4_turn hq m hr) ?_))
  rw [nI_other _ ht]
  refine k4_sideAt hq _ hbt (rd_i (k2_countTouches hh ev hw) (rd_b (k2_has hh ev hw 1 (by omega)) ⟨fun c1 => ?_, fun c1 => rd_i (k6_countStanding (sOf_s hq hbt) (mt_sd m hbt).1 wo.1) ?_⟩))
  · have n1 : steps e 1 = 0 := by
      rcases Nat.eq_zero_or_pos (steps e 1) with z | z
      · exact z
      · rw [(steps_has hw (x := 1) (by omega)).mpr (by omega)] at c1; exact Bool.noConfusion c1
    have hbn : bonusF σ e = 0 := by unfold bonusF; rw [if_neg (by omega)]
    rw [hbn] at L48
    exact L48
  · have hcn := cnt_le σ (1 - turnF σ) 0 3
    have n1 := (steps_has hw (x := 1) (by omega)).mp c1
    rw [show (6 : Int32) = nI 6 from rfl, clt (by omega) (by omega)]
    refine ⟨fun c2 => ?_, fun c2 => ?_⟩
    · have hbn : bonusF σ e = 0 := by unfold bonusF; rw [if_neg (by omega)]
      rw [hbn] at L48
      exact L48
    · have hbn : bonusF σ e = 1 := by unfold bonusF; rw [if_pos (by omega)]
      rw [hbn] at L48
      exact L48
end MatP
