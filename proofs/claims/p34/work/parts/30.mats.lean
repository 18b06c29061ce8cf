/-! both sides of the class -/
theorem up1_comm {σ : Sg} {k v j w : Nat} (h : j ≠ k) : up1 (up1 σ k v) j w = up1 (up1 σ j w) k v := by
  funext i
  unfold up1
  by_cases h1 : i = j
  · subst h1; simp [h]
  · rw [if_neg h1]; simp [h1]
theorem sgAdd_c {σ : Sg} {k v j g : Nat} (h : j ≠ k) : sgAdd (up1 σ k v) j g = up1 (sgAdd σ j g) k v := by
  unfold sgAdd
  rw [up1_off _ _ h, up1_comm h]
theorem sgScore_c {σ : Sg} {k v a p g : Nat} (hk : 106 ≤ k) (ha : a < 2) (hp : p < 10) : sgScore (up1 σ k v) a p g = up1 (sgScore σ a p g) k v := by
  unfold sgScore
  rw [sgAdd_c (by omega), sgAdd_c (by omega)]
theorem sgOut_c {σ : Sg} {k v a p : Nat} (hk : 106 ≤ k) (ha : a < 2) (hp : p < 10) (hm : σ (100 + a) < 10) : sgOut (up1 σ k v) a p = up1 (sgOut σ a p) k v := by
  unfold sgOut
  rw [up1_off (a := 100 + a) _ _ (by omega), up1_comm (j := 10 * a + p) (k := k) (by omega), up1_comm (j := 80 + 10 * a + σ (100 + a)) (k := k) (by omega), up1_comm (j := 100 + a) (k := k) (by omega)]
theorem sgBack_c {σ : Sg} {k v a : Nat} (hk : 106 ≤ k) (ha : a < 2) (w : wfS σ a) : sgBack (up1 σ k v) a = up1 (sgBack σ a) k v := by
  have hm := wfS_m w
  have e1 : up1 σ k v (100 + a) = σ (100 + a) := up1_off _ _ (by omega)
  by_cases h0 : σ (100 + a) = 0
  · rw [sgBack_0 h0, sgBack_0 (by rw [e1]; exact h0)]
  · have hp := (w.2.2.1 0 (by omega)).1
    rw [Nat.add_zero] at hp
    funext j
    have e2 : up1 σ k v (80 + 10 * a) = σ (80 + 10 * a) := up1_off _ _ (by omega)
    rw [sgBack_at (by rw [e1]; exact h0), e1, e2]
    by_cases hj : j = k
    · subst hj
      rw [if_neg (by omega), if_neg (by omega), if_neg (by omega), up1_at, up1_at]
    · rw [up1_off (a := j) _ _ hj, up1_off (a := j) _ _ hj, sgBack_at h0]
      split
      · rw [up1_off _ _ (by omega)]
      · rfl
theorem sgCome_c {σ : Sg} {k v a : Nat} (hk : 106 ≤ k) (ha : a < 2) (w : wfS σ a) : ∀ n, sgCome (up1 σ k v) a n = up1 (sgCome σ a n) k v
  | 0 => rfl
  | n + 1 => by
    show sgBack (sgCome (up1 σ k v) a n) a = _
    rw [sgCome_c hk ha w n, sgBack_c hk ha (wfS_come w ha n)]
    rfl
theorem loseF_c {σ : Sg} {k v a r g : Nat} (hk : 106 ≤ k) (ha : a < 2) (hr : r < 10) (w : wfM σ) (h0 : σ (10 * a + r) = 0) : loseF (up1 σ k v) a r g = up1 (loseF σ a r g) k v := by
  unfold loseF
  rw [sgOut_c hk ha hr (wfS_on (wfM_at w ha) hr (by omega)), sgAdd_c (by omega), sgBack_c hk (by omega) (wfM_at (wfM_add (wfM_out w ha hr h0) (by omega)) (by omega))]
theorem touchTo_c {σ : Sg} {k v b : Nat} {e : Ev} (hk : 106 ≤ k) (hb : b < 2) (w : wfM σ) (hg : toGo σ b e) : ∀ n, n ≤ e 4 → touchTo (up1 σ k v) b e n = up1 (touchTo σ b e n) k v
  | 0, _ => rfl
  | n + 1, hn => by
    obtain ⟨w1, o1, s1⟩ := touchTo_ok w hb hg n (by omega)
    unfold touchTo
    rw [touchTo_c hk hb w hg n (by omega)]
    split
    · next hk0 =>
      obtain ⟨⟨g1, g2⟩, g3, g4⟩ := hg n (by omega) hk0
      have g5 : hasTo e 0 (e (30 + n) - 1 + 1) n = false := by rw [show e (30 + n) - 1 + 1 = e (30 + n) by omega]; exact g4
      have s2 := s1 (e (30 + n) - 1) (by omega) g5
      rw [sgOut_c hk hb (by omega) (wfS_on (wfM_at w1 hb) (p := e (30 + n) - 1) (by omega) (by omega))]
    · rfl
theorem mt_side {V V' : Mem} {q a : Nat} {σ τ : Sg} (ha : a < 2) (m : mtOK V q σ) (hf : offF V V' (sOf q a) 6) (hs : sdOK V' (sOf q a) a τ) (o : ∀ j, ¬ inSd a j → τ j = σ j) (hm : σ (100 + (1 - a)) ≤ 10) : mtOK V' q τ := by
  obtain ⟨m1, m2, m3, m4⟩ := m
  have hq : V' q = V q := hf q (by unfold sOf; omega)
  have o8 := o 108 (by unfold inSd; omega)
  have o9 := o 109 (by unfold inSd; omega)
  unfold mtOK
  rw [hq, o8, o9]
  rcases (show a = 0 ∨ a = 1 by omega) with rfl | rfl
  · exact ⟨hs, sdOK_cg (sdOK_off m2 hf (by unfold sOf; omega)) hm (fun j hj => o j (by unfold inSd at *; omega)), m3, m4⟩
  · exact ⟨sdOK_cg (sdOK_off m1 hf (by unfold sOf; omega)) hm (fun j hj => o j (by unfold inSd at *; omega)), hs, m3, m4⟩
theorem mt_fld {V : Mem} {q a f v : Nat} {σ : Sg} (ha : a < 2) (m : mtOK V q σ) (w : wfM σ) (hf : f = 6 ∨ f = 7 ∨ f = 8) : mtOK (up2 V (sOf q a) f (nI v)) q (up1 σ (90 + 2 * f + a) v) :=
  mt_side ha m (offF_up (offF_rf _ _ _) (by omega)) (sd_fld (mt_sd m ha) ha (wfS_m (wfM_at w ha)) hf) (fun j hj => up1_off _ _ (by unfold inSd at hj; omega)) (wfS_m (wfM_at w (by omega)))
theorem nI_and1 : ∀ n, n < 100 → nI n &&& 1 = nI (n % 2) := by decide +kernel
theorem nI_other : ∀ a, a < 2 → 1 - nI a = nI (1 - a) := by decide +kernel
section MatM
variable {J : Nat → Nat → Int64} {V : Mem} {q h : Nat} {σ : Sg} {e : Ev}
theorem k4_turn (hq : isMats q) (m : mtOK V q σ) (hr : σ 109 < 100) : RD J mX4_turn [.ref q] V (nI (turnF σ)) := by
  refine v_X4_turn q hq ⟨?_, rfl⟩
  rw [m.2.2.2, nI_and1 _ hr]
  rfl
theorem k4_isDoOrDie (hq : isMats q) (m : mtOK V q σ) (hr : σ 109 < 100) (w : wfM σ) : RD J mX4_isDoOrDie [.ref q] V (bI (decide (σ (106 + turnF σ) = 2))) := by
  have ht := turnF_lt σ
  have h2 := (wfM_at w ht).2.2.2.2.2.2.1
  refine v_X4_isDoOrDie q hq (rd_i (k4_turn hq m hr) (k4_sideAt hq _ ht ?_))
  rw [(mt_sd m ht).2.2.2.2.2.2.2.2, show (2 : Int32) = nI 2 from rfl, clt (by omega) (by omega)]
  refine ⟨fun c => ⟨?_, rfl⟩, fun c => ⟨?_, rfl⟩⟩
  · rw [decide_eq_false (by omega)]; rfl
  · rw [decide_eq_true (by omega)]; rfl
theorem k4_reset (hq : isMats q) : WR J mX4_reset [.ref q] V q 13 (fun V' => mtOK V' q sg0) := by
  refine v_X4_reset q hq ?_
  unfold F_X4_reset
  refine wr_use (k6_reset (mt_s0 hq) 0 (by omega)) (fun V1 f1 s1 => wr_use (k6_reset (mt_s1 hq) 1 (by omega)) (fun V2 f2 s2 => ⟨rfl, ?_, ?_⟩))
  · exact offF_up (offF_up (offF_tr (offF_weak f1 (by omega)) (offF_weak f2 (by omega))) (by omega)) (by omega)
  · have s3 := sdOK_off s1 f2 (by omega)
    refine ⟨sdOK_off s3 (lo := q) (n := 1) (offF_up (offF_up (offF_rf _ _ _) (by omega)) (by omega)) (by omega), sdOK_off s2 (lo := q) (n := 1) (offF_up (offF_up (offF_rf _ _ _) (by omega)) (by omega)) (by omega), ?_, ?_⟩
    · simp [up2_rw, up1]; rfl
    · simp [up2_rw, up1]; rfl
theorem k4_endAllOut (hq : isMats q) (m : mtOK V q σ) (w : wfM σ) (a : Nat) (ha : a < 2) : WR J mX4_endAllOut [.ref q, .int (nI a)] V q 13 (fun V' => mtOK V' q (lookF σ a)) := by
  refine v_X4_endAllOut q _ hq (k4_sideAt hq a ha ?_)
  have hsa := sOf_s hq ha
  have wa := wfM_at w ha
  refine rd_i (k6_count hsa (mt_sd m ha).1 wa.1 0 (by omega)) ?_
  have hc := cnt_le σ a 0 0
  rw [show (0 : Int32) = nI 0 from rfl, ceq (by omega) (by omega)]
  unfold lookF
  refine ⟨fun c => ⟨rfl, offF_rf _ _ _, ?_⟩, fun c => ?_⟩
  · rw [if_neg c]; exact m
  · rw [if_pos c, nI_other a ha]
    refine k4_sideAt hq (1 - a) (by omega) ?_
    have hb : 1 - a < 2 := by omega
    rw [(mt_sd m hb).2.2.2.2.2.2.2.1, show (2 : Int32) = nI 2 from rfl, nI_add]
    have m1 := mt_fld (v := σ (104 + (1 - a)) + 2) hb m w (f := 7) (by omega)
    have w1 := wfM_add (g := 2) w hb
    have wa1 := wfM_at w1 ha
    refine wr_use (k6_comeBack hsa (mt_sd m1 ha) ha 10 (by omega) (wfS_rows wa1)) (fun V2 f2 s2 => ⟨rfl, ?_, ?_⟩)
    · exact offF_tr (offF_up (offF_rf _ _ _) (by unfold sOf; omega)) (offF_weak f2 (by unfold sOf; omega))
    · exact mt_side ha m1 f2 s2 (fun j hj => sgCome_oo wa1 ha hj 10) (wfS_m (wfM_at w1 hb))
theorem k4_loseRaider (hq : isMats q) (m : mtOK V q σ) (w : wfM σ) (a r g : Nat) (ha : a < 2) (hr : r < 10) (h0 : σ (10 * a + r) = 0) : WR J mX4_loseRaider [.ref (sOf q a), .ref (sOf q (1 - a)), .int (nI r), .int (nI g)] V q 13 (fun V' => mtOK V' q (loseF σ a r g)) := by
  have hb : 1 - a < 2 := by omega
  have wa := wfM_at w ha
  have hm := wfS_on wa hr (by omega)
  refine v_X4_loseRaider _ _ _ _ (sOf_s hq ha) (sOf_s hq hb) (wr_use (k6_sendOut (sOf_s hq ha) (mt_sd m ha) ha r hr hm) (fun V1 f1 s1 => ?_))
  have m1 := mt_side ha m f1 s1 (fun j hj => sgOut_oo ha hr hm hj) (wfS_m (wfM_at w hb))
  have w1 := wfM_out w ha hr h0
  rw [(mt_sd m1 hb).2.2.2.2.2.2.2.1, nI_add]
  have m2 := mt_fld (v := sgOut σ a r (104 + (1 - a)) + g) hb m1 w1 (f := 7) (by omega)
  have w2 := wfM_add (g := g) w1 hb
  have wb2 := wfM_at w2 hb
  refine wr_use (k6_comeBack (sOf_s hq hb) (mt_sd m2 hb) hb 1 (by omega) (wfS_rows wb2)) (fun V2 f2 s2 => ⟨rfl, ?_, ?_⟩)
  · exact offF_tr (offF_tr (offF_weak f1 (by unfold sOf; omega)) (offF_up (offF_rf _ _ _) (by unfold sOf; omega))) (offF_weak f2 (by unfold sOf; omega))
  · exact mt_side hb m2 f2 s2 (fun j hj => sgCome_oo wb2 hb hj 1) (wfS_m (wfM_at w2 (by omega)))
theorem k4_sendTouchedOut (hq : isMats q) (hh : isEv h) (m : mtOK V q σ) (w : wfM σ) (ev : evOK V h e) (hw : evW e) (b : Nat) (hb : b < 2) (hg : toGo σ b e) : WR J mX4_sendTouchedOut [.ref h, .ref (sOf q b)] V q 13 (fun V' => mtOK V' q (touchTo σ b e (e 4))) := by
  have hq2 : q + 13 ≤ h := by
    have h1 := hh.1
    rcases hq with rfl | rfl <;> omega
  refine v_X4_sendTouchedOut _ _ hh (sOf_s hq hb) ?_
  unfold F_X4_sendTouchedOut F_X4_sendTouchedOut_2
  refine ⟨fun n x2 V' => ∃ k, k ≤ e 4 ∧ n = e 4 - k ∧ x2 = nI k ∧ mtOK V' q (touchTo σ b e k) ∧ offF V V' q 13, ⟨e 4, 0, by omega, rfl, rfl, m, offF_rf _ _ _⟩, ?_⟩
  rintro n x2 V' ⟨k, hk, hn, rfl, m1, hf⟩
  have ev1 := evOK_off ev hf (by omega)
  obtain ⟨w1, o1, s1⟩ := touchTo_ok w hb hg k hk
  have h10 := hw.1
  unfold B_X4_sendTouchedOut_2 F_X4_sendTouchedOut_33
  rw [ev1.2.2.2.2.1]
  refine ⟨fun c1 => ?_, fun c1 => ⟨fun c2 => ?_, fun c2 => ?_⟩⟩
  · have h2 := lpE (by omega) hk c1
    rw [h2] at m1
    exact ⟨rfl, hf, m1⟩
  · have h1 := lpL (by omega) hk c1
    have h2 := lpE (n := 10) (by omega) (by omega) c2
    omega
  · have h1 := lpL (by omega) hk c1
    have hw1 := hw.2 k h1
    refine rd_i (k2_kindAt hh ev1 hw.1 _) ?_
    rw [isIx_nI (by omega) h1, if_pos rfl, ccl (by omega), show (0 : Int32) = nI 0 from rfl, ceq (by omega) (by omega)]
    refine ⟨fun c3 => ?_, fun c3 => rd_i (k2_whoAt hh ev1 hw.1 _) ?_⟩
    · refine ⟨e 4 - (k + 1), by omega, k + 1, by omega, rfl, nI_1 k, ?_, hf⟩
      unfold touchTo
      rw [if_neg c3]
      exact m1
    · obtain ⟨⟨g1, g2⟩, g3, g4⟩ := hg k h1 c3
      have g5 : hasTo e 0 (e (30 + k) - 1 + 1) k = false := by rw [show e (30 + k) - 1 + 1 = e (30 + k) by omega]; exact g4
      have s2 := s1 (e (30 + k) - 1) (by omega) g5
      have hm := wfS_on (wfM_at w1 hb) (p := e (30 + k) - 1) (by omega) (by omega)
      rw [isIx_nI (by omega) h1, if_pos rfl, ccl (by omega)]
      have hwI : wI (e (30 + k)) = nI (e (30 + k) - 1) := by
        obtain ⟨z, hz⟩ : ∃ z, e (30 + k) = z + 1 := ⟨e (30 + k) - 1, by omega⟩
        rw [hz, wI_s]; rfl
      rw [hwI]
      refine wr_use (k6_sendOut (sOf_s hq hb) (mt_sd m1 hb) hb _ (by omega) hm) (fun V2 f2 sd2 => ⟨e 4 - (k + 1), by omega, k + 1, by omega, rfl, nI_1 k, ?_, offF_tr hf (offF_weak f2 (by unfold sOf; omega))⟩)
      unfold touchTo
      rw [if_pos c3]
      exact mt_side hb m1 f2 sd2 (fun j hj => sgOut_oo hb (by omega) hm hj) (wfS_m (wfM_at w1 (by omega)))
theorem k4_passTime (hq : isMats q) (m : mtOK V q σ) (w : wfM σ) (t : Nat) (ht : t ≤ 300) (hb : bdd σ 900000) : WR J mX4_passTime [.ref q, .int (nI t)] V q 13 (fun V' => mtOK V' q (timeF σ t)) := by
  obtain ⟨m1, m2, m3, m4⟩ := m
  refine v_X4_passTime q _ hq ?_
  unfold F_X4_passTime
  have e3 : up2 V q 2 (V q 2 + nI t) q 3 = nI (σ 109) := by rw [up2_at, up1_off _ _ (by omega)]; exact m4
  rw [e3, m3, nI_add, nI_1]
  generalize hVA : up2 (up2 V q 2 (nI (σ 108 + t))) q 3 (nI (σ 109 + 1)) = VA
  have fA : offF V VA q 1 := by rw [← hVA]; exact offF_up (offF_up (offF_rf _ _ _) (by omega)) (by omega)
  have a2 : VA q 2 = nI (σ 108 + t) := by rw [← hVA]; simp [up2_rw, up1]
  have a3 : VA q 3 = nI (σ 109 + 1) := by rw [← hVA]; simp [up2_rw, up1]
  have hm0 := wfS_m w.1
  have hm1 := wfS_m w.2
  have mA : mtOK VA q (sgAdd (sgAdd σ 108 t) 109 1) := by
    have e8 : sgAdd (sgAdd σ 108 t) 109 1 108 = σ 108 + t := by unfold sgAdd; rw [up1_off _ _ (by omega), up1_at]
    have e9 : sgAdd (sgAdd σ 108 t) 109 1 109 = σ 109 + 1 := by unfold sgAdd; rw [up1_at, up1_off _ _ (by omega)]
    have eo : ∀ j, j < 108 → sgAdd (sgAdd σ 108 t) 109 1 j = σ j := fun j hj => by unfold sgAdd; rw [up1_off _ _ (by omega), up1_off _ _ (by omega)]
    refine ⟨sdOK_cg (sdOK_off m1 fA (by omega)) hm0 (fun j hj => eo j ?_), sdOK_cg (sdOK_off m2 fA (by omega)) hm1 (fun j hj => eo j ?_), ?_, ?_⟩
    · unfold inSd at hj; omega
    · unfold inSd at hj; omega
    · rw [e8]; exact a2
    · rw [e9]; exact a3
  have wA : wfM (sgAdd (sgAdd σ 108 t) 109 1) := wfM_up (wfM_up w (by omega)) (by omega)
  have bA : bdd (sgAdd (sgAdd σ 108 t) 109 1) 1000000 := bdd_add (C := 1000000) (bdd_add (C := 950000) hb (by omega) (by omega)) (by omega) (by omega)
  have h8 := hb 108 (by omega)
  rw [a2]
  refine wr_use (k6_endSuspensions (mt_s0 hq) mA.1 (by omega) (σ 108 + t) (by omega) (wfS_m wA.1) bA) (fun V2 f2 s2 => ?_)
  have mB := mt_side (a := 0) (by omega) mA f2 s2 (fun j hj => susp_o (by unfold inSd at hj; omega)) (wfS_m wA.2)
  have wB := wfM_susp (a := 0) (t := σ 108 + t) wA (by omega)
  have e2 : V2 q 2 = nI (σ 108 + t) := by rw [f2 q (by omega)]; exact a2
  rw [e2]
  refine wr_use (k6_endSuspensions (mt_s1 hq) mB.2.1 (by omega) (σ 108 + t) (by omega) (wfS_m wB.2) (bdd_susp bA)) (fun V3 f3 s3 => ⟨rfl, ?_, ?_⟩)
  · exact offF_tr (offF_tr (offF_weak fA (by omega)) (offF_weak f2 (by omega))) (offF_weak f3 (by omega))
  · exact mt_side (a := 1) (by omega) mB f3 s3 (fun j hj => susp_o (by unfold inSd at hj; omega)) (wfS_m wB.1)
end MatM
