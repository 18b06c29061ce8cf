/-! cards, substitutions, going through: the class -/
theorem evR_new {t a p d : Nat} (ht : t = 1 ∨ t = 2) (ha : a < 2) (hp : p < 10) (hd : d < 10) (h3 : t = 1 → d < 3) : evR (evNew t a p d) := by
  have n4 : evNew t a p d 4 = 0 := rfl
  refine ⟨show t ≤ 2 by omega, ⟨by rw [n4]; omega, fun k hk => ?_⟩, ha, hp, hd, h3, fun z => ?_⟩
  · rw [n4] at hk; omega
  · have : t = 0 := z
    omega
section Cst3
variable {J : Nat → Nat → Int64} {V : Mem} {s : Ms} {E : Evs}
theorem addPlay (c : clM V s E) (G : Gd s E) (h0 : s 0 = 1) (h1 : s 1 = 0) (h60 : s 2 < 60) (t a p d : Nat) (ht : t = 1 ∨ t = 2) (ha : a < 2) (hp : p < 10) (hd : d < 10) (h3 : t = 1 → d < 3) (hs : standsF (nowF s E) (evNew t a p d)) {P0 : Mem → Prop} {Q : Mem → Prop} {Qx : String → Mem → Prop} (k : ∀ V', offF V V' 1 388 → clM V' (up1 s 2 (s 2 + 1)) (up1 E (s 2) (evNew t a p d)) → Q V') :
    CTc J mX1_addEvent [.ref 1, .int (nI t), .int (nI a), .int (nI p), .int (nI d)] V (fun r V' => (r = some .null ∧ P0 V') ∨ (∃ c, r = some (.ref c) ∧ isEv c ∧ CTc J mX4_play [.ref 3, .ref c] V' (fun r V4 => r = none ∧ CTc J mX2_keepWhatStands [.ref c, .ref 3] V4 (fun r V5 => r = none ∧ Q V5) Qx) Qx)) Qx := by
  obtain ⟨wf, hb, hr, hck⟩ := Gd_run G
  have m := c.2.2.2 h0
  have hnw : nowF s E = runE E (s 2) := by unfold nowF; rw [h1, Nat.sub_zero]
  obtain ⟨c1, c2, c3, c4⟩ := c
  rw [h1, Nat.sub_zero] at c3
  refine k1_addEvent (s 2) c1.1 h60 t a p d (nI d) (fun _ => rfl) (fun V1 f1 e1 => ?_)
  have hh : isEv (29 + 6 * s 2) := ev_of h60
  have fx : ∀ x, x ≠ 1 → x ≠ 29 + 6 * s 2 → up2 V1 1 3 (nI (s 2 + 1)) x = V x := by
    intro x hx1 hx2
    rw [up2_off _ _ _ hx1]
    exact f1 x (by omega)
  have e2 : evOK (up2 V1 1 3 (nI (s 2 + 1))) (29 + 6 * s 2) (evNew t a p d) := evOK_off e1 (lo := 1) (n := 1) (offF_up (offF_rf _ _ _) (by omega)) (by omega)
  have m2 : mtOK (up2 V1 1 3 (nI (s 2 + 1))) 3 (nowF s E) := mt_off m (fun x hx1 hx2 => fx x (by omega) (by omega))
  refine playNow hh m2 wf (bdd_mono hb (by omega)) hr e2 (evR_new ht ha hp hd h3) hs (fun V3 f3 m3 b3 => k V3 ?_ ?_)
  · intro x hx
    rw [f3 x (by omega) (by omega) (by omega)]
    exact fx x (by omega) (by omega)
  · refine clM_ended (m := s 2) ?_ (up1_at _ _ _) (by rw [up1_off _ _ (by omega)]; exact h1) ?_ ?_ ?_ ?_ ?_
    · have v1 : V1 1 = V 1 := f1 1 (by omega)
      obtain ⟨d1, d2, d3, d4, d5, d6, d7, d8⟩ := c1
      unfold clF
      rw [f3 1 (by omega) (by omega) (by omega)]
      simp [up2_rw, up1, v1, d2, d3, d4, d5, d6, d7, d8]
    · exact clE_keep c2 (fun x hx1 hx2 hx3 => by rw [f3 x (by omega) (by omega) (by omega)]; exact fx x (by omega) (by omega))
    · exact clB_keep c3 (fun x hx1 hx2 hx3 => by rw [f3 x (by omega) (by omega) (by omega)]; exact fx x (by omega) (by omega))
    · obtain ⟨q1, q2, q3, q4, q5, q6⟩ := e2
      unfold evOK
      rw [f3 (29 + 6 * s 2) (by omega) (by omega) (by omega), f3 (29 + 6 * s 2 + 1) (by omega) (by omega) (by omega), f3 (29 + 6 * s 2 + 2) (by omega) (by omega) (by omega), f3 (29 + 6 * s 2 + 3) (by omega) (by omega) (by omega)]
      exact ⟨q1, q2, q3, q4, q5, q6⟩
    · intro a ha
      rw [← hnw]
      have := b3 a ha
      rw [show 29 + 6 * s 2 + 4 = 33 + 6 * s 2 by omega, show 29 + 6 * s 2 + 5 = 34 + 6 * s 2 by omega] at this
      exact this
    · rw [← hnw]; exact m3
theorem Gd_add (G : Gd s E) (h0 : s 0 = 1) (h1 : s 1 = 0) (h60 : s 2 < 60) (t a p d : Nat) (ht : t = 1 ∨ t = 2) (ha : a < 2) (hp : p < 10) (hd : d < 10) (h3 : t = 1 → d < 3) (hs : standsF (nowF s E) (evNew t a p d)) : Gd (up1 s 2 (s 2 + 1)) (up1 E (s 2) (evNew t a p d)) := by
  have hnw : nowF s E = runE E (s 2) := by unfold nowF; rw [h1, Nat.sub_zero]
  refine Gd_end G h0 (m := s 2) (by omega) h60 (evR_new ht ha hp hd h3) (by rw [← hnw]; exact hs) (fun z => ?_) (up1_at _ _ _) (by rw [up1_off _ _ (by omega)]; exact h1) (fun j hj1 hj2 => up1_off _ _ hj2)
  have : t = 0 := z
  omega
def cardB (s : Ms) (E : Evs) (a p k : Nat) : Bool := decide (s 0 = 1 ∧ s 1 = 0 ∧ s 2 < 60) && standB (nowF s E) (evNew 1 a p k)
def swapB (s : Ms) (E : Evs) (a x y : Nat) : Bool := decide (s 0 = 1 ∧ s 1 = 0 ∧ s 2 < 60) && standB (nowF s E) (evNew 2 a x y)
theorem k1_mayShowCard (c : clM V s E) (G : Gd s E) (a p k : Nat) (ha : a < 2) (hp : p < 10) (hk : k < 3) : RD J mX1_mayShowCard [.ref 1, .int (nI a), .int (nI p), .int (nI k)] V (bI (cardB s E a p k)) := by
  obtain ⟨wf, hb, hr, hck⟩ := Gd_run G
  unfold cardB
  refine v_X1_mayShowCard _ _ _ (rd_b (k1_mayAdd c G) ⟨fun z => ?_, fun z => k4_sideAt mt_3 a ha ?_⟩)
  · rw [z]; exact ⟨rfl, rfl⟩
  · rw [z, Bool.true_and]
    have m := c.2.2.2 (of_decide_eq_true z).1
    have wa := wfM_at wf ha
    refine rd_b (k6_mayGet (sOf_s mt_3 ha) (mt_sd m ha) wa.1 p k hp hk (wa.2.2.2.2.2.2.2 p hp)) ⟨fun y => ?_, fun y => ?_⟩
    · rw [show standB (nowF s E) (evNew 1 a p k) = false from y]; exact ⟨rfl, rfl⟩
    · rw [show standB (nowF s E) (evNew 1 a p k) = true from y]; exact ⟨rfl, rfl⟩
theorem k1_maySwap (c : clM V s E) (G : Gd s E) (a x y : Nat) (ha : a < 2) (hx : x < 10) (hy : y < 10) : RD J mX1_maySwap [.ref 1, .int (nI a), .int (nI x), .int (nI y)] V (bI (swapB s E a x y)) := by
  obtain ⟨wf, hb, hr, hck⟩ := Gd_run G
  unfold swapB
  refine v_X1_maySwap _ _ _ (rd_b (k1_mayAdd c G) ⟨fun z => ?_, fun z => k4_sideAt mt_3 a ha ?_⟩)
  · rw [z]; exact ⟨rfl, rfl⟩
  · rw [z, Bool.true_and]
    have m := c.2.2.2 (of_decide_eq_true z).1
    have wa := wfM_at wf ha
    refine rd_b (k6_mayChange (sOf_s mt_3 ha) (mt_sd m ha) wa.1 x y hx hy wa.2.2.2.2.2.1) ⟨fun y => ?_, fun y => ?_⟩
    · rw [show standB (nowF s E) (evNew 2 a x _) = false from y]; exact ⟨rfl, rfl⟩
    · rw [show standB (nowF s E) (evNew 2 a x _) = true from y]; exact ⟨rfl, rfl⟩
theorem k1_showCard (c : clM V s E) (G : Gd s E) (a p k : Nat) (ha : a < 2) (hp : p < 10) (hk : k < 3) (hB : cardB s E a p k = true) : WM J mX1_showCard [.ref 1, .int (nI a), .int (nI p), .int (nI k)] V (nI (colF (nowF s E (40 + 10 * a + p)) k)) (fun V' => clM V' (up1 s 2 (s 2 + 1)) (up1 E (s 2) (evNew 1 a p k))) := by
  obtain ⟨wf, hb, hr, hck⟩ := Gd_run G
  unfold cardB at hB
  rw [Bool.and_eq_true, decide_eq_true_eq, standB_t] at hB
  obtain ⟨⟨h0, h1, h60⟩, hs⟩ := hB
  have m := c.2.2.2 h0
  have wa := wfM_at wf ha
  refine v_X1_showCard _ _ _ (k4_sideAt mt_3 a ha (rd_i (k6_colourFor (sOf_s mt_3 ha) (mt_sd m ha) p k hp hk (wa.2.2.2.2.2.2.2 p hp)) ?_))
  exact addPlay c G h0 h1 h60 1 a p k (Or.inl rfl) ha hp (by omega) (fun _ => hk) hs (fun V' f' c' => ⟨rfl, f', c'⟩)
theorem k1_swap (c : clM V s E) (G : Gd s E) (a x y : Nat) (ha : a < 2) (hx : x < 10) (hy : y < 10) (hB : swapB s E a x y = true) : WM J mX1_swap [.ref 1, .int (nI a), .int (nI x), .int (nI y)] V (nI (nowF s E (102 + a) + 1)) (fun V' => clM V' (up1 s 2 (s 2 + 1)) (up1 E (s 2) (evNew 2 a x y))) := by
  obtain ⟨wf, hb, hr, hck⟩ := Gd_run G
  unfold swapB at hB
  rw [Bool.and_eq_true, decide_eq_true_eq, standB_t] at hB
  obtain ⟨⟨h0, h1, h60⟩, hs⟩ := hB
  refine v_X1_swap _ _ _ ?_
  unfold F_X1_swap F_X1_swap_33
  refine addPlay c G h0 h1 h60 2 a x y (Or.inr rfl) ha hx hy (by omega) hs (fun V' f' c' => k4_sideAt mt_3 a ha ?_)
  have hnw : nowF s E = runE E (s 2) := by unfold nowF; rw [h1, Nat.sub_zero]
  have e0 : up1 s 2 (s 2 + 1) 0 = 1 := by rw [up1_off _ _ (by omega)]; exact h0
  have m' := c'.2.2.2 e0
  have hn' : nowF (up1 s 2 (s 2 + 1)) (up1 E (s 2) (evNew 2 a x y)) = playF (nowF s E) (evNew 2 a x y) := by
    rw [hnw]
    unfold nowF
    rw [up1_at, up1_off _ _ (by omega), h1, Nat.sub_zero]
    show playF (runE (up1 E (s 2) (evNew 2 a x y)) (s 2)) (up1 E (s 2) (evNew 2 a x y) (s 2)) = _
    rw [up1_at, runE_cg (F := E) (fun k hk => up1_off _ _ (by omega))]
  have hp : playF (nowF s E) (evNew 2 a x y) (102 + a) = nowF s E (102 + a) + 1 := up1_at _ _ _
  rw [(mt_sd m' ha).2.2.2.2.2.2.1, hn', hp]
  exact ⟨rfl, f', c'⟩
theorem k1_stepsOf (c : clM V s E) (G : Gd s E) (p : Int32) : RD J mX1_stepsOf [.ref 1, .int p] V (if isIx p (s 2 - s 1) = true ∧ E p.toNatClampNeg 0 = 0 then nI (E p.toNatClampNeg 4) else 0) := by
  have g2 := G.2.2.1
  refine v_X1_stepsOf p (rd_i (k1_countEnded c G) ?_)
  have hz : (nI (s 2 - s 1)).toInt = ((s 2 - s 1 : Nat) : Int) := nI_toInt (by omega)
  rw [i_le, hz]
  refine ⟨fun z => ⟨?_, rfl⟩, fun z => k1_eventAt c.1.1 g2 p (fun y => ⟨?_, rfl⟩) (fun k hk y => ?_)⟩
  · rw [if_neg]
    intro w
    have := w.1
    rw [isIx_t, vp_in_iff] at this
    omega
  · rw [if_neg]
    intro w
    have := w.1
    rw [isIx_t, vp_in_iff] at this
    rw [Bool.eq_false_iff] at y
    refine y ?_
    rw [isIx_t, vp_in_iff]
    omega
  · subst y
    have hk2 : k < s 2 - s 1 := by
      have : (nI k).toInt = (k : Int) := nI_toInt (by omega)
      omega
    have he := Gd_ok G k hk2
    rw [isIx_nI (by omega) hk2, ccl (by omega)]
    refine rd_b (k2_isRaid (ev_of (by omega)) (c.2.1 k hk).1 he.1.1) ⟨fun x => ?_, fun x => ?_⟩
    · rw [if_neg (fun w => of_decide_eq_false x w.2)]; exact ⟨rfl, rfl⟩
    · rw [if_pos ⟨rfl, of_decide_eq_true x⟩, (c.2.1 k hk).2.2.2.2.1]; exact ⟨rfl, rfl⟩
theorem lost_bit : ∀ x, x < 2 → ∀ y, y < 2 → ∀ a, a < 2 → ((((nI (x + 2 * y) >>> (nI a &&& 31)) &&& 1) = 0) ↔ (if a = 0 then x else y) = 0) := by decide +kernel
theorem lost_or : ∀ x, x < 2 → ∀ y, y < 2 → ∀ a, a < 2 → (nI (x + 2 * y) ||| (1 <<< (nI a &&& 31))) = nI ((if a = 0 then 1 else x) + 2 * (if a = 0 then y else 1)) := by decide +kernel
theorem k1_keepsReview (c : clM V s E) (G : Gd s E) (a : Nat) (ha : a < 2) : RD J mX1_keepsReview [.ref 1, .int (nI a)] V (bI (decide (s (7 + a) = 0))) := by
  obtain ⟨g0, g1, g2, g3, g7, g8, -⟩ := G
  refine v_X1_keepsReview _ ?_
  unfold F_X1_keepsReview
  rw [c.1.2.2.2.2.2.2.2, lost_bit (s 7) (by omega) (s 8) (by omega) a ha]
  have e : (if a = 0 then s 7 else s 8) = s (7 + a) := by
    rcases (show a = 0 ∨ a = 1 by omega) with rfl | rfl <;> rfl
  rw [e]
  refine ⟨fun z => ?_, fun z => ?_⟩
  · rw [decide_eq_false z]; exact ⟨rfl, rfl⟩
  · rw [decide_eq_true z]; exact ⟨rfl, rfl⟩
/-- on the draft -/
theorem k1_goThrough (n : Nat) (h60 : n ≤ 60) (hE : clE V E n) (hR : ∀ k, k < n → evR (E k)) : CTc J mX1_goThrough [.ref 1, .int (nI n)] V (fun r V' => r = some (.int (fI (fallF E n))) ∧ offF V V' 16 13 ∧ (fallF E n = none → mtOK V' 16 (runE E n))) NX := by
  refine v_X1_goThrough _ (wr_use (k4_reset mt_16) (fun V1 f1 m1 => ?_))
  unfold F_X1_goThrough_9
  refine ⟨fun n2 x2 V' => ∃ k, k ≤ n ∧ n2 = n - k ∧ x2 = nI k ∧ fallF E k = none ∧ mtOK V' 16 (runE E k) ∧ offF V V' 16 13, ⟨n, 0, by omega, rfl, rfl, rfl, m1, f1⟩, ?_⟩
  rintro n2 x2 V' ⟨k, hk, hn2, rfl, hfa, m, hf⟩
  unfold B_X1_goThrough_9
  refine ⟨fun c1 => ?_, fun c1 => ⟨fun c2 => ?_, fun c2 => ?_⟩⟩
  · have h2 := lpE (by omega) hk c1
    rw [← h2, hfa]
    exact ⟨rfl, hf, fun _ => m⟩
  · have h1 := lpL (by omega) hk c1
    have h2 := lpE (n := 60) (by omega) (by omega) c2
    omega
  · have h1 := lpL (by omega) hk c1
    have ok : okTo E k := fun j hj => ⟨hR j (by omega), fallF_none.mp hfa j hj⟩
    obtain ⟨wf, hb, hr, hck⟩ := run_ok ok
    have ev := evOK_off (hE k h1) hf (by omega)
    rw [ccl (by omega)]
    refine ⟨vp_in_nI (by omega) (by decide), rd_b (k4_mayStand mt_16 (ev_of (by omega)) m wf (by omega) ev (hR k h1)) ⟨fun y => ?_, fun y => ?_⟩⟩
    · refine wr_use (k4_play mt_16 (ev_of (by omega)) m wf (bdd_mono hb (by omega)) (by omega) ev (hR k h1) (standB_t.mp y)) (fun V2 f2 m2 => ?_)
      exact ⟨n - (k + 1), by omega, k + 1, by omega, rfl, nI_1 k, fallF_step_y hfa y, m2, offF_tr hf f2⟩
    · have hn := fallF_step_n hfa y
      have hn3 := fallF_s hn (n - (k + 1))
      rw [show k + 1 + (n - (k + 1)) = n by omega] at hn3
      rw [hn3]
      exact ⟨rfl, hf, fun z => by cases z⟩
theorem k1_playAllAnew (m : Nat) (h60 : m ≤ 60) (hm : V 1 3 = nI m) (hE : clE V E m) (ok : okTo E m) : CTc J mX1_playAllAnew [.ref 1] V (fun r V' => r = none ∧ (∀ x, ¬ (3 ≤ x ∧ x < 16) → ¬ (29 ≤ x ∧ x < 29 + 6 * m ∧ 4 ≤ (x - 29) % 6) → V' x = V x) ∧ mtOK V' 3 (runE E m) ∧ clB V' E m) NX := by
  refine v_X1_playAllAnew (wr_use (k4_reset mt_3) (fun V1 f1 m1 => ?_))
  unfold F_X1_playAllAnew_9
  refine ⟨fun n2 x2 V' => ∃ k, k ≤ m ∧ n2 = m - k ∧ x2 = nI k ∧ mtOK V' 3 (runE E k) ∧ clB V' E k ∧ (∀ x, ¬ (3 ≤ x ∧ x < 16) → ¬ (29 ≤ x ∧ x < 29 + 6 * m ∧ 4 ≤ (x - 29) % 6) → V' x = V x), ⟨m, 0, by omega, rfl, rfl, m1, fun k hk => by omega, fun x h1 h2 => f1 x (by omega)⟩, ?_⟩
  rintro n2 x2 V' ⟨k, hk, hn2, rfl, mk, bk, hf⟩
  unfold B_X1_playAllAnew_9 F_X1_playAllAnew_50
  rw [hf 1 (by omega) (by omega), hm]
  refine ⟨fun c1 => ?_, fun c1 => ⟨fun c2 => ?_, fun c2 => ?_⟩⟩
  · have h2 := lpE (by omega) hk c1
    subst h2
    exact ⟨rfl, hf, mk, bk⟩
  · have h1 := lpL (by omega) hk c1
    have h2 := lpE (n := 60) (by omega) (by omega) c2
    omega
  · have h1 := lpL (by omega) hk c1
    obtain ⟨wf, hb, hr, hck⟩ := run_ok (n := k) (fun j hj => ok j (by omega))
    have ev := clE_keep hE (V' := V') (fun x hx1 hx2 hx3 => hf x (by omega) (by omega)) k h1
    rw [ccl (by omega)]
    refine ⟨vp_in_nI (by omega) (by decide), playNow (ev_of (by omega)) mk wf (bdd_mono hb (by omega)) (by omega) ev (ok k h1).1 (ok k h1).2 (fun V2 f2 m2 b2 => ?_)⟩
    refine ⟨m - (k + 1), by omega, k + 1, by omega, rfl, nI_1 k, m2, fun j hj a ha => ?_, fun x hx1 hx2 => ?_⟩
    · by_cases hjk : j = k
      · subst hjk
        have := b2 a ha
        rw [show 29 + 6 * j + 4 = 33 + 6 * j by omega, show 29 + 6 * j + 5 = 34 + 6 * j by omega] at this
        exact this
      · rw [f2 _ (by omega) (by omega) (by omega), f2 _ (by omega) (by omega) (by omega)]
        exact bk j (by omega) a ha
    · rw [f2 x hx1 (by omega) (by omega)]
      exact hf x hx1 hx2
end Cst3
