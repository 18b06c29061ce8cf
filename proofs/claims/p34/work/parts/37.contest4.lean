/-! reviews, taking back, views: the class -/
theorem evFix_o {e : Ev} {p x w j : Nat} (h1 : j ≠ 10 + p) (h2 : j ≠ 30 + p) : evFix e p x w j = e j := by
  unfold evFix
  rw [up1_off _ _ h2, up1_off _ _ h1]
theorem evFix_at (e : Ev) (p x w : Nat) (hp : p ≤ 10) : evFix e p x w (10 + p) = x ∧ evFix e p x w (30 + p) = w := by
  unfold evFix
  refine ⟨?_, up1_at _ _ _⟩
  rw [up1_off _ _ (by omega), up1_at]
theorem evFix_back (e : Ev) (p x w : Nat) (hp : p ≤ 10) : evFix (evFix e p x w) p (e (10 + p)) (e (30 + p)) = e := by
  funext j
  by_cases h1 : j = 10 + p
  · subst h1; exact (evFix_at _ p _ _ hp).1
  · by_cases h2 : j = 30 + p
    · subst h2; exact (evFix_at _ p _ _ hp).2
    · rw [evFix_o h1 h2, evFix_o h1 h2]
theorem evR_fix {e : Ev} {p x w : Nat} (he : evR e) (h0 : e 0 = 0) (hp : p < e 4) (hx : x ≤ 6) (hw : w ≤ 10) (hxw : x = 0 ↔ 1 ≤ w) (hend : 3 ≤ e (10 + p) ↔ 3 ≤ x) : evR (evFix e p x w) := by
  obtain ⟨e0, ew, e1, e2, e3, e4, e5⟩ := he
  have h10 := ew.1
  have fl : ∀ j, j < 5 → evFix e p x w j = e j := fun j hj => evFix_o (by omega) (by omega)
  obtain ⟨ak, aw⟩ := evFix_at e p x w (by omega)
  have ok : ∀ k, k ≠ p → k < 10 → evFix e p x w (10 + k) = e (10 + k) ∧ evFix e p x w (30 + k) = e (30 + k) := fun k hk hk2 => ⟨evFix_o (by omega) (by omega), evFix_o (by omega) (by omega)⟩
  unfold evR
  rw [fl 0 (by omega), fl 1 (by omega), fl 2 (by omega), fl 3 (by omega), fl 4 (by omega)]
  refine ⟨e0, ⟨by rw [fl 4 (by omega)]; exact h10, fun k hk => ?_⟩, e1, e2, e3, e4, fun _ => ⟨by omega, fun k hk => ?_⟩⟩
  · rw [fl 4 (by omega)] at hk
    obtain ⟨w1, w2, w3, w4⟩ := ew.2 k hk
    rw [evFix_o (j := 50 + k) (by omega) (by omega)]
    by_cases hkp : k = p
    · subst hkp
      rw [ak, aw]
      exact ⟨hx, hw, hxw, w4⟩
    · rw [(ok k hkp (by omega)).1, (ok k hkp (by omega)).2]
      exact ⟨w1, w2, w3, w4⟩
  · have h6 := (e5 h0).2 k hk
    by_cases hkp : k = p
    · subst hkp
      rw [ak, ← hend]
      exact h6
    · rw [(ok k hkp (by omega)).1]
      exact h6
theorem lastT_fix {e : Ev} {p x w : Nat} (h10 : e 4 ≤ 10) (hp : p < e 4) : lastT (evFix e p x w) = lastT e := by
  unfold lastT
  rw [evFix_o (j := 4) (by omega) (by omega)]
  split
  · rfl
  · exact evFix_o (by omega) (by omega)
/-- the row with one step otherwise -/
def fixE (E : Evs) (n p x w : Nat) : Evs := up1 E n (evFix (E n) p x w)
theorem clk_fix {E : Evs} {n p x w m : Nat} (h10 : E n 4 ≤ 10) (hp : p < E n 4) : clkTo (fixE E n p x w) m = clkTo E m := by
  refine clk_cg (fun k hk => ?_)
  unfold fixE
  by_cases hkn : k = n
  · subst hkn
    rw [up1_at, evFix_o (by omega) (by omega), lastT_fix h10 hp]
    exact ⟨rfl, rfl⟩
  · rw [up1_off _ _ hkn]
    exact ⟨rfl, rfl⟩
def fallsI (s : Ms) (E : Evs) (n p x w : Nat) : Int32 := if (3 ≤ E n (10 + p) ↔ 3 ≤ x) then fI (fallF (fixE E n p x w) (s 2 - s 1)) else nI n
section Cst4
variable {J : Nat → Nat → Int64} {V : Mem} {s : Ms} {E : Evs}
theorem bI_inj {a b : Bool} : bI a = bI b ↔ a = b := by cases a <;> cases b <;> decide
theorem k1_firstFallen (c : clM V s E) (G : Gd s E) (n p x w : Nat) (hn : n < s 2 - s 1) (h0 : E n 0 = 0) (hp : p < E n 4) (hx : x ≤ 6) (hw : w ≤ 10) (hxw : x = 0 ↔ 1 ≤ w) : WM J mX1_firstFallen [.ref 1, .int (nI n), .int (nI p), .int (nI x), .int (wI w)] V (fallsI s E n p x w) (fun V' => clM V' s E) := by
  have g2 := G.2.2.1
  have c1 := c
  have hW := Gd_W G (k := n) (by omega)
  have h10 := hW.1
  obtain ⟨w1, w2, w3, w4⟩ := hW.2 p hp
  have hh : isEv (29 + 6 * n) := ev_of (by omega)
  have hev := c.2.1 n (by omega)
  have he := (Gd_ok G n hn).1
  unfold fallsI
  refine v_X1_firstFallen _ _ _ _ (k1_eventAt c.1.1 g2 _ (fun y => ?_) (fun k hk y => ?_))
  · rw [isIx_nI (by omega) (by omega)] at y; exact Bool.noConfusion y
  rw [ceq (by omega) (by omega)] at y
  subst y
  refine rd_i (k2_kindAt hh hev h10 _) ?_
  rw [isIx_nI (by omega) hp, if_pos rfl, ccl (by omega)]
  refine rd_b (k7_isEnd J _ V) (rd_b (k7_isEnd J _ V) ?_)
  rw [bI_inj, show (3 : Int32) = nI 3 from rfl]
  have ei : (decide (nI 3 ≤ nI (E n (10 + p))) = decide (nI 3 ≤ nI x)) ↔ (3 ≤ E n (10 + p) ↔ 3 ≤ x) := by
    rw [decide_eq_decide, cle (by omega) (by omega), cle (by omega) (by omega)]
  rw [ei]
  refine ⟨fun y => ?_, fun y => ?_⟩
  · rw [if_pos y]
    refine rd_i (k2_kindAt hh hev h10 _) (rd_i (k2_whoAt hh hev h10 _) ?_)
    rw [isIx_nI (by omega) hp, if_pos rfl, if_pos rfl, ccl (by omega)]
    refine wr_use (k2_correct hh hev h10 p x w hp) (fun V1 f1 e1 => ?_)
    have c13 : V1 1 = V 1 := f1 1 (by omega)
    -- the number of those that have ended is as it was
    have hcE : RD J mX1_countEnded [.ref 1] V1 (nI (s 2 - s 1)) := by
      obtain ⟨g0, g1, g2, g3, -⟩ := G
      refine v_X1_countEnded ?_
      unfold F_X1_countEnded
      rw [c13, c.1.1, c.1.2.2.1, show (0 : Int32) = nI 0 from rfl, ceq (by omega) (by omega)]
      refine ⟨fun z => ?_, fun z => ?_⟩
      · rw [z]; exact ⟨rfl, rfl⟩
      · have e1 : s 1 = 1 := by omega
        obtain ⟨k, hk⟩ : ∃ k, s 2 = k + 1 := ⟨s 2 - 1, by omega⟩
        rw [hk, e1, nI_pred]; exact ⟨rfl, rfl⟩
    refine rd_i hcE ?_
    have hE1 : clE V1 (fixE E n p x w) (s 2 - s 1) := by
      intro k hk
      unfold fixE
      by_cases hkn : k = n
      · subst hkn; rw [up1_at]; exact e1
      · rw [up1_off _ _ hkn]
        exact evOK_off (c.2.1 k (by omega)) f1 (by omega)
    have hR1 : ∀ k, k < s 2 - s 1 → evR (fixE E n p x w k) := by
      intro k hk
      unfold fixE
      by_cases hkn : k = n
      · subst hkn; rw [up1_at]; exact evR_fix he h0 hp hx hw hxw y
      · rw [up1_off _ _ hkn]; exact (Gd_ok G k hk).1
    refine CTc_nx (k1_goThrough (s 2 - s 1) (by omega) hE1 hR1) (fun v V2 z => ⟨_, z.1, ?_⟩)
    obtain ⟨-, f2, -⟩ := z
    have e2 := evOK_off e1 f2 (by omega)
    have h4 : evFix (E n) p x w 4 = E n 4 := evFix_o (by omega) (by omega)
    rw [show wI (E n (30 + p)) = wI (E n (30 + p)) from rfl]
    refine wr_use (k2_correct hh e2 (by omega) p (E n (10 + p)) (E n (30 + p)) (by omega)) (fun V3 f3 e3 => ⟨rfl, ?_, ?_⟩)
    · exact offF_tr (offF_tr (offF_weak f1 (by omega)) (offF_weak f2 (by omega))) (offF_weak f3 (by omega))
    · have fx : ∀ x, x ≠ 29 + 6 * n + 1 → x ≠ 29 + 6 * n + 2 → ¬ (16 ≤ x ∧ x < 29) → V3 x = V x := by
        intro x h1 h2 h3
        rw [f3 x (by omega), f2 x (by omega), f1 x (by omega)]
      obtain ⟨c1, c2, c3, c4⟩ := c
      refine ⟨?_, fun k hk => ?_, ?_, fun h => ?_⟩
      · unfold clF; rw [fx 1 (by omega) (by omega) (by omega)]; exact c1
      · by_cases hkn : k = n
        · subst hkn
          rw [evFix_back _ _ _ _ (by omega)] at e3
          exact e3
        · obtain ⟨q1, q2, q3, q4, q5, q6⟩ := c2 k hk
          unfold evOK
          rw [fx (29 + 6 * k) (by omega) (by omega) (by omega), fx (29 + 6 * k + 1) (by omega) (by omega) (by omega), fx (29 + 6 * k + 2) (by omega) (by omega) (by omega), fx (29 + 6 * k + 3) (by omega) (by omega) (by omega)]
          exact ⟨q1, q2, q3, q4, q5, q6⟩
      · exact clB_keep c3 (fun x h1 h2 h3 => fx x (by omega) (by omega) (by omega))
      · exact mt_off (c4 h) (fun x h1 h2 => fx x (by omega) (by omega) (by omega))
  · rw [if_neg y]
    exact ⟨rfl, offF_rf _ _ _, c1⟩
theorem leadOf {σ : Sg} (m : mtOK V 3 σ) (a : Nat) (ha : a < 2) : RD J mX1_leadOf [.ref 1, .int (nI a)] V (nI (σ (104 + a)) - nI (σ (104 + (1 - a)))) := by
  refine v_X1_leadOf _ (rd_i (pointsOf m a ha) ?_)
  rw [nI_other a ha]
  exact rd_i (pointsOf m (1 - a) (by omega)) ⟨rfl, rfl⟩
/-- what a review makes of the match -/
def amendR (s : Ms) (E : Evs) (a n p x w : Nat) : Int32 := (nI (nowF s (fixE E n p x w) (104 + a)) - nI (nowF s (fixE E n p x w) (104 + (1 - a)))) - (nI (nowF s E (104 + a)) - nI (nowF s E (104 + (1 - a))))
def amendS (s : Ms) (E : Evs) (a n p x w : Nat) : Ms := up1 s (7 + a) (if 0 < amendR s E a n p x w then 0 else 1)
theorem Gd_fix (G : Gd s E) (h1 : s 1 = 0) (n p x w : Nat) (hn : n < s 2) (h0 : E n 0 = 0) (hp : p < E n 4) (hx : x ≤ 6) (hw : w ≤ 10) (hxw : x = 0 ↔ 1 ≤ w) (hf : fallsI s E n p x w = -1) : (3 ≤ E n (10 + p) ↔ 3 ≤ x) ∧ okTo (fixE E n p x w) (s 2) ∧ Gd s (fixE E n p x w) := by
  have hO := Gd_ok G
  have hW := Gd_W G hn
  have hc : ∀ m, clkTo (fixE E n p x w) m = clkTo E m := fun m => clk_fix hW.1 hp
  rw [h1, Nat.sub_zero] at hO
  obtain ⟨g0, g1, g2, g3, g7, g8, ga, gb, gc, gd, ge⟩ := G
  unfold fallsI at hf
  have hne : ∀ k, k < 2147483648 → nI k ≠ -1 := by
    intro k hk z
    have z2 : (nI k).toInt = (-1 : Int32).toInt := by rw [z]
    rw [nI_toInt (by omega)] at z2
    have : (-1 : Int32).toInt = -1 := rfl
    omega
  by_cases hend : (3 ≤ E n (10 + p) ↔ 3 ≤ x)
  · rw [if_pos hend, h1, Nat.sub_zero] at hf
    have ok : okTo (fixE E n p x w) (s 2) := by
      cases hfa : fallF (fixE E n p x w) (s 2) with
      | some k =>
        rw [hfa] at hf
        have := fallF_lt hfa
        exact (hne k (by omega) hf).elim
      | none =>
        intro k hk
        refine ⟨?_, fallF_none.mp hfa k hk⟩
        unfold fixE
        by_cases hkn : k = n
        · subst hkn; rw [up1_at]; exact evR_fix (hO k hk).1 h0 hp hx hw hxw hend
        · rw [up1_off _ _ hkn]; exact (hO k hk).1
    refine ⟨hend, ok, g0, g1, g2, g3, g7, g8, ga, gb, by rw [h1, Nat.sub_zero]; exact ok, fun k hk h => ?_, fun z => by omega⟩
    rw [hc]
    refine gd k hk ?_
    unfold fixE at h
    by_cases hkn : k = n
    · subst hkn; exact h0
    · rwa [up1_off _ _ hkn] at h
  · rw [if_neg hend] at hf
    exact (hne n (by omega) hf).elim
theorem Gd_lost (G : Gd s E) (a v : Nat) (ha : a < 2) (hv : v ≤ 1) : Gd (up1 s (7 + a) v) E := by
  obtain ⟨g0, g1, g2, g3, g7, g8, ga, gb, gc, gd, ge⟩ := G
  have so : ∀ j, j < 7 → up1 s (7 + a) v j = s j := fun j hj => up1_off _ _ (by omega)
  unfold Gd
  rw [so 0 (by omega), so 1 (by omega), so 2 (by omega), so 3 (by omega), so 4 (by omega), so 5 (by omega)]
  refine ⟨g0, g1, g2, g3, ?_, ?_, ga, gb, gc, gd, ge⟩
  · unfold up1; split
    · exact hv
    · exact g7
  · unfold up1; split
    · exact hv
    · exact g8
theorem k1_amend (c : clM V s E) (G : Gd s E) (a n p x w : Nat) (ha : a < 2) (hs0 : s 0 = 1) (h1 : s 1 = 0) (hl : s (7 + a) = 0) (hn : n < s 2) (h0 : E n 0 = 0) (hp : p < E n 4) (hx : x ≤ 6) (hw : w ≤ 10) (hxw : x = 0 ↔ 1 ≤ w) (hf : fallsI s E n p x w = -1) : WM J mX1_amend [.ref 1, .int (nI a), .int (nI n), .int (nI p), .int (nI x), .int (wI w)] V (amendR s E a n p x w) (fun V' => clM V' (amendS s E a n p x w) (fixE E n p x w)) := by
  obtain ⟨hend, ok, G'⟩ := Gd_fix G h1 n p x w hn h0 hp hx hw hxw hf
  have g2 := G.2.2.1
  have g7 := G.2.2.2.2.1
  have g8 := G.2.2.2.2.2.1
  have hW := Gd_W G hn
  have m := c.2.2.2 hs0
  have hh : isEv (29 + 6 * n) := ev_of (by omega)
  have hev := c.2.1 n hn
  obtain ⟨c1, c2, c3, c4⟩ := c
  refine v_X1_amend _ _ _ _ _ (rd_i (leadOf m a ha) (k1_eventAt c1.1 g2 _ (fun y => ?_) (fun k hk y => ?_)))
  · rw [isIx_nI (by omega) hn] at y; exact Bool.noConfusion y
  rw [ceq (by omega) (by omega)] at y
  subst y
  refine wr_use (k2_correct hh hev hW.1 p x w hp) (fun V1 f1 e1 => ?_)
  have v1 : V1 1 = V 1 := f1 1 (by omega)
  have hE1 : clE V1 (fixE E n p x w) (s 2) := by
    intro k hk
    unfold fixE
    by_cases hkn : k = n
    · subst hkn; rw [up1_at]; exact e1
    · rw [up1_off _ _ hkn]
      exact evOK_off (c2 k hk) f1 (by omega)
  refine CTc_nx (k1_playAllAnew (s 2) g2 (by rw [v1]; exact c1.1) hE1 ok) (fun v V2 z => ⟨z.1, ?_⟩)
  obtain ⟨-, f2, m2, b2⟩ := z
  have hnw : nowF s (fixE E n p x w) = runE (fixE E n p x w) (s 2) := by unfold nowF; rw [h1, Nat.sub_zero]
  rw [← hnw] at m2
  have v2 : V2 1 = V 1 := by rw [f2 1 (by omega) (by omega), v1]
  have fall : offF V V2 1 388 := fun y hy => by rw [f2 y (by omega) (by omega), f1 y (by omega)]
  have hE2 : clE V2 (fixE E n p x w) (s 2) := clE_keep hE1 (fun y h1 h2 h3 => f2 y (by omega) (by omega))
  unfold F_X1_amend_33
  refine rd_i (leadOf m2 a ha) ?_
  show (0 < amendR s E a n p x w → _) ∧ (¬ 0 < amendR s E a n p x w → _)
  have so : ∀ j, j < 7 → amendS s E a n p x w j = s j := fun j hj => up1_off _ _ (by omega)
  have nwS : nowF (amendS s E a n p x w) (fixE E n p x w) = nowF s (fixE E n p x w) := by unfold nowF; rw [so 2 (by omega), so 1 (by omega)]
  have v10 : V 1 10 = nI (s 7 + 2 * s 8) := c1.2.2.2.2.2.2.2
  obtain ⟨d1, d2, d3, d4, d5, d6, d7, d8⟩ := c1
  refine ⟨fun y => ⟨rfl, fall, ?_⟩, fun y => ⟨rfl, offF_up fall (by omega), ?_⟩⟩
  · have e0 : amendS s E a n p x w = s := by
      unfold amendS
      rw [if_pos y]
      funext j
      unfold up1
      split
      · next h => rw [h, hl]
      · rfl
    rw [e0]
    refine ⟨?_, hE2, by rw [h1, Nat.sub_zero]; exact b2, fun _ => m2⟩
    unfold clF; rw [v2]; exact ⟨d1, d2, d3, d4, d5, d6, d7, d8⟩
  · have s7 : amendS s E a n p x w 7 = (if a = 0 then 1 else s 7) ∧ amendS s E a n p x w 8 = (if a = 0 then s 8 else 1) := by
      unfold amendS
      rw [if_neg y]
      rcases (show a = 0 ∨ a = 1 by omega) with rfl | rfl
      · exact ⟨rfl, rfl⟩
      · exact ⟨rfl, rfl⟩
    refine ⟨?_, ?_, ?_, fun _ => ?_⟩
    · unfold clF
      rw [so 2 (by omega), so 0 (by omega), so 1 (by omega), so 3 (by omega), so 4 (by omega), so 5 (by omega), so 6 (by omega), s7.1, s7.2, v2, v10, lost_or _ (by omega) _ (by omega) a ha]
      simp [up2_rw, up1, v2, d1, d2, d3, d4, d5, d6, d7]
    · rw [so 2 (by omega)]
      exact clE_keep hE2 (fun y h1 h2 h3 => up2_off _ _ _ (by omega))
    · rw [so 2 (by omega), so 1 (by omega), h1, Nat.sub_zero]
      exact clB_keep b2 (fun y h1 h2 h3 => up2_off _ _ _ (by omega))
    · rw [nwS]
      exact mt_off m2 (fun y h1 h2 => up2_off _ _ _ (by omega))
def dropS (s : Ms) (n : Nat) : Ms := up1 (up1 s 2 n) 1 0
theorem Gd_drop (G : Gd s E) (n : Nat) (hn : n < s 2) : Gd (dropS s n) E := by
  obtain ⟨g0, g1, g2, g3, g7, g8, ga, gb, gc, gd, ge⟩ := G
  have s2' : dropS s n 2 = n := by unfold dropS; rw [up1_off _ _ (by omega), up1_at]
  have s1' : dropS s n 1 = 0 := up1_at _ _ _
  have so : ∀ j, j ≠ 1 → j ≠ 2 → dropS s n j = s j := fun j h1 h2 => by unfold dropS; rw [up1_off _ _ h1, up1_off _ _ h2]
  unfold Gd
  rw [s2', s1', so 0 (by omega) (by omega), so 3 (by omega) (by omega), so 4 (by omega) (by omega), so 5 (by omega) (by omega), so 7 (by omega) (by omega), so 8 (by omega) (by omega)]
  exact ⟨g0, by omega, by omega, by omega, g7, g8, fun z => by have := ga z; omega, gb, fun k hk => gc k (by omega), fun k hk h => gd k (by omega) h, fun z => by omega⟩
theorem k1_dropFrom (c : clM V s E) (G : Gd s E) (n : Nat) (hn : n < s 2) : WM J mX1_dropFrom [.ref 1, .int (nI n)] V (nI (s 2 - n)) (fun V' => clM V' (dropS s n) E) := by
  have g2 := G.2.2.1
  have g1 := G.2.1
  obtain ⟨c1, c2, c3, c4⟩ := c
  refine v_X1_dropFrom _ ?_
  unfold F_X1_dropFrom
  generalize hV1 : up2 (up2 V 1 3 (nI n)) 1 5 0 = V1
  have f1 : offF V V1 1 1 := by rw [← hV1]; exact offF_up (offF_up (offF_rf _ _ _) (by omega)) (by omega)
  have v1 : V1 1 = up1 (up1 (V 1) 3 (nI n)) 5 0 := by rw [← hV1]; simp [up2_rw]
  have hE1 : clE V1 E n := clE_keep (n := n) (fun k hk => c2 k (by omega)) (fun y h1 h2 h3 => f1 y (by omega))
  refine CTc_nx (k1_playAllAnew n (by omega) (by rw [v1]; simp [up1]) hE1 (fun k hk => Gd_ok G k (by omega))) (fun v V2 z => ⟨z.1, ?_⟩)
  obtain ⟨-, f2, m2, b2⟩ := z
  have s2' : dropS s n 2 = n := by unfold dropS; rw [up1_off _ _ (by omega), up1_at]
  have s1' : dropS s n 1 = 0 := up1_at _ _ _
  have so : ∀ j, j ≠ 1 → j ≠ 2 → dropS s n j = s j := fun j h1 h2 => by unfold dropS; rw [up1_off _ _ h1, up1_off _ _ h2]
  have v2 : V2 1 = up1 (up1 (V 1) 3 (nI n)) 5 0 := by rw [f2 1 (by omega) (by omega), v1]
  obtain ⟨d1, d2, d3, d4, d5, d6, d7, d8⟩ := c1
  refine ⟨?_, fun y hy => by rw [f2 y (by omega) (by omega), f1 y (by omega)], ?_, ?_, ?_, fun _ => ?_⟩
  · rw [d1]
    have e : nI (s 2) - nI n = nI (s 2 - n) := by
      have h : nI (s 2 - n) + nI n = nI (s 2) := by rw [nI_add, show s 2 - n + n = s 2 by omega]
      rw [← h, Int32.add_sub_cancel]
    rw [e]
  · unfold clF
    rw [v2, s2', s1', so 0 (by omega) (by omega), so 3 (by omega) (by omega), so 4 (by omega) (by omega), so 5 (by omega) (by omega), so 6 (by omega) (by omega), so 7 (by omega) (by omega), so 8 (by omega) (by omega)]
    simp [up1, d2, d4, d5, d6, d7, d8]
    rfl
  · rw [s2']
    exact clE_keep hE1 (fun y h1 h2 h3 => f2 y (by omega) (by omega))
  · rw [s2', s1', Nat.sub_zero]; exact b2
  · unfold nowF; rw [s2', s1', Nat.sub_zero]; exact m2
end Cst4
