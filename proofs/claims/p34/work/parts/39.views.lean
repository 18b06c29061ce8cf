/-! opening, closing, views: the class -/
def openS (s : Ms) (c o t : Nat) : Ms := fun j => if j = 0 then 1 else if j = 3 then c else if j = 4 then o else if j = 5 then t else if j = 6 then s 6 + 1 else 0
def closeS (s : Ms) : Ms := up1 (up1 s 0 0) 2 0
section Cst5
variable {J : Nat → Nat → Int64} {V : Mem} {s : Ms} {E : Evs}
theorem k1_open (c : clM V s E) (x y t : Nat) : WM J mX1_open [.ref 1, .int (nI x), .int (nI y), .int (nI t)] V (nI (s 6 + 1)) (fun V' => clM V' (openS s x y t) E) := by
  obtain ⟨⟨d1, d2, d3, d4, d5, d6, d7, d8⟩, c2, c3, c4⟩ := c
  refine v_X1_open _ _ _ ?_
  unfold F_X1_open
  generalize hV0 : up2 (up2 (up2 (up2 (up2 (up2 (up2 V 1 4 1) 1 5 0) 1 3 0) 1 6 (nI x)) 1 7 (nI y)) 1 8 (nI t)) 1 10 0 = V0
  have f0 : offF V V0 1 1 := by rw [← hV0]; exact offF_up (offF_up (offF_up (offF_up (offF_up (offF_up (offF_up (offF_rf _ _ _) (by omega)) (by omega)) (by omega)) (by omega)) (by omega)) (by omega)) (by omega)
  have v0 : V0 1 = up1 (up1 (up1 (up1 (up1 (up1 (up1 (V 1) 4 1) 5 0) 3 0) 6 (nI x)) 7 (nI y)) 8 (nI t)) 10 0 := by rw [← hV0]; simp [up2_rw]
  refine wr_use (k4_reset mt_3) (fun V1 f1 m1 => ?_)
  have v1 : V1 1 = V0 1 := f1 1 (by omega)
  have e9 : V1 1 9 = nI (s 6) := by rw [v1, v0]; simp [up1, d7]
  rw [e9, nI_1, up2_at, up1_at]
  refine ⟨rfl, offF_up (offF_tr (offF_weak f0 (by omega)) (offF_weak f1 (by omega))) (by omega), ?_, fun k hk => absurd hk (Nat.not_lt_zero k), fun k hk => absurd hk (Nat.not_lt_zero k), fun _ => ?_⟩
  · unfold clF openS
    rw [up2_at, v1, v0]
    simp [up1]
    exact ⟨rfl, rfl, rfl⟩
  · exact mt_off (σ := sg0) m1 (fun z h1 h2 => up2_off _ _ _ (by omega))
theorem Gd_open (s : Ms) (E : Evs) (x y t : Nat) (hx : x < 8) (hy : y < 8) (hxy : x ≠ y) (h1 : 300 ≤ t) (h2 : t ≤ 24000) : Gd (openS s x y t) E :=
  ⟨Nat.le_refl 1, Nat.zero_le 1, Nat.zero_le 60, Nat.le_refl 0, Nat.zero_le 1, Nat.zero_le 1, (fun z => absurd z (show ¬ (1 : Nat) = 0 by decide)), (fun _ => ⟨hx, hy, hxy, h1, h2⟩), (fun k hk => absurd hk (Nat.not_lt_zero k)), (fun k hk => absurd hk (Nat.not_lt_zero k)), (fun z => absurd z (show ¬ (0 : Nat) = 1 by decide))⟩
theorem k1_close (c : clM V s E) (h1 : s 1 = 0) : WR J mX1_close [.ref 1] V 1 1 (fun V' => clM V' (closeS s) E) := by
  obtain ⟨⟨d1, d2, d3, d4, d5, d6, d7, d8⟩, c2, c3, c4⟩ := c
  refine v_X1_close ⟨rfl, offF_up (offF_up (offF_rf _ _ _) (by omega)) (by omega), ?_, fun k hk => absurd hk (Nat.not_lt_zero k), fun k hk => ?_, fun z => ?_⟩
  · unfold clF closeS
    simp [up2_rw, up1, d3, d4, d5, d6, d7, d8]
    rfl
  · have : closeS s 2 - closeS s 1 = 0 := by
      have e : closeS s 2 = 0 := up1_at _ _ _
      rw [e]; omega
    omega
  · have e : closeS s 0 = 0 := by unfold closeS; rw [up1_off _ _ (by omega), up1_at]
    omega
theorem Gd_close (G : Gd s E) (h1 : s 1 = 0) : Gd (closeS s) E := by
  obtain ⟨g0, g1, g2, g3, g7, g8, ga, gb, gc, gd, ge⟩ := G
  have e2 : closeS s 2 = 0 := up1_at _ _ _
  have e0 : closeS s 0 = 0 := by unfold closeS; rw [up1_off _ _ (by omega), up1_at]
  have so : ∀ j, j ≠ 0 → j ≠ 2 → closeS s j = s j := fun j h1 h2 => by unfold closeS; rw [up1_off _ _ h2, up1_off _ _ h1]
  unfold Gd
  rw [e2, e0, so 1 (by omega) (by omega), so 3 (by omega) (by omega), so 4 (by omega) (by omega), so 5 (by omega) (by omega), so 7 (by omega) (by omega), so 8 (by omega) (by omega), h1]
  exact ⟨by omega, by omega, by omega, by omega, g7, g8, fun _ => rfl, fun z => by omega, fun k hk => absurd hk (Nat.not_lt_zero k), fun k hk => absurd hk (Nat.not_lt_zero k), fun z => by omega⟩
theorem k1_clubOf (c : clM V s E) (a : Nat) (ha : a < 2) : RD J mX1_clubOf [.ref 1, .int (nI a)] V (nI (s (3 + a))) := by
  refine v_X1_clubOf _ ?_
  unfold F_X1_clubOf
  rw [c.1.2.2.2.1, c.1.2.2.2.2.1, show (0 : Int32) = nI 0 from rfl, ceq (by omega) (by omega)]
  rcases (show a = 0 ∨ a = 1 by omega) with rfl | rfl
  · exact ⟨fun z => (z rfl).elim, fun _ => ⟨rfl, rfl⟩⟩
  · exact ⟨fun _ => ⟨rfl, rfl⟩, fun z => by omega⟩
theorem k1_sideNow (a : Nat) (ha : a < 2) {P : Nat → Mem → Prop} {Qx : String → Mem → Prop} (k : P (sOf 3 a) V) : CTc J mX1_sideNow [.ref 1, .int (nI a)] V (fun r V' => ∃ c, r = some (.ref c) ∧ isSide c ∧ P c V') Qx :=
  v_X1_sideNow _ (k4_sideAt mt_3 a ha ⟨_, rfl, sOf_s mt_3 ha, k⟩)
def tellV (s : Ms) (E : Evs) (q : Nat) : Int32 :=
  if q = 0 then nI (nowF s E 108) else if q = 1 then nI (turnF (nowF s E)) else if q = 2 then nI (s 2) else if q = 3 then nI (s 1) else if q = 4 then bI (decide (nowF s E (106 + turnF (nowF s E)) = 2)) else if q = 5 then bI (decide (s 0 = 1 ∧ s 1 = 0 ∧ s 5 ≤ nowF s E 108)) else nI (s (3 + (q - 6)))
theorem k1_tellOf (c : clM V s E) (G : Gd s E) (h0 : s 0 = 1) (q : Nat) (hq : q < 8) : RD J mX1_tellOf [.ref 1, .int (nI q)] V (tellV s E q) := by
  obtain ⟨wf, hb, hr, hck⟩ := Gd_run G
  have m := c.2.2.2 h0
  have g1 := G.2.1
  refine v_X1_tellOf _ ?_
  unfold F_X1_tellOf
  have hz : (nI q).toInt = (q : Int) := nI_toInt (by omega)
  rw [hz, show (0 : Int32) = nI 0 from rfl, show (1 : Int32) = nI 1 from rfl, show (2 : Int32) = nI 2 from rfl, show (3 : Int32) = nI 3 from rfl, show (4 : Int32) = nI 4 from rfl, show (5 : Int32) = nI 5 from rfl, ceq (by omega) (by omega), ceq (by omega) (by omega), ceq (by omega) (by omega), ceq (by omega) (by omega), ceq (by omega) (by omega), ceq (by omega) (by omega)]
  refine ⟨fun z => ?_, fun z => ?_, fun z => ?_, fun z => ?_, fun z => ?_, fun z => ?_, fun z => ?_⟩
  · subst z; rw [m.2.2.1]; exact ⟨rfl, rfl⟩
  · subst z; exact rd_i (k4_turn mt_3 m hr) ⟨rfl, rfl⟩
  · subst z; rw [c.1.1]; exact ⟨rfl, rfl⟩
  · subst z
    rw [c.1.2.2.1, ceq (by omega) (by omega)]
    refine ⟨fun y => ?_, fun y => ?_⟩
    · have : tellV s E 3 = nI (s 1) := rfl
      rw [this, y]; exact ⟨rfl, rfl⟩
    · have : tellV s E 3 = nI (s 1) := rfl
      rw [this, show s 1 = 1 by omega]; exact ⟨rfl, rfl⟩
  · subst z
    have : tellV s E 4 = bI (decide (nowF s E (106 + turnF (nowF s E)) = 2)) := rfl
    rw [this]
    refine rd_b (k4_isDoOrDie mt_3 m hr wf) ⟨fun y => ?_, fun y => ?_⟩
    · rw [y]; exact ⟨rfl, rfl⟩
    · rw [y]; exact ⟨rfl, rfl⟩
  · subst z
    have : tellV s E 5 = bI (decide (s 0 = 1 ∧ s 1 = 0 ∧ s 5 ≤ nowF s E 108)) := rfl
    rw [this]
    refine rd_b (k1_isOver c G) ⟨fun y => ?_, fun y => ?_⟩
    · rw [y]; exact ⟨rfl, rfl⟩
    · rw [y]; exact ⟨rfl, rfl⟩
  · have e6 : nI q - 6 = nI (q - 6) := by
      rcases (show q = 6 ∨ q = 7 by omega) with rfl | rfl <;> rfl
    have : tellV s E q = nI (s (3 + (q - 6))) := by
      unfold tellV
      rw [if_neg (by omega), if_neg (by omega), if_neg (by omega), if_neg (by omega), if_neg (by omega), if_neg (by omega)]
    rw [this, e6]
    exact rd_i (k1_clubOf c (q - 6) (by omega)) ⟨rfl, rfl⟩
theorem k1_onAfter (c : clM V s E) (G : Gd s E) (n a : Nat) (hn : n < s 2 - s 1) (ha : a < 2) : RD J mX1_onAfter [.ref 1, .int (nI n), .int (nI a)] V (nI (bits (runE E (n + 1)) a)) := by
  have g2 := G.2.2.1
  refine v_X1_onAfter _ _ (k1_eventAt c.1.1 g2 _ (fun y => ?_) (fun k hk y => ?_))
  · rw [isIx_nI (by omega) (by omega)] at y; exact Bool.noConfusion y
  · rw [ceq (by omega) (by omega)] at y
    subst y
    have := (c.2.2.1 n hn a ha).1
    exact rd_i (k2_onBitsOf (ev_of (by omega)) a ha _ (by rw [show 29 + 6 * n + 4 = 33 + 6 * n by omega]; exact this)) ⟨rfl, rfl⟩
theorem k1_pointsBehind (c : clM V s E) (G : Gd s E) (n a : Nat) (hn : n < s 2 - s 1) (ha : a < 2) : RD J mX1_pointsBehind [.ref 1, .int (nI n), .int (nI a)] V (nI (runE E (n + 1) (104 + a))) := by
  have g2 := G.2.2.1
  refine v_X1_pointsBehind _ _ (k1_eventAt c.1.1 g2 _ (fun y => ?_) (fun k hk y => ?_))
  · rw [isIx_nI (by omega) (by omega)] at y; exact Bool.noConfusion y
  · rw [ceq (by omega) (by omega)] at y
    subst y
    have := (c.2.2.1 n hn a ha).2
    exact rd_i (k2_scoreOf (ev_of (by omega)) a ha _ (by rw [show 29 + 6 * n + 5 = 34 + 6 * n by omega]; exact this)) ⟨rfl, rfl⟩
theorem k1_onAnew (c : clM V s E) (G : Gd s E) (n a : Nat) (hn : n < s 2 - s 1) (ha : a < 2) : WM J mX1_onAnew [.ref 1, .int (nI n), .int (nI a)] V (nI (bits (runE E (n + 1)) a)) (fun V' => clM V' s E) := by
  have g2 := G.2.2.1
  have ok := Gd_ok G
  refine v_X1_onAnew _ _ ?_
  unfold F_X1_onAnew
  rw [nI_1]
  refine CTc_nx (k1_goThrough (n + 1) (by omega) (fun k hk => c.2.1 k (by omega)) (fun k hk => (ok k (by omega)).1)) (fun v V1 z => ⟨_, z.1, ?_⟩)
  obtain ⟨-, f1, m1⟩ := z
  have hfa : fallF E (n + 1) = none := fallF_none.mpr (fun k hk => (ok k (by omega)).2)
  have m := m1 hfa
  obtain ⟨wf, hb, hr, hck⟩ := run_ok (n := n + 1) (fun k hk => ok k (by omega))
  refine k4_sideAt mt_16 a ha (rd_i (k6_onBits (sOf_s mt_16 ha) (mt_sd m ha).1 (wfM_at wf ha).1) ⟨rfl, offF_weak f1 (by omega), clM_off c g2 (fun x hx => f1 x (by omega))⟩)
end Cst5
