/-! telling, cards, substitutions: the class -/
theorem Gd_end {s s' : Ms} {E : Evs} {m : Nat} {e : Ev} (G : Gd s E) (h0 : s 0 = 1) (hm : m = s 2 - s 1) (h60 : m < 60) (he : evR e) (hs : standsF (runE E m) e) (hclk : e 0 = 0 → clkTo E m < s 5) (s2' : s' 2 = m + 1) (s1' : s' 1 = 0) (so : ∀ j, j ≠ 1 → j ≠ 2 → s' j = s j) : Gd s' (up1 E m e) := by
  obtain ⟨g0, g1, g2, g3, g7, g8, ga, gb, gc, gd, ge⟩ := G
  have o : ∀ k, k < m → up1 E m e k = E k := fun k hk => up1_off _ _ (by omega)
  have cke : ∀ n, n ≤ m → clkTo (up1 E m e) n = clkTo E n := fun n hn => clk_cg (fun k hk => by rw [o k (by omega)]; exact ⟨rfl, rfl⟩)
  have re : ∀ n, n ≤ m → runE (up1 E m e) n = runE E n := fun n hn => runE_cg (fun k hk => o k (by omega))
  unfold Gd
  rw [s2', s1', so 0 (by omega) (by omega), so 3 (by omega) (by omega), so 4 (by omega) (by omega), so 5 (by omega) (by omega), so 7 (by omega) (by omega), so 8 (by omega) (by omega)]
  refine ⟨g0, by omega, by omega, by omega, g7, g8, by omega, gb, fun k hk => ?_, fun k hk h => ?_, fun z => by omega⟩
  · rw [re k (by omega)]
    by_cases hkm : k = m
    · subst hkm; rw [up1_at]; exact ⟨he, hs⟩
    · rw [o k (by omega)]; exact gc k (by omega)
  · rw [cke k (by omega)]
    by_cases hkm : k = m
    · subst hkm; rw [up1_at] at h; exact hclk h
    · rw [o k (by omega)] at h
      exact gd k (by omega) h
theorem nI_mul (a b : Nat) : nI a * nI b = nI (a * b) := (Int32.ofNat_mul a b).symm
theorem evAdd_o {e : Ev} {x w t j : Nat} (h1 : j ≠ 4) (h2 : j ≠ 10 + e 4) (h3 : j ≠ 30 + e 4) (h4 : j ≠ 50 + e 4) : evAdd e x w t j = e j := by
  unfold evAdd
  rw [up1_off _ _ h1, up1_off _ _ h4, up1_off _ _ h3, up1_off _ _ h2]
theorem evAdd_at (e : Ev) (x w t : Nat) (h : e 4 ≤ 10) : evAdd e x w t 4 = e 4 + 1 ∧ evAdd e x w t (10 + e 4) = x ∧ evAdd e x w t (30 + e 4) = w ∧ evAdd e x w t (50 + e 4) = t := by
  refine ⟨up1_at _ _ _, ?_, ?_, ?_⟩
  · unfold evAdd; rw [up1_off _ _ (by omega), up1_off _ _ (by omega), up1_off _ _ (by omega), up1_at]
  · unfold evAdd; rw [up1_off _ _ (by omega), up1_off _ _ (by omega), up1_at]
  · unfold evAdd; rw [up1_off _ _ (by omega), up1_at]
theorem hasTo_cg {e f : Ev} {x w : Nat} : ∀ {n}, (∀ k, k < n → e (10 + k) = f (10 + k) ∧ e (30 + k) = f (30 + k)) → hasTo e x w n = hasTo f x w n
  | 0, _ => rfl
  | n + 1, h => by
    unfold hasTo
    rw [hasTo_cg (fun k hk => h k (by omega)), (h n (by omega)).1, (h n (by omega)).2]
/-- one more step that can be told -/
theorem add_st {σ : Sg} {e : Ev} {x w t : Nat} (h9 : e 4 ≤ 9) (hs : ∀ k, k < e 4 → canSt σ e k) (hc : canP σ e (e 4) x w t) : ∀ k, k < e 4 + 1 → canSt σ (evAdd e x w t) k := by
  intro k hk
  obtain ⟨a4, ak, aw, at'⟩ := evAdd_at e x w t (by omega)
  by_cases hke : k = e 4
  · subst hke
    unfold canSt
    rw [ak, aw, at', hasTo_cg (e := evAdd e x w t) (f := e) (n := e 4) (fun j hj => ⟨evAdd_o (by omega) (by omega) (by omega) (by omega), evAdd_o (by omega) (by omega) (by omega) (by omega)⟩)]
    exact hc
  · have h1 := hs k (by omega)
    unfold canSt at h1 ⊢
    rw [evAdd_o (j := 10 + k) (by omega) (by omega) (by omega) (by omega), evAdd_o (j := 30 + k) (by omega) (by omega) (by omega) (by omega), evAdd_o (j := 50 + k) (by omega) (by omega) (by omega) (by omega), hasTo_cg (e := evAdd e x w t) (f := e) (n := k) (fun j hj => ⟨evAdd_o (by omega) (by omega) (by omega) (by omega), evAdd_o (by omega) (by omega) (by omega) (by omega)⟩)]
    exact h1
theorem add_W {e : Ev} {x w t : Nat} (hw : evW e) (h9 : e 4 ≤ 9) (hx : x ≤ 6) (hwh : w ≤ 10) (h0 : x = 0 ↔ 1 ≤ w) (ht : t ≤ 300) : evW (evAdd e x w t) := by
  obtain ⟨a4, ak, aw, at'⟩ := evAdd_at e x w t (by omega)
  refine ⟨by omega, fun k hk => ?_⟩
  by_cases hke : k = e 4
  · subst hke
    rw [ak, aw, at']
    exact ⟨hx, hwh, h0, ht⟩
  · rw [evAdd_o (j := 10 + k) (by omega) (by omega) (by omega) (by omega), evAdd_o (j := 30 + k) (by omega) (by omega) (by omega) (by omega), evAdd_o (j := 50 + k) (by omega) (by omega) (by omega) (by omega)]
    exact hw.2 k (by omega)
section Cst2
variable {J : Nat → Nat → Int64} {V : Mem} {s : Ms} {E : Evs}
theorem playNow {σ : Sg} {h : Nat} {e : Ev} {Q : Mem → Prop} {Qx : String → Mem → Prop} (hh : isEv h) (m : mtOK V 3 σ) (w : wfM σ) (hb : bdd σ 700000) (hr : σ 109 < 100) (ev : evOK V h e) (he : evR e) (hs : standsF σ e) (k : ∀ V2, (∀ x, ¬ (3 ≤ x ∧ x < 16) → x ≠ h + 4 → x ≠ h + 5 → V2 x = V x) → mtOK V2 3 (playF σ e) → (∀ a, a < 2 → V2 (h + 4) a = nI (bits (playF σ e) a) ∧ V2 (h + 5) a = nI (playF σ e (104 + a))) → Q V2) : CTc J mX4_play [.ref 3, .ref h] V (fun r V1 => r = none ∧ CTc J mX2_keepWhatStands [.ref h, .ref 3] V1 (fun r V2 => r = none ∧ Q V2) Qx) Qx := by
  have hqh := mt_ev mt_3 hh
  refine wr_use (k4_play mt_3 hh m w hb hr ev he hs) (fun V1 f1 m1 => ?_)
  refine wr_use (k2_keepWhatStands mt_3 hh m1 (wfM_play w he hs)) (fun V2 f2 b2 => k V2 (fun x h1 h2 h3 => ?_) ?_ b2)
  · rw [f2 x (by omega), f1 x (by omega)]
  · exact mt_off m1 (fun x h1 h2 => f2 x (by omega))
def tellB (s : Ms) (E : Evs) (x w t : Nat) : Bool := decide (s 0 = 1 ∧ s 1 = 1) && (decide (lastT (E (s 2 - 1)) < t) && canB (nowF s E) (E (s 2 - 1)) (E (s 2 - 1) 4) x w t)
theorem k1_raidGoingOn (c : clM V s E) (G : Gd s E) {P0 : Mem → Prop} {P : Nat → Mem → Prop} {Qx : String → Mem → Prop} (k0 : s 1 = 0 → P0 V) (k1 : s 1 = 1 → P (29 + 6 * (s 2 - 1)) V) : CTc J mX1_raidGoingOn [.ref 1] V (fun r V' => (r = some .null ∧ P0 V') ∨ (∃ c, r = some (.ref c) ∧ isEv c ∧ P c V')) Qx := by
  obtain ⟨g0, g1, g2, g3, -⟩ := G
  refine v_X1_raidGoingOn ?_
  unfold F_X1_raidGoingOn
  rw [c.1.2.2.1, show (0 : Int32) = nI 0 from rfl, ceq (by omega) (by omega)]
  refine ⟨fun z => Or.inl ⟨rfl, k0 z⟩, fun z => ?_⟩
  have e1 : s 1 = 1 := by omega
  refine k1_eventAt c.1.1 g2 _ (fun y => ?_) (fun k hk y => ?_)
  · exfalso
    obtain ⟨j, hj⟩ : ∃ j, s 2 = j + 1 := ⟨s 2 - 1, by omega⟩
    rw [c.1.1, hj, nI_pred, isIx_nI (by omega) (by omega)] at y
    exact Bool.noConfusion y
  · obtain ⟨j, hj⟩ : ∃ j, s 2 = j + 1 := ⟨s 2 - 1, by omega⟩
    rw [c.1.1, hj, nI_pred, ceq (by omega) (by omega)] at y
    have : k = s 2 - 1 := by omega
    rw [this]
    exact Or.inr ⟨_, rfl, ev_of (by omega), k1 e1⟩
theorem k1_mayTell (c : clM V s E) (G : Gd s E) (x w t : Nat) (hx : x ≤ 6) (hw : w ≤ 10) (h0 : x = 0 → 1 ≤ w) (ht : t ≤ 300) : RD J mX1_mayTell [.ref 1, .int (nI x), .int (wI w), .int (nI t)] V (bI (tellB s E x w t)) := by
  obtain ⟨wf, hb, hr, hck⟩ := Gd_run G
  obtain ⟨g0, g1, g2, g3, g7, g8, ga, gb, gc, gd, ge⟩ := G
  unfold tellB
  refine v_X1_mayTell _ _ _ (k1_raidGoingOn c ⟨g0, g1, g2, g3, g7, g8, ga, gb, gc, gd, ge⟩ (fun z => ?_) (fun z => ?_))
  · rw [decide_eq_false (by omega)]; exact ⟨rfl, rfl⟩
  · have h00 : s 0 = 1 := by omega
    have hev := c.2.1 (s 2 - 1) (by omega)
    have hO := ge z
    have hW := evO_W hO
    have hl := lastT_le hW
    rw [decide_eq_true ⟨h00, z⟩, Bool.true_and]
    refine rd_i (k2_lastTenth (ev_of (by omega)) hev hW.1) ?_
    rw [cle (by omega) (by omega)]
    refine ⟨fun y => ?_, fun y => ?_⟩
    · rw [decide_eq_false (by omega)]; exact ⟨rfl, rfl⟩
    · rw [decide_eq_true (by omega), Bool.true_and, hev.2.2.2.2.1]
      refine rd_b (k4_mayStep mt_3 (ev_of (by omega)) (c.2.2.2 h00) wf hr hev hW _ x w t (Nat.le_refl _) hx hw h0 ht) ⟨fun v => ?_, fun v => ?_⟩
      · rw [v]; exact ⟨rfl, rfl⟩
      · rw [v]; exact ⟨rfl, rfl⟩
theorem k1_pointsOf (m : mtOK V 3 (nowF s E)) (a : Nat) (ha : a < 2) : RD J mX1_pointsOf [.ref 1, .int (nI a)] V (nI (nowF s E (104 + a))) := by
  refine v_X1_pointsOf _ (k4_sideAt mt_3 a ha ?_)
  rw [(mt_sd m ha).2.2.2.2.2.2.2.1]
  exact ⟨rfl, rfl⟩
theorem pointsOf {σ : Sg} (m : mtOK V 3 σ) (a : Nat) (ha : a < 2) : RD J mX1_pointsOf [.ref 1, .int (nI a)] V (nI (σ (104 + a))) := by
  refine v_X1_pointsOf _ (k4_sideAt mt_3 a ha ?_)
  rw [(mt_sd m ha).2.2.2.2.2.2.2.1]
  exact ⟨rfl, rfl⟩
/-- what a told step makes of the raid -/
def tellE (s : Ms) (E : Evs) (x w t : Nat) : Evs := up1 E (s 2 - 1) (evAdd (E (s 2 - 1)) x w t)
def tellS (s : Ms) (x : Nat) : Ms := if x < 3 then s else up1 s 1 0
def tellR (s : Ms) (E : Evs) (x w t : Nat) : Int32 :=
  if x < 3 then -1 else nI (10 * nowF (tellS s x) (tellE s E x w t) (104 + turnF (nowF s E)) + nowF (tellS s x) (tellE s E x w t) (104 + (1 - turnF (nowF s E)))) - nI (10 * nowF s E (104 + turnF (nowF s E)) + nowF s E (104 + (1 - turnF (nowF s E))))
theorem Gd_tell (G : Gd s E) (x w t : Nat) (hx : x ≤ 6) (hw : w ≤ 10) (h0 : x = 0 ↔ 1 ≤ w) (ht : t ≤ 300) (hB : tellB s E x w t = true) : Gd (tellS s x) (tellE s E x w t) ∧ (3 ≤ x → evR (evAdd (E (s 2 - 1)) x w t) ∧ standsF (nowF s E) (evAdd (E (s 2 - 1)) x w t)) := by
  obtain ⟨wf, hb, hr, hck⟩ := Gd_run G
  have G' := G
  obtain ⟨g0, g1, g2, g3, g7, g8, ga, gb, gc, gd, ge⟩ := G
  unfold tellB at hB
  rw [Bool.and_eq_true, Bool.and_eq_true, decide_eq_true_eq, decide_eq_true_eq, canB_t] at hB
  obtain ⟨⟨h00, h1⟩, hlt, hcp⟩ := hB
  have hO := ge h1
  have hnw : nowF s E = runE E (s 2 - 1) := by unfold nowF; rw [h1]
  rw [hnw] at wf hcp
  have h9 := evO_n wf hO
  obtain ⟨o0, o1, o2, o3, oW, ok, op, os⟩ := hO
  obtain ⟨a4, ak, aw, at'⟩ := evAdd_at (E (s 2 - 1)) x w t (by omega)
  have fld : ∀ j, j < 4 → evAdd (E (s 2 - 1)) x w t j = E (s 2 - 1) j := fun j hj => evAdd_o (by omega) (by omega) (by omega) (by omega)
  have nst := add_st (x := x) (w := w) (t := t) h9 os hcp
  have nW := add_W (x := x) (w := w) (t := t) oW h9 hx hw h0 ht
  have kk : ∀ k, k < E (s 2 - 1) 4 → evAdd (E (s 2 - 1)) x w t (10 + k) = E (s 2 - 1) (10 + k) := fun k hk => evAdd_o (by omega) (by omega) (by omega) (by omega)
  have hend : 3 ≤ x → evR (evAdd (E (s 2 - 1)) x w t) ∧ standsF (nowF s E) (evAdd (E (s 2 - 1)) x w t) := by
    intro h3
    rw [hnw]
    refine ⟨⟨?_, nW, ?_, ?_, ?_, ?_, fun _ => ⟨by omega, fun k hk => ?_⟩⟩, ?_⟩
    · rw [fld 0 (by omega)]; omega
    · rw [fld 1 (by omega)]; exact o1
    · rw [fld 2 (by omega)]; exact o2
    · rw [fld 3 (by omega)]; exact o3
    · rw [fld 0 (by omega), o0]; intro z; omega
    · rw [a4] at hk ⊢
      by_cases hke : k = E (s 2 - 1) 4
      · rw [hke, ak]; omega
      · rw [kk k (by omega)]
        have := ok k (by omega)
        omega
    · unfold standsF
      rw [fld 0 (by omega), o0, if_neg (by omega), if_neg (by omega), fld 2 (by omega), a4]
      exact ⟨op, nst⟩
  refine ⟨?_, hend⟩
  by_cases h3 : x < 3
  · have o : ∀ k, k < s 2 - 1 → tellE s E x w t k = E k := fun k hk => up1_off _ _ (by omega)
    have oe : tellE s E x w t (s 2 - 1) = evAdd (E (s 2 - 1)) x w t := up1_at _ _ _
    have cke : ∀ n, n ≤ s 2 - 1 → clkTo (tellE s E x w t) n = clkTo E n := fun n hn => clk_cg (fun k hk => by rw [o k (by omega)]; exact ⟨rfl, rfl⟩)
    have re : ∀ n, n ≤ s 2 - 1 → runE (tellE s E x w t) n = runE E n := fun n hn => runE_cg (fun k hk => o k (by omega))
    unfold tellS
    rw [if_pos h3]
    refine ⟨g0, g1, g2, g3, g7, g8, ga, gb, fun k hk => ?_, fun k hk h => ?_, fun _ => ?_⟩
    · rw [o k (by omega), re k (by omega)]; exact gc k hk
    · rw [cke k (by omega)]
      by_cases hkm : k = s 2 - 1
      · subst hkm; rw [oe, fld 0 (by omega)] at h; exact gd _ hk h
      · rw [o k (by omega)] at h; exact gd k hk h
    · rw [re _ (Nat.le_refl _), oe]
      refine ⟨?_, ?_, ?_, ?_, nW, fun k hk => ?_, ?_, fun k hk => ?_⟩
      · rw [fld 0 (by omega)]; exact o0
      · rw [fld 1 (by omega)]; exact o1
      · rw [fld 2 (by omega)]; exact o2
      · rw [fld 3 (by omega)]; exact o3
      · rw [a4] at hk
        by_cases hke : k = E (s 2 - 1) 4
        · rw [hke, ak]; exact h3
        · rw [kk k (by omega)]; exact ok k (by omega)
      · rw [fld 2 (by omega)]; exact op
      · rw [a4] at hk; exact nst k hk
  · unfold tellS
    rw [if_neg h3]
    obtain ⟨e1, e2⟩ := hend (by omega)
    rw [hnw] at e2
    refine Gd_end G' h00 (m := s 2 - 1) (by omega) (by omega) e1 e2 (fun _ => gd _ (by omega) o0) ?_ (up1_at _ _ _) (fun j hj1 hj2 => up1_off _ _ hj1)
    rw [up1_off _ _ (by omega)]; omega
theorem k1_tell (c : clM V s E) (G : Gd s E) (x w t : Nat) (hx : x ≤ 6) (hw : w ≤ 10) (h0 : x = 0 ↔ 1 ≤ w) (ht : t ≤ 300) (hB : tellB s E x w t = true) : WM J mX1_tell [.ref 1, .int (nI x), .int (wI w), .int (nI t)] V (tellR s E x w t) (fun V' => clM V' (tellS s x) (tellE s E x w t)) := by
  have hG' := Gd_tell G x w t hx hw h0 ht hB
  obtain ⟨wf, hb, hr, hck⟩ := Gd_run G
  have hB2 := hB
  unfold tellB at hB2
  rw [Bool.and_eq_true, Bool.and_eq_true, decide_eq_true_eq, decide_eq_true_eq, canB_t] at hB2
  obtain ⟨⟨h00, h1⟩, hlt, hcp⟩ := hB2
  have g2 := G.2.2.1
  have g3 := G.2.2.2.1
  have hO := G.2.2.2.2.2.2.2.2.2.2 h1
  have hnw : nowF s E = runE E (s 2 - 1) := by unfold nowF; rw [h1]
  have h9 : E (s 2 - 1) 4 ≤ 9 := evO_n (by rw [← hnw]; exact wf) hO
  have hW := evO_W hO
  have m := c.2.2.2 h00
  have ht2 := turnF_lt (nowF s E)
  have hh : isEv (29 + 6 * (s 2 - 1)) := ev_of (by omega)
  have hev := c.2.1 (s 2 - 1) (by omega)
  obtain ⟨c1, c2, c3, c4⟩ := c
  refine v_X1_tell _ _ _ (k1_raidGoingOn ⟨c1, c2, c3, c4⟩ G (fun z => by omega) (fun _ => ?_))
  refine wr_use (k2_add hh hev (by omega) x w t) (fun V1 f1 e1 => rd_b (k7_isEnd J _ V1) ?_)
  rw [show (3 : Int32) = nI 3 from rfl, decide_eq_true_eq, decide_eq_false_iff_not, cle (by omega) (by omega)]
  have m1 : mtOK V1 3 (nowF s E) := mt_off m (fun y hy1 hy2 => f1 y (by omega))
  have E1 : clE V1 E (s 2 - 1) := clE_keep (n := s 2 - 1) (fun k hk => c2 k (by omega)) (fun y hy1 hy2 hy3 => f1 y (by omega))
  have B1 : clB V1 E (s 2 - 1) := clB_keep (n := s 2 - 1) (fun k hk => c3 k (by omega)) (fun y hy1 hy2 hy3 => f1 y (by omega))
  have v1 : V1 1 = V 1 := f1 1 (by omega)
  refine ⟨fun h3 => ?_, fun h3 => ?_⟩
  · obtain ⟨r1, r2⟩ := hG'.2 h3
    refine rd_i (k4_turn mt_3 m1 hr) (rd_i (pointsOf m1 _ ht2) ?_)
    rw [nI_other _ ht2]
    refine rd_i (pointsOf m1 _ (by omega)) (playNow hh m1 wf (bdd_mono hb (by omega)) hr e1 r1 r2 (fun V3 f3 m3 b3 => ?_))
    have m4 : mtOK (up2 V3 1 5 0) 3 (playF (nowF s E) (evAdd (E (s 2 - 1)) x w t)) := mt_off m3 (fun y hy1 hy2 => up2_off _ _ _ (by omega))
    refine rd_i (pointsOf m4 _ ht2) (rd_i (pointsOf m4 _ (by omega)) ?_)
    have hnw2 : nowF (tellS s x) (tellE s E x w t) = playF (nowF s E) (evAdd (E (s 2 - 1)) x w t) := by
      unfold nowF tellS tellE
      rw [if_neg (by omega), up1_at, up1_off _ _ (by omega), Nat.sub_zero, show s 2 = (s 2 - 1) + 1 by omega]
      show playF (runE (up1 E (s 2 - 1 + 1 - 1) (evAdd (E (s 2 - 1 + 1 - 1)) x w t)) (s 2 - 1)) (up1 E (s 2 - 1 + 1 - 1) (evAdd (E (s 2 - 1 + 1 - 1)) x w t) (s 2 - 1)) = _
      rw [show s 2 - 1 + 1 - 1 = s 2 - 1 by omega, up1_at, runE_cg (F := E) (fun k hk => up1_off _ _ (by omega)), h1, show s 2 - 1 + 1 - 1 = s 2 - 1 by omega]
    have F4 : clF (up2 V3 1 5 0) (tellS s x) := by
      have v3 : V3 1 = V 1 := by rw [f3 1 (by omega) (by omega) (by omega), v1]
      obtain ⟨d1, d2, d3, d4, d5, d6, d7, d8⟩ := c1
      unfold clF tellS
      rw [if_neg (by omega)]
      simp [up2_rw, up1, v3, d1, d2, d4, d5, d6, d7, d8]
      rfl
    refine ⟨?_, offF_up (offF_tr (offF_weak f1 (by omega)) (fun y hy => f3 y (by omega) (by omega) (by omega))) (by omega), ?_⟩
    · unfold tellR
      rw [if_neg (by omega), hnw2, show (10 : Int32) = nI 10 from rfl, nI_mul, nI_mul, nI_add, nI_add]
    · refine clM_ended (m := s 2 - 1) F4 ?_ ?_ ?_ ?_ ?_ ?_ ?_
      · unfold tellS; rw [if_neg (by omega), up1_off _ _ (by omega)]; omega
      · unfold tellS; rw [if_neg (by omega), up1_at]
      · exact clE_keep E1 (fun y hy1 hy2 hy3 => by rw [up2_off _ _ _ (by omega), f3 y (by omega) (by omega) (by omega)])
      · exact clB_keep B1 (fun y hy1 hy2 hy3 => by rw [up2_off _ _ _ (by omega), f3 y (by omega) (by omega) (by omega)])
      · obtain ⟨q1, q2, q3, q4, q5, q6⟩ := e1
        unfold evOK
        rw [up2_off (a := 29 + 6 * (s 2 - 1)) _ _ _ (by omega), up2_off (a := 29 + 6 * (s 2 - 1) + 1) _ _ _ (by omega), up2_off (a := 29 + 6 * (s 2 - 1) + 2) _ _ _ (by omega), up2_off (a := 29 + 6 * (s 2 - 1) + 3) _ _ _ (by omega)]
        rw [f3 (29 + 6 * (s 2 - 1)) (by omega) (by omega) (by omega), f3 (29 + 6 * (s 2 - 1) + 1) (by omega) (by omega) (by omega), f3 (29 + 6 * (s 2 - 1) + 2) (by omega) (by omega) (by omega), f3 (29 + 6 * (s 2 - 1) + 3) (by omega) (by omega) (by omega)]
        exact ⟨q1, q2, q3, q4, q5, q6⟩
      · intro a ha
        rw [← hnw, up2_off _ _ _ (by omega), up2_off _ _ _ (by omega)]
        have := b3 a ha
        rw [show 29 + 6 * (s 2 - 1) + 4 = 33 + 6 * (s 2 - 1) by omega, show 29 + 6 * (s 2 - 1) + 5 = 34 + 6 * (s 2 - 1) by omega] at this
        exact this
      · rw [← hnw]; exact m4
  · refine ⟨?_, offF_weak f1 (by omega), ?_, ?_, ?_, ?_⟩
    · unfold tellR; rw [if_pos (by omega)]
    · unfold tellS; rw [if_pos (by omega)]
      unfold clF; rw [v1]; exact c1
    · unfold tellS; rw [if_pos (by omega)]
      intro k hk
      by_cases hkm : k = s 2 - 1
      · subst hkm; unfold tellE; rw [up1_at]; exact e1
      · unfold tellE; rw [up1_off _ _ hkm]; exact E1 k (by omega)
    · unfold tellS; rw [if_pos (by omega), h1]
      exact clB_cg B1 (fun k hk => (up1_off _ _ (by omega)).symm)
    · intro _
      have : nowF (tellS s x) (tellE s E x w t) = nowF s E := by
        unfold tellS; rw [if_pos (by omega)]
        unfold nowF; rw [h1]
        exact runE_cg (fun k hk => up1_off _ _ (by omega))
      rw [this]; exact m1
end Cst2
