/-! the match: s = 0 there, 1 raiding, 2 events, 3 club, 4 other, 5 lasts, 6 begun, 7 and 8 reviews lost -/
abbrev Ms : Type := Nat → Nat
def nowF (s : Ms) (E : Evs) : Sg := runE E (s 2 - s 1)
def clF (V : Mem) (s : Ms) : Prop := V 1 3 = nI (s 2) ∧ V 1 4 = nI (s 0) ∧ V 1 5 = nI (s 1) ∧ V 1 6 = nI (s 3) ∧ V 1 7 = nI (s 4) ∧ V 1 8 = nI (s 5) ∧ V 1 9 = nI (s 6) ∧ V 1 10 = nI (s 7 + 2 * s 8)
def clE (V : Mem) (E : Evs) (n : Nat) : Prop := ∀ k, k < n → evOK V (29 + 6 * k) (E k)
def clB (V : Mem) (E : Evs) (n : Nat) : Prop := ∀ k, k < n → ∀ a, a < 2 → V (33 + 6 * k) a = nI (bits (runE E (k + 1)) a) ∧ V (34 + 6 * k) a = nI (runE E (k + 1) (104 + a))
def clM (V : Mem) (s : Ms) (E : Evs) : Prop := clF V s ∧ clE V E (s 2) ∧ clB V E (s 2 - s 1) ∧ (s 0 = 1 → mtOK V 3 (nowF s E))
def Gd (s : Ms) (E : Evs) : Prop :=
  s 0 ≤ 1 ∧ s 1 ≤ 1 ∧ s 2 ≤ 60 ∧ s 1 ≤ s 2 ∧ s 7 ≤ 1 ∧ s 8 ≤ 1 ∧ (s 0 = 0 → s 2 = 0) ∧ (s 0 = 1 → s 3 < 8 ∧ s 4 < 8 ∧ s 3 ≠ s 4 ∧ 300 ≤ s 5 ∧ s 5 ≤ 24000) ∧
  okTo E (s 2 - s 1) ∧ (∀ k, k < s 2 → E k 0 = 0 → clkTo E k < s 5) ∧ (s 1 = 1 → evO (runE E (s 2 - 1)) (E (s 2 - 1)))
theorem Gd_ok {s : Ms} {E : Evs} (G : Gd s E) : okTo E (s 2 - s 1) := G.2.2.2.2.2.2.2.2.1
theorem Gd_run {s : Ms} {E : Evs} (G : Gd s E) : wfM (nowF s E) ∧ bdd (nowF s E) 200000 ∧ nowF s E 109 < 100 ∧ nowF s E 108 = clkTo E (s 2 - s 1) := by
  obtain ⟨h1, h2, h3, h4⟩ := run_ok (Gd_ok G)
  have := G.2.2.1
  exact ⟨h1, bdd_mono h2 (by omega), by unfold nowF; omega, h4⟩
theorem evR_of {σ : Sg} {e : Ev} (h : evR e) : evW e := h.2.1
theorem evO_W {σ : Sg} {e : Ev} (h : evO σ e) : evW e := h.2.2.2.2.1
theorem Gd_W {s : Ms} {E : Evs} (G : Gd s E) {k : Nat} (hk : k < s 2) : evW (E k) := by
  obtain ⟨h0, h1, h2, h3, h7, h8, -, -, ho, -, hr⟩ := G
  by_cases hk2 : k < s 2 - s 1
  · exact (ho k hk2).1.2.1
  · have e1 : s 1 = 1 := by omega
    have e2 : k = s 2 - 1 := by omega
    rw [e2]
    exact (hr e1).2.2.2.2.1
theorem clE_keep {V V' : Mem} {E : Evs} {n : Nat} (h : clE V E n) (f : ∀ x, 29 ≤ x → x < 29 + 6 * n → (x - 29) % 6 < 4 → V' x = V x) : clE V' E n := by
  intro k hk
  obtain ⟨q1, q2, q3, q4, q5, q6⟩ := h k hk
  unfold evOK
  rw [f (29 + 6 * k) (by omega) (by omega) (by omega), f (29 + 6 * k + 1) (by omega) (by omega) (by omega), f (29 + 6 * k + 2) (by omega) (by omega) (by omega), f (29 + 6 * k + 3) (by omega) (by omega) (by omega)]
  exact ⟨q1, q2, q3, q4, q5, q6⟩
theorem clB_keep {V V' : Mem} {E : Evs} {n : Nat} (h : clB V E n) (f : ∀ x, 29 ≤ x → x < 29 + 6 * n → 4 ≤ (x - 29) % 6 → V' x = V x) : clB V' E n := by
  intro k hk a ha
  rw [f (33 + 6 * k) (by omega) (by omega) (by omega), f (34 + 6 * k) (by omega) (by omega) (by omega)]
  exact h k hk a ha
theorem clB_cg {V : Mem} {E F : Evs} {n : Nat} (h : clB V E n) (f : ∀ k, k < n → E k = F k) : clB V F n := by
  intro k hk a ha
  rw [← runE_cg (E := E) (F := F) (n := k + 1) (fun j hj => f j (by omega))]
  exact h k hk a ha
theorem mt_off {V V' : Mem} {q : Nat} {σ : Sg} (m : mtOK V q σ) (f : ∀ x, q ≤ x → x < q + 13 → V' x = V x) : mtOK V' q σ := by
  obtain ⟨m1, m2, m3, m4⟩ := m
  have hf : ∀ h, (h = q + 1 ∨ h = q + 7) → ∀ j, j < 6 → V' (h + j) = V (h + j) := fun h hh j hj => f _ (by omega) (by omega)
  have sd : ∀ h a, (h = q + 1 ∨ h = q + 7) → sdOK V h a σ → sdOK V' h a σ := by
    intro h a hh hs
    rw [sdOK_R] at hs ⊢
    rw [hf h hh 1 (by omega), hf h hh 2 (by omega), hf h hh 3 (by omega), hf h hh 4 (by omega), hf h hh 5 (by omega), show V' h = V h from hf h hh 0 (by omega)]
    exact hs
  refine ⟨sd _ _ (Or.inl rfl) m1, sd _ _ (Or.inr rfl) m2, ?_, ?_⟩
  · rw [f q (by omega) (by omega)]; exact m3
  · rw [f q (by omega) (by omega)]; exact m4
/-- cells that the match does not live in -/
theorem clM_off {V V' : Mem} {s : Ms} {E : Evs} (c : clM V s E) (h60 : s 2 ≤ 60) (f : ∀ x, (1 ≤ x ∧ x < 16) ∨ (29 ≤ x ∧ x < 389) → V' x = V x) : clM V' s E := by
  obtain ⟨c1, c2, c3, c4⟩ := c
  refine ⟨?_, clE_keep c2 (fun x h1 h2 _ => f x (by omega)), clB_keep c3 (fun x h1 h2 _ => f x (by omega)), fun h => mt_off (c4 h) (fun x h1 h2 => f x (by omega))⟩
  unfold clF
  rw [f 1 (by omega)]
  exact c1
/-- an event that has ended -/
theorem clM_ended {V : Mem} {s : Ms} {E : Evs} {m : Nat} {e : Ev} (hF : clF V s) (h2 : s 2 = m + 1) (h1 : s 1 = 0) (hE : clE V E m) (hB : clB V E m) (he : evOK V (29 + 6 * m) e) (hb : ∀ a, a < 2 → V (33 + 6 * m) a = nI (bits (playF (runE E m) e) a) ∧ V (34 + 6 * m) a = nI (playF (runE E m) e (104 + a))) (hm : mtOK V 3 (playF (runE E m) e)) : clM V s (up1 E m e) := by
  have o : ∀ k, k < m → up1 E m e k = E k := fun k hk => up1_off _ _ (by omega)
  have rm : runE (up1 E m e) m = runE E m := runE_cg o
  have rs : runE (up1 E m e) (m + 1) = playF (runE E m) e := by
    show playF (runE (up1 E m e) m) (up1 E m e m) = _
    rw [rm, up1_at]
  refine ⟨hF, fun k hk => ?_, fun k hk a ha => ?_, fun _ => ?_⟩
  · by_cases hkm : k = m
    · subst hkm; rw [up1_at]; exact he
    · rw [o k (by omega)]; exact hE k (by omega)
  · by_cases hkm : k = m
    · subst hkm; rw [rs]; exact hb a ha
    · exact clB_cg hB (fun j hj => (o j hj).symm) k (by omega) a ha
  · unfold nowF
    rw [h2, h1, Nat.sub_zero, rs]
    exact hm
/-- answers of the class that change the match alone -/
def WM (J : Nat → Nat → Int64) (d : pD) (as : List Value) (V : Mem) (x : Int32) (P : Mem → Prop) : Prop := CTc J d as V (fun r V' => r = some (.int x) ∧ offF V V' 1 388 ∧ P V') NX
theorem wm_i {J : Nat → Nat → Int64} {d : pD} {as : List Value} {V : Mem} {x : Int32} {P : Mem → Prop} {Q : Int32 → Mem → Prop} {Qx : String → Mem → Prop} (q : WM J d as V x P) (k : ∀ V', offF V V' 1 388 → P V' → Q x V') : CTc J d as V (fun r V' => ∃ r1 : Int32, r = some (.int r1) ∧ Q r1 V') Qx := CTc_nx q (fun _ V' z => ⟨x, z.1, k V' z.2.1 z.2.2⟩)
section Cst
variable {J : Nat → Nat → Int64} {V : Mem} {s : Ms} {E : Evs}
theorem k1_isThere (c : clM V s E) (G : Gd s E) : RD J mX1_isThere [.ref 1] V (bI (decide (s 0 = 1))) := by
  have h0 := G.1
  refine v_X1_isThere ?_
  unfold F_X1_isThere
  rw [c.1.2.1]
  rcases (show s 0 = 0 ∨ s 0 = 1 by omega) with z | z
  · rw [z]; exact ⟨Or.inl rfl, rfl, rfl⟩
  · rw [z]; exact ⟨Or.inr rfl, rfl, rfl⟩
theorem k1_countEvents (c : clM V s E) : RD J mX1_countEvents [.ref 1] V (nI (s 2)) := by
  refine v_X1_countEvents ?_
  unfold F_X1_countEvents
  rw [c.1.1]
  exact ⟨rfl, rfl⟩
theorem k1_countEnded (c : clM V s E) (G : Gd s E) : RD J mX1_countEnded [.ref 1] V (nI (s 2 - s 1)) := by
  obtain ⟨h0, h1, h2, h3, -⟩ := G
  refine v_X1_countEnded ?_
  unfold F_X1_countEnded
  rw [c.1.1, c.1.2.2.1, show (0 : Int32) = nI 0 from rfl, ceq (by omega) (by omega)]
  refine ⟨fun z => ?_, fun z => ?_⟩
  · rw [z]; exact ⟨rfl, rfl⟩
  · have e1 : s 1 = 1 := by omega
    obtain ⟨k, hk⟩ : ∃ k, s 2 = k + 1 := ⟨s 2 - 1, by omega⟩
    rw [hk, e1, nI_pred]; exact ⟨rfl, rfl⟩
theorem k1_isBetweenRaids (c : clM V s E) (G : Gd s E) : RD J mX1_isBetweenRaids [.ref 1] V (bI (decide (s 0 = 1 ∧ s 1 = 0))) := by
  obtain ⟨h0, h1, -⟩ := G
  refine v_X1_isBetweenRaids ?_
  unfold F_X1_isBetweenRaids
  rw [c.1.2.1, c.1.2.2.1, show (0 : Int32) = nI 0 from rfl, ceq (by omega) (by omega), ceq (by omega) (by omega)]
  refine ⟨fun z => ?_, fun z => ⟨fun y => ?_, fun y => ?_⟩⟩
  · rw [decide_eq_false (by omega)]; exact ⟨rfl, rfl⟩
  · rw [decide_eq_false (by omega)]; exact ⟨rfl, rfl⟩
  · rw [decide_eq_true (by omega)]; exact ⟨rfl, rfl⟩
theorem k1_isOver (c : clM V s E) (G : Gd s E) : RD J mX1_isOver [.ref 1] V (bI (decide (s 0 = 1 ∧ s 1 = 0 ∧ s 5 ≤ nowF s E 108))) := by
  have hg := G.2.2.2.2.2.2.2.1
  obtain ⟨-, hb, -, -⟩ := Gd_run G
  refine v_X1_isOver (rd_b (k1_isBetweenRaids c G) ?_)
  rw [decide_eq_false_iff_not, decide_eq_true_eq]
  refine ⟨fun z => ?_, fun z => ?_⟩
  · rw [decide_eq_false (by omega)]; exact ⟨rfl, rfl⟩
  · have m := c.2.2.2 z.1
    have h5 := hg z.1
    have hb8 := hb 108 (by omega)
    rw [m.2.2.1, c.1.2.2.2.2.2.1, clt (by omega) (by omega)]
    refine ⟨fun y => ?_, fun y => ?_⟩
    · rw [decide_eq_false (by omega)]; exact ⟨rfl, rfl⟩
    · rw [decide_eq_true (by omega)]; exact ⟨rfl, rfl⟩
theorem k1_eventAt (hm : V 1 3 = nI (s 2)) (h60 : s 2 ≤ 60) (p : Int32) {P0 : Mem → Prop} {P : Nat → Mem → Prop} {Qx : String → Mem → Prop} (k0 : isIx p (s 2) = false → P0 V) (k1 : ∀ k, k < s 2 → p = nI k → P (29 + 6 * k) V) : CTc J mX1_eventAt [.ref 1, .int p] V (fun r V' => (r = some .null ∧ P0 V') ∨ (∃ c, r = some (.ref c) ∧ isEv c ∧ P c V')) Qx := by
  refine v_X1_eventAt p ?_
  unfold F_X1_eventAt
  have hz : (nI (s 2)).toInt = (s 2 : Int) := nI_toInt (by omega)
  have hz0 : (0 : Int32).toInt = 0 := rfl
  have hz6 : (60 : Int32).toInt = 60 := rfl
  rw [hm, i_lt, i_le, i_le, hz, hz0, hz6]
  have no : ¬ (0 ≤ p.toInt ∧ p.toInt < (s 2 : Int)) → P0 V := by
    intro z
    refine k0 ?_
    rw [Bool.eq_false_iff]
    intro y
    rw [isIx_t, vp_in_iff] at y
    exact z y
  refine ⟨fun z => Or.inl ⟨rfl, no (by omega)⟩, fun z => ⟨fun y => Or.inl ⟨rfl, no (by omega)⟩, fun y => ⟨fun x => ?_, fun x => ?_⟩⟩⟩
  · omega
  · have hi : isIx p (s 2) = true := by rw [isIx_t, vp_in_iff]; omega
    obtain ⟨k, hk, rfl⟩ := isIx_ex (by omega) hi
    rw [ccl (by omega)]
    exact ⟨vp_in_nI (by omega) (by decide), Or.inr ⟨_, rfl, ev_of (by omega), k1 k hk rfl⟩⟩
theorem k1_mayAdd (c : clM V s E) (G : Gd s E) : RD J mX1_mayAdd [.ref 1] V (bI (decide (s 0 = 1 ∧ s 1 = 0 ∧ s 2 < 60))) := by
  have h2 := G.2.2.1
  refine v_X1_mayAdd (rd_b (k1_isBetweenRaids c G) ?_)
  rw [decide_eq_false_iff_not, decide_eq_true_eq, c.1.1, show (60 : Int32) = nI 60 from rfl, cle (by omega) (by omega)]
  refine ⟨fun z => ?_, fun z => ⟨fun y => ?_, fun y => ?_⟩⟩
  · rw [decide_eq_false (by omega)]; exact ⟨rfl, rfl⟩
  · rw [decide_eq_false (by omega)]; exact ⟨rfl, rfl⟩
  · rw [decide_eq_true (by omega)]; exact ⟨rfl, rfl⟩
def raidB (s : Ms) (E : Evs) (p : Int32) : Bool := decide (s 0 = 1 ∧ s 1 = 0 ∧ s 2 < 60 ∧ nowF s E 108 < s 5) && (isIx p 10 && decide (nowF s E (10 * turnF (nowF s E) + p.toNatClampNeg) = 0))
theorem k1_mayStartRaid (c : clM V s E) (G : Gd s E) (p : Int32) : RD J mX1_mayStartRaid [.ref 1, .int p] V (bI (raidB s E p)) := by
  have hg := G.2.2.2.2.2.2.2.1
  obtain ⟨w, hb, hr, -⟩ := Gd_run G
  refine v_X1_mayStartRaid p (rd_b (k1_mayAdd c G) ?_)
  rw [decide_eq_false_iff_not, decide_eq_true_eq]
  unfold raidB
  refine ⟨fun z => ?_, fun z => ?_⟩
  · rw [decide_eq_false (by omega)]; exact ⟨rfl, rfl⟩
  · have m := c.2.2.2 z.1
    have h5 := hg z.1
    have hb8 := hb 108 (by omega)
    have ht := turnF_lt (nowF s E)
    rw [m.2.2.1, c.1.2.2.2.2.2.1, cle (by omega) (by omega)]
    refine ⟨fun y => ?_, fun y => ?_⟩
    · rw [decide_eq_false (by omega)]; exact ⟨rfl, rfl⟩
    · rw [decide_eq_true (by omega), Bool.true_and]
      refine rd_i (k4_turn mt_3 m hr) (k4_sideAt mt_3 _ ht (rd_b (k6_isOn (sOf_s mt_3 ht) (mt_sd m ht).1 (wfM_at w ht).1 p) ⟨fun x => ?_, fun x => ?_⟩))
      · rw [x]; exact ⟨rfl, rfl⟩
      · rw [x]; exact ⟨rfl, rfl⟩
theorem k1_addEvent (m : Nat) (hm : V 1 3 = nI m) (h60 : m < 60) (t a p d : Nat) (x : Int32) (hx : t ≠ 0 → x = nI d) {P0 : Mem → Prop} {P : Nat → Mem → Prop} {Qx : String → Mem → Prop} (k : ∀ V1, offF V V1 (29 + 6 * m) 1 → evOK V1 (29 + 6 * m) (evNew t a p d) → P (29 + 6 * m) (up2 V1 1 3 (nI (m + 1)))) : CTc J mX1_addEvent [.ref 1, .int (nI t), .int (nI a), .int (nI p), .int x] V (fun r V' => (r = some .null ∧ P0 V') ∨ (∃ c, r = some (.ref c) ∧ isEv c ∧ P c V')) Qx := by
  refine v_X1_addEvent _ _ _ _ ?_
  unfold F_X1_addEvent
  rw [hm, show (0 : Int32) = nI 0 from rfl, clt (by omega) (by omega), show (60 : Int32) = nI 60 from rfl, clt (by omega) (by omega), ccl (by omega)]
  refine ⟨fun z => by omega, fun _ => ⟨fun _ => ⟨vp_in_nI h60 (by decide), ?_⟩, fun z => (z h60).elim⟩⟩
  refine wr_use (k2_fill (ev_of h60) t a p d x hx) (fun V1 f1 e1 => ?_)
  have e3 : V1 1 3 = nI m := by rw [f1 1 (by omega)]; exact hm
  rw [e3, nI_1]
  exact Or.inr ⟨_, rfl, ev_of h60, k V1 f1 e1⟩
theorem k1_startRaid (c : clM V s E) (G : Gd s E) (p : Nat) (hp : p < 10) (h0 : s 0 = 1) (h1 : s 1 = 0) (h60 : s 2 < 60) (hclk : nowF s E 108 < s 5) (hon : nowF s E (10 * turnF (nowF s E) + p) = 0) : WM J mX1_startRaid [.ref 1, .int (nI p)] V (nI (s 2)) (fun V' => clM V' (up1 (up1 s 1 1) 2 (s 2 + 1)) (up1 E (s 2) (evNew 0 (turnF (nowF s E)) p 0)) ∧ Gd (up1 (up1 s 1 1) 2 (s 2 + 1)) (up1 E (s 2) (evNew 0 (turnF (nowF s E)) p 0))) := by
  have m := c.2.2.2 h0
  obtain ⟨w, hb, hr, hck⟩ := Gd_run G
  have ht := turnF_lt (nowF s E)
  obtain ⟨c1, c2, c3, c4⟩ := c
  refine v_X1_startRaid _ (rd_i (k4_turn mt_3 m hr) (k1_addEvent (s 2) c1.1 h60 0 _ p 0 (-1) (fun z => (z rfl).elim) (fun V1 f1 e1 => ?_)))
  have f13 : up2 (up2 V1 1 3 (nI (s 2 + 1))) 1 5 1 1 3 = nI (s 2 + 1) := by simp [up2_rw, up1]
  rw [f13, nI_pred]
  have o : ∀ k, k < s 2 → up1 E (s 2) (evNew 0 (turnF (nowF s E)) p 0) k = E k := fun k hk => up1_off _ _ (by omega)
  have s2' : up1 (up1 s 1 1) 2 (s 2 + 1) 2 = s 2 + 1 := up1_at _ _ _
  have s1' : up1 (up1 s 1 1) 2 (s 2 + 1) 1 = 1 := by rw [up1_off _ _ (by omega), up1_at]
  have so : ∀ j, j ≠ 1 → j ≠ 2 → up1 (up1 s 1 1) 2 (s 2 + 1) j = s j := fun j h1 h2 => by rw [up1_off _ _ h2, up1_off _ _ h1]
  have fx : ∀ x, x ≠ 1 → x ≠ 29 + 6 * s 2 → up2 (up2 V1 1 3 (nI (s 2 + 1))) 1 5 1 x = V x := by
    intro x hx1 hx2
    rw [up2_off _ _ _ hx1, up2_off _ _ _ hx1]
    exact f1 x (by omega)
  have rn : nowF (up1 (up1 s 1 1) 2 (s 2 + 1)) (up1 E (s 2) (evNew 0 (turnF (nowF s E)) p 0)) = nowF s E := by
    unfold nowF
    rw [s2', s1', show s 2 + 1 - 1 = s 2 - s 1 by omega]
    exact runE_cg (fun k hk => up1_off _ _ (by omega))
  refine ⟨rfl, ?_, ?_, ?_⟩
  · exact offF_up (offF_up (offF_weak f1 (by omega)) (by omega)) (by omega)
  · refine ⟨?_, ?_, ?_, ?_⟩
    · have v1 : V1 1 = V 1 := f1 1 (by omega)
      obtain ⟨d1, d2, d3, d4, d5, d6, d7, d8⟩ := c1
      unfold clF
      rw [s2', s1', so 0 (by omega) (by omega), so 3 (by omega) (by omega), so 4 (by omega) (by omega), so 5 (by omega) (by omega), so 6 (by omega) (by omega), so 7 (by omega) (by omega), so 8 (by omega) (by omega)]
      simp [up2_rw, up1, v1, d2, d4, d5, d6, d7, d8]
      rfl
    · rw [s2']
      intro k hk
      by_cases hkm : k = s 2
      · subst hkm
        rw [up1_at]
        exact evOK_off e1 (lo := 1) (n := 1) (offF_up (offF_up (offF_rf _ _ _) (by omega)) (by omega)) (by omega)
      · rw [o k (by omega)]
        exact clE_keep c2 (fun x h1 h2 h3 => fx x (by omega) (by omega)) k (by omega)
    · rw [s2', s1', show s 2 + 1 - 1 = s 2 - s 1 by omega]
      exact clB_cg (clB_keep c3 (fun x h1 h2 h3 => fx x (by omega) (by omega))) (fun k hk => (o k (by omega)).symm)
    · intro _
      rw [rn]
      exact mt_off m (fun x h1 h2 => fx x (by omega) (by omega))
  · obtain ⟨g0, g1, g2, g3, g7, g8, ga, gb, gc, gd, ge⟩ := G
    unfold Gd
    rw [s2', s1', so 0 (by omega) (by omega), so 3 (by omega) (by omega), so 4 (by omega) (by omega), so 5 (by omega) (by omega), so 7 (by omega) (by omega), so 8 (by omega) (by omega), show s 2 + 1 - 1 = s 2 by omega]
    have cke : ∀ n, n ≤ s 2 → clkTo (up1 E (s 2) (evNew 0 (turnF (nowF s E)) p 0)) n = clkTo E n := fun n hn => clk_cg (fun k hk => by rw [o k (by omega)]; exact ⟨rfl, rfl⟩)
    have re : ∀ n, n ≤ s 2 → runE (up1 E (s 2) (evNew 0 (turnF (nowF s E)) p 0)) n = runE E n := fun n hn => runE_cg (fun k hk => o k (by omega))
    rw [show s 2 - s 1 = s 2 by omega] at gc hck
    have hnw : nowF s E = runE E (s 2) := by unfold nowF; rw [h1, Nat.sub_zero]
    refine ⟨g0, by omega, by omega, by omega, g7, g8, by omega, gb, fun k hk => ?_, fun k hk h => ?_, fun _ => ?_⟩
    · rw [o k hk, re k (by omega)]; exact gc k hk
    · rw [cke k (by omega)]
      by_cases hkm : k = s 2
      · subst hkm; rw [← hck]; exact hclk
      · rw [o k (by omega)] at h
        exact gd k (by omega) h
    · rw [up1_at, re _ (Nat.le_refl _), ← hnw]
      have n4 : evNew 0 (turnF (nowF s E)) p 0 4 = 0 := rfl
      refine ⟨rfl, ht, hp, by show 0 < 10; omega, ⟨by rw [n4]; omega, fun k hk => ?_⟩, fun k hk => ?_, hon, fun k hk => ?_⟩ <;> (rw [n4] at hk; exact absurd hk (Nat.not_lt_zero k))
end Cst
