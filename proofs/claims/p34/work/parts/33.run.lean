/-! a row of events from the first one on -/
abbrev Evs : Type := Nat → Ev
def runE (E : Evs) : Nat → Sg
  | 0 => sg0
  | n + 1 => playF (runE E n) (E n)
def okTo (E : Evs) (n : Nat) : Prop := ∀ k, k < n → evR (E k) ∧ standsF (runE E k) (E k)
def fallF (E : Evs) : Nat → Option Nat
  | 0 => none
  | n + 1 => match fallF E n with
    | some k => some k
    | none => if standB (runE E n) (E n) = true then none else some n
def fI : Option Nat → Int32
  | none => -1
  | some k => nI k
theorem fallF_s {E : Evs} {k : Nat} : ∀ {n}, fallF E n = some k → ∀ d, fallF E (n + d) = some k
  | _, h, 0 => h
  | n, h, d + 1 => by
    show (match fallF E (n + d) with | some k => some k | none => if standB (runE E (n + d)) (E (n + d)) = true then none else some (n + d)) = _
    rw [fallF_s h d]
theorem fallF_step_y {E : Evs} {n : Nat} (h : fallF E n = none) (hs : standB (runE E n) (E n) = true) : fallF E (n + 1) = none := by
  show (match fallF E n with | some k => some k | none => if standB (runE E n) (E n) = true then none else some n) = _
  rw [h]
  exact if_pos hs
theorem fallF_step_n {E : Evs} {n : Nat} (h : fallF E n = none) (hs : standB (runE E n) (E n) = false) : fallF E (n + 1) = some n := by
  show (match fallF E n with | some k => some k | none => if standB (runE E n) (E n) = true then none else some n) = _
  rw [h]
  exact if_neg (by rw [hs]; decide)
theorem fallF_none {E : Evs} : ∀ {n}, fallF E n = none ↔ ∀ k, k < n → standsF (runE E k) (E k)
  | 0 => ⟨fun _ k hk => absurd hk (Nat.not_lt_zero k), fun _ => rfl⟩
  | n + 1 => by
    have ih := fallF_none (E := E) (n := n)
    refine ⟨fun h => ?_, fun h => ?_⟩
    · cases h1 : fallF E n with
      | some k =>
        have := fallF_s h1 1
        rw [h] at this
        cases this
      | none =>
        cases h2 : standB (runE E n) (E n) with
        | false =>
          rw [fallF_step_n h1 h2] at h
          cases h
        | true =>
          intro k hk
          by_cases hkn : k = n
          · subst hkn; exact standB_t.mp h2
          · exact ih.mp h1 k (by omega)
    · exact fallF_step_y (ih.mpr (fun k hk => h k (by omega))) (standB_t.mpr (h n (by omega)))
theorem fallF_lt {E : Evs} {k : Nat} : ∀ {n}, fallF E n = some k → k < n
  | 0, h => by cases h
  | n + 1, h => by
    cases h1 : fallF E n with
    | some j =>
      have h2 := fallF_s h1 1
      rw [h] at h2
      have h3 : k = j := Option.some.inj h2
      have h4 := fallF_lt h1
      omega
    | none =>
      cases h2 : standB (runE E n) (E n) with
      | false =>
        rw [fallF_step_n h1 h2] at h
        have h3 : n = k := Option.some.inj h
        omega
      | true =>
        rw [fallF_step_y h1 h2] at h
        cases h
theorem runE_cg {E F : Evs} : ∀ {n}, (∀ k, k < n → E k = F k) → runE E n = runE F n
  | 0, _ => rfl
  | n + 1, h => by
    show playF (runE E n) (E n) = playF (runE F n) (F n)
    rw [runE_cg (fun k hk => h k (by omega)), h n (by omega)]
/-! clock and raids -/
theorem look_o {σ : Sg} {a j : Nat} (w : wfM σ) (ha : a < 2) (hj : 108 ≤ j) : lookF σ a j = σ j := by
  unfold lookF
  split
  · rw [sgCome_oo (wfM_at (wfM_add w (by omega)) ha) ha (by unfold inSd; omega)]
    exact up1_off _ _ (by omega)
  · rfl
theorem lose_o {σ : Sg} {a r g j : Nat} (w : wfM σ) (ha : a < 2) (hr : r < 10) (h0 : σ (10 * a + r) = 0) (hj : 108 ≤ j) : loseF σ a r g j = σ j := by
  unfold loseF
  rw [sgBack_oo (wfM_at (wfM_add (wfM_out w ha hr h0) (by omega)) (by omega)) (by omega) (by unfold inSd; omega)]
  unfold sgAdd
  rw [up1_off _ _ (by omega), sgOut_oo ha hr (wfS_on (wfM_at w ha) hr (by omega)) (by unfold inSd; omega)]
theorem home_o {σ : Sg} {e : Ev} {b j : Nat} (w : wfM σ) (hw : evW e) (hr : e 2 < 10) (h0 : σ (10 * turnF σ + e 2) = 0) (hs : ∀ k, k < e 4 → canSt σ e k) (hj : 108 ≤ j) : homeF σ e (turnF σ) b j = σ j := by
  have ht := turnF_lt σ
  have g := evW_go hw hs
  unfold homeF
  split
  · rw [lose_o (wfM_emp w ht (by omega)) ht hr (by rw [up1_off _ _ (by omega)]; exact h0) hj, up1_off _ _ (by omega)]
  · split
    · rw [up1_off _ _ (by omega)]
    · have w1 := wfM_score (g := steps e 0 + b) (wfM_emp w ht (v := 0) (by omega)) ht hr
      have g1 : toGo (sgScore (up1 σ (106 + turnF σ) 0) (turnF σ) (e 2) (steps e 0 + b)) (1 - turnF σ) e := toGo_cg g (fun i hi => by rw [sgScore_o (by omega) (by omega), up1_off _ _ (by omega)])
      obtain ⟨w2, o2, -⟩ := touchTo_ok w1 (by omega) g1 (e 4) (Nat.le_refl _)
      rw [sgCome_oo (wfM_at w2 ht) ht (by unfold inSd; omega), o2 j (by unfold inSd; omega), sgScore_o (by omega) (by omega), up1_off _ _ (by omega)]
theorem miss_o {σ : Sg} {e : Ev} {b j : Nat} (w : wfM σ) (hr : e 2 < 10) (h0 : σ (10 * turnF σ + e 2) = 0) (hj : 108 ≤ j) : missF σ e (turnF σ) b j = σ j := by
  have ht := turnF_lt σ
  unfold missF
  rw [lose_o (wfM_score (wfM_emp w ht (by omega)) ht hr) ht hr (by rw [sgScore_o (by omega) (by omega), up1_off _ _ (by omega)]; exact h0) hj, sgScore_o (by omega) (by omega), up1_off _ _ (by omega)]
theorem time_o (σ : Sg) (t : Nat) : timeF σ t 108 = σ 108 + t ∧ timeF σ t 109 = σ 109 + 1 := by
  unfold timeF
  rw [susp_o (by omega), susp_o (by omega), susp_o (by omega), susp_o (by omega)]
  unfold sgAdd
  rw [up1_off _ _ (by omega), up1_at, up1_at, up1_off _ _ (by omega)]
  exact ⟨rfl, rfl⟩
theorem raid_clk {σ : Sg} {e : Ev} (w : wfM σ) (hw : evW e) (hr : e 2 < 10) (h0 : σ (10 * turnF σ + e 2) = 0) (hs : ∀ k, k < e 4 → canSt σ e k) : raidF σ e 108 = σ 108 + lastT e ∧ raidF σ e 109 = σ 109 + 1 := by
  have key : ∀ τ, wfM τ → (∀ j, 108 ≤ j → τ j = σ j) → timeF (lookF (lookF τ 0) 1) (lastT e) 108 = σ 108 + lastT e ∧ timeF (lookF (lookF τ 0) 1) (lastT e) 109 = σ 109 + 1 := by
    intro τ w1 o1
    have w2 := wfM_look w1 (a := 0) (by omega)
    obtain ⟨t1, t2⟩ := time_o (lookF (lookF τ 0) 1) (lastT e)
    rw [t1, t2, look_o w2 (by omega) (by omega), look_o w2 (by omega) (by omega), look_o w1 (by omega) (by omega), look_o w1 (by omega) (by omega), o1 108 (by omega), o1 109 (by omega)]
    exact ⟨rfl, rfl⟩
  unfold raidF
  split
  · exact key _ (wfM_home w hw hr h0 hs) (fun j hj => home_o w hw hr h0 hs hj)
  · exact key _ (wfM_miss w hr h0) (fun j hj => miss_o w hr h0 hj)
theorem card_clk {σ : Sg} {a p k j : Nat} (w : wfM σ) (ha : a < 2) (hp : p < 10) (hk : k < 3) (h0 : σ (10 * a + p) = 0) (hj : 108 ≤ j) : cardF σ a p k j = σ j := by
  have hc := colF_lt _ ((wfM_at w ha).2.2.2.2.2.2.2 p hp) k hk
  unfold cardF
  split
  · unfold sgTake
    rw [if_neg (by omega), if_neg (by omega), up1_off _ _ (by omega)]
  · have o : ∀ c j, ¬ inSd a j → up1 σ (40 + 10 * a + p) c j = σ j := fun c j hj => up1_off _ _ (by unfold inSd at hj; omega)
    have w2 := wfM_side w ha (wfS_card (wfM_at w ha) ha hp hc) (o _)
    have w3 := wfM_side w2 ha (wfS_st (v := if colF (σ (40 + 10 * a + p)) k = 1 then 3 else 4) (wfM_at w2 ha) ha hp (by rw [up1_off _ _ (by omega)]; exact h0) (by split <;> omega)) (fun j hj => up1_off _ _ (by unfold inSd at hj; omega))
    rw [look_o (wfM_add (wfM_up w3 (by omega)) (by omega)) ha hj]
    unfold sgAdd
    rw [up1_off _ _ (by omega), up1_off _ _ (by omega), up1_off _ _ (by omega), up1_off _ _ (by omega)]
theorem play_clk {σ : Sg} {e : Ev} (w : wfM σ) (he : evR e) (hs : standsF σ e) : playF σ e 108 = σ 108 + (if e 0 = 0 then lastT e else 0) ∧ playF σ e 109 = σ 109 + (if e 0 = 0 then 1 else 0) := by
  obtain ⟨e0, ew, e1, e2, e3, e4, e5⟩ := he
  unfold standsF at hs
  unfold playF
  split
  · next c =>
    rw [if_pos c] at hs
    rw [if_neg (by omega), if_neg (by omega), card_clk w e1 e2 (e4 c) hs.1 (by omega), card_clk w e1 e2 (e4 c) hs.1 (by omega)]
    exact ⟨rfl, rfl⟩
  · next c =>
    rw [if_neg c] at hs
    split
    · rw [if_neg (by omega), if_neg (by omega)]
      unfold sgSwap
      rw [up1_off _ _ (by omega), up1_off _ _ (by omega), up1_off _ _ (by omega), up1_off _ _ (by omega), up1_off _ _ (by omega), up1_off _ _ (by omega)]
      exact ⟨rfl, rfl⟩
    · next c2 =>
      rw [if_neg c2] at hs
      rw [if_pos (by omega), if_pos (by omega)]
      exact raid_clk w ew e2 hs.1 hs.2
def clkTo (E : Evs) : Nat → Nat
  | 0 => 0
  | n + 1 => clkTo E n + (if E n 0 = 0 then lastT (E n) else 0)
theorem run_ok {E : Evs} : ∀ {n}, okTo E n → wfM (runE E n) ∧ bdd (runE E n) (100 + 2000 * n) ∧ runE E n 109 ≤ n ∧ runE E n 108 = clkTo E n
  | 0, _ => ⟨⟨wfS_sg0 (by omega), wfS_sg0 (by omega)⟩, bdd_sg0, by show sg0 109 ≤ 0; decide, rfl⟩
  | n + 1, h => by
    obtain ⟨w, b, r, c⟩ := run_ok (n := n) (fun k hk => h k (by omega))
    obtain ⟨h1, h2⟩ := h n (by omega)
    obtain ⟨p1, p2⟩ := play_clk w h1 h2
    refine ⟨wfM_play w h1 h2, bdd_mono (bdd_play b (by omega) w h1 h2) (by omega), ?_, ?_⟩
    · show playF (runE E n) (E n) 109 ≤ _
      rw [p2]
      split <;> omega
    · show playF (runE E n) (E n) 108 = clkTo E n + _
      rw [p1, c]
theorem clk_cg {E F : Evs} : ∀ {n}, (∀ k, k < n → E k 0 = F k 0 ∧ lastT (E k) = lastT (F k)) → clkTo E n = clkTo F n
  | 0, _ => rfl
  | n + 1, h => by
    unfold clkTo
    rw [clk_cg (fun k hk => h k (by omega)), (h n (by omega)).1, (h n (by omega)).2]
/-! how many steps a raid has before it ends -/
theorem cnt2 {σ : Sg} {a : Nat} : cnt σ a 1 1 + cnt σ a 2 2 ≤ 10 := by
  have := cnt_split σ a 1 2 (by decide)
  have := cnt_le σ a 1 2
  omega
theorem touch_m {σ : Sg} {b : Nat} {e : Ev} (w : wfM σ) (hb : b < 2) (hg : toGo σ b e) : ∀ n, n ≤ e 4 → touchTo σ b e n (100 + b) = σ (100 + b) + stepsTo e 0 n
  | 0, _ => rfl
  | n + 1, hn => by
    unfold touchTo stepsTo
    split
    · rw [sgOut_m, touch_m w hb hg n (by omega)]; omega
    · exact touch_m w hb hg n (by omega)
theorem touch_le {σ : Sg} {b : Nat} {e : Ev} (w : wfM σ) (hb : b < 2) (hg : toGo σ b e) : steps e 0 ≤ 7 := by
  have h1 := touch_m w hb hg (e 4) (Nat.le_refl _)
  have w1 := wfM_at (touchTo_ok w hb hg (e 4) (Nat.le_refl _)).1 hb
  have h2 := w1.2.1
  have h3 := w1.2.2.2.2.1
  have h4 := cnt2 (σ := touchTo σ b e (e 4)) (a := b)
  unfold steps
  omega
theorem once {e : Ev} {x : Nat} : ∀ {n}, (∀ k, k < n → e (10 + k) = x → hasTo e x 0 k = false ∧ e (30 + k) = 0) → stepsTo e x n ≤ 1 ∧ (hasTo e x 0 n = false → stepsTo e x n = 0)
  | 0, _ => ⟨Nat.zero_le 1, fun _ => rfl⟩
  | n + 1, h => by
    obtain ⟨h1, h2⟩ := once (e := e) (x := x) (n := n) (fun k hk => h k (by omega))
    unfold stepsTo hasTo
    by_cases hx : e (10 + n) = x
    · obtain ⟨h3, h4⟩ := h n (by omega) hx
      rw [if_pos hx, h2 h3]
      refine ⟨by omega, fun z => ?_⟩
      rw [h3, decide_eq_true hx, decide_eq_true h4] at z
      exact Bool.noConfusion z
    · rw [if_neg hx, Nat.add_zero]
      refine ⟨h1, fun z => ?_⟩
      rw [Bool.or_eq_false_iff] at z
      exact h2 z.1
theorem steps_sum {e : Ev} : ∀ {n}, (∀ k, k < n → e (10 + k) < 3) → n = stepsTo e 0 n + stepsTo e 1 n + stepsTo e 2 n
  | 0, _ => rfl
  | n + 1, h => by
    have ih := steps_sum (e := e) (n := n) (fun k hk => h k (by omega))
    have hn := h n (by omega)
    unfold stepsTo
    rcases (show e (10 + n) = 0 ∨ e (10 + n) = 1 ∨ e (10 + n) = 2 by omega) with z | z | z <;> (rw [z]; simp; omega)
/-- a raid that goes on -/
def evO (σ : Sg) (e : Ev) : Prop := e 0 = 0 ∧ e 1 < 2 ∧ e 2 < 10 ∧ e 3 < 10 ∧ evW e ∧ (∀ k, k < e 4 → e (10 + k) < 3) ∧ σ (10 * turnF σ + e 2) = 0 ∧ ∀ k, k < e 4 → canSt σ e k
theorem evO_n {σ : Sg} {e : Ev} (w : wfM σ) (h : evO σ e) : e 4 ≤ 9 := by
  obtain ⟨h0, h1, h2, h3, hw, hk, hp, hs⟩ := h
  have ht := turnF_lt σ
  have a1 := touch_le w (b := 1 - turnF σ) (by omega) (evW_go hw hs)
  have one : ∀ x, (x = 1 ∨ x = 2) → stepsTo e x (e 4) ≤ 1 := by
    intro x hx
    refine (once (fun k hk2 hkx => ?_)).1
    obtain ⟨w1, w2, w3, w4⟩ := hw.2 k hk2
    have c3 := (hs k hk2).2.2 (hk k hk2)
    have z : e (30 + k) = 0 := by omega
    rw [hkx, z] at c3
    exact ⟨c3, z⟩
  have a2 := one 1 (by omega)
  have a3 := one 2 (by omega)
  have a4 := steps_sum hk
  unfold steps at a1
  omega
