/-! what holds of a match behind each event: few are barred, one is ON, raiders made no more than their side -/
def sumTo (σ : Sg) (a : Nat) : Nat → Nat
  | 0 => 0
  | n + 1 => sumTo σ a n + σ (60 + 10 * a + n)
def sumM (σ : Sg) (a : Nat) : Nat := sumTo σ a 10
theorem sumTo_cg {σ τ : Sg} {a : Nat} : ∀ {n}, (∀ i, i < n → τ (60 + 10 * a + i) = σ (60 + 10 * a + i)) → sumTo τ a n = sumTo σ a n
  | 0, _ => rfl
  | n + 1, h => by
    unfold sumTo
    rw [sumTo_cg (fun i hi => h i (by omega)), h n (by omega)]
theorem sumTo_up {σ : Sg} {a p v : Nat} : ∀ {n}, p < n → sumTo (up1 σ (60 + 10 * a + p) v) a n + σ (60 + 10 * a + p) = sumTo σ a n + v
  | 0, h => absurd h (Nat.not_lt_zero p)
  | n + 1, h => by
    unfold sumTo
    by_cases hp : p = n
    · subst hp
      have h1 : sumTo (up1 σ (60 + 10 * a + p) v) a p = sumTo σ a p := sumTo_cg (fun j hj => up1_off _ _ (by omega))
      rw [h1, up1_at]
      omega
    · have h1 := sumTo_up (σ := σ) (a := a) (v := v) (n := n) (p := p) (by omega)
      rw [up1_off (a := 60 + 10 * a + n) _ _ (by omega)]
      omega
/-- no one is barred anew, and points grow by at least what raiders made -/
def gwB (σ τ : Sg) : Prop := ∀ i, i < 20 → (τ i = 3 ∨ τ i = 4) → τ i = σ i
def gwP (σ τ : Sg) : Prop := ∀ a, a < 2 → σ (104 + a) ≤ τ (104 + a) ∧ sumM τ a + σ (104 + a) ≤ sumM σ a + τ (104 + a)
def gw (σ τ : Sg) : Prop := gwB σ τ ∧ gwP σ τ
theorem gwP_rf (σ : Sg) : gwP σ σ := fun _ _ => ⟨Nat.le_refl _, Nat.le_refl _⟩
theorem gwP_tr {σ τ υ : Sg} (h1 : gwP σ τ) (h2 : gwP τ υ) : gwP σ υ := fun a ha => by
  obtain ⟨p1, p2⟩ := h1 a ha
  obtain ⟨q1, q2⟩ := h2 a ha
  exact ⟨by omega, by omega⟩
theorem gwB_tr {σ τ υ : Sg} (h1 : gwB σ τ) (h2 : gwB τ υ) : gwB σ υ := fun i hi h => by
  have e := h2 i hi h
  rw [e] at h ⊢
  exact h1 i hi h
theorem gw_rf (σ : Sg) : gw σ σ := ⟨fun _ _ _ => rfl, gwP_rf σ⟩
theorem gw_tr {σ τ υ : Sg} (h1 : gw σ τ) (h2 : gw τ υ) : gw σ υ := ⟨gwB_tr h1.1 h2.1, gwP_tr h1.2 h2.2⟩
theorem gwP_cg {σ τ : Sg} (h : ∀ j, (60 ≤ j ∧ j < 80) ∨ j = 104 ∨ j = 105 → τ j = σ j) : gwP σ τ := fun a ha => by
  have h1 : τ (104 + a) = σ (104 + a) := h _ (by omega)
  have h2 : sumM τ a = sumM σ a := sumTo_cg (fun i hi => h _ (by omega))
  rw [h1, h2]
  exact ⟨Nat.le_refl _, Nat.le_refl _⟩
theorem gw_up {σ : Sg} {k v : Nat} (h : (20 ≤ k ∧ k < 60) ∨ (80 ≤ k ∧ k < 104) ∨ 106 ≤ k) : gw σ (up1 σ k v) := ⟨fun i hi _ => up1_off _ _ (by omega), gwP_cg (fun j hj => up1_off _ _ (by omega))⟩
theorem gw_out {σ : Sg} {a p : Nat} (ha : a < 2) (hp : p < 10) (hm : σ (100 + a) < 10) : gw σ (sgOut σ a p) := by
  refine ⟨fun i hi h => ?_, gwP_cg (fun j hj => sgOut_o (by omega) (by omega) (by omega))⟩
  by_cases e : i = 10 * a + p
  · subst e
    rw [sgOut_st ha hp, up1_at] at h
    omega
  · exact sgOut_o e (by omega) (by omega)
theorem gw_back {σ : Sg} {a : Nat} (w : wfM σ) (ha : a < 2) : gw σ (sgBack σ a) := by
  have q := wfM_at w ha
  have hm := wfS_m q
  by_cases h0 : σ (100 + a) = 0
  · rw [sgBack_0 h0]; exact gw_rf σ
  have hf := (q.2.2.1 0 (by omega)).1
  rw [Nat.add_zero] at hf
  refine ⟨fun i hi h => ?_, gwP_cg (fun j hj => sgBack_o (by omega) hm (by omega) (by omega))⟩
  by_cases e : i = 10 * a + σ (80 + 10 * a)
  · rw [sgBack_at h0, if_neg (by omega), if_neg (by omega), if_pos e] at h
    omega
  · exact sgBack_o (by omega) hm (by omega) e
theorem gw_come {σ : Sg} {a : Nat} (w : wfM σ) (ha : a < 2) : ∀ n, gw σ (sgCome σ a n)
  | 0 => gw_rf σ
  | n + 1 => gw_tr (gw_come w ha n) (gw_back (wfM_come w ha n) ha)
theorem gw_add {σ : Sg} {a g : Nat} (ha : a < 2) : gw σ (sgAdd σ (104 + a) g) := by
  refine ⟨fun i hi _ => up1_off _ _ (by omega), fun b hb => ?_⟩
  have h2 : sumM (sgAdd σ (104 + a) g) b = sumM σ b := sumTo_cg (fun i hi => up1_off _ _ (by omega))
  rw [h2]
  by_cases e : b = a
  · subst e
    have : sgAdd σ (104 + b) g (104 + b) = σ (104 + b) + g := up1_at _ _ _
    omega
  · have : sgAdd σ (104 + a) g (104 + b) = σ (104 + b) := up1_off _ _ (by omega)
    omega
theorem gw_score {σ : Sg} {a p g : Nat} (ha : a < 2) (hp : p < 10) : gw σ (sgScore σ a p g) := by
  refine ⟨fun i hi _ => sgScore_o (by omega) (by omega), fun b hb => ?_⟩
  unfold sgScore
  have e1 : sgAdd σ (104 + a) g (60 + 10 * a + p) = σ (60 + 10 * a + p) := up1_off _ _ (by omega)
  have h1 : ∀ b, b < 2 → sumM (sgAdd σ (104 + a) g) b = sumM σ b := fun b hb => sumTo_cg (fun i hi => up1_off _ _ (by omega))
  by_cases e : b = a
  · subst e
    have h2 := sumTo_up (σ := sgAdd σ (104 + b) g) (a := b) (v := σ (60 + 10 * b + p) + g) (n := 10) hp
    have h3 := h1 b hb
    have h4 : sgAdd (sgAdd σ (104 + b) g) (60 + 10 * b + p) g (104 + b) = σ (104 + b) + g := (up1_off _ _ (by omega)).trans (up1_at _ _ _)
    have h5 : sgAdd (sgAdd σ (104 + b) g) (60 + 10 * b + p) g = up1 (sgAdd σ (104 + b) g) (60 + 10 * b + p) (σ (60 + 10 * b + p) + g) := by
      show up1 _ _ (sgAdd σ (104 + b) g (60 + 10 * b + p) + g) = _
      rw [e1]
    rw [h4, h5]
    unfold sumM at h3 ⊢
    omega
  · have h4 : sgAdd (sgAdd σ (104 + a) g) (60 + 10 * a + p) g (104 + b) = σ (104 + b) := (up1_off _ _ (by omega)).trans (up1_off _ _ (by omega))
    have h6 : sumM (sgAdd (sgAdd σ (104 + a) g) (60 + 10 * a + p) g) b = sumM (sgAdd σ (104 + a) g) b := sumTo_cg (fun i hi => up1_off _ _ (by omega))
    rw [h4, h6, h1 b hb]
    exact ⟨Nat.le_refl _, Nat.le_refl _⟩
theorem gw_susp {σ : Sg} {a t : Nat} (ha : a < 2) : gw σ (suspTo σ a t 10) := by
  refine ⟨fun i hi h => ?_, gwP_cg (fun j hj => susp_o (by omega))⟩
  unfold suspTo at h ⊢
  split at h
  · omega
  · rename_i c
    rw [if_neg c]
theorem gw_touch {σ : Sg} {b : Nat} {e : Ev} (w : wfM σ) (hb : b < 2) (hg : toGo σ b e) : ∀ n, n ≤ e 4 → gw σ (touchTo σ b e n)
  | 0, _ => gw_rf σ
  | n + 1, hn => by
    have ih := gw_touch w hb hg n (by omega)
    obtain ⟨w1, o1, s1⟩ := touchTo_ok w hb hg n (by omega)
    unfold touchTo
    split
    · rename_i hk
      obtain ⟨⟨g1, g2⟩, g3, g4⟩ := hg n (by omega) hk
      have s2 := s1 (e (30 + n) - 1) (by omega) (by rw [show e (30 + n) - 1 + 1 = e (30 + n) by omega]; exact g4)
      have hm := wfS_on (wfM_at w1 hb) (p := e (30 + n) - 1) (by omega) (by omega)
      exact gw_tr ih (gw_out hb (by omega) hm)
    · exact ih
theorem gw_look {σ : Sg} {a : Nat} (w : wfM σ) (ha : a < 2) : gw σ (lookF σ a) := by
  unfold lookF
  split
  · exact gw_tr (gw_add (by omega)) (gw_come (wfM_add w (by omega)) ha 10)
  · exact gw_rf σ
theorem gw_lose {σ : Sg} {a r g : Nat} (w : wfM σ) (ha : a < 2) (hr : r < 10) (h0 : σ (10 * a + r) = 0) : gw σ (loseF σ a r g) :=
  gw_tr (gw_out ha hr (wfS_on (wfM_at w ha) hr (by omega))) (gw_tr (gw_add (by omega)) (gw_back (wfM_add (wfM_out w ha hr h0) (by omega)) (by omega)))
theorem gw_time {σ : Sg} {t : Nat} : gw σ (timeF σ t) := by
  unfold timeF sgAdd
  exact gw_tr (gw_up (by omega)) (gw_tr (gw_up (by omega)) (gw_tr (gw_susp (by omega)) (gw_susp (by omega))))
theorem gw_home {σ : Sg} {e : Ev} {b : Nat} (w : wfM σ) (hw : evW e) (hr : e 2 < 10) (h0 : σ (10 * turnF σ + e 2) = 0) (hs : ∀ k, k < e 4 → canSt σ e k) : gw σ (homeF σ e (turnF σ) b) := by
  have ht := turnF_lt σ
  have g := evW_go hw hs
  unfold homeF
  split
  · refine gw_tr (gw_up (by omega)) (gw_lose (wfM_emp w ht (by omega)) ht hr ?_)
    rw [up1_off _ _ (by omega)]
    exact h0
  · split
    · exact gw_up (by omega)
    · have w1 := wfM_score (g := steps e 0 + b) (wfM_emp w ht (v := 0) (by omega)) ht hr
      have g1 : toGo (sgScore (up1 σ (106 + turnF σ) 0) (turnF σ) (e 2) (steps e 0 + b)) (1 - turnF σ) e := toGo_cg g (fun i hi => by rw [sgScore_o (by omega) (by omega), up1_off _ _ (by omega)])
      exact gw_tr (gw_up (by omega)) (gw_tr (gw_score ht hr) (gw_tr (gw_touch w1 (by omega) g1 (e 4) (Nat.le_refl _)) (gw_come (touchTo_ok w1 (by omega) g1 (e 4) (Nat.le_refl _)).1 ht _)))
theorem gw_miss {σ : Sg} {e : Ev} {b : Nat} (w : wfM σ) (hr : e 2 < 10) (h0 : σ (10 * turnF σ + e 2) = 0) : gw σ (missF σ e (turnF σ) b) := by
  have ht := turnF_lt σ
  unfold missF
  refine gw_tr (gw_up (by omega)) (gw_tr (gw_score ht hr) (gw_lose (wfM_score (wfM_emp w ht (by omega)) ht hr) ht hr ?_))
  rw [sgScore_o (by omega) (by omega), up1_off _ _ (by omega)]
  exact h0
/-- how many are so -/
theorem cnt5 {σ : Sg} {a : Nat} : ∀ n, (∀ i, i < n → σ (10 * a + i) ≤ 4) → cntTo σ a 0 0 n + cntTo σ a 1 1 n + cntTo σ a 2 2 n + cntTo σ a 3 4 n = n
  | 0, _ => rfl
  | n + 1, h => by
    have ih := cnt5 n (fun i hi => h i (by omega))
    have h1 := h n (by omega)
    unfold cntTo
    rcases (show σ (10 * a + n) = 0 ∨ σ (10 * a + n) = 1 ∨ σ (10 * a + n) = 2 ∨ σ (10 * a + n) = 3 ∨ σ (10 * a + n) = 4 by omega) with z | z | z | z | z <;> simp [z] <;> omega
theorem cnt_mono {σ τ : Sg} {a x y : Nat} : ∀ n, (∀ i, i < n → (σ (10 * a + i) = x ∨ σ (10 * a + i) = y) → (τ (10 * a + i) = x ∨ τ (10 * a + i) = y)) → cntTo σ a x y n ≤ cntTo τ a x y n
  | 0, _ => Nat.le_refl 0
  | n + 1, h => by
    have ih := cnt_mono n (fun i hi => h i (by omega))
    have h1 := h n (by omega)
    unfold cntTo
    by_cases c : σ (10 * a + n) = x ∨ σ (10 * a + n) = y
    · rw [if_pos c, if_pos (h1 c)]; omega
    · rw [if_neg c]; omega
theorem gw_cnt {σ τ : Sg} {a : Nat} (ha : a < 2) (h : gwB σ τ) : cnt τ a 3 4 ≤ cnt σ a 3 4 := cnt_mono 10 (fun i hi z => by
  have := h (10 * a + i) (by omega) z
  omega)
theorem come_m {σ : Sg} {a : Nat} (w : wfM σ) (ha : a < 2) : ∀ n, sgCome σ a n (100 + a) = σ (100 + a) - n
  | 0 => rfl
  | n + 1 => by
    show sgBack (sgCome σ a n) a (100 + a) = _
    rw [sgBack_m ha (wfS_m (wfM_at (wfM_come w ha n) ha)), come_m w ha n]
    omega
theorem look_on {σ : Sg} {a : Nat} (w : wfM σ) (ha : a < 2) (h3 : cnt σ a 3 4 ≤ 3) : 1 ≤ cnt (lookF σ a) a 0 0 := by
  unfold lookF
  split
  · have w1 := wfM_add (a := 1 - a) (g := 2) w (by omega)
    have w2 := wfM_come w1 ha 10
    have q := wfM_at w2 ha
    have hm := come_m w1 ha 10
    have hle := wfS_m (wfM_at w1 ha)
    have hb := (gw_tr (gw_add (a := 1 - a) (g := 2) (σ := σ) (by omega)) (gw_come w1 ha 10)).1
    have h34 := gw_cnt ha hb
    have h5 := cnt5 (σ := sgCome (sgAdd σ (104 + (1 - a)) 2) a 10) (a := a) 10 q.1
    have h2 := q.2.1
    have h1 := q.2.2.2.2.1
    unfold cnt at *
    omega
  · omega
theorem look_other {σ : Sg} {a b i : Nat} (w : wfM σ) (ha : a < 2) (hb : b < 2) (hab : b ≠ a) (hi : i < 10) : lookF σ a (10 * b + i) = σ (10 * b + i) := by
  unfold lookF
  split
  · rw [sgCome_oo (wfM_at (wfM_add w (by omega)) ha) ha (by unfold inSd; omega)]
    exact up1_off _ _ (by omega)
  · rfl
theorem susp_on {σ : Sg} {a b t : Nat} (ha : a < 2) (hb : b < 2) : cnt σ b 0 0 ≤ cnt (suspTo σ a t 10) b 0 0 := cnt_mono 10 (fun i hi z => by
  unfold suspTo
  split
  · exact Or.inl rfl
  · exact z)
def MI (σ : Sg) : Prop := ∀ a, a < 2 → cnt σ a 3 4 ≤ 3 ∧ 1 ≤ cnt σ a 0 0 ∧ sumM σ a ≤ σ (104 + a)
theorem MI_raid {σ : Sg} {e : Ev} (m : MI σ) (w : wfM σ) (hw : evW e) (hr : e 2 < 10) (h0 : σ (10 * turnF σ + e 2) = 0) (hs : ∀ k, k < e 4 → canSt σ e k) : MI (raidF σ e) ∧ gwP σ (raidF σ e) := by
  have key : ∀ τ, wfM τ → gw σ τ → MI (timeF (lookF (lookF τ 0) 1) (lastT e)) ∧ gwP σ (timeF (lookF (lookF τ 0) 1) (lastT e)) := by
    intro τ w1 g1
    have w2 := wfM_look w1 (a := 0) (by omega)
    have w3 := wfM_look w2 (a := 1) (by omega)
    have g2 := gw_tr g1 (gw_look w1 (a := 0) (by omega))
    have g3 := gw_tr g2 (gw_look w2 (a := 1) (by omega))
    have g4 := gw_tr g3 (gw_time (t := lastT e))
    refine ⟨fun a ha => ⟨?_, ?_, ?_⟩, g4.2⟩
    · have := gw_cnt ha g4.1
      have := (m a ha).1
      omega
    · have c0 : 1 ≤ cnt (lookF (lookF τ 0) 1) a 0 0 := by
        rcases (show a = 0 ∨ a = 1 by omega) with rfl | rfl
        · have h1 := look_on w1 (a := 0) (by omega) (by have := gw_cnt (a := 0) (by omega) g1.1; have := (m 0 (by omega)).1; omega)
          rw [cnt_cg (τ := lookF τ 0) (fun i hi => look_other w2 (by omega) (by omega) (by omega) hi)]
          exact h1
        · exact look_on w2 (a := 1) (by omega) (by have := gw_cnt (a := 1) (by omega) g2.1; have := (m 1 (by omega)).1; omega)
      unfold timeF
      generalize hυ : lookF (lookF τ 0) 1 = υ at c0 ⊢
      have c1 : cnt (sgAdd (sgAdd υ 108 (lastT e)) 109 1) a 0 0 = cnt υ a 0 0 := cnt_cg (fun i hi => by
        show up1 _ 109 _ _ = _
        rw [up1_off _ _ (by omega)]
        exact up1_off _ _ (by omega))
      have c2 := susp_on (σ := sgAdd (sgAdd υ 108 (lastT e)) 109 1) (a := 0) (b := a) (t := υ 108 + lastT e) (by omega) ha
      have c3 := susp_on (σ := suspTo (sgAdd (sgAdd υ 108 (lastT e)) 109 1) 0 (υ 108 + lastT e) 10) (a := 1) (b := a) (t := υ 108 + lastT e) (by omega) ha
      omega
    · have := (m a ha).2.2
      have := (g4.2 a ha).2
      omega
  unfold raidF
  split
  · exact key _ (wfM_home w hw hr h0 hs) (gw_home w hw hr h0 hs)
  · exact key _ (wfM_miss w hr h0) (gw_miss w hr h0)
theorem MI_card {σ : Sg} {a p k : Nat} (m : MI σ) (w : wfM σ) (ha : a < 2) (hp : p < 10) (hk : k < 3) (h0 : σ (10 * a + p) = 0) (hc : colF (σ (40 + 10 * a + p)) k = 0 ∨ cnt σ a 3 4 < 3) : MI (cardF σ a p k) ∧ gwP σ (cardF σ a p k) := by
  have hcl := colF_lt _ ((wfM_at w ha).2.2.2.2.2.2.2 p hp) k hk
  have o : ∀ c j, ¬ inSd a j → up1 σ (40 + 10 * a + p) c j = σ j := fun c j hj => up1_off _ _ (by unfold inSd at hj; omega)
  have w1 : ∀ c, c < 3 → wfM (up1 σ (40 + 10 * a + p) (orN (σ (40 + 10 * a + p)) c)) := fun c hc => wfM_side w ha (wfS_card (wfM_at w ha) ha hp hc) (o _)
  unfold cardF
  split
  · unfold sgTake
    rw [if_neg (by omega), if_neg (by omega)]
    have g : gw σ (up1 σ (40 + 10 * a + p) (orN (σ (40 + 10 * a + p)) 0)) := gw_up (by omega)
    refine ⟨fun b hb => ?_, g.2⟩
    have e : ∀ x y, cnt (up1 σ (40 + 10 * a + p) (orN (σ (40 + 10 * a + p)) 0)) b x y = cnt σ b x y := fun x y => cnt_cg (fun i hi => up1_off _ _ (by omega))
    rw [e, e]
    have := (g.2 b hb).2
    have := m b hb
    omega
  · rename_i hne
    have h3 : cnt σ a 3 4 < 3 := by rcases hc with z | z; exact (hne z).elim; exact z
    have w2 := w1 _ hcl
    have w3 := wfM_side w2 ha (wfS_st (v := if colF (σ (40 + 10 * a + p)) k = 1 then 3 else 4) (wfM_at w2 ha) ha hp (by rw [up1_off _ _ (by omega)]; exact h0) (by split <;> omega)) (fun j hj => up1_off _ _ (by unfold inSd at hj; omega))
    have w4 := wfM_up (k := 20 + 10 * a + p) (v := σ 108 + 1200) w3 (by omega)
    have w5 := wfM_add (a := 1 - a) (g := if colF (σ (40 + 10 * a + p)) k = 2 then 1 else 0) w4 (by omega)
    generalize hsv : (if colF (σ (40 + 10 * a + p)) k = 1 then 3 else 4) = sv at w3 w4 w5 ⊢
    have hsv2 : sv = 3 ∨ sv = 4 := by rw [← hsv]; split <;> omega
    generalize hcd : orN (σ (40 + 10 * a + p)) (colF (σ (40 + 10 * a + p)) k) = cd at w2 w3 w4 w5 ⊢
    generalize hpg : (if colF (σ (40 + 10 * a + p)) k = 2 then 1 else 0) = pg at w5 ⊢
    have st : ∀ i, i < 20 → i ≠ 10 * a + p → sgAdd (up1 (up1 (up1 σ (40 + 10 * a + p) cd) (10 * a + p) sv) (20 + 10 * a + p) (σ 108 + 1200)) (104 + (1 - a)) pg i = σ i := by
      intro i hi hne
      show up1 _ _ _ i = _
      rw [up1_off _ _ (by omega), up1_off _ _ (by omega), up1_off _ _ hne, up1_off _ _ (by omega)]
    have stp : sgAdd (up1 (up1 (up1 σ (40 + 10 * a + p) cd) (10 * a + p) sv) (20 + 10 * a + p) (σ 108 + 1200)) (104 + (1 - a)) pg (10 * a + p) = sv := by
      show up1 _ _ _ (10 * a + p) = _
      rw [up1_off _ _ (by omega), up1_off _ _ (by omega), up1_at]
    have gP : gwP σ (sgAdd (up1 (up1 (up1 σ (40 + 10 * a + p) cd) (10 * a + p) sv) (20 + 10 * a + p) (σ 108 + 1200)) (104 + (1 - a)) pg) := by
      refine gwP_tr (τ := up1 (up1 (up1 σ (40 + 10 * a + p) cd) (10 * a + p) sv) (20 + 10 * a + p) (σ 108 + 1200)) (gwP_cg (fun j hj => ?_)) (gw_add (by omega)).2
      rw [up1_off _ _ (by omega), up1_off _ _ (by omega), up1_off _ _ (by omega)]
    generalize hτ : sgAdd (up1 (up1 (up1 σ (40 + 10 * a + p) cd) (10 * a + p) sv) (20 + 10 * a + p) (σ 108 + 1200)) (104 + (1 - a)) pg = τ at w5 st stp gP ⊢
    have c34 : cnt τ a 3 4 = cnt σ a 3 4 + 1 := by
      have h1 : cnt τ a 3 4 = cnt (up1 σ (10 * a + p) sv) a 3 4 := cnt_cg (fun i hi => by
        by_cases e : i = p
        · subst e; rw [stp, up1_at]
        · rw [st _ (by omega) (by omega), up1_off _ _ (by omega)])
      have h2 := cntTo_up (σ := σ) (a := a) (x := 3) (y := 4) (i := p) (v := sv) (n := 10) hp
      rw [if_neg (by omega), if_pos hsv2] at h2
      unfold cnt at h1 ⊢
      omega
    have gl := gw_look w5 ha
    refine ⟨fun b hb => ?_, gwP_tr gP gl.2⟩
    have hP := (gwP_tr gP gl.2 b hb).2
    have hm := m b hb
    by_cases e : b = a
    · subst e
      have := gw_cnt ha gl.1
      have := look_on w5 ha (by omega)
      omega
    · have e1 : ∀ x y, cnt (lookF τ a) b x y = cnt σ b x y := fun x y => cnt_cg (fun i hi => by
        rw [look_other w5 ha hb e hi]
        exact st _ (by omega) (by omega))
      rw [e1, e1]
      omega
theorem MI_swap {σ : Sg} {a x y : Nat} (m : MI σ) (ha : a < 2) (hx : x < 10) (hy : y < 10) (h0 : σ (10 * a + x) = 0) (h1 : σ (10 * a + y) = 1) : MI (sgSwap σ a x y) ∧ gwP σ (sgSwap σ a x y) := by
  have g : gwP σ (sgSwap σ a x y) := gwP_cg (fun j hj => by
    unfold sgSwap
    rw [up1_off _ _ (by omega), up1_off _ _ (by omega), up1_off _ _ (by omega)])
  have hxy : x ≠ y := fun z => by subst z; omega
  refine ⟨fun b hb => ?_, g⟩
  have hP := (g b hb).2
  have hm := m b hb
  have base : ∀ p q, cnt (sgSwap σ a x y) b p q = cnt (up1 (up1 σ (10 * a + x) 1) (10 * a + y) 0) b p q := fun p q => cnt_cg (fun i hi => up1_off _ _ (by omega))
  by_cases e : b = a
  · subst e
    have u1 := cntTo_up (σ := up1 σ (10 * b + x) 1) (a := b) (x := 3) (y := 4) (i := y) (v := 0) (n := 10) hy
    have u2 := cntTo_up (σ := σ) (a := b) (x := 3) (y := 4) (i := x) (v := 1) (n := 10) hx
    have u3 := cntTo_up (σ := up1 σ (10 * b + x) 1) (a := b) (x := 0) (y := 0) (i := y) (v := 0) (n := 10) hy
    have u4 := cntTo_up (σ := σ) (a := b) (x := 0) (y := 0) (i := x) (v := 1) (n := 10) hx
    have ey : up1 σ (10 * b + x) 1 (10 * b + y) = 1 := (up1_off _ _ (by omega)).trans h1
    rw [ey] at u1 u3
    rw [h0] at u2 u4
    simp at u1 u2 u3 u4
    rw [base, base]
    unfold cnt at hm ⊢
    omega
  · have e1 : ∀ p q, cnt (sgSwap σ a x y) b p q = cnt σ b p q := fun p q => (base p q).trans (cnt_cg (fun i hi => by rw [up1_off _ _ (by omega), up1_off _ _ (by omega)]))
    rw [e1, e1]
    omega
theorem MI_play {σ : Sg} {e : Ev} (m : MI σ) (w : wfM σ) (he : evR e) (hs : standsF σ e) : MI (playF σ e) ∧ gwP σ (playF σ e) := by
  obtain ⟨e0, ew, e1, e2, e3, e4, e5⟩ := he
  unfold standsF at hs
  unfold playF
  split
  · next c =>
    rw [if_pos c] at hs
    exact MI_card m w e1 e2 (e4 c) hs.1 hs.2
  · next c =>
    rw [if_neg c] at hs
    split
    · next c2 =>
      rw [if_pos c2] at hs
      exact MI_swap m e1 e2 e3 hs.1 hs.2.1
    · next c2 =>
      rw [if_neg c2] at hs
      exact MI_raid m w ew e2 hs.1 hs.2
theorem MI_0 : MI sg0 := by
  intro a ha
  rcases (show a = 0 ∨ a = 1 by omega) with rfl | rfl <;> decide +kernel
theorem MI_run {E : Evs} : ∀ {n}, okTo E n → MI (runE E n)
  | 0, _ => MI_0
  | n + 1, h => (MI_play (MI_run (fun k hk => h k (by omega))) (run_ok (n := n) (fun k hk => h k (by omega))).1 (h n (by omega)).1 (h n (by omega)).2).1
theorem run_mono {E : Evs} {n a : Nat} (h : okTo E (n + 1)) (ha : a < 2) : runE E n (104 + a) ≤ runE E (n + 1) (104 + a) :=
  ((MI_play (MI_run (fun k hk => h k (by omega))) (run_ok (n := n) (fun k hk => h k (by omega))).1 (h n (by omega)).1 (h n (by omega)).2).2 a ha).1
