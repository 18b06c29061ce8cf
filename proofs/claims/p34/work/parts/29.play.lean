/-! what follows from an event -/
def turnF (σ : Sg) : Nat := σ 109 % 2
def lookF (σ : Sg) (a : Nat) : Sg := if cnt σ a 0 0 = 0 then sgCome (sgAdd σ (104 + (1 - a)) 2) a 10 else σ
def loseF (σ : Sg) (a r g : Nat) : Sg := sgBack (sgAdd (sgOut σ a r) (104 + (1 - a)) g) (1 - a)
def touchTo (σ : Sg) (b : Nat) (e : Ev) : Nat → Sg
  | 0 => σ
  | n + 1 => if e (10 + n) = 0 then sgOut (touchTo σ b e n) b (e (30 + n) - 1) else touchTo σ b e n
def bonusF (σ : Sg) (e : Ev) : Nat := if steps e 1 ≠ 0 ∧ 6 ≤ cnt σ (1 - turnF σ) 0 3 then 1 else 0
def homeF (σ : Sg) (e : Ev) (a b : Nat) : Sg :=
  if (steps e 0 = 0 ∧ steps e 1 = 0 ∧ steps e 2 = 0) ∨ (steps e 0 + b = 0 ∧ σ (106 + a) = 2) then loseF (up1 σ (106 + a) 0) a (e 2) 1
  else if steps e 0 + b = 0 then up1 σ (106 + a) (σ (106 + a) + 1)
  else sgCome (touchTo (sgScore (up1 σ (106 + a) 0) a (e 2) (steps e 0 + b)) (1 - a) e (e 4)) a (steps e 0)
def missF (σ : Sg) (e : Ev) (a b : Nat) : Sg := loseF (sgScore (up1 σ (106 + a) 0) a (e 2) b) a (e 2) (if lastK e = 4 ∧ cnt σ (1 - a) 0 3 ≤ 3 then 2 else 1)
def timeF (σ : Sg) (t : Nat) : Sg := suspTo (suspTo (sgAdd (sgAdd σ 108 t) 109 1) 0 (σ 108 + t) 10) 1 (σ 108 + t) 10
def raidF (σ : Sg) (e : Ev) : Sg := timeF (lookF (lookF (if lastK e = 3 then homeF σ e (turnF σ) (bonusF σ e) else missF σ e (turnF σ) (bonusF σ e)) 0) 1) (lastT e)
def cardF (σ : Sg) (a p k : Nat) : Sg :=
  if colF (σ (40 + 10 * a + p)) k = 0 then sgTake σ a p 0 0
  else lookF (sgAdd (up1 (up1 (up1 σ (40 + 10 * a + p) (orN (σ (40 + 10 * a + p)) (colF (σ (40 + 10 * a + p)) k))) (10 * a + p) (if colF (σ (40 + 10 * a + p)) k = 1 then 3 else 4)) (20 + 10 * a + p) (σ 108 + 1200)) (104 + (1 - a)) (if colF (σ (40 + 10 * a + p)) k = 2 then 1 else 0)) a
def playF (σ : Sg) (e : Ev) : Sg := if e 0 = 1 then cardF σ (e 1) (e 2) (e 3) else if e 0 = 2 then sgSwap σ (e 1) (e 2) (e 3) else raidF σ e
def canSt (σ : Sg) (e : Ev) (k : Nat) : Prop := (e (10 + k) = 6 → e (50 + k) = 300) ∧ (e (10 + k) = 0 → σ (10 * (1 - turnF σ) + (e (30 + k) - 1)) = 0) ∧ (e (10 + k) < 3 → hasTo e (e (10 + k)) (e (30 + k)) k = false)
def standsF (σ : Sg) (e : Ev) : Prop :=
  if e 0 = 1 then σ (10 * e 1 + e 2) = 0 ∧ (colF (σ (40 + 10 * e 1 + e 2)) (e 3) = 0 ∨ cnt σ (e 1) 3 4 < 3)
  else if e 0 = 2 then σ (10 * e 1 + e 2) = 0 ∧ σ (10 * e 1 + e 3) = 1 ∧ σ (102 + e 1) < 5
  else σ (10 * turnF σ + e 2) = 0 ∧ ∀ k, k < e 4 → canSt σ e k
/-- an event such as can be told, ended -/
def evR (e : Ev) : Prop := e 0 ≤ 2 ∧ evW e ∧ e 1 < 2 ∧ e 2 < 10 ∧ e 3 < 10 ∧ (e 0 = 1 → e 3 < 3) ∧ (e 0 = 0 → 1 ≤ e 4 ∧ ∀ k, k < e 4 → (3 ≤ e (10 + k) ↔ k + 1 = e 4))
def wfM (σ : Sg) : Prop := wfS σ 0 ∧ wfS σ 1
theorem wfM_at {σ : Sg} {a : Nat} (w : wfM σ) (ha : a < 2) : wfS σ a := by
  rcases (show a = 0 ∨ a = 1 by omega) with rfl | rfl
  · exact w.1
  · exact w.2
theorem wfM_of {σ : Sg} (h : ∀ a, a < 2 → wfS σ a) : wfM σ := ⟨h 0 (by omega), h 1 (by omega)⟩
theorem wfM_side {σ τ : Sg} {a : Nat} (w : wfM σ) (ha : a < 2) (h : wfS τ a) (o : ∀ j, ¬ inSd a j → τ j = σ j) : wfM τ := by
  refine wfM_of (fun b hb => ?_)
  by_cases hab : b = a
  · subst hab; exact h
  · refine wfS_cg (wfM_at w hb) (fun j hj => o j ?_)
    unfold inWf at hj
    unfold inSd
    omega
theorem wfM_up {σ : Sg} {k v : Nat} (w : wfM σ) (h : (60 ≤ k ∧ k < 80) ∨ (20 ≤ k ∧ k < 40) ∨ k = 104 ∨ k = 105 ∨ 108 ≤ k) : wfM (up1 σ k v) := by
  refine wfM_of (fun b hb => wfS_up (wfM_at w hb) ?_)
  unfold inWf
  omega
theorem wfS_emp {σ : Sg} {a v : Nat} (q : wfS σ a) (ha : a < 2) (hv : v ≤ 2) : wfS (up1 σ (106 + a) v) a := by
  have hm := wfS_m q
  obtain ⟨q1, q2, q3, q4, q5, q6, q7, q8⟩ := q
  have o : ∀ j, j ≠ 106 + a → up1 σ (106 + a) v j = σ j := fun j hj => up1_off _ _ hj
  have st : ∀ i, i < 10 → up1 σ (106 + a) v (10 * a + i) = σ (10 * a + i) := fun i hi => o _ (by omega)
  have om := o (100 + a) (by omega)
  refine ⟨fun i hi => ?_, ?_, fun k hk => ?_, fun k l hkl hl => ?_, ?_, ?_, ?_, fun i hi => ?_⟩
  · rw [st i hi]; exact q1 i hi
  · rw [om, cnt_cg st]; exact q2
  · rw [om] at hk
    obtain ⟨r1, r2⟩ := q3 k hk
    rw [o (80 + 10 * a + k) (by omega), st _ r1]
    exact ⟨r1, r2⟩
  · rw [om] at hl
    rw [o (80 + 10 * a + k) (by omega), o (80 + 10 * a + l) (by omega)]
    exact q4 k l hkl hl
  · rw [cnt_cg st]; exact q5
  · rw [o _ (by omega)]; exact q6
  · rw [up1_at]; exact hv
  · rw [o _ (by omega)]; exact q8 i hi
theorem wfM_emp {σ : Sg} {a v : Nat} (w : wfM σ) (ha : a < 2) (hv : v ≤ 2) : wfM (up1 σ (106 + a) v) := wfM_side w ha (wfS_emp (wfM_at w ha) ha hv) (fun j hj => up1_off _ _ (by unfold inSd at hj; omega))
theorem wfM_out {σ : Sg} {a p : Nat} (w : wfM σ) (ha : a < 2) (hp : p < 10) (h0 : σ (10 * a + p) = 0) : wfM (sgOut σ a p) := wfM_side w ha (wfS_out (wfM_at w ha) ha hp h0) (fun _ hj => sgOut_oo ha hp (wfS_on (wfM_at w ha) hp (by omega)) hj)
theorem wfM_back {σ : Sg} {a : Nat} (w : wfM σ) (ha : a < 2) : wfM (sgBack σ a) := wfM_side w ha (wfS_back (wfM_at w ha) ha) (fun _ hj => sgBack_oo (wfM_at w ha) ha hj)
theorem wfM_come {σ : Sg} {a : Nat} (w : wfM σ) (ha : a < 2) (n : Nat) : wfM (sgCome σ a n) := wfM_side w ha (wfS_come (wfM_at w ha) ha n) (fun _ hj => sgCome_oo (wfM_at w ha) ha hj n)
theorem wfM_susp {σ : Sg} {a t : Nat} (w : wfM σ) (ha : a < 2) : wfM (suspTo σ a t 10) := wfM_side w ha (wfS_susp (wfM_at w ha) ha) (fun _ hj => susp_o (by unfold inSd at hj; omega))
theorem wfM_add {σ : Sg} {a g : Nat} (w : wfM σ) (ha : a < 2) : wfM (sgAdd σ (104 + a) g) := wfM_up w (by omega)
theorem wfM_score {σ : Sg} {a p g : Nat} (w : wfM σ) (ha : a < 2) (hp : p < 10) : wfM (sgScore σ a p g) := wfM_up (wfM_add w ha) (by omega)
theorem wfM_look {σ : Sg} {a : Nat} (w : wfM σ) (ha : a < 2) : wfM (lookF σ a) := by
  unfold lookF
  split
  · exact wfM_come (wfM_add w (by omega)) ha 10
  · exact w
theorem wfM_lose {σ : Sg} {a r g : Nat} (w : wfM σ) (ha : a < 2) (hr : r < 10) (h0 : σ (10 * a + r) = 0) : wfM (loseF σ a r g) := wfM_back (wfM_add (wfM_out w ha hr h0) (by omega)) (by omega)
theorem wfM_time {σ : Sg} {t : Nat} (w : wfM σ) : wfM (timeF σ t) := wfM_susp (wfM_susp (wfM_up (wfM_up w (by omega)) (by omega)) (by omega)) (by omega)
/-- those who were touched go out one behind the other -/
def toGo (σ : Sg) (b : Nat) (e : Ev) : Prop := ∀ k, k < e 4 → e (10 + k) = 0 → (1 ≤ e (30 + k) ∧ e (30 + k) ≤ 10) ∧ σ (10 * b + (e (30 + k) - 1)) = 0 ∧ hasTo e 0 (e (30 + k)) k = false
theorem touchTo_ok {σ : Sg} {b : Nat} {e : Ev} (w : wfM σ) (hb : b < 2) (hg : toGo σ b e) : ∀ n, n ≤ e 4 → wfM (touchTo σ b e n) ∧ (∀ j, ¬ inSd b j → touchTo σ b e n j = σ j) ∧ (∀ i, i < 10 → hasTo e 0 (i + 1) n = false → touchTo σ b e n (10 * b + i) = σ (10 * b + i))
  | 0, _ => ⟨w, fun _ _ => rfl, fun _ _ _ => rfl⟩
  | n + 1, hn => by
    obtain ⟨w1, o1, s1⟩ := touchTo_ok w hb hg n (by omega)
    unfold touchTo
    by_cases hk : e (10 + n) = 0
    · rw [if_pos hk]
      obtain ⟨⟨g1, g2⟩, g3, g4⟩ := hg n (by omega) hk
      have g5 : hasTo e 0 (e (30 + n) - 1 + 1) n = false := by rw [show e (30 + n) - 1 + 1 = e (30 + n) by omega]; exact g4
      have s2 := s1 (e (30 + n) - 1) (by omega) g5
      have s3 : touchTo σ b e n (10 * b + (e (30 + n) - 1)) = 0 := by rw [s2]; exact g3
      have hm := wfS_on (wfM_at w1 hb) (p := e (30 + n) - 1) (by omega) (by omega)
      refine ⟨wfM_out w1 hb (by omega) s3, fun j hj => ?_, fun i hi hf => ?_⟩
      · rw [sgOut_oo hb (by omega) hm hj]; exact o1 j hj
      · unfold hasTo at hf
        rw [Bool.or_eq_false_iff, Bool.and_eq_false_iff, decide_eq_false_iff_not, decide_eq_false_iff_not] at hf
        rw [sgOut_st hb hi, up1_off _ _ (by omega)]
        exact s1 i hi hf.1
    · rw [if_neg hk]
      refine ⟨w1, o1, fun i hi hf => s1 i hi ?_⟩
      unfold hasTo at hf
      rw [Bool.or_eq_false_iff] at hf
      exact hf.1
theorem evW_go {σ : Sg} {e : Ev} (hw : evW e) (hs : ∀ k, k < e 4 → canSt σ e k) : toGo σ (1 - turnF σ) e := by
  intro k hk h0
  obtain ⟨s1, s2, s3⟩ := hs k hk
  obtain ⟨w1, w2, w3, w4⟩ := hw.2 k hk
  refine ⟨⟨w3.mp h0, w2⟩, s2 h0, ?_⟩
  have := s3 (by omega)
  rwa [h0] at this
theorem turnF_lt (σ : Sg) : turnF σ < 2 := Nat.mod_lt _ (by decide)
theorem toGo_cg {σ τ : Sg} {b : Nat} {e : Ev} (h : toGo σ b e) (hc : ∀ i, i < 10 → τ (10 * b + i) = σ (10 * b + i)) : toGo τ b e := by
  intro k hk h0
  obtain ⟨g1, g2, g3⟩ := h k hk h0
  refine ⟨g1, ?_, g3⟩
  rw [hc _ (by omega)]
  exact g2
theorem sgScore_o {σ : Sg} {a p g j : Nat} (h1 : j ≠ 104 + a) (h2 : j ≠ 60 + 10 * a + p) : sgScore σ a p g j = σ j := by
  unfold sgScore sgAdd
  rw [up1_off _ _ h2, up1_off _ _ h1]
/-- where the raider comes home with touches: who is there, before the others come back -/
theorem wfM_home {σ : Sg} {e : Ev} {b : Nat} (w : wfM σ) (hw : evW e) (hr : e 2 < 10) (h0 : σ (10 * turnF σ + e 2) = 0) (hs : ∀ k, k < e 4 → canSt σ e k) : wfM (homeF σ e (turnF σ) b) := by
  have ht := turnF_lt σ
  have g := evW_go hw hs
  unfold homeF
  split
  · refine wfM_lose (wfM_emp w ht (by omega)) ht hr ?_
    rw [up1_off _ _ (by omega)]
    exact h0
  · split
    · next c1 c2 =>
      have := (wfM_at w ht).2.2.2.2.2.2.1
      exact wfM_emp w ht (by omega)
    · refine wfM_come (touchTo_ok (wfM_score (wfM_emp w ht (by omega)) ht hr) (by omega) (toGo_cg g (fun i hi => ?_)) (e 4) (Nat.le_refl _)).1 ht _
      rw [sgScore_o (by omega) (by omega), up1_off _ _ (by omega)]
theorem wfM_miss {σ : Sg} {e : Ev} {b : Nat} (w : wfM σ) (hr : e 2 < 10) (h0 : σ (10 * turnF σ + e 2) = 0) : wfM (missF σ e (turnF σ) b) := by
  have ht := turnF_lt σ
  refine wfM_lose (wfM_score (wfM_emp w ht (by omega)) ht hr) ht hr ?_
  rw [sgScore_o (by omega) (by omega), up1_off _ _ (by omega)]
  exact h0
theorem wfM_raid {σ : Sg} {e : Ev} (w : wfM σ) (hw : evW e) (hr : e 2 < 10) (h0 : σ (10 * turnF σ + e 2) = 0) (hs : ∀ k, k < e 4 → canSt σ e k) : wfM (raidF σ e) := by
  unfold raidF
  refine wfM_time (wfM_look (wfM_look ?_ (by omega)) (by omega))
  split
  · exact wfM_home w hw hr h0 hs
  · exact wfM_miss w hr h0
theorem wfM_card {σ : Sg} {a p k : Nat} (w : wfM σ) (ha : a < 2) (hp : p < 10) (hk : k < 3) (h0 : σ (10 * a + p) = 0) : wfM (cardF σ a p k) := by
  have hc := colF_lt _ ((wfM_at w ha).2.2.2.2.2.2.2 p hp) k hk
  have o : ∀ c j, ¬ inSd a j → up1 σ (40 + 10 * a + p) c j = σ j := fun c j hj => up1_off _ _ (by unfold inSd at hj; omega)
  have w1 : ∀ c, c < 3 → wfM (up1 σ (40 + 10 * a + p) (orN (σ (40 + 10 * a + p)) c)) := fun c hc => wfM_side w ha (wfS_card (wfM_at w ha) ha hp hc) (o _)
  unfold cardF
  split
  · unfold sgTake
    rw [if_neg (by omega), if_neg (by omega)]
    exact w1 0 (by omega)
  · refine wfM_look (wfM_add (wfM_up ?_ (by omega)) (by omega)) ha
    have w2 := w1 _ hc
    refine wfM_side w2 ha (wfS_st (wfM_at w2 ha) ha hp ?_ ?_) (fun j hj => up1_off _ _ (by unfold inSd at hj; omega))
    · rw [up1_off _ _ (by omega)]; exact h0
    · split <;> omega
theorem wfM_play {σ : Sg} {e : Ev} (w : wfM σ) (he : evR e) (hs : standsF σ e) : wfM (playF σ e) := by
  obtain ⟨e0, ew, e1, e2, e3, e4, e5⟩ := he
  unfold standsF at hs
  unfold playF
  split
  · next c =>
    rw [if_pos c] at hs
    exact wfM_card w e1 e2 (e4 c) hs.1
  · next c =>
    rw [if_neg c] at hs
    split
    · next c2 =>
      rw [if_pos c2] at hs
      refine wfM_side w e1 (wfS_swap (wfM_at w e1) e1 e2 e3 hs.1 hs.2.1 hs.2.2) (fun j hj => ?_)
      unfold inSd at hj
      unfold sgSwap
      rw [up1_off _ _ (by omega), up1_off _ _ (by omega), up1_off _ _ (by omega)]
    · next c2 =>
      rw [if_neg c2] at hs
      exact wfM_raid w ew e2 hs.1 hs.2
/-! bounds -/
theorem bdd_add {σ : Sg} {B C k g : Nat} (q : bdd σ B) (hk : k < 110) (h : B + g ≤ C) : bdd (sgAdd σ k g) C := bdd_up (bdd_mono q (by omega)) (by have := q k hk; omega)
theorem bdd_look {σ : Sg} {B a : Nat} (q : bdd σ B) (w : wfM σ) (ha : a < 2) : bdd (lookF σ a) (B + 2) := by
  unfold lookF
  split
  · exact bdd_come (bdd_add q (by omega) (Nat.le_refl _)) ha (wfM_at (wfM_add w (by omega)) ha) 10
  · exact bdd_mono q (by omega)
theorem bdd_lose {σ : Sg} {B a r g : Nat} (q : bdd σ B) (hB : 100 ≤ B) (w : wfM σ) (ha : a < 2) (hr : r < 10) (h0 : σ (10 * a + r) = 0) : bdd (loseF σ a r g) (B + g) :=
  bdd_back (bdd_add (bdd_out q hB hr (wfS_on (wfM_at w ha) hr (by omega))) (by omega) (Nat.le_refl _)) (by omega) (wfS_m (wfM_at (wfM_add (wfM_out w ha hr h0) (by omega)) (by omega)))
theorem bdd_score {σ : Sg} {B a p g : Nat} (q : bdd σ B) (ha : a < 2) (hp : p < 10) : bdd (sgScore σ a p g) (B + g + g) := bdd_add (bdd_add q (by omega) (Nat.le_refl _)) (by omega) (Nat.le_refl _)
theorem bdd_touch {σ : Sg} {B b : Nat} {e : Ev} (q : bdd σ B) (hB : 100 ≤ B) (w : wfM σ) (hb : b < 2) (hg : toGo σ b e) : ∀ n, n ≤ e 4 → bdd (touchTo σ b e n) B
  | 0, _ => q
  | n + 1, hn => by
    have h1 := bdd_touch q hB w hb hg n (by omega)
    obtain ⟨w1, o1, s1⟩ := touchTo_ok w hb hg n (by omega)
    unfold touchTo
    split
    · next hk =>
      obtain ⟨⟨g1, g2⟩, g3, g4⟩ := hg n (by omega) hk
      have g5 : hasTo e 0 (e (30 + n) - 1 + 1) n = false := by rw [show e (30 + n) - 1 + 1 = e (30 + n) by omega]; exact g4
      have s2 := s1 (e (30 + n) - 1) (by omega) g5
      exact bdd_out h1 hB (by omega) (wfS_on (wfM_at w1 hb) (p := e (30 + n) - 1) (by omega) (by omega))
    · exact h1
theorem steps_le (e : Ev) (x : Nat) : steps e x ≤ e 4 := stepsTo_le e x (e 4)
theorem lastT_le {e : Ev} (hw : evW e) : lastT e ≤ 300 := by
  unfold lastT
  split
  · omega
  · exact (hw.2 (e 4 - 1) (by omega)).2.2.2
theorem bonusF_le (σ : Sg) (e : Ev) : bonusF σ e ≤ 1 := by
  unfold bonusF
  split <;> omega
theorem bdd_raid {σ : Sg} {B : Nat} {e : Ev} (q : bdd σ B) (hB : 100 ≤ B) (w : wfM σ) (hw : evW e) (hr : e 2 < 10) (h0 : σ (10 * turnF σ + e 2) = 0) (hs : ∀ k, k < e 4 → canSt σ e k) : bdd (raidF σ e) (B + 1000) := by
  have ht := turnF_lt σ
  have g := evW_go hw hs
  have hb := bonusF_le σ e
  have hl := lastT_le hw
  have h1 := steps_le e 0
  have h2 := hw.1
  have key : ∀ τ, wfM τ → bdd τ (B + 100) → bdd (timeF (lookF (lookF τ 0) 1) (lastT e)) (B + 1000) := by
    intro τ w1 q1
    have w2 := wfM_look w1 (a := 0) (by omega)
    have q2 := bdd_look (bdd_look q1 w1 (a := 0) (by omega)) w2 (a := 1) (by omega)
    have q3 := bdd_add (C := B + 500) (k := 108) (g := lastT e) q2 (by omega) (by omega)
    exact bdd_susp (bdd_susp (bdd_add (C := B + 1000) (k := 109) (g := 1) q3 (by omega) (by omega)))
  unfold raidF
  split
  · refine key _ (wfM_home w hw hr h0 hs) ?_
    unfold homeF
    split
    · refine bdd_mono (bdd_lose (bdd_up q (by omega)) hB (wfM_emp w ht (by omega)) ht hr ?_) (by omega)
      rw [up1_off _ _ (by omega)]
      exact h0
    · split
      · have := q (106 + turnF σ) (by omega)
        exact bdd_up (bdd_mono q (by omega)) (by omega)
      · have w1 := wfM_score (g := steps e 0 + bonusF σ e) (wfM_emp w ht (v := 0) (by omega)) ht hr
        have g1 : toGo (sgScore (up1 σ (106 + turnF σ) 0) (turnF σ) (e 2) (steps e 0 + bonusF σ e)) (1 - turnF σ) e := toGo_cg g (fun i hi => by rw [sgScore_o (by omega) (by omega), up1_off _ _ (by omega)])
        have q1 := bdd_score (g := steps e 0 + bonusF σ e) (bdd_up (k := 106 + turnF σ) (v := 0) q (by omega)) ht hr
        exact bdd_mono (bdd_come (bdd_touch q1 (by omega) w1 (by omega) g1 (e 4) (Nat.le_refl _)) ht (wfM_at (touchTo_ok w1 (by omega) g1 (e 4) (Nat.le_refl _)).1 ht) _) (by omega)
  · refine key _ (wfM_miss w hr h0) ?_
    unfold missF
    have w1 := wfM_score (g := bonusF σ e) (wfM_emp w ht (v := 0) (by omega)) ht hr
    have q1 := bdd_score (g := bonusF σ e) (bdd_up (k := 106 + turnF σ) (v := 0) q (by omega)) ht hr
    have h3 : (if lastK e = 4 ∧ cnt σ (1 - turnF σ) 0 3 ≤ 3 then 2 else 1) ≤ 2 := by split <;> omega
    refine bdd_mono (bdd_lose q1 (by omega) w1 ht hr ?_) (by omega)
    rw [sgScore_o (by omega) (by omega), up1_off _ _ (by omega)]
    exact h0
theorem bdd_play {σ : Sg} {B : Nat} {e : Ev} (q : bdd σ B) (hB : 100 ≤ B) (w : wfM σ) (he : evR e) (hs : standsF σ e) : bdd (playF σ e) (B + 2000) := by
  obtain ⟨e0, ew, e1, e2, e3, e4, e5⟩ := he
  unfold standsF at hs
  unfold playF
  split
  · next c =>
    rw [if_pos c] at hs
    have h8 := (wfM_at w e1).2.2.2.2.2.2.2 _ e2
    have hc := colF_lt _ h8 _ (e4 c)
    have ho := orN_lt _ h8 _ hc
    have ho0 := orN_lt _ h8 0 (by omega)
    have w1 := wfM_card w e1 e2 (e4 c) hs.1
    have q1 := q 108 (by omega)
    unfold cardF
    split
    · unfold sgTake
      rw [if_neg (by omega), if_neg (by omega)]
      exact bdd_up (bdd_mono q (by omega)) (by omega)
    · have o : ∀ c j, ¬ inSd (e 1) j → up1 σ (40 + 10 * e 1 + e 2) c j = σ j := fun c j hj => up1_off _ _ (by unfold inSd at hj; omega)
      have w2 := wfM_side w e1 (wfS_card (wfM_at w e1) e1 e2 hc) (o _)
      have w3 := wfM_side w2 e1 (wfS_st (v := if colF (σ (40 + 10 * e 1 + e 2)) (e 3) = 1 then 3 else 4) (wfM_at w2 e1) e1 e2 (by rw [up1_off _ _ (by omega)]; exact hs.1) (by split <;> omega)) (fun j hj => up1_off _ _ (by unfold inSd at hj; omega))
      have q2 : bdd (up1 (up1 (up1 σ (40 + 10 * e 1 + e 2) (orN (σ (40 + 10 * e 1 + e 2)) (colF (σ (40 + 10 * e 1 + e 2)) (e 3)))) (10 * e 1 + e 2) (if colF (σ (40 + 10 * e 1 + e 2)) (e 3) = 1 then 3 else 4)) (20 + 10 * e 1 + e 2) (σ 108 + 1200)) (B + 1200) := bdd_up (bdd_up (bdd_up (bdd_mono q (by omega)) (by omega)) (by split <;> omega)) (by omega)
      have h3 : (if colF (σ (40 + 10 * e 1 + e 2)) (e 3) = 2 then 1 else 0) ≤ 1 := by split <;> omega
      exact bdd_mono (bdd_look (bdd_add (C := B + 1201) q2 (by omega) (by omega)) (wfM_add (wfM_up w3 (by omega)) (by omega)) e1) (by omega)
  · next c =>
    rw [if_neg c] at hs
    split
    · have := q (102 + e 1) (by omega)
      exact bdd_up (bdd_up (bdd_up (bdd_mono q (by omega)) (by omega)) (by omega)) (by omega)
    · next c2 =>
      rw [if_neg c2] at hs
      exact bdd_mono (bdd_raid q hB w ew e2 hs.1 hs.2) (by omega)
