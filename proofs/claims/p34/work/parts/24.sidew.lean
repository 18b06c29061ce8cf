/-! what changes on a side -/
def inSd (b j : Nat) : Prop := (10 * b ≤ j ∧ j < 10 * b + 10) ∨ (20 + 10 * b ≤ j ∧ j < 30 + 10 * b) ∨ (40 + 10 * b ≤ j ∧ j < 50 + 10 * b) ∨ (60 + 10 * b ≤ j ∧ j < 70 + 10 * b) ∨ (80 + 10 * b ≤ j ∧ j < 90 + 10 * b) ∨ j = 100 + b ∨ j = 102 + b ∨ j = 104 + b ∨ j = 106 + b
theorem sdOK_cg {V : Mem} {h b : Nat} {σ τ : Sg} (q : sdOK V h b σ) (hm : σ (100 + b) ≤ 10) (e : ∀ j, inSd b j → τ j = σ j) : sdOK V h b τ := by
  obtain ⟨q1, q2, q3, q4, q5, q6, q7, q8, q9⟩ := q
  have em := e (100 + b) (by unfold inSd; omega)
  refine ⟨fun i hi => ?_, fun i hi hs => ?_, fun i hi => ?_, fun i hi => ?_, fun k hk => ?_, ?_, ?_, ?_, ?_⟩
  · rw [e _ (by unfold inSd; omega)]; exact q1 i hi
  · rw [e _ (by unfold inSd; omega)] at hs ⊢; exact q2 i hi hs
  · rw [e _ (by unfold inSd; omega)]; exact q3 i hi
  · rw [e _ (by unfold inSd; omega)]; exact q4 i hi
  · rw [em] at hk; rw [e _ (by unfold inSd; omega)]; exact q5 k hk
  · rw [e _ (by unfold inSd; omega)]; exact q6
  · rw [e _ (by unfold inSd; omega)]; exact q7
  · rw [e _ (by unfold inSd; omega)]; exact q8
  · rw [e _ (by unfold inSd; omega)]; exact q9
/-- the rows of a side alone -/
def sdR (r1 r2 r3 r4 r5 f : Nat → Int32) (a : Nat) (σ : Sg) : Prop :=
  (∀ i, i < 10 → r1 i = nI (σ (10 * a + i))) ∧ (∀ i, i < 10 → σ (10 * a + i) = 3 → r2 i = nI (σ (20 + 10 * a + i))) ∧ (∀ i, i < 10 → r3 i = nI (σ (40 + 10 * a + i))) ∧ (∀ i, i < 10 → r4 i = nI (σ (60 + 10 * a + i))) ∧ (∀ k, k < σ (100 + a) → r5 k = nI (σ (80 + 10 * a + k))) ∧
  f 5 = nI (σ (100 + a)) ∧ f 6 = nI (σ (102 + a)) ∧ f 7 = nI (σ (104 + a)) ∧ f 8 = nI (σ (106 + a))
theorem sdOK_R {V : Mem} {h a : Nat} {σ : Sg} : sdOK V h a σ ↔ sdR (V (h + 1)) (V (h + 2)) (V (h + 3)) (V (h + 4)) (V (h + 5)) (V h) a σ := Iff.rfl
def sgAdd (σ : Sg) (k g : Nat) : Sg := up1 σ k (σ k + g)
def sgOut (σ : Sg) (a p : Nat) : Sg := up1 (up1 (up1 σ (10 * a + p) 2) (80 + 10 * a + σ (100 + a)) p) (100 + a) (σ (100 + a) + 1)
def sgBack (σ : Sg) (a : Nat) : Sg := if σ (100 + a) = 0 then σ else fun j =>
  if 80 + 10 * a ≤ j ∧ j < 80 + 10 * a + (σ (100 + a) - 1) then σ (j + 1) else if j = 100 + a then σ (100 + a) - 1 else if j = 10 * a + σ (80 + 10 * a) then 0 else σ j
def sgCome (σ : Sg) (a : Nat) : Nat → Sg
  | 0 => σ
  | n + 1 => sgBack (sgCome σ a n) a
def sgScore (σ : Sg) (a p g : Nat) : Sg := sgAdd (sgAdd σ (104 + a) g) (60 + 10 * a + p) g
theorem sdR_out {r1 r2 r3 r4 r5 f : Nat → Int32} {a p : Nat} {σ : Sg} (q : sdR r1 r2 r3 r4 r5 f a σ) (ha : a < 2) (hp : p < 10) (hm : σ (100 + a) < 10) : sdR (up1 r1 p 2) r2 r3 r4 (up1 r5 (σ (100 + a)) (nI p)) (up1 f 5 (nI (σ (100 + a) + 1))) a (sgOut σ a p) := by
  obtain ⟨q1, q2, q3, q4, q5, q6, q7, q8, q9⟩ := q
  have e0 : sgOut σ a p (100 + a) = σ (100 + a) + 1 := up1_at _ _ _
  have e1 : ∀ j, j ≠ 10 * a + p → j ≠ 80 + 10 * a + σ (100 + a) → j ≠ 100 + a → sgOut σ a p j = σ j := by
    intro j h1 h2 h3
    unfold sgOut
    rw [up1_off _ _ h3, up1_off _ _ h2, up1_off _ _ h1]
  have e2 : sgOut σ a p (10 * a + p) = 2 := by
    unfold sgOut
    rw [up1_off _ _ (by omega), up1_off _ _ (by omega), up1_at]
  have e3 : sgOut σ a p (80 + 10 * a + σ (100 + a)) = p := by
    unfold sgOut
    rw [up1_off _ _ (by omega), up1_at]
  refine ⟨fun i hi => ?_, fun i hi hs => ?_, fun i hi => ?_, fun i hi => ?_, fun k hk => ?_, ?_, ?_, ?_, ?_⟩
  · by_cases hip : i = p
    · subst hip; rw [e2, up1_at]; rfl
    · rw [e1 _ (by omega) (by omega) (by omega), up1_off _ _ hip]; exact q1 i hi
  · by_cases hip : i = p
    · subst hip; rw [e2] at hs; omega
    · rw [e1 _ (by omega) (by omega) (by omega)] at hs ⊢; exact q2 i hi hs
  · rw [e1 _ (by omega) (by omega) (by omega)]; exact q3 i hi
  · rw [e1 _ (by omega) (by omega) (by omega)]; exact q4 i hi
  · rw [e0] at hk
    by_cases hkm : k = σ (100 + a)
    · subst hkm; rw [e3, up1_at]
    · rw [e1 _ (by omega) (by omega) (by omega), up1_off _ _ hkm]; exact q5 k (by omega)
  · rw [e0]; rfl
  · rw [e1 _ (by omega) (by omega) (by omega), up1_off _ _ (by omega)]; exact q7
  · rw [e1 _ (by omega) (by omega) (by omega), up1_off _ _ (by omega)]; exact q8
  · rw [e1 _ (by omega) (by omega) (by omega), up1_off _ _ (by omega)]; exact q9
/-- a row moved up by one, as far as n -/
def shiftTo (r : Nat → Int32) (n : Nat) : Nat → Int32 := fun k => if k < n then r (k + 1) else r k
theorem shiftTo_succ (r : Nat → Int32) (n : Nat) : up1 (shiftTo r n) n (shiftTo r n (n + 1)) = shiftTo r (n + 1) := by
  funext k
  unfold up1 shiftTo
  by_cases h1 : k = n
  · subst h1
    rw [if_pos rfl, if_neg (by omega), if_pos (by omega)]
  · rw [if_neg h1]
    by_cases h2 : k < n
    · rw [if_pos h2, if_pos (by omega)]
    · rw [if_neg h2, if_neg (by omega)]
theorem sgBack_0 {σ : Sg} {a : Nat} (h : σ (100 + a) = 0) : sgBack σ a = σ := if_pos h
theorem sgBack_m {σ : Sg} {a : Nat} (ha : a < 2) (hm : σ (100 + a) ≤ 10) : sgBack σ a (100 + a) = σ (100 + a) - 1 := by
  unfold sgBack
  by_cases h : σ (100 + a) = 0
  · rw [if_pos h]; omega
  · rw [if_neg h]
    show (if _ then _ else _) = _
    rw [if_neg (by omega), if_pos rfl]
theorem sdR_back {r1 r2 r3 r4 r5 f : Nat → Int32} {a : Nat} {σ : Sg} (q : sdR r1 r2 r3 r4 r5 f a σ) (ha : a < 2) (hm : σ (100 + a) ≤ 10) (h0 : ¬ σ (100 + a) = 0) (hp : σ (80 + 10 * a) < 10) : sdR (up1 r1 (σ (80 + 10 * a)) 0) r2 r3 r4 (shiftTo r5 (σ (100 + a) - 1)) (up1 f 5 (nI (σ (100 + a) - 1))) a (sgBack σ a) := by
  obtain ⟨q1, q2, q3, q4, q5, q6, q7, q8, q9⟩ := q
  have eb : ∀ j, sgBack σ a j = if 80 + 10 * a ≤ j ∧ j < 80 + 10 * a + (σ (100 + a) - 1) then σ (j + 1) else if j = 100 + a then σ (100 + a) - 1 else if j = 10 * a + σ (80 + 10 * a) then 0 else σ j := by
    intro j
    unfold sgBack
    rw [if_neg h0]
  have e1 : ∀ j, ¬ (80 + 10 * a ≤ j ∧ j < 80 + 10 * a + (σ (100 + a) - 1)) → j ≠ 100 + a → j ≠ 10 * a + σ (80 + 10 * a) → sgBack σ a j = σ j := by
    intro j h1 h2 h3
    rw [eb, if_neg h1, if_neg h2, if_neg h3]
  refine ⟨fun i hi => ?_, fun i hi hs => ?_, fun i hi => ?_, fun i hi => ?_, fun k hk => ?_, ?_, ?_, ?_, ?_⟩
  · by_cases hip : i = σ (80 + 10 * a)
    · rw [eb, if_neg (by omega), if_neg (by omega), if_pos (by omega), hip, up1_at]; rfl
    · rw [e1 _ (by omega) (by omega) (by omega), up1_off _ _ hip]; exact q1 i hi
  · by_cases hip : i = σ (80 + 10 * a)
    · rw [eb, if_neg (by omega), if_neg (by omega), if_pos (by omega)] at hs; omega
    · rw [e1 _ (by omega) (by omega) (by omega)] at hs ⊢; exact q2 i hi hs
  · rw [e1 _ (by omega) (by omega) (by omega)]; exact q3 i hi
  · rw [e1 _ (by omega) (by omega) (by omega)]; exact q4 i hi
  · rw [sgBack_m ha hm] at hk
    rw [eb, if_pos (by omega), shiftTo, if_pos hk]
    exact q5 (k + 1) (by omega)
  · rw [sgBack_m ha hm]; rfl
  · rw [e1 _ (by omega) (by omega) (by omega), up1_off _ _ (by omega)]; exact q7
  · rw [e1 _ (by omega) (by omega) (by omega), up1_off _ _ (by omega)]; exact q8
  · rw [e1 _ (by omega) (by omega) (by omega), up1_off _ _ (by omega)]; exact q9
/-- one number of a side, not of its row -/
theorem sdR_score {r1 r2 r3 r4 r5 f : Nat → Int32} {a p g : Nat} {σ : Sg} (q : sdR r1 r2 r3 r4 r5 f a σ) (ha : a < 2) (hp : p < 10) (hm : σ (100 + a) ≤ 10) : sdR r1 r2 r3 (up1 r4 p (nI (σ (60 + 10 * a + p) + g))) r5 (up1 f 7 (nI (σ (104 + a) + g))) a (sgScore σ a p g) := by
  obtain ⟨q1, q2, q3, q4, q5, q6, q7, q8, q9⟩ := q
  have e1 : ∀ j, j ≠ 104 + a → j ≠ 60 + 10 * a + p → sgScore σ a p g j = σ j := by
    intro j h1 h2
    unfold sgScore sgAdd
    rw [up1_off _ _ h2, up1_off _ _ h1]
  have e2 : sgScore σ a p g (104 + a) = σ (104 + a) + g := by
    unfold sgScore sgAdd
    rw [up1_off _ _ (by omega), up1_at]
  have e3 : sgScore σ a p g (60 + 10 * a + p) = σ (60 + 10 * a + p) + g := by
    unfold sgScore sgAdd
    rw [up1_at, up1_off _ _ (by omega)]
  have em := e1 (100 + a) (by omega) (by omega)
  refine ⟨fun i hi => ?_, fun i hi hs => ?_, fun i hi => ?_, fun i hi => ?_, fun k hk => ?_, ?_, ?_, ?_, ?_⟩
  · rw [e1 _ (by omega) (by omega)]; exact q1 i hi
  · rw [e1 _ (by omega) (by omega)] at hs ⊢; exact q2 i hi hs
  · rw [e1 _ (by omega) (by omega)]; exact q3 i hi
  · by_cases hip : i = p
    · subst hip; rw [e3, up1_at]
    · rw [e1 _ (by omega) (by omega), up1_off _ _ hip]; exact q4 i hi
  · rw [em] at hk; rw [e1 _ (by omega) (by omega)]; exact q5 k hk
  · rw [em, up1_off _ _ (by omega)]; exact q6
  · rw [e1 _ (by omega) (by omega), up1_off _ _ (by omega)]; exact q7
  · rw [e2]; rfl
  · rw [e1 _ (by omega) (by omega), up1_off _ _ (by omega)]; exact q9
theorem up2_rw {α : Type} (V : Nat → Nat → α) (a j : Nat) (x : α) (b : Nat) : up2 V a j x b = if b = a then up1 (V b) j x else V b := by
  by_cases h : b = a
  · subst h; rw [if_pos rfl, up2_at]
  · rw [if_neg h, up2_off _ _ _ h]
theorem nh1 (h k : Nat) : ¬ h = h + 1 + k := by omega
section SideW
variable {J : Nat → Nat → Int64} {V : Mem} {h a : Nat} {σ : Sg}
/-- a method that changes a region alone -/
def WR (J : Nat → Nat → Int64) (d : pD) (as : List Value) (V : Mem) (lo n : Nat) (P : Mem → Prop) : Prop := CTc J d as V (fun r V' => r = none ∧ offF V V' lo n ∧ P V') NX
theorem wr_use {d : pD} {as : List Value} {lo n : Nat} {P : Mem → Prop} {Q : Mem → Prop} {Qx : String → Mem → Prop} (q : WR J d as V lo n P) (k : ∀ V', offF V V' lo n → P V' → Q V') : CTc J d as V (fun r V' => r = none ∧ Q V') Qx := CTc_nx q (fun v V' z => ⟨z.1, k V' z.2.1 z.2.2⟩)
theorem k6_sendOut (hh : isSide h) (q : sdOK V h a σ) (ha : a < 2) (p : Nat) (hp : p < 10) (hm : σ (100 + a) < 10) : WR J mX6_sendOut [.ref h, .int (nI p)] V h 6 (fun V' => sdOK V' h a (sgOut σ a p)) := by
  refine v_X6_sendOut h (nI p) hh (rd_b (k7_isPlayer J (nI p) V) ?_)
  rw [isIx_nI (by decide) hp]
  refine ⟨fun c => (Bool.noConfusion c), fun _ => ?_⟩
  rw [q.2.2.2.2.2.1]
  have hneg : ¬ nI (σ (100 + a)) < 0 := by rw [show (0 : Int32) = nI 0 from rfl, clt (by omega) (by omega)]; omega
  have h10 : ¬ 10 ≤ nI (σ (100 + a)) := by rw [show (10 : Int32) = nI 10 from rfl, cle (by omega) (by omega)]; omega
  have e5 : ∀ x, up2 V (h + 1 + 0) (nI p).toNatClampNeg x h 5 = nI (σ (100 + a)) := by
    intro x
    rw [up2_off _ _ _ (by omega)]
    exact q.2.2.2.2.2.1
  refine ⟨fun c => (hneg c).elim, fun _ => ⟨fun c => (h10 c).elim, fun _ => ⟨vp_in_nI hp (by decide), ?_, rfl, ?_, ?_⟩⟩⟩
  · rw [e5]; exact vp_in_nI hm (by decide)
  · exact offF_up (offF_up (offF_up (offF_rf _ _ _) (by omega)) (by omega)) (by omega)
  · rw [e5]
    have e6 : up2 (up2 V (h + 1 + 0) (nI p).toNatClampNeg 2) (h + 1 + 4) (nI (σ (100 + a))).toNatClampNeg (nI p) h 5 = nI (σ (100 + a)) := by
      rw [up2_off _ _ _ (by omega), e5]
    rw [e6, nI_1, ccl (by omega), ccl (by omega)]
    have hr := sdR_out (sdOK_R.mp q) ha hp hm
    show sdR _ _ _ _ _ _ a (sgOut σ a p)
    simp [up2_rw, nh1]
    exact hr
/-- coming back, the whole loop -/
theorem k6_scoreBy (hh : isSide h) (q : sdOK V h a σ) (ha : a < 2) (p g : Nat) (hp : p < 10) (hm : σ (100 + a) ≤ 10) : WR J mX6_scoreBy [.ref h, .int (nI p), .int (nI g)] V h 6 (fun V' => sdOK V' h a (sgScore σ a p g)) := by
  refine v_X6_scoreBy h (nI p) (nI g) hh (rd_b (k7_isPlayer J (nI p) _) ?_)
  rw [isIx_nI (by decide) hp]
  refine ⟨fun c => (Bool.noConfusion c), fun _ => ⟨vp_in_nI hp (by decide), vp_in_nI hp (by decide), rfl, ?_, ?_⟩⟩
  · exact offF_up (offF_up (offF_rf _ _ _) (by omega)) (by omega)
  · have e4 : up2 V h 7 (V h 7 + nI g) (h + 1 + 3) (nI p).toNatClampNeg = nI (σ (60 + 10 * a + p)) := by
      rw [up2_off _ _ _ (by omega), ccl (by omega)]
      exact q.2.2.2.1 p hp
    rw [e4, nI_add, q.2.2.2.2.2.2.2.1, nI_add, ccl (by omega)]
    have hr := sdR_score (sdOK_R.mp q) ha hp hm (g := g)
    show sdR _ _ _ _ _ _ a (sgScore σ a p g)
    simp [up2_rw, nh1]
    exact hr
end SideW
