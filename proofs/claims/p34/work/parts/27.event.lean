/-! one event as numbers: 0 sort, 1 side, 2 player, 3 detail, 4 steps, 10 + k kinds, 30 + k who + 1, 50 + k tenths -/
abbrev Ev : Type := Nat → Nat
def evOK (V : Mem) (h : Nat) (e : Ev) : Prop :=
  V h 5 = nI (e 0) ∧ V h 6 = nI (e 1) ∧ V h 7 = nI (e 2) ∧ (e 0 ≠ 0 → V h 8 = nI (e 3)) ∧ V h 9 = nI (e 4) ∧ ∀ k, k < e 4 → V (h + 1) k = nI (e (10 + k)) ∧ V (h + 2) k = nI (e (30 + k)) - 1 ∧ V (h + 3) k = nI (e (50 + k))
/-- its steps are such as there are -/
def evW (e : Ev) : Prop := e 4 ≤ 10 ∧ ∀ k, k < e 4 → e (10 + k) ≤ 6 ∧ e (30 + k) ≤ 10 ∧ (e (10 + k) = 0 ↔ 1 ≤ e (30 + k)) ∧ e (50 + k) ≤ 300
def wI (w : Nat) : Int32 := nI w - 1
theorem wI_eq {w x : Nat} (hw : w < 2147483648) (hx : x < 2147483648) : wI w = wI x ↔ w = x := by
  unfold wI
  rw [← ceq hw hx]
  refine ⟨fun h => ?_, fun h => by rw [h]⟩
  have h2 : nI w - 1 + 1 = nI x - 1 + 1 := by rw [h]
  rwa [Int32.sub_add_cancel, Int32.sub_add_cancel] at h2
theorem wI_s (w : Nat) : wI (w + 1) = nI w := by
  unfold wI
  rw [nI_pred]
theorem wI_0 : wI 0 = -1 := rfl
theorem evOK_off {V V' : Mem} {h lo n : Nat} {e : Ev} (q : evOK V h e) (hf : offF V V' lo n) (hd : h + 4 ≤ lo ∨ lo + n ≤ h) : evOK V' h e := by
  obtain ⟨q1, q2, q3, q4, q5, q6⟩ := q
  have r0 := hf h (by omega)
  have r1 := hf (h + 1) (by omega)
  have r2 := hf (h + 2) (by omega)
  have r3 := hf (h + 3) (by omega)
  unfold evOK
  rw [r0, r1, r2, r3]
  exact ⟨q1, q2, q3, q4, q5, q6⟩
def stepsTo (e : Ev) (x : Nat) : Nat → Nat
  | 0 => 0
  | n + 1 => stepsTo e x n + (if e (10 + n) = x then 1 else 0)
def steps (e : Ev) (x : Nat) : Nat := stepsTo e x (e 4)
theorem stepsTo_le (e : Ev) (x : Nat) : ∀ n, stepsTo e x n ≤ n
  | 0 => Nat.le_refl 0
  | n + 1 => by
    have := stepsTo_le e x n
    unfold stepsTo
    split <;> omega
def hasTo (e : Ev) (x w : Nat) : Nat → Bool
  | 0 => false
  | n + 1 => hasTo e x w n || (decide (e (10 + n) = x) && decide (e (30 + n) = w))
theorem hasTo_t {e : Ev} {x w : Nat} : ∀ {n}, hasTo e x w n = true ↔ ∃ k, k < n ∧ e (10 + k) = x ∧ e (30 + k) = w
  | 0 => by simp [hasTo]
  | n + 1 => by
    unfold hasTo
    rw [Bool.or_eq_true, hasTo_t, Bool.and_eq_true, decide_eq_true_eq, decide_eq_true_eq]
    refine ⟨fun z => ?_, fun ⟨k, hk, z⟩ => ?_⟩
    · rcases z with ⟨k, hk, z⟩ | z
      · exact ⟨k, by omega, z⟩
      · exact ⟨n, by omega, z⟩
    · by_cases hkn : k = n
      · subst hkn; exact Or.inr z
      · exact Or.inl ⟨k, by omega, z⟩
section EvM
variable {J : Nat → Nat → Int64} {V : Mem} {h : Nat} {e : Ev}
theorem k2_isRaid (hh : isEv h) (q : V h 5 = nI (e 0)) (hb : e 0 ≤ 2) : RD J mX2_isRaid [.ref h] V (bI (decide (e 0 = 0))) := by
  refine v_X2_isRaid h hh ?_
  unfold F_X2_isRaid
  rw [q, show (0 : Int32) = nI 0 from rfl, ceq (by omega) (by omega)]
  exact ⟨fun c => by simp [bI, c]; rfl, fun c => by simp [bI, c]⟩
theorem k2_isPlace (hh : isEv h) (q : V h 9 = nI (e 4)) (hb : e 4 ≤ 10) (p : Int32) : RD J mX2_isPlace [.ref h, .int p] V (bI (isIx p (e 4))) := by
  refine v_X2_isPlace h p hh ?_
  unfold F_X2_isPlace
  have hz : (nI (e 4)).toInt = (e 4 : Int) := nI_toInt (by omega)
  have h0 : (0 : Int32).toInt = 0 := rfl
  have h10 : (10 : Int32).toInt = 10 := rfl
  rw [q, i_lt, i_le, i_le, hz, h0, h10]
  unfold isIx
  refine ⟨fun c => ?_, fun c => ⟨fun c2 => ?_, fun c2 => ⟨fun c3 => ?_, fun c3 => ?_⟩⟩⟩
  · rw [decide_eq_false (by omega)]; exact ⟨rfl, rfl⟩
  · rw [decide_eq_false (p := p.toInt < (e 4 : Int)) (by omega), Bool.and_false]; exact ⟨rfl, rfl⟩
  · rw [decide_eq_false (p := p.toInt < (e 4 : Int)) (by omega), Bool.and_false]; exact ⟨rfl, rfl⟩
  · rw [decide_eq_true (by omega), decide_eq_true (by omega)]; exact ⟨rfl, rfl⟩
theorem k2_kindAt (hh : isEv h) (q : evOK V h e) (hb : e 4 ≤ 10) (p : Int32) : RD J mX2_kindAt [.ref h, .int p] V (if isIx p (e 4) = true then nI (e (10 + p.toNatClampNeg)) else -1) := by
  refine v_X2_kindAt h p hh (rd_b (k2_isPlace hh q.2.2.2.2.1 hb p) ⟨fun c => ⟨by rw [c]; rfl, rfl⟩, fun c => ?_⟩)
  obtain ⟨i, hi, rfl⟩ := isIx_ex (by omega) c
  refine ⟨vp_in_nI (by omega) (by decide), ?_, rfl⟩
  rw [c, if_pos rfl, ccl (by omega)]
  exact congrArg (fun z => some (Value.int z)) (q.2.2.2.2.2 i hi).1
theorem k2_whoAt (hh : isEv h) (q : evOK V h e) (hb : e 4 ≤ 10) (p : Int32) : RD J mX2_whoAt [.ref h, .int p] V (if isIx p (e 4) = true then wI (e (30 + p.toNatClampNeg)) else -1) := by
  refine v_X2_whoAt h p hh (rd_b (k2_isPlace hh q.2.2.2.2.1 hb p) ⟨fun c => ⟨by rw [c]; rfl, rfl⟩, fun c => ?_⟩)
  obtain ⟨i, hi, rfl⟩ := isIx_ex (by omega) c
  refine ⟨vp_in_nI (by omega) (by decide), ?_, rfl⟩
  rw [c, if_pos rfl, ccl (by omega)]
  exact congrArg (fun z => some (Value.int z)) (q.2.2.2.2.2 i hi).2.1
theorem k2_tenthAt (hh : isEv h) (q : evOK V h e) (hb : e 4 ≤ 10) (p : Int32) : RD J mX2_tenthAt [.ref h, .int p] V (if isIx p (e 4) = true then nI (e (50 + p.toNatClampNeg)) else 0) := by
  refine v_X2_tenthAt h p hh (rd_b (k2_isPlace hh q.2.2.2.2.1 hb p) ⟨fun c => ⟨by rw [c]; rfl, rfl⟩, fun c => ?_⟩)
  obtain ⟨i, hi, rfl⟩ := isIx_ex (by omega) c
  refine ⟨vp_in_nI (by omega) (by decide), ?_, rfl⟩
  rw [c, if_pos rfl, ccl (by omega)]
  exact congrArg (fun z => some (Value.int z)) (q.2.2.2.2.2 i hi).2.2
theorem lastIx {n : Nat} (hn : n ≤ 10) : isIx (nI n - 1) n = decide (n ≠ 0) ∧ (n ≠ 0 → (nI n - 1).toNatClampNeg = n - 1) := by
  rcases Nat.eq_zero_or_pos n with rfl | z
  · exact ⟨rfl, fun z => (z rfl).elim⟩
  · obtain ⟨m, rfl⟩ : ∃ m, n = m + 1 := ⟨n - 1, by omega⟩
    rw [nI_pred, isIx_nI (by omega) (by omega)]
    exact ⟨(decide_eq_true (by omega)).symm, fun _ => ccl (by omega)⟩
def lastT (e : Ev) : Nat := if e 4 = 0 then 0 else e (50 + (e 4 - 1))
def lastK (e : Ev) : Nat := e (10 + (e 4 - 1))
theorem k2_lastTenth (hh : isEv h) (q : evOK V h e) (hb : e 4 ≤ 10) : RD J mX2_lastTenth [.ref h] V (nI (lastT e)) := by
  refine v_X2_lastTenth h hh ?_
  unfold F_X2_lastTenth
  rw [q.2.2.2.2.1]
  refine rd_i (k2_tenthAt hh q hb _) ⟨?_, rfl⟩
  obtain ⟨h1, h2⟩ := lastIx hb
  rw [h1]
  unfold lastT
  by_cases h0 : e 4 = 0
  · rw [if_pos h0, if_neg (by simp [h0])]; rfl
  · rw [if_neg h0, if_pos (by simp [h0]), h2 h0]
theorem k2_lastKind (hh : isEv h) (q : evOK V h e) (hb : e 4 ≤ 10) (h0 : e 4 ≠ 0) : RD J mX2_lastKind [.ref h] V (nI (lastK e)) := by
  refine v_X2_lastKind h hh ?_
  unfold F_X2_lastKind
  rw [q.2.2.2.2.1]
  refine rd_i (k2_kindAt hh q hb _) ⟨?_, rfl⟩
  obtain ⟨h1, h2⟩ := lastIx hb
  rw [h1, if_pos (by simp [h0]), h2 h0]
  rfl
theorem k2_hasAmongFirst (hh : isEv h) (q : evOK V h e) (hw : evW e) (c x w : Nat) (hc : c ≤ e 4) (hx : x ≤ 6) (hw2 : w ≤ 10) : RD J mX2_hasAmongFirst [.ref h, .int (nI c), .int (nI x), .int (wI w)] V (bI (hasTo e x w c)) := by
  obtain ⟨hb, hst⟩ := hw
  refine v_X2_hasAmongFirst h _ _ _ hh ?_
  unfold F_X2_hasAmongFirst F_X2_hasAmongFirst_3
  refine ⟨fun n x4 V' => ∃ k, k ≤ c ∧ n = c - k ∧ x4 = nI k ∧ hasTo e x w k = false ∧ V = V', ⟨c, 0, by omega, rfl, rfl, rfl, rfl⟩, ?_⟩
  rintro n x4 V' ⟨k, hk, hn, rfl, hf, rfl⟩
  unfold B_X2_hasAmongFirst_3 F_X2_hasAmongFirst_40
  refine ⟨fun c1 => ?_, fun c1 => ⟨fun c2 => ?_, fun c2 => ?_⟩⟩
  · have h2 := lpE (by omega) hk c1
    subst h2
    rw [hf]
    exact ⟨rfl, rfl⟩
  · have h1 := lpL (by omega) hk c1
    have h2 := lpE (n := 10) (by omega) (by omega) c2
    omega
  · have h1 := lpL (by omega) hk c1
    obtain ⟨e1, e2, e3⟩ := q.2.2.2.2.2 k (by omega)
    obtain ⟨s1, s2, s3, s4⟩ := hst k (by omega)
    rw [ccl (by omega), show V (h + 1 + 0) k = nI (e (10 + k)) from e1, show V (h + 1 + 1) k = wI (e (30 + k)) from e2, ceq (by omega) (by omega), wI_eq (by omega) (by omega)]
    have go : ¬ (e (10 + k) = x ∧ e (30 + k) = w) → ∃ n', n' < n ∧ ∃ k_1, k_1 ≤ c ∧ n' = c - k_1 ∧ nI k + 1 = nI k_1 ∧ hasTo e x w k_1 = false ∧ V = V := by
      intro hne
      refine ⟨c - (k + 1), by omega, k + 1, by omega, rfl, nI_1 k, ?_, rfl⟩
      unfold hasTo
      rw [hf]
      simpa using hne
    refine ⟨vp_in_nI (by omega) (by decide), fun c3 => go (fun z => c3 z.1), fun c3 => ⟨vp_in_nI (by omega) (by decide), fun c4 => go (fun z => c4 z.2), fun c4 => ?_⟩⟩
    rw [hasTo_t.mpr ⟨k, h1, c3, c4⟩]
    exact ⟨rfl, rfl⟩
theorem k2_has (hh : isEv h) (q : evOK V h e) (hw : evW e) (x : Nat) (hx : x ≤ 6) : RD J mX2_has [.ref h, .int (nI x)] V (bI (hasTo e x 0 (e 4))) := by
  refine v_X2_has h _ hh ?_
  unfold F_X2_has
  rw [q.2.2.2.2.1]
  exact rd_b (k2_hasAmongFirst hh q hw (e 4) x 0 (Nat.le_refl _) hx (by omega)) ⟨rfl, rfl⟩
theorem k2_countTouches (hh : isEv h) (q : evOK V h e) (hw : evW e) : RD J mX2_countTouches [.ref h] V (nI (steps e 0)) := by
  obtain ⟨hb, hst⟩ := hw
  refine v_X2_countTouches h hh ?_
  unfold F_X2_countTouches F_X2_countTouches_4
  refine ⟨fun n x1 x2 V' => ∃ k, k ≤ e 4 ∧ n = e 4 - k ∧ x2 = nI k ∧ x1 = nI (stepsTo e 0 k) ∧ V = V', ⟨e 4, 0, by omega, rfl, rfl, rfl, rfl⟩, ?_⟩
  rintro n x1 x2 V' ⟨k, hk, hn, rfl, rfl, rfl⟩
  unfold B_X2_countTouches_4 F_X2_countTouches_30
  rw [q.2.2.2.2.1]
  refine ⟨fun c1 => ?_, fun c1 => ⟨fun c2 => ?_, fun c2 => ?_⟩⟩
  · have h2 := lpE (by omega) hk c1
    unfold steps
    rw [h2]
    exact ⟨rfl, rfl⟩
  · have h1 := lpL (by omega) hk c1
    have h2 := lpE (n := 10) (by omega) (by omega) c2
    omega
  · have h1 := lpL (by omega) hk c1
    obtain ⟨e1, e2, e3⟩ := q.2.2.2.2.2 k (by omega)
    obtain ⟨s1, s2, s3, s4⟩ := hst k (by omega)
    rw [ccl (by omega), show V (h + 1 + 0) k = nI (e (10 + k)) from e1, show (0 : Int32) = nI 0 from rfl, ceq (by omega) (by omega)]
    refine ⟨vp_in_nI (by omega) (by decide), fun c3 => ?_, fun c3 => ?_⟩
    · refine ⟨e 4 - (k + 1), by omega, k + 1, by omega, rfl, nI_1 k, ?_, rfl⟩
      simp [stepsTo, c3]
    · refine ⟨e 4 - (k + 1), by omega, k + 1, by omega, rfl, nI_1 k, ?_, rfl⟩
      simp [stepsTo, c3, nI_1]
theorem k2_onBitsOf (hh : isEv h) (a : Nat) (ha : a < 2) (x : Nat) (q : V (h + 4) a = nI x) : RD J mX2_onBitsOf [.ref h, .int (nI a)] V (nI x) := by
  refine v_X2_onBitsOf h _ hh (rd_b (k7_isSide J _ V) ?_)
  rw [isIx_nI (by decide) ha]
  refine ⟨fun c => Bool.noConfusion c, fun _ => ⟨vp_in_nI ha (by decide), ?_, rfl⟩⟩
  rw [ccl (by omega)]
  exact congrArg (fun z => some (Value.int z)) q
theorem k2_scoreOf (hh : isEv h) (a : Nat) (ha : a < 2) (x : Nat) (q : V (h + 5) a = nI x) : RD J mX2_scoreOf [.ref h, .int (nI a)] V (nI x) := by
  refine v_X2_scoreOf h _ hh (rd_b (k7_isSide J _ V) ?_)
  rw [isIx_nI (by decide) ha]
  refine ⟨fun c => Bool.noConfusion c, fun _ => ⟨vp_in_nI ha (by decide), ?_, rfl⟩⟩
  rw [ccl (by omega)]
  exact congrArg (fun z => some (Value.int z)) q
/-- one more step -/
def evAdd (e : Ev) (x w t : Nat) : Ev := up1 (up1 (up1 (up1 e (10 + e 4) x) (30 + e 4) w) (50 + e 4) t) 4 (e 4 + 1)
def evFix (e : Ev) (k x w : Nat) : Ev := up1 (up1 e (10 + k) x) (30 + k) w
theorem k2_add (hh : isEv h) (q : evOK V h e) (hb : e 4 < 10) (x w t : Nat) : WR J mX2_add [.ref h, .int (nI x), .int (wI w), .int (nI t)] V h 4 (fun V' => evOK V' h (evAdd e x w t)) := by
  refine v_X2_add h _ _ _ hh ?_
  unfold F_X2_add
  obtain ⟨q1, q2, q3, q4, q5, q6⟩ := q
  have e1 : ∀ x, up2 V (h + 1 + 0) (V h 9).toNatClampNeg x h 9 = nI (e 4) := fun x => by rw [up2_off _ _ _ (by omega)]; exact q5
  rw [e1]
  have e2 : ∀ x y, up2 (up2 V (h + 1 + 0) (V h 9).toNatClampNeg x) (h + 1 + 1) (nI (e 4)).toNatClampNeg y h 9 = nI (e 4) := fun x y => by rw [up2_off _ _ _ (by omega)]; exact e1 x
  rw [e2]
  have e3 : ∀ x y z, up2 (up2 (up2 V (h + 1 + 0) (V h 9).toNatClampNeg x) (h + 1 + 1) (nI (e 4)).toNatClampNeg y) (h + 1 + 2) (nI (e 4)).toNatClampNeg z h 9 = nI (e 4) := fun x y z => by rw [up2_off _ _ _ (by omega)]; exact e2 x y
  rw [e3, q5, ccl (by omega), nI_1]
  refine ⟨fun c => ?_, fun _ => ⟨fun c => ?_, fun _ => ⟨vp_in_nI hb (by decide), vp_in_nI hb (by decide), vp_in_nI hb (by decide), rfl, ?_, ?_⟩⟩⟩
  · rw [show (0 : Int32) = nI 0 from rfl, clt (by omega) (by omega)] at c
    omega
  · rw [show (10 : Int32) = nI 10 from rfl, cle (by omega) (by omega)] at c
    omega
  · exact offF_up (offF_up (offF_up (offF_up (offF_rf _ _ _) (by omega)) (by omega)) (by omega)) (by omega)
  · have o : ∀ j, j ≠ 4 → j ≠ 10 + e 4 → j ≠ 30 + e 4 → j ≠ 50 + e 4 → evAdd e x w t j = e j := by
      intro j h1 h2 h3 h4
      unfold evAdd
      rw [up1_off _ _ h1, up1_off _ _ h4, up1_off _ _ h3, up1_off _ _ h2]
    have o4 : evAdd e x w t 4 = e 4 + 1 := up1_at _ _ _
    have ok : evAdd e x w t (10 + e 4) = x := by unfold evAdd; rw [up1_off _ _ (by omega), up1_off _ _ (by omega), up1_off _ _ (by omega), up1_at]
    have ow : evAdd e x w t (30 + e 4) = w := by unfold evAdd; rw [up1_off _ _ (by omega), up1_off _ _ (by omega), up1_at]
    have ot : evAdd e x w t (50 + e 4) = t := by unfold evAdd; rw [up1_off _ _ (by omega), up1_at]
    refine ⟨?_, ?_, ?_, fun h0 => ?_, ?_, fun k hk => ?_⟩
    · rw [o 0 (by omega) (by omega) (by omega) (by omega)]; simp [up2_rw, up1, nh1, q1]
    · rw [o 1 (by omega) (by omega) (by omega) (by omega)]; simp [up2_rw, up1, nh1, q2]
    · rw [o 2 (by omega) (by omega) (by omega) (by omega)]; simp [up2_rw, up1, nh1, q3]
    · rw [o 0 (by omega) (by omega) (by omega) (by omega)] at h0
      rw [o 3 (by omega) (by omega) (by omega) (by omega)]; simp [up2_rw, up1, nh1, q4 h0]
    · rw [o4]; simp [up2_rw, up1, nh1]
    · rw [o4] at hk
      by_cases hke : k = e 4
      · subst hke
        rw [ok, ow, ot]
        simp [up2_rw, up1, nh1, wI]
      · rw [o _ (by omega) (by omega) (by omega) (by omega), o _ (by omega) (by omega) (by omega) (by omega), o _ (by omega) (by omega) (by omega) (by omega)]
        have := q6 k (by omega)
        simp [up2_rw, up1, nh1, hke, this]
theorem k2_correct (hh : isEv h) (q : evOK V h e) (hb : e 4 ≤ 10) (p x w : Nat) (hp : p < e 4) : WR J mX2_correct [.ref h, .int (nI p), .int (nI x), .int (wI w)] V (h + 1) 2 (fun V' => evOK V' h (evFix e p x w)) := by
  refine v_X2_correct h _ _ _ hh (rd_b (k2_isPlace hh q.2.2.2.2.1 hb _) ?_)
  rw [isIx_nI (by omega) hp]
  refine ⟨fun c => Bool.noConfusion c, fun _ => ⟨vp_in_nI (by omega) (by decide), vp_in_nI (by omega) (by decide), rfl, ?_, ?_⟩⟩
  · exact offF_up (offF_up (offF_rf _ _ _) (by omega)) (by omega)
  · obtain ⟨q1, q2, q3, q4, q5, q6⟩ := q
    rw [ccl (by omega)]
    have o : ∀ j, j ≠ 10 + p → j ≠ 30 + p → evFix e p x w j = e j := by
      intro j h1 h2
      unfold evFix
      rw [up1_off _ _ h2, up1_off _ _ h1]
    have ok : evFix e p x w (10 + p) = x := by unfold evFix; rw [up1_off _ _ (by omega), up1_at]
    have ow : evFix e p x w (30 + p) = w := by unfold evFix; rw [up1_at]
    refine ⟨?_, ?_, ?_, fun h0 => ?_, ?_, fun k hk => ?_⟩
    · rw [o 0 (by omega) (by omega)]; simp [up2_rw, up1, nh1, q1]
    · rw [o 1 (by omega) (by omega)]; simp [up2_rw, up1, nh1, q2]
    · rw [o 2 (by omega) (by omega)]; simp [up2_rw, up1, nh1, q3]
    · rw [o 0 (by omega) (by omega)] at h0
      rw [o 3 (by omega) (by omega)]; simp [up2_rw, up1, nh1, q4 h0]
    · rw [o 4 (by omega) (by omega)]; simp [up2_rw, up1, nh1, q5]
    · rw [o 4 (by omega) (by omega)] at hk
      have := q6 k hk
      rw [o (50 + k) (by omega) (by omega)]
      by_cases hkp : k = p
      · subst hkp
        rw [ok, ow]
        simp [up2_rw, up1, nh1, wI, this]
      · rw [o _ (by omega) (by omega), o _ (by omega) (by omega)]
        simp [up2_rw, up1, nh1, hkp, this]
def evNew (s a p d : Nat) : Ev := fun j => if j = 0 then s else if j = 1 then a else if j = 2 then p else if j = 3 then d else 0
theorem k2_fill (hh : isEv h) (s a p d : Nat) (x : Int32) (hx : s ≠ 0 → x = nI d) : WR J mX2_fill [.ref h, .int (nI s), .int (nI a), .int (nI p), .int x] V h 1 (fun V' => evOK V' h (evNew s a p d)) := by
  refine v_X2_fill h _ _ _ _ hh ⟨rfl, ?_, ?_⟩
  · exact offF_up (offF_up (offF_up (offF_up (offF_up (offF_rf _ _ _) (by omega)) (by omega)) (by omega)) (by omega)) (by omega)
  · refine ⟨?_, ?_, ?_, fun h0 => ?_, ?_, fun k hk => absurd hk (Nat.not_lt_zero k)⟩
    · simp [up2_rw, up1, nh1, evNew]
    · simp [up2_rw, up1, nh1, evNew]
    · simp [up2_rw, up1, nh1, evNew]
    · simp [up2_rw, up1, nh1, evNew, hx h0]
    · simp [up2_rw, up1, nh1, evNew]; rfl
end EvM
/-! both sides -/
def mtOK (V : Mem) (q : Nat) (σ : Sg) : Prop := sdOK V (q + 1) 0 σ ∧ sdOK V (q + 7) 1 σ ∧ V q 2 = nI (σ 108) ∧ V q 3 = nI (σ 109)
def sOf (q a : Nat) : Nat := q + 1 + 6 * a
theorem mt_sd {V : Mem} {q a : Nat} {σ : Sg} (m : mtOK V q σ) (ha : a < 2) : sdOK V (sOf q a) a σ := by
  rcases (show a = 0 ∨ a = 1 by omega) with rfl | rfl
  · exact m.1
  · exact m.2.1
theorem sOf_s {q a : Nat} (hq : isMats q) (ha : a < 2) : isSide (sOf q a) := by
  rcases (show a = 0 ∨ a = 1 by omega) with rfl | rfl
  · exact mt_s0 hq
  · exact mt_s1 hq
section MatS
variable {J : Nat → Nat → Int64} {V : Mem} {q : Nat} {σ : Sg}
theorem k4_sideAt (hq : isMats q) (a : Nat) (ha : a < 2) {P : Nat → Mem → Prop} {Qx : String → Mem → Prop} (k : P (sOf q a) V) : CTc J mX4_sideAt [.ref q, .int (nI a)] V (fun r V' => ∃ c, r = some (.ref c) ∧ isSide c ∧ P c V') Qx := by
  refine v_X4_sideAt q _ hq ?_
  unfold F_X4_sideAt
  rw [show (0 : Int32) = nI 0 from rfl, ceq (by omega) (by omega)]
  have hs := sOf_s hq ha
  refine ⟨fun c => ?_, fun c => ?_⟩
  · have h1 : a = 1 := by omega
    subst h1
    exact ⟨_, rfl, hs, k⟩
  · subst c
    exact ⟨_, rfl, hs, k⟩
end MatS
