/-! the calls about a match, the class -/
/-- a call: kode 0 with an answer, or what it throws by its place -/
def CO (J : Nat → Nat → Int64) (d : pD) (as : List Value) (V : Mem) (xs : List (Nat × String)) (k : Nat) (x : Int32) (P : Mem → Prop) : Prop :=
  CTc J d as V (fun r V' => k = 0 ∧ r = some (.int x) ∧ offF V V' 1 388 ∧ P V') (fun X V' => k ≠ 0 ∧ (k, X) ∈ xs ∧ offF V V' 1 388 ∧ P V')
def xs3 : List (Nat × String) := [(1, xIO), (2, xIA), (3, xIS)]
def xsB : List (Nat × String) := [(1, xIO), (2, xIS)]
def xsC : List (Nat × String) := [(1, xIA), (2, xIS)]
def xsD : List (Nat × String) := [(1, xIO), (2, xIA)]
def xsE : List (Nat × String) := [(1, xIO)]
def xsF : List (Nat × String) := [(1, xIS)]
abbrev St : Type := Ms × Evs
def clX (V : Mem) (X : St) : Prop := clM V X.1 X.2
def GdX (X : St) : Prop := Gd X.1 X.2
theorem not_ix {p : Int32} {n : Nat} (hn : n < 2147483648) (h : ¬ isIx p n = false) : ∃ a, a < n ∧ p = nI a := isIx_ex hn (by cases z : isIx p n <;> simp_all)
theorem nI_0' : (0 : Int32) = nI 0 := rfl
theorem wm_r {J : Nat → Nat → Int64} {d : pD} {as : List Value} {V : Mem} {k : Nat} {x : Int32} {xs : List (Nat × String)} {P P' : Mem → Prop} (q : WM J d as V x P') (h0 : k = 0) (h : ∀ V', offF V V' 1 388 → P' V' → P V') : CTc J d as V (fun r V' => ∃ r1 : Int32, r = some (Value.int r1) ∧ (k = 0 ∧ some (Value.int r1) = some (Value.int x) ∧ offF V V' 1 388 ∧ P V')) (fun X V' => k ≠ 0 ∧ (k, X) ∈ xs ∧ offF V V' 1 388 ∧ P V') :=
  wm_i q (fun V' f p => ⟨h0, rfl, f, h V' f p⟩)
section Hl
variable {J : Nat → Nat → Int64} {V : Mem} {s : Ms} {E : Evs}
def beginK (s : Ms) (c o t : Int32) : Nat := if isIx c 8 = false ∨ isIx o 8 = false then 1 else if c = o ∨ inB t 300 24000 = false then 2 else if s 0 = 1 then 3 else 0
def beginN (s : Ms) (E : Evs) (c o t : Int32) : St := if beginK s c o t = 0 then (openS s c.toNatClampNeg o.toNatClampNeg t.toNatClampNeg, E) else (s, E)
theorem inB_nI {t : Int32} {a b : Nat} (hb : b < 2147483648) (h : inB t (nI a) (nI b) = true) (hab : a ≤ b) : ∃ k, a ≤ k ∧ k ≤ b ∧ t = nI k := by
  rw [inB_t, i_le, i_le, nI_toInt (by omega), nI_toInt (by omega)] at h
  have h0 : ¬ t < 0 := by rw [i_lt, show (0 : Int32).toInt = 0 from rfl]; omega
  obtain ⟨j, hj, rfl⟩ := nI_of h0
  rw [nI_toInt hj] at h
  exact ⟨j, by omega, by omega, rfl⟩
theorem h_begin (c : clM V s E) (G : Gd s E) (x y t : Int32) : CO J mX7_begin [.ref 0, .int x, .int y, .int t] V xs3 (beginK s x y t) (nI (s 6 + 1)) (fun V' => clX V' (beginN s E x y t)) := by
  unfold CO
  refine v_X7_begin x y t (nd_ix x 8 (by omega) (fun h1 => nd_ix y 8 (by omega) (fun h2 => ?_) (fun h2 => ?_)) (fun h1 => ?_))
  · have bad : (x = y ∨ inB t 300 24000 = false) → F_X7_begin_35 J x y t 0 V (fun r V' => beginK s x y t = 0 ∧ r = some (.int (nI (s 6 + 1))) ∧ offF V V' 1 388 ∧ clX V' (beginN s E x y t)) (fun X V' => beginK s x y t ≠ 0 ∧ (beginK s x y t, X) ∈ xs3 ∧ offF V V' 1 388 ∧ clX V' (beginN s E x y t)) := by
      intro hb
      have hk : beginK s x y t = 2 := by unfold beginK; rw [if_neg (by rw [h1, h2]; decide), if_pos hb]
      unfold F_X7_begin_35
      refine nd_arg false (fun z => Bool.noConfusion z) (fun _ => ?_)
      rw [hk]
      refine ⟨by omega, by simp [xs3], offF_rf _ _ _, ?_⟩
      unfold beginN; rw [hk]; exact c
    refine ⟨fun z => bad (Or.inl z), fun z => rd_b (k7_isWithin J t 300 24000 V) ⟨fun w => bad (Or.inr w), fun w => ?_⟩⟩
    obtain ⟨a, ha, rfl⟩ := isIx_ex (by omega) h1
    obtain ⟨b, hb, rfl⟩ := isIx_ex (by omega) h2
    obtain ⟨k, hk1, hk2, rfl⟩ := inB_nI (a := 300) (b := 24000) (by omega) w (by omega)
    have hk : beginK s (nI a) (nI b) (nI k) = if s 0 = 1 then 3 else 0 := by unfold beginK; rw [if_neg (by rw [h1, h2]; decide), if_neg (by rw [w]; intro y; rcases y with y | y; exact z y; exact Bool.noConfusion y)]
    unfold F_X7_begin_35
    refine nd_arg true (fun _ => rd_b (k1_isThere c G) ⟨fun v => ?_, fun v => ?_⟩) (fun y => Bool.noConfusion y)
    · rw [decide_eq_true_eq] at v
      rw [if_pos v] at hk
      unfold F_X7_begin_53
      refine nd_st false (fun z => Bool.noConfusion z) (fun _ => ?_)
      rw [hk]
      refine ⟨by omega, by simp [xs3], offF_rf _ _ _, ?_⟩
      unfold beginN; rw [hk]; exact c
    · rw [decide_eq_false_iff_not] at v
      rw [if_neg v] at hk
      unfold F_X7_begin_53
      refine nd_st true (fun _ => ?_) (fun z => Bool.noConfusion z)
      refine wm_r (k1_open c a b k) hk (fun V' f' c' => ?_)
      unfold beginN; rw [if_pos hk, ccl (by omega), ccl (by omega), ccl (by omega)]; exact c'
  · have hk : beginK s x y t = 1 := by unfold beginK; rw [if_pos (Or.inr h2)]
    rw [hk]
    refine ⟨by omega, by simp [xs3], offF_rf _ _ _, ?_⟩
    unfold beginN; rw [hk]; exact c
  · have hk : beginK s x y t = 1 := by unfold beginK; rw [if_pos (Or.inl h1)]
    rw [hk]
    refine ⟨by omega, by simp [xs3], offF_rf _ _ _, ?_⟩
    unfold beginN; rw [hk]; exact c
theorem Gd_begin (G : Gd s E) (x y t : Int32) : GdX (beginN s E x y t) := by
  unfold beginN GdX
  split
  · next h =>
    unfold beginK at h
    split at h
    · cases h
    · next h1 =>
      split at h
      · cases h
      · next h2 =>
        have i1 : isIx x 8 = true := by cases z : isIx x 8 <;> simp_all
        have i2 : isIx y 8 = true := by cases z : isIx y 8 <;> simp_all
        have i3 : inB t 300 24000 = true := by cases z : inB t 300 24000 <;> simp_all
        obtain ⟨a, ha, rfl⟩ := isIx_ex (by omega) i1
        obtain ⟨b, hb, rfl⟩ := isIx_ex (by omega) i2
        obtain ⟨k, hk1, hk2, rfl⟩ := inB_nI (a := 300) (b := 24000) (by omega) i3 (by omega)
        show Gd (openS s _ _ _) E
        rw [ccl (by omega), ccl (by omega), ccl (by omega)]
        refine Gd_open s E a b k ha hb (fun z => h2 (Or.inl (by rw [z]))) hk1 hk2
  · exact G
def raidK (s : Ms) (E : Evs) (p : Int32) : Nat := if isIx p 10 = false then 1 else if raidB s E p = false then 2 else 0
def raidN (s : Ms) (E : Evs) (p : Int32) : St := if raidK s E p = 0 then (up1 (up1 s 1 1) 2 (s 2 + 1), up1 E (s 2) (evNew 0 (turnF (nowF s E)) p.toNatClampNeg 0)) else (s, E)
theorem raidB_of {p : Nat} (hp : p < 10) (h : raidB s E (nI p) = true) : s 0 = 1 ∧ s 1 = 0 ∧ s 2 < 60 ∧ nowF s E 108 < s 5 ∧ nowF s E (10 * turnF (nowF s E) + p) = 0 := by
  unfold raidB at h
  rw [Bool.and_eq_true, Bool.and_eq_true, decide_eq_true_eq, decide_eq_true_eq, ccl (by omega)] at h
  exact ⟨h.1.1, h.1.2.1, h.1.2.2.1, h.1.2.2.2, h.2.2⟩
theorem h_raid (c : clM V s E) (G : Gd s E) (p : Int32) : CO J mX7_raid [.ref 0, .int p] V xsB (raidK s E p) (nI (s 2)) (fun V' => clX V' (raidN s E p) ∧ GdX (raidN s E p)) := by
  unfold CO
  refine v_X7_raid p (nd_ix p 10 (by omega) (fun h1 => rd_b (k1_mayStartRaid c G p) (nd_st _ (fun h2 => ?_) (fun h2 => ?_))) (fun h1 => ?_))
  · have hk : raidK s E p = 0 := by unfold raidK; rw [if_neg (by rw [h1]; decide), if_neg (by rw [h2]; decide)]
    obtain ⟨a, ha, rfl⟩ := isIx_ex (by omega) h1
    obtain ⟨b0, b1, b2, b3, b4⟩ := raidB_of ha h2
    refine wm_r (k1_startRaid c G a ha b0 b1 b2 b3 b4) hk (fun V' f' c' => ?_)
    unfold raidN; rw [if_pos hk, ccl (by omega)]; exact c'
  · have hk : raidK s E p = 2 := by unfold raidK; rw [if_neg (by rw [h1]; decide), if_pos h2]
    rw [hk]
    refine ⟨by omega, by simp [xsB], offF_rf _ _ _, ?_⟩
    unfold raidN; rw [hk]; exact ⟨c, G⟩
  · have hk : raidK s E p = 1 := by unfold raidK; rw [if_pos h1]
    rw [hk]
    refine ⟨by omega, by simp [xsB], offF_rf _ _ _, ?_⟩
    unfold raidN; rw [hk]; exact ⟨c, G⟩
/-- who of a step, one more: 0 for no one -/
def wN (w : Int32) : Nat := if w = -1 then 0 else w.toNatClampNeg + 1
theorem stepB_of {k w : Int32} {b : Nat} (hb : b ≤ 6) (h : stepB k w (nI b) = true) : ∃ x v, x ≤ b ∧ v ≤ 10 ∧ (x = 0 ↔ 1 ≤ v) ∧ k = nI x ∧ w = wI v ∧ wN w = v := by
  unfold stepB at h
  rw [Bool.and_eq_true] at h
  obtain ⟨x, -, hx, rfl⟩ := inB_nI (a := 0) (b := b) (by omega) h.1 (by omega)
  have h2 := h.2
  have e0 : (nI x = (0 : Int32)) ↔ x = 0 := by rw [nI_0', ceq (by omega) (by omega)]
  by_cases hx0 : x = 0
  · rw [if_pos (e0.mpr hx0)] at h2
    obtain ⟨v, hv, rfl⟩ := isIx_ex (by omega) h2
    refine ⟨x, v + 1, hx, by omega, by omega, rfl, (wI_s v).symm, ?_⟩
    unfold wN
    rw [if_neg, ccl (by omega)]
    intro z
    have z2 : (nI v).toInt = (-1 : Int32).toInt := by rw [z]
    rw [nI_toInt (by omega)] at z2
    have : (-1 : Int32).toInt = -1 := rfl
    omega
  · rw [if_neg (fun z => hx0 (e0.mp z)), decide_eq_true_eq] at h2
    subst h2
    exact ⟨x, 0, hx, by omega, by omega, rfl, rfl, rfl⟩
def stepK (s : Ms) (E : Evs) (k w t : Int32) : Nat := if (stepB k w 6 && inB t 1 300) = false then 1 else if tellB s E k.toNatClampNeg (wN w) t.toNatClampNeg = false then 2 else 0
def stepN (s : Ms) (E : Evs) (k w t : Int32) : St := if stepK s E k w t = 0 then (tellS s k.toNatClampNeg, tellE s E k.toNatClampNeg (wN w) t.toNatClampNeg) else (s, E)
def stepV (s : Ms) (E : Evs) (k w t : Int32) : Int32 := tellR s E k.toNatClampNeg (wN w) t.toNatClampNeg
theorem h_step (c : clM V s E) (G : Gd s E) (k w t : Int32) : CO J mX7_step [.ref 0, .int k, .int w, .int t] V xsC (stepK s E k w t) (stepV s E k w t) (fun V' => clX V' (stepN s E k w t) ∧ GdX (stepN s E k w t)) := by
  unfold CO
  have bad : (stepB k w 6 && inB t 1 300) = false → F_X7_step_26 J k w t 0 V (fun r V' => stepK s E k w t = 0 ∧ r = some (.int (stepV s E k w t)) ∧ offF V V' 1 388 ∧ clX V' (stepN s E k w t) ∧ GdX (stepN s E k w t)) (fun X V' => stepK s E k w t ≠ 0 ∧ (stepK s E k w t, X) ∈ xsC ∧ offF V V' 1 388 ∧ clX V' (stepN s E k w t) ∧ GdX (stepN s E k w t)) := by
    intro hb
    have hk : stepK s E k w t = 1 := by unfold stepK; rw [if_pos hb]
    unfold F_X7_step_26
    refine nd_arg false (fun z => Bool.noConfusion z) (fun _ => ?_)
    rw [hk]
    refine ⟨by omega, by simp [xsC], offF_rf _ _ _, ?_⟩
    unfold stepN; rw [hk]; exact ⟨c, G⟩
  refine v_X7_step k w t (rd_b (k7_isStep J k w 6 V) ⟨fun h1 => bad (by rw [h1]; rfl), fun h1 => rd_b (k7_isWithin J t 1 300 V) ⟨fun h2 => bad (by rw [h1, h2]; rfl), fun h2 => ?_⟩⟩)
  obtain ⟨x, v, hx, hv, hxv, rfl, rfl, hwN⟩ := stepB_of (b := 6) (by omega) h1
  obtain ⟨n, hn1, hn2, rfl⟩ := inB_nI (a := 1) (b := 300) (by omega) h2 (by omega)
  unfold F_X7_step_26
  have e1 : (nI x).toNatClampNeg = x := ccl (by omega)
  have e2 : (nI n).toNatClampNeg = n := ccl (by omega)
  have hkk : stepK s E (nI x) (wI v) (nI n) = if tellB s E x v n = false then 2 else 0 := by unfold stepK; rw [if_neg (by rw [h1, h2]; decide), e1, e2, hwN]
  refine nd_arg true (fun _ => rd_b (k1_mayTell c G x v n hx hv (fun z => hxv.mp z) hn2) (nd_st _ (fun h3 => ?_) (fun h3 => ?_))) (fun y => Bool.noConfusion y)
  · have hk : stepK s E (nI x) (wI v) (nI n) = 0 := by rw [hkk, if_neg (by rw [h3]; decide)]
    have hv : stepV s E (nI x) (wI v) (nI n) = tellR s E x v n := by unfold stepV; rw [e1, e2, hwN]
    rw [hv]
    refine wm_r (k1_tell c G x v n hx (by assumption) hxv hn2 h3) hk (fun V' f' c' => ?_)
    unfold stepN; rw [if_pos hk, e1, e2, hwN]
    exact ⟨c', (Gd_tell G x v n hx (by assumption) hxv hn2 h3).1⟩
  · have hk : stepK s E (nI x) (wI v) (nI n) = 2 := by rw [hkk, if_pos h3]
    rw [hk]
    refine ⟨by omega, by simp [xsC], offF_rf _ _ _, ?_⟩
    unfold stepN; rw [hk]; exact ⟨c, G⟩
end Hl
