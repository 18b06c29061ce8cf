/-! the pad of the class: typing, faults, a run -/
def fltF (sg : Nat → Int32) (n : Nat) : Nat → Nat → Option Nat
  | 0, _ => none
  | m + 1, a => if n ≤ a then none else match ordF sg a with
    | (b, none) => some b
    | (b, some _) => fltF sg n m b
def doF (X : St) (i : Nat) (w t : Int32) : Option St := if i = 7 then (if raidK X.1 X.2 w = 0 then some (raidN X.1 X.2 w) else none) else (if stepK X.1 X.2 (nI i) w t = 0 then some (stepN X.1 X.2 (nI i) w t) else none)
def runF (sg : Nat → Int32) (n : Nat) : Nat → Nat → St → Nat × St
  | 0, _, X => (0, X)
  | m + 1, a, X => if n ≤ a then (0, X) else match ordF sg a with
    | (_, none) => (0, X)
    | (b, some (i, w, t)) => match doF X i w t with
      | none => (0, X)
      | some Y => ((runF sg n m b Y).1 + 1, (runF sg n m b Y).2)
def clP (V : Mem) (n : Nat) (sg : Nat → Int32) : Prop := V 389 1 = nI n ∧ n ≤ 60 ∧ sgF V n = sg
theorem clP_off {V V' : Mem} {n : Nat} {sg : Nat → Int32} (h : clP V n sg) (f1 : V' 389 1 = V 389 1) (f : V' 390 = V 390) : clP V' n sg := by
  obtain ⟨h1, h2, h3⟩ := h
  refine ⟨f1.trans h1, h2, ?_⟩
  rw [← h3]
  funext a
  unfold sgF
  rw [f]
def typeK (n : Nat) (x : Int32) : Nat := if inB x 32 126 = false then 1 else if n = 60 then 2 else 0
def typeN (n : Nat) (x : Int32) : Nat := if typeK n x = 0 then n + 1 else n
def typeS (sg : Nat → Int32) (n : Nat) (x : Int32) : Nat → Int32 := if typeK n x = 0 then up1 sg n x else sg
theorem ord_w {sg : Nat → Int32} {a b i : Nat} {w t : Int32} (h : ordF sg a = (b, some (i, w, t))) : i < 8 ∧ ((i = 7 ∨ i = 0) → isIx w 10 = true) ∧ (¬ (i = 7 ∨ i = 0) → w = -1) := by
  have dig : ∀ x, digB x = true → isIx (x - 48) 10 = true := by
    intro x hx
    obtain ⟨k, h1, h2, rfl⟩ := inB_nI (a := 48) (b := 57) (by omega) hx (by omega)
    rw [show (48 : Int32) = nI 48 from rfl, nI_sub (by omega)]
    exact isIx_nI (by omega) (by omega)
  have tl : ∀ j v c, tailF sg j v c = (b, some (i, w, t)) → i = j ∧ w = v := by
    intro j v c h
    unfold tailF at h
    repeat' split at h
    all_goals first
      | (cases h; exact ⟨rfl, rfl⟩)
      | cases h
  unfold ordF at h
  split at h
  · cases h
  · next b' j hz =>
    have hj : j < 8 := rwF_8 (show (rwF sg 60 a 0 255).2 = some j by rw [hz])
    split at h
    · next hc =>
      split at h
      · next d =>
        obtain ⟨e1, e2⟩ := tl _ _ _ h
        subst e1 e2
        exact ⟨hj, fun _ => dig _ d, fun z => (z hc).elim⟩
      · cases h
    · next hc =>
      obtain ⟨e1, e2⟩ := tl _ _ _ h
      subst e1 e2
      exact ⟨hj, fun z => (hc z).elim, fun _ => rfl⟩
theorem ord_none {sg : Nat → Int32} {a : Nat} (h : sg a = -1) : ordF sg a = (a, none) := by
  have hz : rwF sg 60 a 0 255 = (a, none) := by
    show (if keepTo 255 (sg a) 0 8 = 0 then (a, none) else match oneTo (keepTo 255 (sg a) 0 8) 0 8 with | some i => (a + 1, some i) | none => rwF sg 59 (a + 1) (0 + 1) (keepTo 255 (sg a) 0 8)) = _
    rw [h, keep_m1, if_pos rfl]
  unfold ordF
  rw [hz]
theorem raid0 {s : Ms} {E : Evs} {w : Int32} : raidK s E w = 0 ↔ raidB s E w = true := by
  unfold raidK
  cases h : raidB s E w with
  | false => split <;> simp
  | true =>
    have h2 := h
    unfold raidB at h2
    rw [Bool.and_eq_true, Bool.and_eq_true] at h2
    rw [h2.2.1]
    simp
section Pd3
variable {J : Nat → Nat → Int64} {V : Mem} {n : Nat} {sg : Nat → Int32}
theorem h_type (h : clP V n sg) (x : Int32) : CTc J mX7_type [.ref 0, .int x] V (fun r V' => typeK n x = 0 ∧ r = some (.int (nI (n + 1))) ∧ offF V V' 389 2 ∧ clP V' (typeN n x) (typeS sg n x)) (fun X V' => typeK n x ≠ 0 ∧ (typeK n x, X) ∈ xsC ∧ offF V V' 389 2 ∧ clP V' (typeN n x) (typeS sg n x)) := by
  obtain ⟨h1, h2, h3⟩ := id h
  refine v_X7_type x (rd_b (k7_isWithin J x 32 126 V) (nd_arg _ (fun hx => ?_) (fun hx => ?_)))
  · have hr : RD J mX5_hasRoom [.ref 389] V (bI (decide (n < 60))) := by
      refine v_X5_hasRoom ?_
      unfold F_X5_hasRoom
      rw [h1, show (60 : Int32) = nI 60 from rfl, cle (by omega) (by omega)]
      exact ⟨fun z => ⟨by rw [decide_eq_false (by omega)]; rfl, rfl⟩, fun z => ⟨by rw [decide_eq_true (by omega)]; rfl, rfl⟩⟩
    refine rd_b hr (nd_st _ (fun hl => ?_) (fun hl => ?_))
    · have hl := of_decide_eq_true hl
      have hk : typeK n x = 0 := by unfold typeK; rw [if_neg (by rw [hx]; decide), if_neg (by omega)]
      refine v_X5_put x ?_
      unfold F_X5_put
      rw [h1, show (60 : Int32) = nI 60 from rfl, cle (by omega) (by omega), ccl (n := n) (by omega)]
      refine ⟨fun z => (nI_pos (by omega) z).elim, fun _ => ⟨fun z => by omega, fun _ => ⟨vp_in_nI hl (by decide), ?_⟩⟩⟩
      have e1 : up2 V 390 n x 389 1 = nI n := by rw [up2_off _ _ _ (by omega)]; exact h1
      rw [e1, nI_1]
      refine ⟨_, rfl, hk, by rw [up2_same], offF_up (offF_up (offF_rf _ _ _) (by omega)) (by omega), ?_⟩
      unfold typeN typeS
      rw [if_pos hk, if_pos hk]
      refine ⟨up2_same _ _ _ _, by omega, ?_⟩
      funext a
      unfold sgF
      rw [up2_off _ _ _ (by omega), up2_at, ← h3]
      by_cases ha : a = n
      · subst ha; rw [if_pos (by omega), up1_at, up1_at]
      · rw [up1_off _ _ ha, up1_off _ _ ha]
        unfold sgF
        by_cases ha2 : a < n
        · rw [if_pos (by omega), if_pos ha2]
        · rw [if_neg (by omega), if_neg ha2]
    · have hl := of_decide_eq_false hl
      have hk : typeK n x = 2 := by unfold typeK; rw [if_neg (by rw [hx]; decide), if_pos (by omega)]
      unfold typeN typeS
      rw [hk]
      exact ⟨by omega, by simp [xsC], offF_rf _ _ _, h⟩
  · have hk : typeK n x = 1 := by unfold typeK; rw [if_pos hx]
    unfold typeN typeS
    rw [hk]
    exact ⟨by omega, by simp [xsC], offF_rf _ _ _, h⟩
theorem h_clear (h : clP V n sg) : CTc J mX7_clear [.ref 0] V (fun r V' => r = some (.int (nI n)) ∧ offF V V' 389 2 ∧ clP V' 0 (fun _ => -1)) NX := by
  obtain ⟨h1, h2, h3⟩ := h
  refine v_X7_clear (v_X5_wipe ⟨_, rfl, by rw [h1], offF_up (offF_rf _ _ _) (by omega), up2_same _ _ _ _, by omega, ?_⟩)
  funext a
  unfold sgF
  rw [if_neg (by omega)]
theorem k5_findFault (h : clP V n sg) : CTc J mX5_findFault [.ref 389] V (fun r V' => r = some (.int (fI (fltF sg n 60 0))) ∧ frP V V') NX := by
  obtain ⟨h1, h2, h3⟩ := h
  refine v_X5_findFault (v_X5_rewind ?_)
  refine ⟨rfl, ?_⟩
  unfold F_X5_findFault_6
  refine ⟨fun m x1 V' => ∃ k a, k ≤ 60 ∧ m = 60 - k ∧ x1 = nI k ∧ frP V V' ∧ pdA V' n a ∧ fltF sg n 60 0 = fltF sg n m a, ⟨60, 0, 0, by omega, rfl, rfl, frP_up (frP_rf V) (by omega), ⟨(up2_ne _ _ (Or.inr (by omega))).trans h1, up2_same _ _ _ _, h2, by omega⟩, rfl⟩, ?_⟩
  rintro m x1 V' ⟨k, a, hk, hm, rfl, hf, hp, he⟩
  obtain ⟨p1, p2, p3, p4⟩ := id hp
  unfold B_X5_findFault_6
  rw [he]
  refine ⟨fun c => ?_, fun c => ?_⟩
  · have hk2 := lpE (n := 60) (by omega) hk c
    rw [show m = 0 by omega]
    exact ⟨rfl, hf⟩
  · have hkl := lpL (n := 60) (by omega) hk c
    obtain ⟨m', rfl⟩ : ∃ m', m = m' + 1 := ⟨m - 1, by omega⟩
    have hsg : sgF V' n = sg := (sg_fr hf).trans h3
    rw [p1, p2, cle (by omega) (by omega)]
    have hF : fltF sg n (m' + 1) a = if n ≤ a then none else match ordF sg a with | (b, none) => some b | (b, some _) => fltF sg n m' b := rfl
    refine ⟨fun z => ?_, fun z => k5_readOrder hp (fun b V1 hz => ?_)⟩
    · rw [hF, if_pos z]; exact ⟨rfl, hf⟩
    · rw [hF, if_neg z]
      rw [hsg] at hz
      cases ho : ordF sg a with
      | mk b' o =>
        rw [ho] at hz
        obtain ⟨z1, z2, z3, z4⟩ := hz
        rw [hF, if_neg z, ho] at he
        cases o with
        | none => exact ⟨fun t => (by rw [z1] at t; cases t), fun _ => ⟨by rw [z3.2.1]; rfl, frP_tr hf z2⟩⟩
        | some q => exact ⟨fun _ => ⟨m', by omega, k + 1, b', by omega, by omega, nI_1 k, frP_tr hf z2, z3, rfl⟩, fun t => (by rw [z1] at t; cases t)⟩
theorem h_fault (h : clP V n sg) : CTc J mX7_fault [.ref 0] V (fun r V' => r = some (.int (fI (fltF sg n 60 0))) ∧ offF V V' 389 2 ∧ clP V' n sg) NX :=
  v_X7_fault (CTc_nx (k5_findFault h) (fun r V' z => ⟨_, z.1, rfl, fun x hx => z.2.1 x (by omega), clP_off h z.2.2 (z.2.1 390 (by omega))⟩))
variable {s : Ms} {E : Evs}
theorem k7_isDone {i : Nat} {w t : Int32} (c : clM V s E) (G : Gd s E) (v3 : V 389 3 = nI i) (v4 : V 389 4 = w) (v5 : i ≠ 7 → V 389 5 = t) (hi : i < 8) (hw1 : (i = 7 ∨ i = 0) → isIx w 10 = true) (hw2 : ¬ (i = 7 ∨ i = 0) → w = -1) {P : Bool → Mem → Prop} {Qx : String → Mem → Prop}
    (y : ∀ Y V', doF (s, E) i w t = some Y → offF V V' 1 388 → clX V' Y → GdX Y → P true V') (z : doF (s, E) i w t = none → P false V) : CTc J mX7_isDone [.ref 0] V (fun r V1 => ∃ b1 : Bool, r = some (.int (bI b1)) ∧ P b1 V1) Qx := by
  have e7 : (nI i = 7) ↔ i = 7 := by rw [show (7 : Int32) = nI 7 from rfl, ceq (by omega) (by omega)]
  refine v_X7_isDone ?_
  unfold F_X7_isDone
  rw [v3, e7, v4]
  unfold doF at y z
  refine ⟨fun c7 => ?_, fun c7 => ?_⟩
  · rw [v5 c7]
    rw [if_neg c7] at y z
    refine rd_b (k7_isWithin J t 1 300 V) ⟨fun d => ⟨false, rfl, z ?_⟩, fun d => ?_⟩
    · rw [if_neg]
      unfold stepK
      rw [d, Bool.and_false, if_pos rfl]; decide
    · have hsb : stepB (nI i) w 6 = true := by
        unfold stepB
        have e0 : (nI i = 0) ↔ i = 0 := by rw [nI_0', ceq (by omega) (by omega)]
        have hin : inB (nI i) 0 6 = true := by rw [inB_ix (n := 7) rfl]; exact isIx_nI (by omega) (by omega)
        rw [hin, Bool.true_and]
        by_cases h0 : i = 0
        · rw [if_pos (e0.mpr h0)]; exact hw1 (Or.inr h0)
        · rw [if_neg (fun q => h0 (e0.mp q)), decide_eq_true (hw2 (by omega))]
      obtain ⟨x, v, hx, hv, hxv, ex, rfl, hwN⟩ := stepB_of (b := 6) (by omega) hsb
      have hix : i = x := by rwa [ceq (by omega) (by omega)] at ex
      subst hix
      obtain ⟨k, hk1, hk2, rfl⟩ := inB_nI (a := 1) (b := 300) (by omega) d (by omega)
      have hK : stepK s E (nI i) (wI v) (nI k) = if tellB s E i v k = false then 2 else 0 := by
        unfold stepK
        rw [if_neg (by rw [hsb, d]; decide), ccl (by omega), ccl (by omega), hwN]
      rw [v3, v4, v5 c7]
      refine rd_b (k1_mayTell c G i v k hx hv (fun q => hxv.mp q) hk2) ⟨fun u => ?_, fun u => ⟨false, rfl, z ?_⟩⟩
      · have hk0 : stepK s E (nI i) (wI v) (nI k) = 0 := by rw [hK, if_neg (by rw [u]; decide)]
        rw [v3, v4, v5 c7]
        refine wm_i (k1_tell c G i v k hx hv hxv hk2 u) (fun V' f' c' => ⟨true, rfl, y _ V' (if_pos hk0) f' ?_ ?_⟩)
        · unfold stepN
          rw [if_pos hk0, ccl (by omega), ccl (by omega), hwN]
          exact c'
        · unfold stepN
          rw [if_pos hk0, ccl (by omega), ccl (by omega), hwN]
          exact (Gd_tell G i v k hx hv hxv hk2 u).1
      · rw [if_neg]
        show ¬ stepK s E (nI i) (wI v) (nI k) = 0
        rw [hK, if_pos u]; decide
  · rw [if_pos c7] at y z
    have hix := hw1 (Or.inl c7)
    obtain ⟨p, hp, rfl⟩ := isIx_ex (by omega) hix
    refine rd_b (k1_mayStartRaid c G (nI p)) ⟨fun u => ?_, fun u => ⟨false, rfl, z ?_⟩⟩
    · obtain ⟨b0, b1, b2, b3, b4⟩ := raidB_of hp u
      have hk0 : raidK s E (nI p) = 0 := raid0.mpr u
      rw [v4]
      refine wm_i (k1_startRaid c G p hp b0 b1 b2 b3 b4) (fun V' f' c' => ?_)
      have cc : clX V' (raidN s E (nI p)) ∧ GdX (raidN s E (nI p)) := by unfold raidN; rw [if_pos hk0, ccl (by omega)]; exact c'
      exact ⟨true, rfl, y _ V' (if_pos hk0) f' cc.1 cc.2⟩
    · rw [if_neg]
      show ¬ raidK s E (nI p) = 0
      rw [raid0, u]; decide
def runK (sg : Nat → Int32) (n : Nat) : Nat := if fltF sg n 60 0 = none then 0 else 1
def runN (sg : Nat → Int32) (n : Nat) (s : Ms) (E : Evs) : St := if runK sg n = 0 then (runF sg n 60 0 (s, E)).2 else (s, E)
theorem fI_none {o : Option Nat} (h : ∀ k, o = some k → k < 1000) : (fI o = -1) ↔ o = none := by
  cases o with
  | none => exact ⟨fun _ => rfl, fun _ => rfl⟩
  | some k => exact ⟨fun z => (nI_n1 (k := k) (by have := h k rfl; omega) z).elim, fun z => by cases z⟩
theorem ord_le {V : Mem} {n a : Nat} (h : a ≤ n) : (ordF (sgF V n) a).1 ≤ n := by
  have hs : ∀ b, n ≤ b → sgF V n b = -1 := fun b hb => sg_end hb
  have hle : (rwF (sgF V n) 60 a 0 255).1 ≤ n := rwF_n hs h
  have tl : ∀ j v c, c ≤ n → (tailF (sgF V n) j v c).1 ≤ n := by
    intro j v c hc
    have m := nmK_at (sgF V n) (c + 1)
    have m4 : c + 1 ≤ n → c + 1 + nmK (sgF V n) (c + 1) ≤ n := by
      intro h1
      by_cases h0 : nmK (sgF V n) (c + 1) = 0
      · omega
      · have := dig_in (m.2.1 (nmK (sgF V n) (c + 1) - 1) (by omega))
        omega
    unfold tailF
    split
    · split
      · next y => exact sg_in y (by decide)
      · exact hc
    · split
      · next y =>
        have h1 : c + 1 ≤ n := sg_in y (by decide)
        split
        · exact h1
        · split
          · next y2 => exact sg_in y2 (by decide)
          · exact m4 h1
      · exact hc
  unfold ordF
  cases hz : rwF (sgF V n) 60 a 0 255 with
  | mk b o =>
    rw [hz] at hle
    cases o with
    | none => exact hle
    | some i =>
      dsimp only
      split
      · split
        · next d => exact tl _ _ _ (dig_in d)
        · exact hle
      · exact tl _ _ _ hle
theorem flt_le {V : Mem} {n k : Nat} : ∀ {m a}, a ≤ n → fltF (sgF V n) n m a = some k → k ≤ n
  | 0, a, _, h => by cases h
  | m + 1, a, ha, h => by
    unfold fltF at h
    have hl := ord_le (V := V) ha
    split at h
    · cases h
    · split at h
      · next b hb =>
        rw [hb] at hl
        have h3 : b = k := Option.some.inj h
        omega
      · next b q hb =>
        rw [hb] at hl
        exact flt_le hl h
theorem h_run (h : clP V n sg) (c : clM V s E) (G : Gd s E) : CTc J mX7_run [.ref 0] V (fun r V' => runK sg n = 0 ∧ r = some (.int (nI (runF sg n 60 0 (s, E)).1)) ∧ offF V V' 1 390 ∧ clP V' n sg ∧ clX V' (runN sg n s E) ∧ GdX (runN sg n s E)) (fun X V' => runK sg n ≠ 0 ∧ (runK sg n, X) ∈ xsF ∧ offF V V' 1 390 ∧ clP V' n sg ∧ clX V' (runN sg n s E) ∧ GdX (runN sg n s E)) := by
  obtain ⟨h1, h2, h3⟩ := id h
  have g2 := G.2.2.1
  have hfl : (fI (fltF sg n 60 0) = -1) ↔ fltF sg n 60 0 = none := fI_none (fun k hk => by
    rw [← h3] at hk
    have := flt_le (by omega) hk
    omega)
  refine v_X7_run (CTc_nx (k5_findFault h) (fun r V1 z => ⟨_, z.1, ?_⟩))
  obtain ⟨-, f1⟩ := z
  have hP1 : clP V1 n sg := clP_off h f1.2 (f1.1 390 (by omega))
  have c1 : clM V1 s E := clM_off c g2 (fun x hx => f1.1 x (by omega))
  have o1 : offF V V1 1 390 := fun x hx => f1.1 x (by omega)
  rw [hfl]
  refine ⟨fun hf => ?_, fun hf => ?_⟩
  · have hk : runK sg n = 1 := by unfold runK; rw [if_neg hf]
    unfold F_X7_run_16
    refine nd_st false (fun q => Bool.noConfusion q) (fun _ => ?_)
    unfold runN
    rw [hk]
    exact ⟨by omega, by simp [xsF], o1, hP1, c1, G⟩
  · have hk : runK sg n = 0 := by unfold runK; rw [if_pos hf]
    have hN : runN sg n s E = (runF sg n 60 0 (s, E)).2 := by unfold runN; rw [if_pos hk]
    unfold F_X7_run_16
    refine nd_st true (fun _ => v_X5_rewind ?_) (fun q => Bool.noConfusion q)
    have f2 : frP V1 (up2 V1 389 2 0) := frP_up (frP_rf V1) (by omega)
    have hp2 : pdA (up2 V1 389 2 0) n 0 := ⟨by rw [f2.2]; exact hP1.1, up2_same _ _ _ _, h2, by omega⟩
    have hP2 : clP (up2 V1 389 2 0) n sg := clP_off hP1 f2.2 (f2.1 390 (by omega))
    have c2 : clM (up2 V1 389 2 0) s E := clM_off c1 g2 (fun x hx => f2.1 x (by omega))
    have o2 : offF V (up2 V1 389 2 0) 1 390 := fun x hx => (f2.1 x (by omega)).trans (o1 x hx)
    refine ⟨rfl, ?_⟩
    unfold F_X7_run_28
    refine ⟨fun m x1 V' => ∃ k a X, k ≤ 60 ∧ m = 60 - k ∧ x1 = nI k ∧ offF V V' 1 390 ∧ clP V' n sg ∧ pdA V' n a ∧ clX V' X ∧ GdX X ∧ (runF sg n 60 0 (s, E)).1 = (runF sg n m a X).1 + k ∧ (runF sg n 60 0 (s, E)).2 = (runF sg n m a X).2, ⟨60, 0, 0, (s, E), by omega, rfl, rfl, o2, hP2, hp2, c2, G, rfl, rfl⟩, ?_⟩
    rintro m x1 V' ⟨k, a, X, hk60, hm, rfl, ho, hP, hp, hc, hG, e1, e2⟩
    rw [hN, e1, e2]
    unfold B_X7_run_28
    refine ⟨fun q => ?_, fun q => ?_⟩
    · have hkE := lpE (n := 60) (by omega) hk60 q
      rw [show m = 0 by omega]
      exact ⟨hk, by rw [show (runF sg n 0 a X).1 + k = k from Nat.zero_add k], ho, hP, hc, hG⟩
    · have hkL := lpL (n := 60) (by omega) hk60 q
      obtain ⟨m', rfl⟩ : ∃ m', m = m' + 1 := ⟨m - 1, by omega⟩
      have hR : runF sg n (m' + 1) a X = if n ≤ a then (0, X) else match ordF sg a with | (_, none) => (0, X) | (b, some (i, w, t)) => match doF X i w t with | none => (0, X) | some Y => ((runF sg n m' b Y).1 + 1, (runF sg n m' b Y).2) := rfl
      refine k5_readOrder hp (fun b V1 hz => ?_)
      rw [hP.2.2] at hz
      have stop : ∀ V2, runF sg n (m' + 1) a X = (0, X) → offF V V2 1 390 → clP V2 n sg → clX V2 X → (runK sg n = 0 ∧ some (Value.int (nI k)) = some (Value.int (nI ((runF sg n (m' + 1) a X).1 + k))) ∧ offF V V2 1 390 ∧ clP V2 n sg ∧ clX V2 (runF sg n (m' + 1) a X).2 ∧ GdX (runF sg n (m' + 1) a X).2) := by
        intro V2 hr o p cx
        rw [hr]
        exact ⟨hk, by rw [show ((0 : Nat), X).1 + k = k from Nat.zero_add k], o, p, cx, hG⟩
      have gx := hG.2.2.1
      cases hoo : ordF sg a with
      | mk b' o =>
        rw [hoo] at hz
        obtain ⟨z1, z2, z3, z4⟩ := hz
        have ho1 : offF V V1 1 390 := fun x hx => (z2.1 x (by omega)).trans (ho x hx)
        have hP1' : clP V1 n sg := clP_off hP z2.2 (z2.1 390 (by omega))
        have hc1 : clX V1 X := clM_off hc gx (fun x hx => z2.1 x (by omega))
        cases o with
        | none =>
          refine ⟨fun _ => stop V1 ?_ ho1 hP1' hc1, fun t => (by rw [z1] at t; cases t)⟩
          rw [hR, hoo]
          split <;> rfl
        | some p =>
          obtain ⟨i, w, t⟩ := p
          have han : ¬ n ≤ a := by
            intro hle
            have := ord_none (sg := sg) (a := a) (by rw [← hP.2.2]; exact sg_end hle)
            rw [hoo] at this
            cases this
          obtain ⟨v3, v4, v5⟩ := z4 i w t rfl
          obtain ⟨w1, w2, w3⟩ := ord_w hoo
          rw [if_neg han, hoo] at hR
          refine ⟨fun t => (by rw [z1] at t; cases t), fun _ => k7_isDone (s := X.1) (E := X.2) hc1 hG v3 v4 v5 w1 w2 w3 (fun Y V2 hY f2 cY GY => ?_) (fun hY => ?_)⟩
          · refine ⟨fun t => Bool.noConfusion t, fun _ => ⟨m', by omega, k + 1, b', Y, by omega, by omega, nI_1 k, fun x hx => (f2 x (by omega)).trans (ho1 x hx), clP_off hP1' (by rw [f2 389 (by omega)]) (f2 390 (by omega)), ?_, cY, GY, ?_, ?_⟩⟩
            · obtain ⟨q1, q2, q3, q4⟩ := z3
              exact ⟨by rw [f2 389 (by omega)]; exact q1, by rw [f2 389 (by omega)]; exact q2, q3, q4⟩
            · rw [hR]
              dsimp only
              rw [hY]
              dsimp only
              omega
            · rw [hR]
              dsimp only
              rw [hY]
          · refine ⟨fun _ => stop V1 ?_ ho1 hP1' hc1, fun t => Bool.noConfusion t⟩
            rw [hR]
            dsimp only
            rw [hY]
end Pd3
