/-! both sides at once -/
theorem h_enter2 {J : Nat → Nat → Int64} {V : Mem} {s : Ms} {E : Evs} {g : Lg} (c : clM V s E) (G : Gd s E) (q : clL V g) : CR J mX7_enter [.ref 0] V 1 397 xsF (entK s E) (entV s E) (fun V' => (clX V' (entN s E) ∧ GdX (entN s E) ∧ clL V' (entG s E g)) ∧ V' 389 = V 389 ∧ V' 390 = V 390) := by
  obtain ⟨wf, hb, hr, hck⟩ := Gd_run G
  have g2 := G.2.2.1
  unfold CR
  refine v_X7_enter (rd_b (k1_isOver c G) (nd_st _ (fun h => ?_) (fun h => ?_)))
  · have h := of_decide_eq_true h
    have hk : entK s E = 0 := by unfold entK; rw [if_pos h]
    have m := c.2.2.2 h.1
    obtain ⟨h8, h4, -⟩ := G.2.2.2.2.2.2.2.1 h.1
    have b4 := hb 104 (by omega)
    have b5 := hb 105 (by omega)
    refine rd_i (k1_clubOf c 0 (by omega)) (rd_i (pointsOf m 0 (by omega)) (rd_i (k1_clubOf c 1 (by omega)) (rd_i (pointsOf m 1 (by omega)) ?_)))
    refine CTc_nx (k3_note q (s 3) (nowF s E 104) (s 4) (nowF s E 105) h8 h4 (by omega) (by omega)) (fun v V1 z => ⟨_, z.1, ?_⟩)
    obtain ⟨-, f1, q1⟩ := z
    have c1 := clM_off c g2 (V' := V1) (fun x hx => f1 x (by omega))
    refine wr_use (k1_close c1 h.2.1) (fun V2 f2 c2 => ⟨hk, rfl, offF_tr (offF_weak f1 (by omega)) (offF_weak f2 (by omega)), ?_⟩)
    unfold entN entG GdX
    rw [hk, if_pos rfl, if_pos rfl]
    exact ⟨⟨c2, Gd_close G h.2.1, clL_off q1 (fun x h1 h2 => f2 x (by omega))⟩, (f2 389 (by omega)).trans (f1 389 (by omega)), (f2 390 (by omega)).trans (f1 390 (by omega))⟩
  · have h := of_decide_eq_false h
    have hk : entK s E = 1 := by unfold entK; rw [if_neg h]
    unfold entN entG GdX
    rw [hk]
    exact ⟨show (1 : Nat) ≠ 0 by decide, show ((1 : Nat), xIS) ∈ xsF by simp [xsF], offF_rf _ _ _, ⟨c, G, q⟩, rfl, rfl⟩
def frU (V V' : Mem) : Prop := (∀ x, x ≠ 405 → V' x = V x) ∧ ∀ j, j ≠ 0 → V' 405 j = V 405 j
theorem frU_th (V : Mem) (y : Int32) : frU V (up2 V 405 0 y) := ⟨fun x hx => up2_off _ _ _ hx, fun j hj => up2_ne _ _ (Or.inr hj)⟩
theorem m_club2 {J : Nat → Nat → Int64} {V : Mem} {g : Lg} (q : rfL V g) (hb : bddL g 1000000000) (c k : Int32) : CTc J mX8_club [.ref 405, .int c, .int k] V (ROg frU V (twoK (isIx c 8) (isIx k 7)) (lgV g c.toNatClampNeg k.toNatClampNeg) (fun V' => rfL V' g)) NX := by
  have o : ∀ x, up2 V 405 0 x 420 = V 420 := fun x => up2_off _ _ _ (by omega)
  have bad : ∀ j, j ≠ 0 → j < 100 → twoK (isIx c 8) (isIx k 7) = j → F_X8_club_27 J c k (nI j) V (ROg frU V (twoK (isIx c 8) (isIx k 7)) (lgV g c.toNatClampNeg k.toNatClampNeg) (fun V' => rfL V' g)) NX := by
    intro j hj hj1 hjj
    unfold F_X8_club_27
    refine m_holds j hj1 (fun z => (hj z).elim) (fun _ => ?_)
    rw [hjj]
    exact ⟨⟨0, rfl, fun z => (hj z).elim⟩, frU_th V _, up2_same _ _ _ _, rfL_off q (o _)⟩
  refine v_X8_club c k (rd_b (k8_isClub J c V) ⟨fun z => rd_b (k8_in J k 0 6 V) ?_, fun z => bad 1 (by omega) (by omega) (by rw [z]; rfl)⟩)
  rw [inB_ix (n := 7) rfl]
  refine ⟨fun y => bad 2 (by omega) (by omega) (by rw [z, y]; rfl), fun y => ?_⟩
  have hk0 : twoK (isIx c 8) (isIx k 7) = 0 := by rw [z, y]; rfl
  obtain ⟨c, hc, rfl⟩ := isIx_ex (by omega) z
  obtain ⟨k, hk, rfl⟩ := isIx_ex (by omega) y
  have q0 : rfL (up2 V 405 0 (nI 0)) g := rfL_off q (o _)
  have fin : ∀ x, x = lgV g c k → ROg frU V (twoK (isIx (nI c) 8) (isIx (nI k) 7)) (lgV g c k) (fun V' => rfL V' g) (some (.int x)) (up2 V 405 0 (nI 0)) := fun x hx => ⟨⟨x, rfl, fun _ => hx⟩, frU_th V _, by rw [hk0]; exact up2_same _ _ _ _, q0⟩
  unfold F_X8_club_27
  refine m_holds 0 (by omega) (fun _ => ?_) (fun z => (z rfl).elim)
  rw [ccl (n := c) (by omega), ccl (n := k) (by omega), i6, ccl (n := 6 * c + k) (by omega), show (6 : Int32) = nI 6 from rfl, cle (by omega) (by omega)]
  refine ⟨fun w => rd_i (m_rankOf q0 c hc hb) (fin _ ?_), fun w => ⟨s48 (by omega), fin _ ?_⟩⟩
  · unfold lgV; rw [if_neg (by omega)]
  · unfold lgV; rw [if_pos (by omega)]; exact q0 _ (by omega)
abbrev LSt : Type := St × Au × Lg × Nat × (Nat → Int32)
def clS (V : Mem) (q : LSt) : Prop := (clX V q.1 ∧ GdX q.1) ∧ (clA V q.2.1 ∧ GdA q.2.1) ∧ clL V q.2.2.1 ∧ clP V q.2.2.2.1 q.2.2.2.2
def rfS (V : Mem) (q : LSt) : Prop := rfX V q.1 ∧ rfA V q.2.1 ∧ rfL V q.2.2.1 ∧ rfP V q.2.2.2.1 q.2.2.2.2
theorem rfA_cg {V V' : Mem} {u : Au} (h : rfA V u) (f : ∀ x, 421 ≤ x → x < 427 → V' x = V x) (g : ∀ j, 33 ≤ j → j < 38 → V' 405 j = V 405 j) : rfA V' u :=
  ⟨fun i j hi hj => by rw [f _ (by omega) (by omega)]; exact h.1 i j hi hj, fun i hi => by rw [g _ (by omega) (by omega)]; exact h.2 i hi⟩
theorem rfS_hi {V V' : Mem} {q : LSt} (h : rfS V q) (f : ∀ x, 405 ≤ x → V' x = V x) : rfS V' q :=
  ⟨rfM_cg h.1 (fun x h1 h2 => f x (by omega)) (fun j _ _ => by rw [f 405 (by omega)]), rfA_cg h.2.1 (fun x h1 h2 => f x (by omega)) (fun j _ _ => by rw [f 405 (by omega)]), rfL_off h.2.2.1 (f 420 (by omega)), rfP_off h.2.2.2 (by rw [f 405 (by omega)]) (f 419 (by omega))⟩
theorem clS_60 {V : Mem} {q : LSt} (h : clS V q) : q.1.1 2 ≤ 60 := h.1.2.2.2.1
theorem clS_lo {V V' : Mem} {q : LSt} (h : clS V q) (f : ∀ x, x < 405 → V' x = V x) : clS V' q :=
  ⟨⟨clM_off h.1.1 (clS_60 h) (fun x hx => f x (by omega)), h.1.2⟩, ⟨clA_off h.2.1.1 (fun x h1 h2 => f x (by omega)), h.2.1.2⟩, clL_off h.2.2.1 (fun x h1 h2 => f x (by omega)), clP_off h.2.2.2 (by rw [f 389 (by omega)]) (f 390 (by omega))⟩
def CLs (J : Nat → Nat → Int64) (d : pD) (as : List Value) (V : Mem) (xs : List (Nat × String)) (k : Nat) (x : Int32) (q q' : LSt) : Prop := CTc J d as V (fun r V' => k = 0 ∧ r = some (.int x) ∧ (clS V' q' ∧ rfS V' q)) (fun X V' => k ≠ 0 ∧ (k, X) ∈ xs ∧ (clS V' q' ∧ rfS V' q))
def RLs (J : Nat → Nat → Int64) (d : pD) (as : List Value) (V : Mem) (k : Nat) (x : Int32) (q' : LSt) : Prop := CTc J d as V (fun r V' => (∃ z, r = some (.int z) ∧ (k = 0 → z = x)) ∧ V' 405 0 = nI k ∧ clS V' q' ∧ rfS V' q') NX
theorem CLs_of {J : Nat → Nat → Int64} {d : pD} {as : List Value} {V : Mem} {lo n : Nat} {xs : List (Nat × String)} {k : Nat} {x : Int32} {P : Mem → Prop} {q q' : LSt} (h : CR J d as V lo n xs k x P) (hP : ∀ V', offF V V' lo n → P V' → clS V' q' ∧ rfS V' q) : CLs J d as V xs k x q q' :=
  CTc_mono h (fun v V' z => ⟨z.1, z.2.1, hP V' z.2.2.1 z.2.2.2⟩) (fun E V' z => ⟨z.1, z.2.1, hP V' z.2.2.1 z.2.2.2⟩)
theorem RLs_of {J : Nat → Nat → Int64} {d : pD} {as : List Value} {V : Mem} {F : Mem → Mem → Prop} {k : Nat} {x : Int32} {P : Mem → Prop} {q' : LSt} (h : CTc J d as V (ROg F V k x P) NX) (hP : ∀ V', F V V' → P V' → clS V' q' ∧ rfS V' q') : RLs J d as V k x q' :=
  CTc_mono h (fun v V' z => ⟨z.1, z.2.2.1, hP V' z.2.1 z.2.2.2⟩) (fun _ _ z => z)
section Bt
variable {V V' : Mem} {q : LSt} {X' : St} {u' : Au} {g' : Lg} {n' : Nat} {sg' : Nat → Int32}
theorem aO (I : clS V q) (f : ∀ x, 398 ≤ x → x < 405 → V' x = V x) : clA V' q.2.1 ∧ GdA q.2.1 := ⟨clA_off I.2.1.1 f, I.2.1.2⟩
theorem mO (I : clS V q) (f : ∀ x, (1 ≤ x ∧ x < 16) ∨ (29 ≤ x ∧ x < 389) → V' x = V x) : clX V' q.1 ∧ GdX q.1 := ⟨clM_off I.1.1 (clS_60 I) f, I.1.2⟩
theorem lO (I : clS V q) (f : ∀ x, 392 ≤ x → x < 398 → V' x = V x) : clL V' q.2.2.1 := clL_off I.2.2.1 f
theorem pO (I : clS V q) (f9 : V' 389 = V 389) (f : V' 390 = V 390) : clP V' q.2.2.2.1 q.2.2.2.2 := clP_off I.2.2.2 (by rw [f9]) f
theorem cl_M (I : clS V q) (R : rfS V q) (f : offF V V' 1 388) (h : clX V' X') (g : GdX X') : clS V' (X', q.2) ∧ rfS V' q :=
  ⟨⟨⟨h, g⟩, aO (q := q) I (fun x h1 h2 => f x (by omega)), lO (q := q) I (fun x h1 h2 => f x (by omega)), pO (q := q) I (f 389 (by omega)) (f 390 (by omega))⟩, rfS_hi R (fun x hx => f x (by omega))⟩
theorem cl_A (I : clS V q) (R : rfS V q) (f : offF V V' 398 7) (h : clA V' u' ∧ GdA u') : clS V' (q.1, u', q.2.2) ∧ rfS V' q :=
  ⟨⟨mO (q := q) I (fun x hx => f x (by omega)), h, lO (q := q) I (fun x h1 h2 => f x (by omega)), pO (q := q) I (f 389 (by omega)) (f 390 (by omega))⟩, rfS_hi R (fun x hx => f x (by omega))⟩
theorem cl_L (I : clS V q) (R : rfS V q) (f : offF V V' 391 7) (h : clL V' g') : clS V' (q.1, q.2.1, g', q.2.2.2) ∧ rfS V' q :=
  ⟨⟨mO (q := q) I (fun x hx => f x (by omega)), aO (q := q) I (fun x h1 h2 => f x (by omega)), h, pO (q := q) I (f 389 (by omega)) (f 390 (by omega))⟩, rfS_hi R (fun x hx => f x (by omega))⟩
theorem cl_P (I : clS V q) (R : rfS V q) (f : offF V V' 389 2) (h : clP V' n' sg') : clS V' (q.1, q.2.1, q.2.2.1, n', sg') ∧ rfS V' q :=
  ⟨⟨mO (q := q) I (fun x hx => f x (by omega)), aO (q := q) I (fun x h1 h2 => f x (by omega)), lO (q := q) I (fun x h1 h2 => f x (by omega)), h⟩, rfS_hi R (fun x hx => f x (by omega))⟩
theorem cl_E (I : clS V q) (R : rfS V q) (f : offF V V' 1 397) (h : clX V' X') (g : GdX X') (hL : clL V' g') (h9 : V' 389 = V 389) (h10 : V' 390 = V 390) : clS V' (X', q.2.1, g', q.2.2.2) ∧ rfS V' q :=
  ⟨⟨⟨h, g⟩, aO (q := q) I (fun x h1 h2 => f x (by omega)), hL, pO (q := q) I h9 h10⟩, rfS_hi R (fun x hx => f x (by omega))⟩
theorem cl_R (I : clS V q) (R : rfS V q) (f : offF V V' 1 390) (h : clX V' X') (g : GdX X') (hP : clP V' q.2.2.2.1 q.2.2.2.2) : clS V' (X', q.2) ∧ rfS V' q :=
  ⟨⟨⟨h, g⟩, aO (q := q) I (fun x h1 h2 => f x (by omega)), lO (q := q) I (fun x h1 h2 => f x (by omega)), hP⟩, rfS_hi R (fun x hx => f x (by omega))⟩
theorem rf_M (I : clS V (X', q.2)) (R : rfS V q) (f : frM V V') (h : rfX V' X') : clS V' (X', q.2) ∧ rfS V' (X', q.2) :=
  ⟨clS_lo I (fun x hx => f.1 x (Or.inl hx)), h, rfA_cg R.2.1 (fun x h1 h2 => f.1 x (by omega)) (fun j h1 h2 => f.2 j (by omega)), rfL_off R.2.2.1 (f.1 420 (by omega)), rfP_off R.2.2.2 (f.2 20 (by omega)) (f.1 419 (by omega))⟩
theorem rf_A (I : clS V (q.1, u', q.2.2)) (R : rfS V q) (f : frA V V') (h : rfA V' u') : clS V' (q.1, u', q.2.2) ∧ rfS V' (q.1, u', q.2.2) :=
  ⟨clS_lo I (fun x hx => f.1 x (by omega) (by omega)), rfM_cg R.1 (fun x h1 h2 => f.1 x (by omega) (by omega)) (fun j h1 h2 => f.2 j h2 (by omega)), h, rfL_off R.2.2.1 (f.1 420 (by omega) (by omega)), rfP_off R.2.2.2 (f.2 20 (by omega) (by omega)) (f.1 419 (by omega) (by omega))⟩
theorem rf_L (I : clS V q) (R : rfS V q) (f : frU V V') (h : rfL V' q.2.2.1) : clS V' q ∧ rfS V' q :=
  ⟨clS_lo I (fun x hx => f.1 x (by omega)), rfM_cg R.1 (fun x h1 h2 => f.1 x (by omega)) (fun j h1 h2 => f.2 j h2), rfA_cg R.2.1 (fun x h1 h2 => f.1 x (by omega)) (fun j h1 h2 => f.2 j (by omega)), h, rfP_off R.2.2.2 (f.2 20 (by omega)) (f.1 419 (by omega))⟩
theorem rf_E (I : clS V (X', q.2.1, g', q.2.2.2)) (R : rfS V q) (f : frE V V') (hm : rfX V' X') (h : rfL V' g') : clS V' (X', q.2.1, g', q.2.2.2) ∧ rfS V' (X', q.2.1, g', q.2.2.2) :=
  ⟨clS_lo I (fun x hx => f.1 x (by omega) (by omega)), hm, rfA_cg R.2.1 (fun x h1 h2 => f.1 x (by omega) (by omega)) (fun j h1 h2 => f.2 j (by omega)), h, rfP_off R.2.2.2 (f.2 20 (by omega)) (f.1 419 (by omega) (by omega))⟩
theorem rf_Q (I : clS V (q.1, q.2.1, q.2.2.1, n', sg')) (R : rfS V q) (f : frQ V V') (h : rfP V' n' sg') : clS V' (q.1, q.2.1, q.2.2.1, n', sg') ∧ rfS V' (q.1, q.2.1, q.2.2.1, n', sg') :=
  ⟨clS_lo I (fun x hx => f.1 x (by omega) (by omega)), rfM_cg R.1 (fun x h1 h2 => f.1 x (by omega) (by omega)) (fun j h1 h2 => f.2 j h2 (by omega)), rfA_cg R.2.1 (fun x h1 h2 => f.1 x (by omega) (by omega)) (fun j h1 h2 => f.2 j (by omega) (by omega)), rfL_off R.2.2.1 (f.1 420 (by omega) (by omega)), h⟩
theorem rf_R (I : clS V (X', q.2)) (R : rfS V q) (f : frX V V') (hm : rfX V' X') (h : rfP V' q.2.2.2.1 q.2.2.2.2) : clS V' (X', q.2) ∧ rfS V' (X', q.2) :=
  ⟨clS_lo I (fun x hx => f.1 x (Or.inl hx)), hm, rfA_cg R.2.1 (fun x h1 h2 => f.1 x (by omega)) (fun j h1 h2 => f.2 j (by omega)), rfL_off R.2.2.1 (f.1 420 (by omega)), h⟩
end Bt
