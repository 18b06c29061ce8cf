/-! the reference: views of the match -/
section Mdc
variable {J : Nat → Nat → Int64} {V : Mem} {s : Ms} {E : Evs}
theorem m_holds2 (k : Nat) (hk : k < 100) {A B : Mem → Prop} {Qx : String → Mem → Prop} (y : k = 0 → A (up2 V 405 0 (nI k))) (z : k ≠ 0 → B (up2 V 405 0 (nI k))) : CTc J mX8_holds [.ref 405, .int (nI k)] V (fun r V1 => ∃ b1 : Bool, r = some (.int (bI b1)) ∧ (b1 = false → B V1) ∧ (b1 = true → A V1)) Qx :=
  CTc_nx (m_holds (Qx := NX) k hk y z) (fun _ _ h => by obtain ⟨b, h1, h2, h3⟩ := h; exact ⟨b, h1, h3, h2⟩)
theorem vk_lt (s : Ms) (b : Bool) : viewK s b < 100 := by
  unfold viewK
  repeat' split
  all_goals omega
theorem m_err (m : rfM V s E) (G : Gd s E) (b : Bool) : RD J mX8_errorOfMatch [.ref 405, .int (bI b)] V (nI (viewK s b)) := by
  have g0 := G.1
  refine v_X8_errorOfMatch _ ?_
  unfold F_X8_errorOfMatch
  rw [bI_0, m.2.1, nI_0', ceq (by omega) (by omega)]
  unfold viewK
  refine ⟨fun z => ⟨fun y => ⟨?_, rfl⟩, fun y => ⟨?_, rfl⟩⟩, fun z => ⟨?_, rfl⟩⟩
  · rw [if_neg z, if_neg (by omega)]; rfl
  · rw [if_neg z, if_pos (by omega)]
  · rw [if_pos z]; rfl
theorem ro_at {x : Int32} {k : Nat} (hk : k = 0) {P : Mem → Prop} (p : P (up2 V 405 0 (nI 0))) {z : Int32} (hz : z = x) : ROp V k x P (some (.int z)) (up2 V 405 0 (nI k)) := by
  subst hk
  exact ⟨⟨z, rfl, fun _ => hz⟩, frM_up (frM_rf V) (by omega), up2_same _ _ _ _, p⟩
theorem m_view (m : rfM V s E) (G : Gd s E) (b : Bool) {x : Int32} {A : Mem → Prop} (y : viewK s b = 0 → s 0 = 1 → A (up2 V 405 0 (nI (viewK s b)))) : CTc J mX8_errorOfMatch [.ref 405, .int (bI b)] V (fun r V1 => ∃ r1 : Int32, r = some (.int r1) ∧ CTc J mX8_holds [.ref 405, .int r1] V1 (fun r V2 => ∃ b2 : Bool, r = some (.int (bI b2)) ∧ (b2 = false → ROp V (viewK s b) x (fun V' => rfM V' s E) (some (.int 0)) V2) ∧ (b2 = true → A V2)) NX) NX := by
  refine rd_i (m_err m G b) (m_holds2 _ (vk_lt s b) (fun h => y h ?_) (fun h => ro_bad (frM_rf _) h (rfM_th m)))
  unfold viewK at h
  split at h
  · cases h
  · split at h
    · assumption
    · cases h
theorem m_view2 (m : rfM V s E) (G : Gd s E) (b : Bool) {x : Int32} {A : Mem → Prop} (y : viewK s b = 0 → s 0 = 1 → A (up2 V 405 0 (nI (viewK s b)))) : CTc J mX8_errorOfMatch [.ref 405, .int (bI b)] V (fun r V1 => ∃ r1 : Int32, r = some (.int r1) ∧ CTc J mX8_holds [.ref 405, .int r1] V1 (fun r V2 => ∃ b2 : Bool, r = some (.int (bI b2)) ∧ (b2 = true → A V2) ∧ (b2 = false → ROp V (viewK s b) x (fun V' => rfM V' s E) (some (.int 0)) V2)) NX) NX := by
  refine rd_i (m_err m G b) (m_holds _ (vk_lt s b) (fun h => y h ?_) (fun h => ro_bad (frM_rf _) h (rfM_th m)))
  unfold viewK at h
  split at h
  · cases h
  · split at h
    · assumption
    · cases h
theorem th_416 {x : Int32} : up2 V 405 0 x 416 = V 416 := up2_off _ _ _ (by omega)
theorem vk_b {b : Bool} (h : viewK s b = 0) : b = true := by
  cases b with
  | true => rfl
  | false => unfold viewK at h; rw [if_pos rfl] at h; cases h
theorem m_player (m : rfM V s E) (G : Gd s E) (a p : Int32) : RO J mX8_player [.ref 405, .int a, .int p] V (viewK s (isIx a 2 && isIx p 10)) (nI (nowF s E (10 * a.toNatClampNeg + p.toNatClampNeg))) (fun V' => rfM V' s E) := by
  have L : ∀ b : Bool, (isIx a 2 && isIx p 10) = b → F_X8_player_21 J a p (bI b) V (ROp V (viewK s (isIx a 2 && isIx p 10)) (nI (nowF s E (10 * a.toNatClampNeg + p.toNatClampNeg))) (fun V' => rfM V' s E)) NX := by
    intro b hb
    unfold F_X8_player_21
    rw [hb]
    refine m_view m G b (fun hk h0 => ?_)
    have hb2 := vk_b hk
    rw [hb2, Bool.and_eq_true] at hb
    obtain ⟨x, hx, rfl⟩ := isIx_ex (by omega) hb.1
    obtain ⟨y, hy, rfl⟩ := isIx_ex (by omega) hb.2
    obtain ⟨a, -, c, d, e⟩ := m.2.2 h0
    rw [i10, ccl (n := 10 * x + y) (by omega), ccl (n := x) (by omega), ccl (n := y) (by omega)]
    refine ⟨s110 (by omega), ro_at hk (rfM_th m) ?_⟩
    rw [th_416]; exact e _ (by omega)
  exact v_X8_player a p (rd_b (k8_isSide J a V) ⟨fun z => L false (by rw [z]; rfl), fun z => rd_b (k8_isPlayer J p V) ⟨fun y => L false (by rw [z, y]; rfl), fun y => L true (by rw [z, y]; rfl)⟩⟩)
theorem m_raidPoints (m : rfM V s E) (G : Gd s E) (a p : Int32) : RO J mX8_raidPoints [.ref 405, .int a, .int p] V (viewK s (isIx a 2 && isIx p 10)) (nI (nowF s E (60 + 10 * a.toNatClampNeg + p.toNatClampNeg))) (fun V' => rfM V' s E) := by
  have L : ∀ b : Bool, (isIx a 2 && isIx p 10) = b → F_X8_raidPoints_21 J a p (bI b) V (ROp V (viewK s (isIx a 2 && isIx p 10)) (nI (nowF s E (60 + 10 * a.toNatClampNeg + p.toNatClampNeg))) (fun V' => rfM V' s E)) NX := by
    intro b hb
    unfold F_X8_raidPoints_21
    rw [hb]
    refine m_view m G b (fun hk h0 => ?_)
    have hb2 := vk_b hk
    rw [hb2, Bool.and_eq_true] at hb
    obtain ⟨x, hx, rfl⟩ := isIx_ex (by omega) hb.1
    obtain ⟨y, hy, rfl⟩ := isIx_ex (by omega) hb.2
    obtain ⟨a, -, c, d, e⟩ := m.2.2 h0
    rw [i60, ccl (n := 60 + 10 * x + y) (by omega), ccl (n := x) (by omega), ccl (n := y) (by omega)]
    refine ⟨s110 (by omega), ro_at hk (rfM_th m) ?_⟩
    rw [th_416]; exact e _ (by omega)
  exact v_X8_raidPoints a p (rd_b (k8_isSide J a V) ⟨fun z => L false (by rw [z]; rfl), fun z => rd_b (k8_isPlayer J p V) ⟨fun y => L false (by rw [z, y]; rfl), fun y => L true (by rw [z, y]; rfl)⟩⟩)
theorem m_outAt {σ : Sg} (q : sOK V σ) (a : Nat) (p : Int32) (ha : a < 2) (hm : σ (100 + a) ≤ 10) (hp : ¬ p < 0) : RD J mX8_outAt [.ref 405, .int (nI a), .int p] V (if isIx p (σ (100 + a)) = true then nI (σ (80 + 10 * a + p.toNatClampNeg)) else -1) := by
  obtain ⟨j, hj, rfl⟩ := nI_of hp
  refine v_X8_outAt _ _ ?_
  unfold F_X8_outAt
  rw [i100, ccl (n := 100 + a) (by omega), q _ (by omega), cle (by omega) (by omega), ccl (n := j) hj]
  refine ⟨s110 (by omega), fun z => ⟨?_, rfl⟩, fun z => ?_⟩
  · rw [if_neg]
    intro h
    obtain ⟨i, hi, he⟩ := isIx_ex (by omega) h
    rw [ceq hj (by omega)] at he
    omega
  · rw [if_pos (isIx_nI (by omega) (by omega)), i80, ccl (n := 80 + 10 * a + j) (by omega), q _ (by omega)]
    exact ⟨s110 (by omega), rfl, rfl⟩
theorem m_next (m : rfM V s E) (G : Gd s E) (a : Int32) : RO J mX8_next [.ref 405, .int a] V (viewK s (isIx a 2)) (outV s E a.toNatClampNeg 0) (fun V' => rfM V' s E) := by
  obtain ⟨w0, hb, hr, -⟩ := Gd_run G
  refine v_X8_next a (rd_b (k8_isSide J a V) (m_view m G _ (fun hk h0 => ?_)))
  obtain ⟨x, hx, rfl⟩ := isIx_ex (by omega) (vk_b hk)
  obtain ⟨-, -, c, d, e⟩ := m.2.2 h0
  refine rd_i (m_outAt (sOK_off e th_416) x 0 hx (wfS_m (wfM_at w0 hx)) (by decide)) (ro_at hk (rfM_th m) ?_)
  unfold outV
  rw [ccl (n := x) (by omega)]
theorem m_out (m : rfM V s E) (G : Gd s E) (a p : Int32) : RO J mX8_out [.ref 405, .int a, .int p] V (viewK s (isIx a 2 && !decide (p < 0))) (outV s E a.toNatClampNeg p) (fun V' => rfM V' s E) := by
  obtain ⟨w0, hb, hr, -⟩ := Gd_run G
  have L : ∀ b : Bool, (isIx a 2 && !decide (p < 0)) = b → F_X8_out_18 J a p (bI b) V (ROp V (viewK s (isIx a 2 && !decide (p < 0))) (outV s E a.toNatClampNeg p) (fun V' => rfM V' s E)) NX := by
    intro b hb
    unfold F_X8_out_18
    rw [hb]
    refine m_view m G b (fun hk h0 => ?_)
    have hb2 := vk_b hk
    rw [hb2, Bool.and_eq_true, Bool.not_eq_true', decide_eq_false_iff_not] at hb
    obtain ⟨x, hx, rfl⟩ := isIx_ex (by omega) hb.1
    obtain ⟨-, -, c, d, e⟩ := m.2.2 h0
    refine rd_i (m_outAt (sOK_off e th_416) x p hx (wfS_m (wfM_at w0 hx)) hb.2) (ro_at hk (rfM_th m) ?_)
    unfold outV
    rw [ccl (n := x) (by omega)]
  refine v_X8_out a p (rd_b (k8_isSide J a V) ⟨fun z => L false (by rw [z]; rfl), fun z => ⟨fun y => L false (by rw [z, decide_eq_true y]; rfl), fun y => L true (by rw [z, decide_eq_false y]; rfl)⟩⟩)
theorem m_points (m : rfM V s E) (G : Gd s E) (a : Int32) : RO J mX8_points [.ref 405, .int a] V (viewK s (isIx a 2)) (nI (nowF s E (104 + a.toNatClampNeg))) (fun V' => rfM V' s E) := by
  refine v_X8_points a (rd_b (k8_isSide J a V) (m_view m G _ (fun hk h0 => ?_)))
  obtain ⟨x, hx, rfl⟩ := isIx_ex (by omega) (vk_b hk)
  obtain ⟨-, -, c, d, e⟩ := m.2.2 h0
  rw [i104, ccl (n := 104 + x) (by omega), ccl (n := x) (by omega)]
  refine ⟨s110 (by omega), ro_at hk (rfM_th m) ?_⟩
  rw [th_416]; exact e _ (by omega)
theorem m_hasReview (m : rfM V s E) (G : Gd s E) (a : Int32) : RO J mX8_hasReview [.ref 405, .int a] V (viewK s (isIx a 2)) (bI (decide (s (7 + a.toNatClampNeg) = 0))) (fun V' => rfM V' s E) := by
  have g7 := G.2.2.2.2.1
  have g8 := G.2.2.2.2.2.1
  refine v_X8_hasReview a (rd_b (k8_isSide J a V) (m_view m G _ (fun hk h0 => ?_)))
  obtain ⟨x, hx, rfl⟩ := isIx_ex (by omega) (vk_b hk)
  obtain ⟨-, b, c, d, e⟩ := m.2.2 h0
  have hl : V 407 x = nI (s (7 + x)) := by
    rcases (show x = 0 ∨ x = 1 by omega) with rfl | rfl
    · exact b.2.2.1
    · exact b.2.2.2
  have h7x : s (7 + x) ≤ 1 := by
    rcases (show x = 0 ∨ x = 1 by omega) with rfl | rfl
    · exact g7
    · exact g8
  rw [ccl (n := x) (by omega), show up2 V 405 0 (nI (viewK s (isIx (nI x) 2))) 407 = V 407 from up2_off _ _ _ (by omega), hl]
  have ez : (nI (s (7 + x)) = 0) ↔ s (7 + x) = 0 := by rw [nI_0', ceq (by omega) (by omega)]
  rw [ez]
  refine ⟨vp_in_nI hx (by decide), fun z => ro_at hk (rfM_th m) ?_, fun z => ro_at hk (rfM_th m) ?_⟩
  · rw [decide_eq_false z]; rfl
  · rw [decide_eq_true z]; rfl
theorem m_match (m : rfM V s E) (G : Gd s E) (q : Int32) : RO J mX8_match [.ref 405, .int q] V (viewK s (isIx q 8)) (tellV s E q.toNatClampNeg) (fun V' => rfM V' s E) := by
  obtain ⟨w0, hb, hr, -⟩ := Gd_run G
  have g1 := G.2.1
  refine v_X8_match q (rd_b (k8_in J q 0 7 V) ?_)
  rw [inB_ix (n := 8) rfl]
  refine m_view2 m G (isIx q 8) (fun hk h0 => ?_)
  obtain ⟨k, hk8, rfl⟩ := isIx_ex (by omega) (vk_b hk)
  have hg := G.2.2.2.2.2.2.2.1 h0
  have hb8 := hb 108 (by omega)
  have ht := turnF_lt (nowF s E)
  have h2e := (wfM_at w0 ht).2.2.2.2.2.2.1
  obtain ⟨⟨a1, a2, a3⟩, bb, c, d, e⟩ := m.2.2 h0
  have e' : sOK (up2 V 405 0 (nI (viewK s (isIx (nI k) 8)))) (nowF s E) := sOK_off e th_416
  have v3 : up2 V 405 0 (nI (viewK s (isIx (nI k) 8))) 405 3 = nI (s 1) := (up2_ne _ _ (Or.inr (by omega))).trans a1
  have v5 : up2 V 405 0 (nI (viewK s (isIx (nI k) 8))) 405 5 = nI (s 5) := (up2_ne _ _ (Or.inr (by omega))).trans a2
  have v7 : up2 V 405 0 (nI (viewK s (isIx (nI k) 8))) 405 7 = nI (s 2) := (up2_ne _ _ (Or.inr (by omega))).trans a3
  have v6 : up2 V 405 0 (nI (viewK s (isIx (nI k) 8))) 406 = V 406 := up2_off _ _ _ (by omega)
  have fin : ∀ z, z = tellV s E k → ROp V (viewK s (isIx (nI k) 8)) (tellV s E (nI k).toNatClampNeg) (fun V' => rfM V' s E) (some (.int z)) (up2 V 405 0 (nI (viewK s (isIx (nI k) 8)))) := fun z hz => ro_at hk (rfM_th m) (by rw [hz, ccl (by omega)])
  have cq : ∀ j, j < 8 → (nI k = nI j) → k = j := fun j hj h => by rwa [ceq (by omega) (by omega)] at h
  refine ⟨fun z => fin _ ?_, fun z => rd_i (m_turn e' hr) (fin _ ?_), fun z => fin _ ?_, fun z => ?_, fun z => rd_i (m_turn e' hr) ?_, fun z => ?_, fun z => ?_⟩
  · have := cq 0 (by omega) z; subst this
    exact e' 108 (by omega)
  · have := cq 1 (by omega) z; subst this
    rfl
  · have := cq 2 (by omega) z; subst this
    exact v7
  · have := cq 3 (by omega) z; subst this
    rw [v3, nI_0', ceq (by omega) (by omega)]
    refine ⟨fun y => fin _ ?_, fun y => fin _ ?_⟩
    · show _ = nI (s 1); rw [y]
    · show _ = nI (s 1); rw [show s 1 = 1 by omega]; rfl
  · have := cq 4 (by omega) z; subst this
    rw [i106, ccl (n := 106 + turnF (nowF s E)) (by omega), e' (106 + turnF (nowF s E)) (by omega), show (2 : Int32) = nI 2 from rfl, ceq (by omega) (by omega)]
    refine ⟨s110 (by omega), fun y => fin _ ?_, fun y => fin _ ?_⟩
    · show _ = bI (decide (nowF s E (106 + turnF (nowF s E)) = 2)); rw [decide_eq_false y]; rfl
    · show _ = bI (decide (nowF s E (106 + turnF (nowF s E)) = 2)); rw [decide_eq_true y]; rfl
  · have := cq 5 (by omega) z; subst this
    rw [v3, v5, e' 108 (by omega), nI_0', ceq (by omega) (by omega), clt (by omega) (by omega)]
    refine ⟨fun y => fin _ ?_, fun y => ⟨fun x => fin _ ?_, fun x => fin _ ?_⟩⟩
    · show _ = bI (decide (s 0 = 1 ∧ s 1 = 0 ∧ s 5 ≤ nowF s E 108)); rw [decide_eq_false (by omega)]; rfl
    · show _ = bI (decide (s 0 = 1 ∧ s 1 = 0 ∧ s 5 ≤ nowF s E 108)); rw [decide_eq_false (by omega)]; rfl
    · show _ = bI (decide (s 0 = 1 ∧ s 1 = 0 ∧ s 5 ≤ nowF s E 108)); rw [decide_eq_true (by omega)]; rfl
  · have hz : (nI k).toInt = (k : Int) := nI_toInt (by omega)
    rw [hz] at z
    have e6 : nI k - 6 = nI (k - 6) := nI_sub (b := 6) (by omega)
    rw [e6, ccl (n := k - 6) (by omega), v6]
    refine ⟨vp_in_nI (by omega) (by decide), fin _ ?_⟩
    have hv : tellV s E k = nI (s (3 + (k - 6))) := by
      unfold tellV
      rw [if_neg (by omega), if_neg (by omega), if_neg (by omega), if_neg (by omega), if_neg (by omega), if_neg (by omega)]
    rw [hv]
    rcases (show k = 6 ∨ k = 7 by omega) with rfl | rfl
    · exact bb.1
    · exact bb.2.1
theorem m_hasEnded (m : rfM V s E) (G : Gd s E) (n a : Int32) : RD J mX8_hasEnded [.ref 405, .int n, .int a] V (bI (isIx n (s 2 - s 1) && isIx a 2)) := by
  have g0 := G.1
  have g1 := G.2.1
  have g2 := G.2.2.1
  have g12 := G.2.2.2.1
  refine v_X8_hasEnded n a ?_
  unfold F_X8_hasEnded
  rw [m.2.1, nI_0', ceq (by omega) (by omega)]
  refine ⟨fun z => ⟨?_, rfl⟩, fun z => ?_⟩
  · have s2 := G.2.2.2.2.2.2.1 z
    have h : isIx n (s 2 - s 1) = false := by
      cases y : isIx n (s 2 - s 1) with
      | false => rfl
      | true =>
        obtain ⟨a, ha, -⟩ := isIx_ex (by omega) y
        omega
    rw [h]; rfl
  · obtain ⟨⟨a1, a2, a3⟩, b, c, d, e⟩ := m.2.2 (by omega)
    refine rd_i (m_ended (s 2) (s 1) a1 a3 g1 (by omega) g12) (rd_b (k8_in J n 0 _ V) ?_)
    rw [inB_top (by omega)]
    refine ⟨fun y => ⟨?_, rfl⟩, fun y => rd_b (k8_isSide J a V) ⟨fun x => ⟨?_, rfl⟩, fun x => ⟨?_, rfl⟩⟩⟩
    · rw [y]; rfl
    · rw [y, x]; rfl
    · rw [y, x]; rfl
theorem ended_0 (G : Gd s E) {n : Int32} (h : isIx n (s 2 - s 1) = true) : s 0 = 1 ∧ ∃ i, i < s 2 - s 1 ∧ n = nI i := by
  have g0 := G.1
  have g2 := G.2.2.1
  obtain ⟨i, hi, rfl⟩ := isIx_ex (by omega) h
  rcases (show s 0 = 0 ∨ s 0 = 1 by omega) with z | z
  · have := G.2.2.2.2.2.2.1 z; omega
  · exact ⟨z, i, hi, rfl⟩
theorem m_matAfter (m : rfM V s E) (G : Gd s E) (n a : Int32) : RO J mX8_matAfter [.ref 405, .int n, .int a] V (endK s n a) (nI (bits (runE E (n.toNatClampNeg + 1)) a.toNatClampNeg)) (fun V' => rfM V' s E) := by
  have g2 := G.2.2.1
  refine v_X8_matAfter n a (rd_b (m_hasEnded m G n a) ⟨fun z => ?_, fun z => ?_⟩)
  · have hk : endK s n a = 1 := by unfold endK; rw [if_pos z]
    unfold F_X8_matAfter_15
    exact m_holds2 1 (by omega) (fun y => absurd y (by decide)) (fun _ => by rw [hk]; exact ro_bad (frM_rf _) (by omega) (rfM_th m))
  · have hk : endK s n a = 0 := by unfold endK; rw [if_neg (by rw [z]; decide)]
    unfold F_X8_matAfter_15
    refine m_holds2 0 (by omega) (fun _ => ?_) (fun y => (y rfl).elim)
    rw [Bool.and_eq_true] at z
    obtain ⟨h0, i, hi, rfl⟩ := ended_0 G z.1
    obtain ⟨x, hx, rfl⟩ := isIx_ex (by omega) z.2
    obtain ⟨-, b, c, d, e⟩ := m.2.2 h0
    rw [i2, ccl (n := 2 * i + x) (by omega), ccl (n := i) (by omega), ccl (n := x) (by omega), hk]
    refine ⟨s120 (by omega), ro_at rfl (rfM_th m) ?_⟩
    rw [up2_off _ _ _ (by omega)]
    exact (d i hi x hx).1
theorem m_matAnew (m : rfM V s E) (G : Gd s E) (n a : Int32) : RO J mX8_matAnew [.ref 405, .int n, .int a] V (endK s n a) (nI (bits (runE E (n.toNatClampNeg + 1)) a.toNatClampNeg)) (fun V' => rfM V' s E) := by
  refine v_X8_matAnew n a (CTc_nx (m_matAfter m G n a) (fun r V' h => ?_))
  obtain ⟨⟨z, hz, h1⟩, h2⟩ := h
  exact ⟨z, hz, ⟨z, rfl, h1⟩, h2⟩
theorem m_pointsAfter (m : rfM V s E) (G : Gd s E) (n a : Int32) : RO J mX8_pointsAfter [.ref 405, .int n, .int a] V (endK s n a) (nI (runE E (n.toNatClampNeg + 1) (104 + a.toNatClampNeg))) (fun V' => rfM V' s E) := by
  have g2 := G.2.2.1
  refine v_X8_pointsAfter n a (rd_b (m_hasEnded m G n a) ⟨fun z => ?_, fun z => ?_⟩)
  · have hk : endK s n a = 1 := by unfold endK; rw [if_pos z]
    unfold F_X8_pointsAfter_15
    exact m_holds2 1 (by omega) (fun y => absurd y (by decide)) (fun _ => by rw [hk]; exact ro_bad (frM_rf _) (by omega) (rfM_th m))
  · have hk : endK s n a = 0 := by unfold endK; rw [if_neg (by rw [z]; decide)]
    unfold F_X8_pointsAfter_15
    refine m_holds2 0 (by omega) (fun _ => ?_) (fun y => (y rfl).elim)
    rw [Bool.and_eq_true] at z
    obtain ⟨h0, i, hi, rfl⟩ := ended_0 G z.1
    obtain ⟨x, hx, rfl⟩ := isIx_ex (by omega) z.2
    obtain ⟨-, b, c, d, e⟩ := m.2.2 h0
    rw [i2, ccl (n := 2 * i + x) (by omega), ccl (n := i) (by omega), ccl (n := x) (by omega), hk]
    refine ⟨s120 (by omega), ro_at rfl (rfM_th m) ?_⟩
    rw [up2_off _ _ _ (by omega)]
    exact (d i hi x hx).2
end Mdc
