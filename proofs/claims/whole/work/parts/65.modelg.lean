/-! the reference: entering a match -/
def frE (V V' : Mem) : Prop := (∀ x, x ≠ 405 → x ≠ 420 → V' x = V x) ∧ ∀ j, 8 ≤ j → V' 405 j = V 405 j
section Mdh
variable {J : Nat → Nat → Int64} {V : Mem} {s : Ms} {E : Evs} {g : Lg} {σ : Sg}
theorem noteG_up (g : Lg) (c own ag : Nat) : up1 (up1 (up1 (up1 (up1 (up1 g (6 * c) (g (6 * c) + 1)) (6 * c + 1) (g (6 * c + 1) + (if ag < own then 1 else 0))) (6 * c + 2) (g (6 * c + 2) + (if own = ag then 1 else 0))) (6 * c + 3) (g (6 * c + 3) + addF 3 own ag)) (6 * c + 4) (g (6 * c + 4) + own)) (6 * c + 5) (g (6 * c + 5) + ag) = noteG g c own ag := by
  funext k
  by_cases h : k / 6 = c
  · obtain ⟨j, hj, rfl⟩ : ∃ j, j < 6 ∧ k = 6 * c + j := ⟨k % 6, by omega, by omega⟩
    rw [noteG_s _ _ _ _ _ hj]
    rcases (show j = 0 ∨ j = 1 ∨ j = 2 ∨ j = 3 ∨ j = 4 ∨ j = 5 by omega) with rfl | rfl | rfl | rfl | rfl | rfl
    · rw [up1_off _ _ (by omega), up1_off _ _ (by omega), up1_off _ _ (by omega), up1_off _ _ (by omega), up1_off _ _ (by omega)]
      exact up1_at _ _ _
    · rw [up1_off _ _ (by omega), up1_off _ _ (by omega), up1_off _ _ (by omega), up1_off _ _ (by omega), up1_at]; rfl
    · rw [up1_off _ _ (by omega), up1_off _ _ (by omega), up1_off _ _ (by omega), up1_at]; rfl
    · rw [up1_off _ _ (by omega), up1_off _ _ (by omega), up1_at]
    · rw [up1_off _ _ (by omega), up1_at]; rfl
    · rw [up1_at]; rfl
  · rw [up1_off _ _ (by omega), up1_off _ _ (by omega), up1_off _ _ (by omega), up1_off _ _ (by omega), up1_off _ _ (by omega), up1_off _ _ (by omega)]
    unfold noteG
    rw [if_neg h]
theorem m_note {K : Int32 → Int32 → Mem → Prop} {x1 : Int32} {Qr : Option Value → Mem → Prop} {Qx : String → Mem → Prop} (q : rfL V g) (qs : sOK V σ) (c a : Nat) (hc : c < 8) (ha : a < 2) (hb : σ (104 + a) < 1000000) (hb2 : σ (104 + (1 - a)) < 1000000)
    (k : ∀ V', (∀ x, x ≠ 420 → V' x = V x) → rfL V' (noteG g c (σ (104 + a)) (σ (104 + (1 - a)))) → K x1 (nI (a + 1)) V') :
    F_X8_enter_85 J K x1 (nI a) (nI (6 * c)) (nI (σ (104 + a)) - nI (σ (104 + (1 - a)))) V Qr Qx := by
  rw [← noteG_up] at k
  have cl : ∀ j, j < 6 → (nI (6 * c + j)).toNatClampNeg = 6 * c + j := fun j h => ccl (by omega)
  have cl0 : (nI (6 * c)).toNatClampNeg = 6 * c := ccl (by omega)
  have ix : ∀ j, nI (6 * c) + nI j = nI (6 * c + j) := fun j => nI_add _ _
  generalize hown : σ (104 + a) = own at *
  generalize hag : σ (104 + (1 - a)) = ag at *
  unfold F_X8_enter_85
  rw [cl0, q (6 * c) (by omega), show (1 : Int32) = nI 1 from rfl, ix 1, nI_add, cl 1 (by omega), i_suble (by omega) (by omega)]
  have q1 : rfL (up2 V 420 (6 * c) (nI (g (6 * c) + 1))) (up1 g (6 * c) (g (6 * c) + 1)) := rfL_up q
  have f1 : ∀ x, x ≠ 420 → up2 V 420 (6 * c) (nI (g (6 * c) + 1)) x = V x := fun x hx => up2_off _ _ _ hx
  have h1 : up1 g (6 * c) (g (6 * c) + 1) (6 * c + 1) = g (6 * c + 1) := up1_off _ _ (by omega)
  have h2 : up1 g (6 * c) (g (6 * c) + 1) (6 * c + 2) = g (6 * c + 2) := up1_off _ _ (by omega)
  have h3 : up1 g (6 * c) (g (6 * c) + 1) (6 * c + 3) = g (6 * c + 3) := up1_off _ _ (by omega)
  have h4 : up1 g (6 * c) (g (6 * c) + 1) (6 * c + 4) = g (6 * c + 4) := up1_off _ _ (by omega)
  have h5 : up1 g (6 * c) (g (6 * c) + 1) (6 * c + 5) = g (6 * c + 5) := up1_off _ _ (by omega)
  generalize up1 g (6 * c) (g (6 * c) + 1) = g1 at *
  generalize up2 V 420 (6 * c) (nI (g (6 * c) + 1)) = V1 at *
  rw [q1 (6 * c + 1) (by omega), h1]
  have L116 : ∀ w, w = (if ag < own then 1 else 0) → F_X8_enter_116 J K x1 (nI a) (nI (6 * c)) (nI own - nI ag) (nI w) (nI (g (6 * c + 1))) (nI (6 * c + 1)) V1 Qr Qx := by
    intro w hw
    rw [← hw] at k
    unfold F_X8_enter_116
    rw [cl 1 (by omega), nI_add, show (2 : Int32) = nI 2 from rfl, ix 2, cl 2 (by omega), i_sub0 (by omega) (by omega)]
    have q2 : rfL (up2 V1 420 (6 * c + 1) (nI (g (6 * c + 1) + w))) (up1 g1 (6 * c + 1) (g (6 * c + 1) + w)) := rfL_up q1
    have f2 : ∀ x, x ≠ 420 → up2 V1 420 (6 * c + 1) (nI (g (6 * c + 1) + w)) x = V x := fun x hx => (up2_off _ _ _ hx).trans (f1 x hx)
    have e2 : up1 g1 (6 * c + 1) (g (6 * c + 1) + w) (6 * c + 2) = g (6 * c + 2) := by rw [up1_off _ _ (by omega)]; exact h2
    have e3 : up1 g1 (6 * c + 1) (g (6 * c + 1) + w) (6 * c + 3) = g (6 * c + 3) := by rw [up1_off _ _ (by omega)]; exact h3
    have e4 : up1 g1 (6 * c + 1) (g (6 * c + 1) + w) (6 * c + 4) = g (6 * c + 4) := by rw [up1_off _ _ (by omega)]; exact h4
    have e5 : up1 g1 (6 * c + 1) (g (6 * c + 1) + w) (6 * c + 5) = g (6 * c + 5) := by rw [up1_off _ _ (by omega)]; exact h5
    generalize up1 g1 (6 * c + 1) (g (6 * c + 1) + w) = g2 at *
    generalize up2 V1 420 (6 * c + 1) (nI (g (6 * c + 1) + w)) = V2 at *
    rw [q2 (6 * c + 2) (by omega), e2]
    have L137 : ∀ z, z = (if own = ag then 1 else 0) → F_X8_enter_137 J K x1 (nI a) (nI (6 * c)) (nI own - nI ag) (nI z) (nI (g (6 * c + 2))) (nI (6 * c + 2)) V2 Qr Qx := by
      intro z hz
      rw [← hz] at k
      unfold F_X8_enter_137
      rw [cl 2 (by omega), nI_add, show (3 : Int32) = nI 3 from rfl, ix 3, cl 3 (by omega), i_sub0 (by omega) (by omega), i_suble (by omega) (by omega), i_sub7 (by omega) (by omega)]
      have q3 : rfL (up2 V2 420 (6 * c + 2) (nI (g (6 * c + 2) + z))) (up1 g2 (6 * c + 2) (g (6 * c + 2) + z)) := rfL_up q2
      have f3 : ∀ x, x ≠ 420 → up2 V2 420 (6 * c + 2) (nI (g (6 * c + 2) + z)) x = V x := fun x hx => (up2_off _ _ _ hx).trans (f2 x hx)
      have d3 : up1 g2 (6 * c + 2) (g (6 * c + 2) + z) (6 * c + 3) = g (6 * c + 3) := by rw [up1_off _ _ (by omega)]; exact e3
      have d4 : up1 g2 (6 * c + 2) (g (6 * c + 2) + z) (6 * c + 4) = g (6 * c + 4) := by rw [up1_off _ _ (by omega)]; exact e4
      have d5 : up1 g2 (6 * c + 2) (g (6 * c + 2) + z) (6 * c + 5) = g (6 * c + 5) := by rw [up1_off _ _ (by omega)]; exact e5
      generalize up1 g2 (6 * c + 2) (g (6 * c + 2) + z) = g3 at *
      generalize up2 V2 420 (6 * c + 2) (nI (g (6 * c + 2) + z)) = V3 at *
      rw [q3 (6 * c + 3) (by omega), d3]
      have L178 : ∀ y, y = addF 3 own ag → F_X8_enter_178 J K x1 (nI a) (nI (6 * c)) (nI y) (nI (g (6 * c + 3))) (nI (6 * c + 3)) V3 Qr Qx := by
        intro y hy
        rw [← hy] at k
        unfold F_X8_enter_178
        rw [cl 3 (by omega), nI_add, show (4 : Int32) = nI 4 from rfl, show (5 : Int32) = nI 5 from rfl, ix 4, ix 5, cl 4 (by omega), cl 5 (by omega), i104, i105 _ ha, ccl (n := 104 + a) (by omega), ccl (n := 104 + (1 - a)) (by omega)]
        have q4 : rfL (up2 V3 420 (6 * c + 3) (nI (g (6 * c + 3) + y))) (up1 g3 (6 * c + 3) (g (6 * c + 3) + y)) := rfL_up q3
        have f4 : ∀ x, x ≠ 420 → up2 V3 420 (6 * c + 3) (nI (g (6 * c + 3) + y)) x = V x := fun x hx => (up2_off _ _ _ hx).trans (f3 x hx)
        have c4 : up1 g3 (6 * c + 3) (g (6 * c + 3) + y) (6 * c + 4) = g (6 * c + 4) := by rw [up1_off _ _ (by omega)]; exact d4
        have c5 : up1 g3 (6 * c + 3) (g (6 * c + 3) + y) (6 * c + 5) = g (6 * c + 5) := by rw [up1_off _ _ (by omega)]; exact d5
        generalize up1 g3 (6 * c + 3) (g (6 * c + 3) + y) = g4 at *
        generalize up2 V3 420 (6 * c + 3) (nI (g (6 * c + 3) + y)) = V4 at *
        rw [q4 (6 * c + 4) (by omega), c4, f4 416 (by omega), qs (104 + a) (by omega), hown, nI_add]
        have q5 : rfL (up2 V4 420 (6 * c + 4) (nI (g (6 * c + 4) + own))) (up1 g4 (6 * c + 4) (g (6 * c + 4) + own)) := rfL_up q4
        have f5 : ∀ x, x ≠ 420 → up2 V4 420 (6 * c + 4) (nI (g (6 * c + 4) + own)) x = V x := fun x hx => (up2_off _ _ _ hx).trans (f4 x hx)
        have b5 : up1 g4 (6 * c + 4) (g (6 * c + 4) + own) (6 * c + 5) = g (6 * c + 5) := by rw [up1_off _ _ (by omega)]; exact c5
        generalize up1 g4 (6 * c + 4) (g (6 * c + 4) + own) = g5 at *
        generalize up2 V4 420 (6 * c + 4) (nI (g (6 * c + 4) + own)) = V5 at *
        rw [q5 (6 * c + 5) (by omega), b5, f5 416 (by omega), qs (104 + (1 - a)) (by omega), hag, nI_add, nI_1]
        exact ⟨s48 (by omega), s48 (by omega), s110 (by omega), s48 (by omega), s48 (by omega), s110 (by omega), s48 (by omega), k _ (fun x hx => (up2_off _ _ _ hx).trans (f5 x hx)) (rfL_up q5)⟩
      refine ⟨s48 (by omega), s48 (by omega), fun y => ⟨fun x => ⟨fun v => L178 0 ?_, fun v => L178 1 ?_⟩, fun x => L178 3 ?_⟩, fun y => L178 5 ?_⟩
      · show 0 = if ag < own then 5 else if own = ag then 3 else if ag - own ≤ 7 then 1 else 0
        rw [if_neg (by omega), if_neg x, if_neg (by omega)]
      · show 1 = if ag < own then 5 else if own = ag then 3 else if ag - own ≤ 7 then 1 else 0
        rw [if_neg (by omega), if_neg x, if_pos (by omega)]
      · show 3 = if ag < own then 5 else if own = ag then 3 else if ag - own ≤ 7 then 1 else 0
        rw [if_neg (by omega), if_pos x]
      · show 5 = if ag < own then 5 else if own = ag then 3 else if ag - own ≤ 7 then 1 else 0
        rw [if_pos (by omega)]
    exact ⟨s48 (by omega), s48 (by omega), fun y => L137 0 (by rw [if_neg y]), fun y => L137 1 (by rw [if_pos y])⟩
  exact ⟨s48 (by omega), s48 (by omega), s48 (by omega), fun y => L116 0 (by rw [if_neg (by omega)]), fun y => L116 1 (by rw [if_pos (by omega)])⟩
theorem m_enter (m : rfM V s E) (G : Gd s E) (q : rfL V g) : CTc J mX8_enter [.ref 405] V (ROg frE V (entK s E) (entV s E) (fun V' => rfX V' (entN s E) ∧ rfL V' (entG s E g))) NX := by
  obtain ⟨w0, hb, hr, -⟩ := Gd_run G
  have g0 := G.1
  have g1 := G.2.1
  have bad : entK s E = 1 → F_X8_enter_34 J 1 V (ROg frE V (entK s E) (entV s E) (fun V' => rfX V' (entN s E) ∧ rfL V' (entG s E g))) NX := by
    intro hk
    unfold F_X8_enter_34
    refine m_holds 1 (by omega) (fun z => absurd z (by decide)) (fun _ => ?_)
    unfold entN entG
    rw [hk]
    exact ⟨⟨0, rfl, fun z => absurd z (by decide)⟩, ⟨fun x h1 h2 => up2_off _ _ _ h1, fun j hj => up2_ne _ _ (Or.inr (by omega))⟩, up2_same _ _ _ _, rfM_th m, rfL_off q (up2_off _ _ _ (by omega))⟩
  refine v_X8_enter ?_
  unfold F_X8_enter F_X8_enter_33
  rw [m.2.1, nI_0', ceq (by omega) (by omega)]
  refine ⟨fun z => bad (by unfold entK; rw [if_neg (by omega)]), fun z => ?_⟩
  have h0 : s 0 = 1 := by omega
  obtain ⟨h8, h4, hne, h30, h24⟩ := G.2.2.2.2.2.2.2.1 h0
  have hb8 := hb 108 (by omega)
  have b4 := hb 104 (by omega)
  have b5 := hb 105 (by omega)
  obtain ⟨⟨a1, a2, a3⟩, b, c, d, e⟩ := m.2.2 h0
  rw [a1, a2, e 108 (by omega), ceq (by omega) (by omega), clt (by omega) (by omega)]
  refine ⟨fun y => bad (by unfold entK; rw [if_neg (by omega)]), fun y => ⟨fun x => bad (by unfold entK; rw [if_neg (by omega)]), fun x => ?_⟩⟩
  have hk : entK s E = 0 := by unfold entK; rw [if_pos (by omega)]
  have hN : entN s E = (closeS s, E) := by unfold entN; rw [if_pos hk]
  have hG : entG s E g = noteG (noteG g (s 3) (nowF s E 104) (nowF s E 105)) (s 4) (nowF s E 105) (nowF s E 104) := by unfold entG; rw [if_pos hk]
  rw [hN, hG, hk]
  unfold entV
  unfold F_X8_enter_34
  refine m_holds 0 (by omega) (fun _ => ?_) (fun z => (z rfl).elim)
  have f0 : ∀ x, x ≠ 405 → up2 V 405 0 (nI 0) x = V x := fun x hx => up2_off _ _ _ hx
  have o5 : up2 V 405 0 (nI 0) 405 = up1 (V 405) 0 (nI 0) := up2_at _ _ _ _
  generalize up2 V 405 0 (nI 0) = W at f0 o5 ⊢
  have eW : sOK W (nowF s E) := sOK_off e (f0 416 (by omega))
  have qW : rfL W g := rfL_off q (f0 420 (by omega))
  rw [eW 104 (by omega), eW 105 (by omega)]
  unfold F_X8_enter_60
  refine ⟨fun n x1 x2 V' => ∃ k, k ≤ 2 ∧ n = 2 - k ∧ x2 = nI k ∧ x1 = nI (nowF s E 104) - nI (nowF s E 105) ∧ (∀ x, x ≠ 420 → V' x = W x) ∧ rfL V' (if k = 0 then g else if k = 1 then noteG g (s 3) (nowF s E 104) (nowF s E 105) else noteG (noteG g (s 3) (nowF s E 104) (nowF s E 105)) (s 4) (nowF s E 105) (nowF s E 104)), ⟨2, 0, by omega, rfl, rfl, rfl, fun _ _ => rfl, qW⟩, ?_⟩
  rintro n x1 x2 V' ⟨k, hk2, hn, rfl, rfl, fk, qk⟩
  unfold B_X8_enter_60
  have e6 : V' 406 = V 406 := (fk 406 (by omega)).trans (f0 406 (by omega))
  have eV : sOK V' (nowF s E) := sOK_off eW (fk 416 (by omega))
  have oV : V' 405 = up1 (V 405) 0 (nI 0) := (fk 405 (by omega)).trans o5
  refine ⟨fun y2 => ?_, fun y2 => ?_⟩
  · have hk3 := lpE (n := 2) (by omega) hk2 y2
    subst hk3
    rw [if_neg (by omega), if_neg (by omega)] at qk
    have fin : ∀ z, z = noteV (s 3) (nowF s E 104) (s 4) (nowF s E 105) → ROg frE V 0 (noteV (s 3) (nowF s E 104) (s 4) (nowF s E 105)) (fun V' => rfX V' (closeS s, E) ∧ rfL V' (noteG (noteG g (s 3) (nowF s E 104) (nowF s E 105)) (s 4) (nowF s E 105) (nowF s E 104))) (some (.int z)) (up2 V' 405 2 0) := by
      intro z hz
      refine ⟨⟨z, rfl, fun _ => hz⟩, ⟨fun x h1 h2 => (up2_off _ _ _ h1).trans ((fk x h2).trans (f0 x h1)), fun j hj => ?_⟩, ?_, ?_, rfL_off qk (up2_off _ _ _ (by omega))⟩
      · rw [up2_ne _ _ (Or.inr (by omega)), oV, up1_off _ _ (by omega)]
      · rw [up2_ne _ _ (Or.inr (by omega)), oV, up1_at]
      · show rfM (up2 V' 405 2 0) (closeS s) E
        have c0 : closeS s 0 = 0 := by unfold closeS; rw [up1_off _ _ (by omega), up1_at]
        have c6 : closeS s 6 = s 6 := by unfold closeS; rw [up1_off _ _ (by omega), up1_off _ _ (by omega)]
        refine ⟨?_, ?_, fun h => ?_⟩
        · rw [up2_ne _ _ (Or.inr (by omega)), oV, up1_off _ _ (by omega), c6]; exact m.1
        · rw [up2_same, c0]; rfl
        · rw [c0] at h; omega
    rw [show up2 V' 405 2 0 406 = V 406 from (up2_off _ _ _ (by omega)).trans e6, b.1, b.2.1, i_suble (by omega) (by omega), i_subge (by omega) (by omega)]
    unfold noteV at fin ⊢
    refine ⟨fun z1 => ⟨fun z2 => fin _ ?_, fun z2 => fin _ ?_⟩, fun z1 => fin _ ?_⟩
    · rw [if_pos (by omega)]
    · rw [if_neg (by omega), if_neg (by omega)]
    · rw [if_neg (by omega), if_pos (by omega)]
  · have hkl := lpL (n := 2) (by omega) hk2 y2
    rcases (show k = 0 ∨ k = 1 by omega) with rfl | rfl
    · rw [if_pos rfl] at qk
      refine ⟨vp_in_nI hkl (by decide), fun z => absurd rfl z, fun _ => ?_⟩
      rw [e6, ccl (n := 0) (by omega), b.1, show 6 * nI (s 3) = nI (6 * s 3) from nI_mul 6 _]
      refine m_note qk eV (s 3) 0 h8 (by omega) (show nowF s E 104 < 1000000 by omega) (show nowF s E 105 < 1000000 by omega) (fun V2 f2 q2 => ⟨1, by omega, 1, by omega, rfl, rfl, rfl, fun x hx => (f2 x hx).trans (fk x hx), q2⟩)
    · rw [if_neg (by omega), if_pos rfl] at qk
      refine ⟨vp_in_nI hkl (by decide), fun _ => ?_, fun z => absurd z (by decide)⟩
      rw [e6, ccl (n := 1) (by omega), b.2.1, show 6 * nI (s 4) = nI (6 * s 4) from nI_mul 6 _, Int32.neg_sub]
      refine m_note qk eV (s 4) 1 h4 (by omega) (show nowF s E 105 < 1000000 by omega) (show nowF s E 104 < 1000000 by omega) (fun V2 f2 q2 => ⟨0, by omega, 2, by omega, rfl, rfl, rfl, fun x hx => (f2 x hx).trans (fk x hx), q2⟩)
end Mdh
