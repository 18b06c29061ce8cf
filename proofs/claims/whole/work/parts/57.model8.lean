/-! the reference: a step -/
section Md9
variable {J : Nat → Nat → Int64} {V : Mem} {s : Ms} {E : Evs}
theorem m_isWho (k w : Int32) : RD J mX8_isWho [.int k, .int w] V (bI (if k = 0 then isIx w 10 else decide (w = -1))) := by
  refine v_X8_isWho k w ?_
  unfold F_X8_isWho
  refine ⟨fun c => ⟨fun d => ⟨?_, rfl⟩, fun d => ⟨?_, rfl⟩⟩, fun c => rd_b (k8_isPlayer J w V) ⟨?_, rfl⟩⟩
  · rw [if_neg c, decide_eq_false d]; rfl
  · rw [if_neg c, decide_eq_true d]; rfl
  · rw [if_pos c]
def teP (V : Mem) (s : Ms) (E : Evs) (x w t : Nat) : Prop := V 413 (14 * (s 2 - 1) + E (s 2 - 1) 4) = nI x ∧ V 414 (14 * (s 2 - 1) + E (s 2 - 1) 4) = wI w ∧ V 415 (14 * (s 2 - 1) + E (s 2 - 1) 4) = nI t
theorem evO_at (G : Gd s E) (h1 : s 1 = 1) : 1 ≤ s 2 ∧ evO (nowF s E) (E (s 2 - 1)) ∧ E (s 2 - 1) 4 ≤ 9 := by
  have h12 := G.2.2.2.1
  have hO := G.2.2.2.2.2.2.2.2.2.2 h1
  have e : nowF s E = runE E (s 2 - 1) := by unfold nowF; rw [h1]
  rw [← e] at hO
  exact ⟨by omega, hO, evO_n (Gd_run G).1 hO⟩
theorem m_canTell (m : rfM V s E) (G : Gd s E) (x w t : Nat) (hx : x ≤ 6) (hw : w ≤ 10) (hxw : x = 0 ↔ 1 ≤ w) (ht1 : 1 ≤ t) (ht : t ≤ 300) :
    CTc J mX8_canTell [.ref 405, .int (nI x), .int (wI w), .int (nI t)] V (fun r V' => r = some (.int (bI (tellB s E x w t))) ∧ frM V V' ∧ V' 405 = V 405 ∧ (∀ y, y ≠ 413 → y ≠ 414 → y ≠ 415 → V' y = V y) ∧ rfM V' s E ∧ (s 1 = 1 → teP V' s E x w t)) NX := by
  have g0 := G.1
  have g1 := G.2.1
  have g2 := G.2.2.1
  obtain ⟨w0, hb, hr, -⟩ := Gd_run G
  refine v_X8_canTell _ _ _ ?_
  unfold F_X8_canTell
  have hB : ¬ (s 0 = 1 ∧ s 1 = 1) → tellB s E x w t = false := fun h => by unfold tellB; rw [decide_eq_false h]; rfl
  rw [m.2.1, nI_0', ceq (by omega) (by omega)]
  refine ⟨fun z => ?_, fun z => ?_⟩
  · rw [hB (by omega)]
    have s2 := G.2.2.2.2.2.2.1 z
    have s12 := G.2.2.2.1
    exact ⟨rfl, frM_rf _, rfl, fun _ _ _ _ => rfl, m, fun y => by omega⟩
  have h0 : s 0 = 1 := by omega
  obtain ⟨⟨a1, a2, a3⟩, b, c, d, e⟩ := m.2.2 h0
  rw [a1, ceq (by omega) (by omega)]
  refine ⟨fun y => ?_, fun y => ?_⟩
  · have h1 : s 1 = 1 := by omega
    obtain ⟨h2, hO, h9⟩ := evO_at G h1
    obtain ⟨o0, o1, o2, o3, oW, oK, oR, oS⟩ := hO
    have evi := c (s 2 - 1) (by omega)
    have hBB : tellB s E x w t = (decide (lastT (E (s 2 - 1)) < t) && canB (nowF s E) (E (s 2 - 1)) (E (s 2 - 1) 4) x w t) := by
      unfold tellB; rw [decide_eq_true ⟨h0, h1⟩, Bool.true_and]
    rw [hBB]
    rw [a3, nI_p1 h2, ccl (n := s 2 - 1) (by omega), evi.2.2.2.1]
    unfold teP
    generalize hi : s 2 - 1 = i at *
    generalize he : E i = ev at *
    rw [i14, ccl (n := 14 * i + ev 4) (by omega)]
    have ot : ∀ y, y ≠ 413 → y ≠ 414 → y ≠ 415 → up2 (up2 (up2 V 413 (14 * i + ev 4) (nI x)) 414 (14 * i + ev 4) (wI w)) 415 (14 * i + ev 4) (nI t) y = V y := fun y h1 h2 h3 => by rw [up2_off _ _ _ h3, up2_off _ _ _ h2, up2_off _ _ _ h1]
    have r3 : up2 (up2 (up2 V 413 (14 * i + ev 4) (nI x)) 414 (14 * i + ev 4) (wI w)) 415 (14 * i + ev 4) (nI t) 413 = up1 (V 413) (14 * i + ev 4) (nI x) := by rw [up2_off _ _ _ (by omega), up2_off _ _ _ (by omega), up2_at]
    have r4 : up2 (up2 (up2 V 413 (14 * i + ev 4) (nI x)) 414 (14 * i + ev 4) (wI w)) 415 (14 * i + ev 4) (nI t) 414 = up1 (V 414) (14 * i + ev 4) (wI w) := by rw [up2_off _ _ _ (by omega), up2_at, up2_off _ _ _ (by omega)]
    have r5 : up2 (up2 (up2 V 413 (14 * i + ev 4) (nI x)) 414 (14 * i + ev 4) (wI w)) 415 (14 * i + ev 4) (nI t) 415 = up1 (V 415) (14 * i + ev 4) (nI t) := by rw [up2_at, up2_off _ _ _ (by omega), up2_off _ _ _ (by omega)]
    have fr : frM V (up2 (up2 (up2 V 413 (14 * i + ev 4) (nI x)) 414 (14 * i + ev 4) (wI w)) 415 (14 * i + ev 4) (nI t)) := frM_up (frM_up (frM_up (frM_rf _) (by omega)) (by omega)) (by omega)
    generalize up2 (up2 (up2 V 413 (14 * i + ev 4) (nI x)) 414 (14 * i + ev 4) (wI w)) 415 (14 * i + ev 4) (nI t) = V1 at ot r3 r4 r5 fr ⊢
    have ro : ∀ (k : Nat) (f : Ev), k ≤ i → (k = i → f = ev) → mdE V k f → mdE V1 k f ∨ 10 < f 4 := by
      intro k f hk hf q
      by_cases h10 : 10 < f 4
      · exact Or.inr h10
      · refine Or.inl (mdE_keep q (fun y h1 h2 => by rw [ot y (by omega) (by omega) (by omega)]) (fun y h1 h2 j hj => ?_))
        have hne : 14 * k + j ≠ 14 * i + ev 4 := by
          by_cases hki : k = i
          · rw [hf hki] at hj; omega
          · omega
        rcases (show y = 413 ∨ y = 414 ∨ y = 415 by omega) with z | z | z <;> subst z
        · rw [r3, up1_off _ _ hne]
        · rw [r4, up1_off _ _ hne]
        · rw [r5, up1_off _ _ hne]
    have evs : ∀ k, k < s 2 → mdE V1 k (E k) := by
      intro k hk
      have hW := Gd_W G hk
      rcases ro k (E k) (by omega) (fun z => by rw [z, he]) (c k hk) with q | q
      · exact q
      · have := hW.1; omega
    have m1 : rfM V1 s E := by
      have g5 := ot 405 (by omega) (by omega) (by omega)
      refine ⟨by rw [g5]; exact m.1, by rw [g5]; exact m.2.1, fun _ => ⟨by rw [g5]; exact ⟨a1, a2, by assumption⟩, by rw [ot 406 (by omega) (by omega) (by omega), ot 407 (by omega) (by omega) (by omega)]; exact b, evs, mdN_off d (fun y hy => ot y (by omega) (by omega) (by omega)), sOK_off e (ot 416 (by omega) (by omega) (by omega))⟩⟩
    have e1 : sOK V1 (nowF s E) := sOK_off e (ot 416 (by omega) (by omega) (by omega))
    have evi1 : mdE V1 i ev := by have := evs i (by omega); rwa [he] at this
    have te : V1 413 (14 * i + ev 4) = nI x ∧ V1 414 (14 * i + ev 4) = wI w ∧ V1 415 (14 * i + ev 4) = nI t := ⟨by rw [r3, up1_at], by rw [r4, up1_at], by rw [r5, up1_at]⟩
    have L86 : decide (lastT ev < t) = true → F_X8_canTell_86 J (nI x) (wI w) (nI t) (nI i) V1 (fun r V' => r = some (.int (bI (decide (lastT ev < t) && canB (nowF s E) ev (ev 4) x w t))) ∧ frM V V' ∧ V' 405 = V 405 ∧ (∀ y, y ≠ 413 → y ≠ 414 → y ≠ 415 → V' y = V y) ∧ rfM V' s E ∧ (s 1 = 1 → V' 413 (14 * i + ev 4) = nI x ∧ V' 414 (14 * i + ev 4) = wI w ∧ V' 415 (14 * i + ev 4) = nI t)) NX := by
      intro hl
      unfold F_X8_canTell_86
      rw [ccl (n := i) (by omega), evi1.2.2.2.1, hl, Bool.true_and]
      refine ⟨s60 (by omega), rd_b (m_canStep (e := ev) e1 w0 hr (by omega) (ev 4) x w t (by omega) (fun k hk => ?_) te.1 te.2.1 te.2.2 hx hw hxw (fun h3 k hk => by have := oK k hk; omega) (by omega)) ⟨fun z => ?_, fun z => ?_⟩⟩
      · obtain ⟨u1, u2, u3, u4⟩ := oW.2 k hk
        have rk := evi1.2.2.2.2 k hk
        exact ⟨rk.1, rk.2.1, u1, u2, u3⟩
      · rw [z]; exact ⟨rfl, fr, ot 405 (by omega) (by omega) (by omega), ot, m1, fun _ => te⟩
      · rw [z]; exact ⟨rfl, fr, ot 405 (by omega) (by omega) (by omega), ot, m1, fun _ => te⟩
    have ez : (nI (ev 4) = nI 0) ↔ ev 4 = 0 := ceq (by omega) (by omega)
    rw [evi1.2.2.2.1, ez]
    refine ⟨s60 (by omega), s840 (by omega), s840 (by omega), s840 (by omega), s60 (by omega), fun z4 => L86 ?_, fun z4 => ?_⟩
    · unfold lastT; rw [if_pos z4]; exact decide_eq_true (by omega)
    · rw [nI_p1 (by omega), ccl (n := 14 * i + ev 4 - 1) (by omega), show 14 * i + ev 4 - 1 = 14 * i + (ev 4 - 1) by omega, (evi1.2.2.2.2 (ev 4 - 1) (by omega)).2.2]
      have hl : lastT ev = ev (50 + (ev 4 - 1)) := by unfold lastT; rw [if_neg z4]
      have h3 := (oW.2 (ev 4 - 1) (by omega)).2.2.2
      rw [cle (by omega) (by omega), ← hl]
      refine ⟨s840 (by omega), fun z => ?_, fun z => L86 (decide_eq_true (by omega))⟩
      rw [decide_eq_false (by omega)]
      exact ⟨rfl, fr, ot 405 (by omega) (by omega) (by omega), ot, m1, fun _ => te⟩
  · rw [hB (by omega)]
    exact ⟨rfl, frM_rf _, rfl, fun _ _ _ _ => rfl, m, fun z => by omega⟩
end Md9
