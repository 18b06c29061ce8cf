/-! the reference: a raid ends, what can stand, a card -/
def endTo (τ : Sg) (t k : Nat) : Sg := fun j => if j < k ∧ τ j = 3 ∧ τ (20 + j) ≤ t then 0 else τ j
theorem endTo_s {τ : Sg} {t k : Nat} : endTo τ t (k + 1) = up1 (endTo τ t k) k (if τ k = 3 ∧ τ (20 + k) ≤ t then 0 else τ k) := by
  funext j
  by_cases h : j = k
  · subst h
    rw [up1_at]
    unfold endTo
    by_cases h2 : τ j = 3 ∧ τ (20 + j) ≤ t
    · rw [if_pos ⟨by omega, h2⟩, if_pos h2]
    · rw [if_neg (fun z => h2 z.2), if_neg h2]
  · rw [up1_off _ _ h]
    unfold endTo
    by_cases h2 : j < k
    · have : (j < k + 1 ∧ τ j = 3 ∧ τ (20 + j) ≤ t) ↔ (j < k ∧ τ j = 3 ∧ τ (20 + j) ≤ t) := by omega
      simp only [this]
    · rw [if_neg (by omega), if_neg (by omega)]
theorem endTo_20 {τ : Sg} {t : Nat} : endTo τ t 20 = suspTo (suspTo τ 0 t 10) 1 t 10 := by
  funext j
  by_cases h : j < 10
  · rw [susp_o (σ := suspTo τ 0 t 10) (by omega)]
    unfold endTo suspTo
    have : (j < 20 ∧ τ j = 3 ∧ τ (20 + j) ≤ t) ↔ ((10 * 0 ≤ j ∧ j < 10 * 0 + 10) ∧ τ j = 3 ∧ τ (20 + j) ≤ t) := by omega
    simp only [this]
  · have e1 : suspTo τ 0 t 10 j = τ j := susp_o (by omega)
    have e2 : suspTo τ 0 t 10 (20 + j) = τ (20 + j) := susp_o (by omega)
    unfold endTo
    rw [show suspTo (suspTo τ 0 t 10) 1 t 10 j = if (10 * 1 ≤ j ∧ j < 10 * 1 + 10) ∧ suspTo τ 0 t 10 j = 3 ∧ suspTo τ 0 t 10 (20 + j) ≤ t then 0 else suspTo τ 0 t 10 j from rfl, e1, e2]
    have : (j < 20 ∧ τ j = 3 ∧ τ (20 + j) ≤ t) ↔ ((10 * 1 ≤ j ∧ j < 10 * 1 + 10) ∧ τ j = 3 ∧ τ (20 + j) ≤ t) := by omega
    simp only [this]
theorem endTo_0 {τ : Sg} {t : Nat} : endTo τ t 0 = τ := by
  funext j
  unfold endTo
  rw [if_neg (by omega)]
theorem nI_p1 {k : Nat} (h : 1 ≤ k) : nI k - 1 = nI (k - 1) := by
  obtain ⟨z, rfl⟩ : ∃ z, k = z + 1 := ⟨k - 1, by omega⟩
  exact nI_pred z
theorem bdd_home {σ : Sg} {B b : Nat} {e : Ev} (q : bdd σ B) (hB : 100 ≤ B) (w : wfM σ) (hw : evW e) (hr : e 2 < 10) (h0 : σ (10 * turnF σ + e 2) = 0) (hs : ∀ k, k < e 4 → canSt σ e k) (hb : b ≤ 1) : bdd (homeF σ e (turnF σ) b) (B + 100) := by
  have ht := turnF_lt σ
  have g := evW_go hw hs
  have h1 := steps_le e 0
  have h2 := hw.1
  unfold homeF
  split
  · refine bdd_mono (bdd_lose (bdd_up q (by omega)) hB (wfM_emp w ht (by omega)) ht hr ?_) (by omega)
    rw [up1_off _ _ (by omega)]
    exact h0
  · split
    · have := q (106 + turnF σ) (by omega)
      exact bdd_up (bdd_mono q (by omega)) (by omega)
    · have w1 := wfM_score (g := steps e 0 + b) (wfM_emp w ht (v := 0) (by omega)) ht hr
      have g1 : toGo (sgScore (up1 σ (106 + turnF σ) 0) (turnF σ) (e 2) (steps e 0 + b)) (1 - turnF σ) e := toGo_cg g (fun i hi => by rw [sgScore_o (by omega) (by omega), up1_off _ _ (by omega)])
      have q1 := bdd_score (g := steps e 0 + b) (bdd_up (k := 106 + turnF σ) (v := 0) q (by omega)) ht hr
      exact bdd_mono (bdd_come (bdd_touch q1 (by omega) w1 (by omega) g1 (e 4) (Nat.le_refl _)) ht (wfM_at (touchTo_ok w1 (by omega) g1 (e 4) (Nat.le_refl _)).1 ht) _) (by omega)
section Md3
variable {J : Nat → Nat → Int64} {V : Mem} {σ : Sg} {n : Nat} {e : Ev}
theorem m_ends (q : sOK V σ) (b : bdd σ 1000000) (p1 : Int32) : F_X8_endsRaid_195 J p1 0 V (fun r V' => r = none ∧ offF V V' 416 1 ∧ sOK V' (suspTo (suspTo σ 0 (σ 108) 10) 1 (σ 108) 10)) NX := by
  unfold F_X8_endsRaid_195
  refine ⟨fun m x6 V' => ∃ k, k ≤ 20 ∧ m = 20 - k ∧ x6 = nI k ∧ offF V V' 416 1 ∧ sOK V' (endTo σ (σ 108) k), ⟨20, 0, by omega, rfl, rfl, offF_rf _ _ _, by rw [endTo_0]; exact q⟩, ?_⟩
  rintro m x6 V' ⟨k, hk, hm, rfl, hf, qk⟩
  unfold B_X8_endsRaid_195 F_X8_endsRaid_243
  refine ⟨fun c => ?_, fun c => ?_⟩
  · have h2 := lpE (n := 20) (by omega) hk c
    subst h2
    rw [endTo_20] at qk
    exact ⟨rfl, hf, qk⟩
  · have h1 := lpL (n := 20) (by omega) hk c
    have g : ∀ j, k ≤ j → j < 110 → V' 416 j = nI (σ j) := by
      intro j hj hj2
      rw [qk j hj2]
      unfold endTo
      rw [if_neg (by omega)]
    have bk := b k (by omega)
    have bu := b (20 + k) (by omega)
    have bc := b 108 (by omega)
    have step : ∀ w, w = (if σ k = 3 ∧ σ (20 + k) ≤ σ 108 then 0 else σ k) → F_X8_endsRaid_250 J p1 (fun x6 V' => ∃ n', n' < m ∧ ∃ k, k ≤ 20 ∧ n' = 20 - k ∧ x6 = nI k ∧ offF V V' 416 1 ∧ sOK V' (endTo σ (σ 108) k)) (nI k) (nI w) (nI k) V' (fun r V' => r = none ∧ offF V V' 416 1 ∧ sOK V' (suspTo (suspTo σ 0 (σ 108) 10) 1 (σ 108) 10)) NX := by
      intro w hw
      unfold F_X8_endsRaid_250
      refine ⟨s110 (by omega), 20 - (k + 1), by omega, k + 1, by omega, rfl, nI_1 k, offF_up hf (by omega), ?_⟩
      rw [ccl (n := k) (by omega), endTo_s, ← hw]
      exact sOK_up qk
    rw [ccl (n := k) (by omega), i20, ccl (n := 20 + k) (by omega), g k (by omega) (by omega), g 108 (by omega) (by omega), g (20 + k) (by omega) (by omega), show (3 : Int32) = nI 3 from rfl, ceq (by omega) (by omega), clt (by omega) (by omega)]
    refine ⟨s110 (by omega), fun c3 => ⟨s110 (by omega), step _ (by rw [if_neg (by omega)])⟩, fun c3 => ⟨s110 (by omega), fun c4 => ⟨s110 (by omega), step _ (by rw [if_neg (by omega)])⟩, fun c4 => step 0 (by rw [if_pos (by omega)])⟩⟩
theorem m_endsRaid (q : sOK V σ) (w : wfM σ) (b : bdd σ 200000) (hr : σ 109 < 100) (ev : mdE V n e) (hn : n < 60) (hw : evW e) (h00 : e 0 = 0) (h1 : 1 ≤ e 4) (hp : e 2 < 10) (h0 : σ (10 * turnF σ + e 2) = 0) (hs : ∀ k, k < e 4 → canSt σ e k) : WR J mX8_endsRaid [.ref 405, .int (nI n)] V 416 1 (fun V' => sOK V' (raidF σ e)) := by
  have ht := turnF_lt σ
  have hbt : 1 - turnF σ < 2 := by omega
  have h10 := hw.1
  have s1 := steps_le e 1
  have hb1 := bonusF_le σ e
  have v9 : V 409 n = nI (e 2) := by have := ev.2.1; rw [if_pos h00] at this; exact this
  have hL : 14 * nI n + V 412 n - 1 = nI (14 * n + (e 4 - 1)) := by
    rw [ev.2.2.2.1, i14, nI_p1 (by omega), show 14 * n + e 4 - 1 = 14 * n + (e 4 - 1) by omega]
  have eL := ev.2.2.2.2 (e 4 - 1) (by omega)
  have hkL := (hw.2 (e 4 - 1) (by omega)).1
  have hlt : lastT e = e (50 + (e 4 - 1)) := by unfold lastT; rw [if_neg (by omega)]
  have hlt3 := lastT_le hw
  have cn := cnt_le σ (1 - turnF σ) 0 3
  have wa := wfM_at w hbt
  -- behind the raid's own end
  have L154 : ∀ V1 τ, sOK V1 τ → offF V V1 416 1 → wfM τ → bdd τ 300000 → raidF σ e = timeF (lookF (lookF τ 0) 1) (lastT e) → F_X8_endsRaid_154 J (nI n) (nI (14 * n + (e 4 - 1))) V1 (fun r V' => r = none ∧ offF V V' 416 1 ∧ sOK V' (raidF σ e)) NX := by
    intro V1 τ q1 f1 w1 b1 he
    have w2 := wfM_look w1 (a := 0) (by omega)
    have b3 := bdd_look (bdd_look b1 w1 (a := 0) (by omega)) w2 (a := 1) (by omega)
    unfold F_X8_endsRaid_154
    refine wr_use (m_looksAtMat q1 w1 0 (by omega)) (fun V2 f2 q2 => wr_use (m_looksAtMat q2 w2 1 (by omega)) (fun V3 f3 q3 => ⟨s840 (by omega), ?_⟩))
    have f4 := offF_tr (offF_tr f1 f2) f3
    rw [ccl (n := 14 * n + (e 4 - 1)) (by omega), q3 108 (by omega), f4 415 (by omega), eL.2.2, ← hlt, nI_add]
    rw [he]
    unfold timeF
    generalize lookF (lookF τ 0) 1 = υ at q3 b3 ⊢
    have q4 : sOK (up2 V3 416 108 (nI (υ 108 + lastT e))) (sgAdd υ 108 (lastT e)) := sOK_up q3
    have q5 : sOK (up2 (up2 V3 416 108 (nI (υ 108 + lastT e))) 416 109 (up2 V3 416 108 (nI (υ 108 + lastT e)) 416 109 + 1)) (sgAdd (sgAdd υ 108 (lastT e)) 109 1) := by
      rw [q4 109 (by omega), nI_1]
      exact sOK_up q4
    have b4 : bdd (sgAdd (sgAdd υ 108 (lastT e)) 109 1) 1000000 := bdd_add (bdd_add (C := 400000) b3 (by omega) (by omega)) (by omega) (by omega)
    have e8 : sgAdd (sgAdd υ 108 (lastT e)) 109 1 108 = υ 108 + lastT e := by
      unfold sgAdd
      rw [up1_off _ _ (by omega), up1_at]
    have key := m_ends (J := J) q5 b4 (nI n)
    rw [e8] at key
    unfold F_X8_endsRaid_195 at key ⊢
    obtain ⟨I, hi, hst⟩ := key
    refine ⟨fun m x V' => I m x V' , hi, fun m x V' hI => ?_⟩
    have := hst m x V' hI
    unfold B_X8_endsRaid_195 at this ⊢
    refine ⟨fun c => ?_, this.2⟩
    obtain ⟨a1, a2, a3⟩ := this.1 c
    exact ⟨a1, offF_tr (offF_up (offF_up f4 (by omega)) (by omega)) a2, a3⟩
  -- the raid
  have L35 : F_X8_endsRaid_35 J (nI n) (nI (turnF σ)) (nI (cnt σ (1 - turnF σ) 0 3)) (nI (bonusF σ e)) V (fun r V' => r = none ∧ offF V V' 416 1 ∧ sOK V' (raidF σ e)) NX := by
    unfold F_X8_endsRaid_35 F_X8_endsRaid_150
    rw [ccl (n := n) (by omega), hL, ccl (n := 14 * n + (e 4 - 1)) (by omega), i106, i104, ccl (n := 106 + turnF σ) (by omega), ccl (n := 104 + turnF σ) (by omega), eL.1, show (3 : Int32) = nI 3 from rfl, ceq (by omega) (by omega), clt (by omega) (by omega)]
    refine ⟨s60 hn, s840 (by omega), fun c3 => ⟨s110 (by omega), s110 (by omega), s110 (by omega), s60 hn, ?_⟩, fun c3 => ?_⟩
    · have q1 : sOK (up2 V 416 (106 + turnF σ) 0) (up1 σ (106 + turnF σ) 0) := sOK_up (v := 0) q
      rw [q1 (104 + turnF σ) (by omega), nI_add]
      have q2 : sOK (up2 (up2 V 416 (106 + turnF σ) 0) 416 (104 + turnF σ) (nI (up1 σ (106 + turnF σ) 0 (104 + turnF σ) + bonusF σ e))) (sgAdd (up1 σ (106 + turnF σ) 0) (104 + turnF σ) (bonusF σ e)) := sOK_up q1
      have o1 : ∀ x, x ≠ 416 → up2 (up2 V 416 (106 + turnF σ) 0) 416 (104 + turnF σ) (nI (up1 σ (106 + turnF σ) 0 (104 + turnF σ) + bonusF σ e)) x = V x := fun x hx => by rw [up2_off _ _ _ hx, up2_off _ _ _ hx]
      generalize up2 (up2 V 416 (106 + turnF σ) 0) 416 (104 + turnF σ) (nI (up1 σ (106 + turnF σ) 0 (104 + turnF σ) + bonusF σ e)) = V2 at q2 o1 ⊢
      rw [o1 409 (by omega), v9, i60, ccl (n := 60 + 10 * turnF σ + e 2) (by omega), q2 (60 + 10 * turnF σ + e 2) (by omega), nI_add]
      have q3 : sOK (up2 V2 416 (60 + 10 * turnF σ + e 2) (nI (sgAdd (up1 σ (106 + turnF σ) 0) (104 + turnF σ) (bonusF σ e) (60 + 10 * turnF σ + e 2) + bonusF σ e))) (sgScore (up1 σ (106 + turnF σ) 0) (turnF σ) (e 2) (bonusF σ e)) := sOK_up q2
      have o2 : ∀ x, x ≠ 416 → up2 V2 416 (60 + 10 * turnF σ + e 2) (nI (sgAdd (up1 σ (106 + turnF σ) 0) (104 + turnF σ) (bonusF σ e) (60 + 10 * turnF σ + e 2) + bonusF σ e)) x = V x := fun x hx => by rw [up2_off _ _ _ hx, o1 x hx]
      generalize up2 V2 416 (60 + 10 * turnF σ + e 2) (nI (sgAdd (up1 σ (106 + turnF σ) 0) (104 + turnF σ) (bonusF σ e) (60 + 10 * turnF σ + e 2) + bonusF σ e)) = V3 at q3 o2 ⊢
      have f3 : offF V V3 416 1 := fun x hx => o2 x (by omega)
      have w3 := wfM_score (g := bonusF σ e) (wfM_emp w ht (v := 0) (by omega)) ht hp
      have b3 := bdd_score (g := bonusF σ e) (bdd_up (k := 106 + turnF σ) (v := 0) b (by omega)) ht hp
      have z3 : sgScore (up1 σ (106 + turnF σ) 0) (turnF σ) (e 2) (bonusF σ e) (10 * turnF σ + e 2) = 0 := by
        rw [sgScore_o (by omega) (by omega), up1_off _ _ (by omega)]; exact h0
      rw [o2 409 (by omega), v9, o2 413 (by omega), eL.1, show (4 : Int32) = nI 4 from rfl, ceq (by omega) (by omega)]
      have L151 : ∀ g, g = (if lastK e = 4 ∧ cnt σ (1 - turnF σ) 0 3 ≤ 3 then 2 else 1) → F_X8_endsRaid_151 J (nI n) (nI (14 * n + (e 4 - 1))) (nI g) (nI (e 2)) (nI (turnF σ)) V3 (fun r V' => r = none ∧ offF V V' 416 1 ∧ sOK V' (raidF σ e)) NX := by
        intro g hg
        unfold F_X8_endsRaid_151
        refine wr_use (m_raiderIsOut q3 w3 (turnF σ) (e 2) g ht hp z3) (fun V4 f4 q4 => L154 V4 _ q4 (offF_tr f3 f4) (wfM_lose w3 ht hp z3) (bdd_mono (bdd_lose b3 (by omega) w3 ht hp z3) (by split at hg <;> omega)) ?_)
        unfold raidF
        rw [if_neg (show ¬ lastK e = 3 from c3)]
        unfold missF
        rw [hg]
      refine ⟨s110 (by omega), s110 (by omega), s60 hn, s840 (by omega), fun c4 => L151 1 ?_, fun c4 => ⟨fun c5 => L151 1 ?_, fun c5 => L151 2 ?_⟩⟩
      · unfold lastK; rw [if_neg (by omega)]
      · unfold lastK; rw [if_neg (by omega)]
      · unfold lastK; rw [if_pos (by omega)]
    · refine wr_use (m_comesHome q w ev hn hw h00 hp h0 hs (bonusF σ e) hb1) (fun V4 f4 q4 => L154 V4 _ q4 f4 (wfM_home w hw hp h0 hs) ?_ ?_)
      · have := bdd_home (b := bonusF σ e) b (by omega) w hw hp h0 hs hb1
        exact bdd_mono this (by omega)
      · unfold raidF
        rw [if_pos (show lastK e = 3 from c3)]
  refine v_X8_endsRaid _ (rd_i (m_turn q hr) ?_)
  rw [nI_other _ ht]
  refine rd_i (m_manyThat q (1 - turnF σ) 0 3 hbt wa.1 (by omega) (by omega)) (rd_i (m_stepsThat ev hn hw 1 (by omega)) ?_)
  rw [nI_0', cle (by omega) (by omega), show (6 : Int32) = nI 6 from rfl, clt (by omega) (by omega)]
  have e34 : F_X8_endsRaid_34 J (nI n) (nI (turnF σ)) (nI (cnt σ (1 - turnF σ) 0 3)) V (fun r V' => r = none ∧ offF V V' 416 1 ∧ sOK V' (raidF σ e)) NX = F_X8_endsRaid_35 J (nI n) (nI (turnF σ)) (nI (cnt σ (1 - turnF σ) 0 3)) (nI 0) V (fun r V' => r = none ∧ offF V V' 416 1 ∧ sOK V' (raidF σ e)) NX := rfl
  refine ⟨fun c => ?_, fun c => ⟨fun c2 => ?_, fun c2 => ?_⟩⟩
  · have hb : bonusF σ e = 0 := by unfold bonusF; rw [if_neg (by omega)]
    rw [hb] at L35
    exact L35
  · have hb : bonusF σ e = 0 := by unfold bonusF; rw [if_neg (by omega)]
    rw [hb] at L35
    exact L35
  · have hb : bonusF σ e = 1 := by unfold bonusF; rw [if_pos (by omega)]
    rw [hb] at L35
    exact L35
end Md3
