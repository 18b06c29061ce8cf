/-! the loops of a side -/
def rowsOK (σ : Sg) (a : Nat) : Prop := σ (100 + a) ≤ 10 ∧ ∀ k, k < σ (100 + a) → σ (80 + 10 * a + k) < 10
theorem sgBack_at {σ : Sg} {a : Nat} (h0 : ¬ σ (100 + a) = 0) (j : Nat) : sgBack σ a j = if 80 + 10 * a ≤ j ∧ j < 80 + 10 * a + (σ (100 + a) - 1) then σ (j + 1) else if j = 100 + a then σ (100 + a) - 1 else if j = 10 * a + σ (80 + 10 * a) then 0 else σ j := by
  unfold sgBack
  rw [if_neg h0]
theorem rowsOK_back {σ : Sg} {a : Nat} (ha : a < 2) (q : rowsOK σ a) : rowsOK (sgBack σ a) a := by
  by_cases h0 : σ (100 + a) = 0
  · rw [sgBack_0 h0]; exact q
  · obtain ⟨q1, q2⟩ := q
    have hm := sgBack_m ha q1
    refine ⟨by omega, fun k hk => ?_⟩
    rw [hm] at hk
    rw [sgBack_at h0, if_pos (by omega)]
    exact q2 (k + 1) (by omega)
theorem rowsOK_come {σ : Sg} {a : Nat} (ha : a < 2) (q : rowsOK σ a) : ∀ n, rowsOK (sgCome σ a n) a
  | 0 => q
  | n + 1 => rowsOK_back ha (rowsOK_come ha q n)
theorem sgCome_stop {σ : Sg} {a i : Nat} (h : sgCome σ a i (100 + a) = 0) : ∀ n, sgCome σ a (i + n) = sgCome σ a i
  | 0 => rfl
  | n + 1 => by
    show sgBack (sgCome σ a (i + n)) a = _
    rw [sgCome_stop h n, sgBack_0 h]
theorem offF_weak {V V' : Mem} {lo n lo' n' : Nat} (q : offF V V' lo n) (h : lo' ≤ lo ∧ lo + n ≤ lo' + n') : offF V V' lo' n' := fun x hx => q x (by omega)
section SideL
variable {J : Nat → Nat → Int64} {V : Mem} {h a : Nat} {σ : Sg}
theorem k6_comeBack (hh : isSide h) (q : sdOK V h a σ) (ha : a < 2) (N : Nat) (hN : N ≤ 1000) (hr : rowsOK σ a) : WR J mX6_comeBack [.ref h, .int (nI N)] V h 6 (fun V' => sdOK V' h a (sgCome σ a N)) := by
  refine v_X6_comeBack h (nI N) hh ?_
  unfold F_X6_comeBack F_X6_comeBack_2
  refine ⟨fun n x2 V' => ∃ i, i ≤ N ∧ n = N - i ∧ x2 = nI i ∧ sdOK V' h a (sgCome σ a i) ∧ offF V V' h 6, ⟨N, 0, by omega, by omega, rfl, q, offF_rf _ _ _⟩, ?_⟩
  rintro n x2 V' ⟨i, hi, hn, rfl, qi, hf⟩
  obtain ⟨hm, hrow⟩ := rowsOK_come ha hr i
  unfold B_X6_comeBack_2
  refine ⟨fun c => ?_, fun c => ⟨fun c2 => ?_, fun c2 => ?_⟩⟩
  · have h1 : N ≤ i := (cle (by omega) (by omega)).mp c
    have h2 : i = N := by omega
    subst h2
    exact ⟨rfl, hf, qi⟩
  · rw [qi.2.2.2.2.2.1, show (0 : Int32) = nI 0 from rfl, cle (by omega) (by omega)] at c2
    have h3 := sgCome_stop (σ := σ) (a := a) (i := i) (by omega) (N - i)
    rw [show i + (N - i) = N by omega] at h3
    refine ⟨rfl, hf, ?_⟩
    show sdOK V' h a (sgCome σ a N)
    rw [h3]
    exact qi
  · rw [qi.2.2.2.2.2.1, show (0 : Int32) = nI 0 from rfl, cle (by omega) (by omega)] at c2
    have hlt : i < N := by
      rcases Nat.lt_or_ge i N with z | z
      · exact z
      · exact (c ((cle (by omega) (by omega)).mpr z)).elim
    have e0 : V' (h + 1 + 4) 0 = nI (sgCome σ a i (80 + 10 * a)) := qi.2.2.2.2.1 0 (by omega)
    have hp : sgCome σ a i (80 + 10 * a) < 10 := hrow 0 (by omega)
    rw [e0]
    refine rd_b (k7_isPlayer J _ V') ?_
    rw [isIx_nI (by decide) hp]
    refine ⟨fun c => Bool.noConfusion c, fun _ => ⟨vp_in_nI hp (by decide), ?_⟩⟩
    rw [ccl (by omega)]
    unfold F_X6_comeBack_35
    have e5 : up2 V' (h + 1 + 0) (sgCome σ a i (80 + 10 * a)) 0 h 5 - 1 = nI (sgCome σ a i (100 + a) - 1) := by
      rw [up2_off _ _ _ (by omega), qi.2.2.2.2.2.1]
      obtain ⟨z, hz⟩ : ∃ z, sgCome σ a i (100 + a) = z + 1 := ⟨sgCome σ a i (100 + a) - 1, by omega⟩
      rw [hz, nI_pred]
      rfl
    rw [e5]
    generalize hB : up2 (up2 V' (h + 1 + 0) (sgCome σ a i (80 + 10 * a)) 0) h 5 (nI (sgCome σ a i (100 + a) - 1)) = VB
    have b1 : VB (h + 1) = up1 (V' (h + 1)) (sgCome σ a i (80 + 10 * a)) 0 := by rw [← hB]; simp [up2_rw]
    have b2 : VB (h + 2) = V' (h + 2) := by rw [← hB]; simp [up2_rw]
    have b3 : VB (h + 3) = V' (h + 3) := by rw [← hB]; simp [up2_rw]
    have b4 : VB (h + 4) = V' (h + 4) := by rw [← hB]; simp [up2_rw]
    have b5 : VB (h + 5) = V' (h + 5) := by rw [← hB]; simp [up2_rw]
    have b0 : VB h = up1 (V' h) 5 (nI (sgCome σ a i (100 + a) - 1)) := by rw [← hB]; simp [up2_rw]
    have bf : offF V' VB h 6 := by rw [← hB]; exact offF_up (offF_up (offF_rf _ _ _) (by omega)) (by omega)
    unfold F_X6_comeBack_48
    refine ⟨fun n2 y2 y4 V2 => ∃ k, k ≤ sgCome σ a i (100 + a) - 1 ∧ n2 = sgCome σ a i (100 + a) - 1 - k ∧ y2 = nI i ∧ y4 = nI k ∧ (∀ x, x ≠ h + 5 → V2 x = VB x) ∧ V2 (h + 5) = shiftTo (VB (h + 5)) k, ⟨sgCome σ a i (100 + a) - 1, 0, by omega, by omega, rfl, rfl, fun _ _ => rfl, ?_⟩, ?_⟩
    · funext k; simp [shiftTo]
    · rintro n2 y2 y4 V2 ⟨k, hk, hn2, rfl, rfl, hV, hS⟩
      have v5 : V2 h 5 = nI (sgCome σ a i (100 + a) - 1) := by rw [hV h (by omega), b0, up1_at]
      unfold B_X6_comeBack_48 F_X6_comeBack_88
      rw [v5]
      have done : k = sgCome σ a i (100 + a) - 1 → ∃ n', n' < n ∧ ∃ i', i' ≤ N ∧ n' = N - i' ∧ nI i + 1 = nI i' ∧ sdOK V2 h a (sgCome σ a i') ∧ offF V V2 h 6 := by
        intro hke
        refine ⟨N - (i + 1), by omega, i + 1, by omega, rfl, nI_1 i, ?_, ?_⟩
        · have hr2 := sdR_back (sdOK_R.mp qi) ha hm (by omega) hp
          rw [sdOK_R, hV (h + 1) (by omega), hV (h + 2) (by omega), hV (h + 3) (by omega), hV (h + 4) (by omega), hV h (by omega), hS, hke, b0, b1, b2, b3, b4, b5]
          exact hr2
        · intro x hx
          rw [hV x (by omega), bf x hx, hf x hx]
      refine ⟨fun c3 => ?_, fun c3 => ⟨fun c4 => ?_, fun c4 => ?_⟩⟩
      · rw [cle (by omega) (by omega)] at c3
        exact done (by omega)
      · rw [nI_1, show (10 : Int32) = nI 10 from rfl, cle (by omega) (by omega)] at c4
        exact done (by omega)
      · rw [cle (by omega) (by omega)] at c3
        rw [nI_1]
        clear done
        have k1 : k + 1 < 10 := by omega
        have k2 : sgCome σ a i (100 + a) - 1 - (k + 1) < n2 := by omega
        refine ⟨vp_in_nI k1 (by decide), vp_in_nI (Nat.lt_of_succ_lt k1) (by decide), sgCome σ a i (100 + a) - 1 - (k + 1), k2, k + 1, by omega, rfl, rfl, rfl, fun x hx => ?_, ?_⟩
        · rw [up2_off _ _ _ (by omega)]; exact hV x hx
        · show up2 V2 (h + 5) (nI k).toNatClampNeg (V2 (h + 5) (nI (k + 1)).toNatClampNeg) (h + 5) = _
          rw [up2_at, ccl (by omega), ccl (by omega), hS]
          exact shiftTo_succ _ _
/-- suspensions that are over, of the first n -/
def suspTo (σ : Sg) (a t n : Nat) : Sg := fun j => if (10 * a ≤ j ∧ j < 10 * a + n) ∧ σ j = 3 ∧ σ (20 + j) ≤ t then 0 else σ j
theorem suspTo_0 (σ : Sg) (a t : Nat) : suspTo σ a t 0 = σ := by
  funext j
  unfold suspTo
  rw [if_neg (by omega)]
theorem k6_endSuspensions (hh : isSide h) (q : sdOK V h a σ) (ha : a < 2) (t : Nat) (ht : t < 2147483648) (hm : σ (100 + a) ≤ 10) (hb : bdd σ 1000000) : WR J mX6_endSuspensions [.ref h, .int (nI t)] V h 6 (fun V' => sdOK V' h a (suspTo σ a t 10)) := by
  refine v_X6_endSuspensions h (nI t) hh ?_
  unfold F_X6_endSuspensions F_X6_endSuspensions_2
  refine ⟨fun n x2 V' => ∃ i, i ≤ 10 ∧ n = 10 - i ∧ x2 = nI i ∧ sdOK V' h a (suspTo σ a t i) ∧ offF V V' h 6, ⟨10, 0, by omega, by omega, rfl, by rw [suspTo_0]; exact q, offF_rf _ _ _⟩, ?_⟩
  rintro n x2 V' ⟨i, hi, hn, rfl, qi, hf⟩
  unfold B_X6_endSuspensions_2 F_X6_endSuspensions_35
  refine ⟨fun c => ?_, fun c => ?_⟩
  · have h1 : 10 ≤ i := (cle (n := 10) (by omega) (by omega)).mp c
    have h2 : i = 10 := by omega
    subst h2
    exact ⟨rfl, hf, qi⟩
  · have h1 : i < 10 := by
      rcases Nat.lt_or_ge i 10 with z | z
      · exact z
      · exact (c ((cle (n := 10) (by omega) (by omega)).mpr z)).elim
    have hsi : suspTo σ a t i (10 * a + i) = σ (10 * a + i) := by unfold suspTo; rw [if_neg (by omega)]
    have hb1 := hb (10 * a + i) (by omega)
    have e1 : V' (h + 1 + 0) (nI i).toNatClampNeg = nI (σ (10 * a + i)) := by
      rw [ccl (by omega), ← hsi]
      exact qi.1 i h1
    rw [e1, ccl (by omega), nI_1]
    have step : suspTo σ a t (i + 1) = if σ (10 * a + i) = 3 ∧ σ (20 + 10 * a + i) ≤ t then up1 (suspTo σ a t i) (10 * a + i) 0 else suspTo σ a t i := by
      funext j
      by_cases hj : j = 10 * a + i
      · subst hj
        by_cases hc : σ (10 * a + i) = 3 ∧ σ (20 + 10 * a + i) ≤ t
        · rw [if_pos hc, up1_at]
          unfold suspTo
          rw [if_pos ⟨by omega, hc.1, by rw [← Nat.add_assoc]; exact hc.2⟩]
        · rw [if_neg hc]
          unfold suspTo
          rw [if_neg (fun z => hc ⟨z.2.1, by have z2 := z.2.2; rwa [← Nat.add_assoc] at z2⟩), if_neg (by omega)]
      · have e9 : suspTo σ a t (i + 1) j = suspTo σ a t i j := by
          unfold suspTo
          by_cases hc : (10 * a ≤ j ∧ j < 10 * a + i) ∧ σ j = 3 ∧ σ (20 + j) ≤ t
          · rw [if_pos hc, if_pos ⟨by omega, hc.2⟩]
          · rw [if_neg hc, if_neg (fun z => hc ⟨by omega, z.2⟩)]
        rw [e9]
        split
        · rw [up1_off _ _ hj]
        · rfl
    refine ⟨vp_in_nI h1 (by decide), fun c2 => ?_, fun c2 => ⟨vp_in_nI h1 (by decide), fun c3 => ?_, fun c3 => ⟨vp_in_nI h1 (by decide), ?_⟩⟩⟩
    · rw [show (3 : Int32) = nI 3 from rfl, ceq (by omega) (by omega)] at c2
      refine ⟨10 - (i + 1), by omega, i + 1, by omega, rfl, rfl, ?_, hf⟩
      rw [step, if_neg (fun z => c2 z.1)]
      exact qi
    · rw [show (3 : Int32) = nI 3 from rfl, ceq (by omega) (by omega)] at c2
      have h2 : suspTo σ a t i (20 + 10 * a + i) = σ (20 + 10 * a + i) := by unfold suspTo; rw [if_neg (by omega)]
      have e2 : V' (h + 1 + 1) i = nI (σ (20 + 10 * a + i)) := by
        rw [← h2]
        exact qi.2.1 i h1 (by rw [hsi]; exact c2)
      have hb2 := hb (20 + 10 * a + i) (by omega)
      rw [e2, clt (by omega) (by omega)] at c3
      refine ⟨10 - (i + 1), by omega, i + 1, by omega, rfl, rfl, ?_, hf⟩
      rw [step, if_neg (fun z => by omega)]
      exact qi
    · rw [show (3 : Int32) = nI 3 from rfl, ceq (by omega) (by omega)] at c2
      have h2 : suspTo σ a t i (20 + 10 * a + i) = σ (20 + 10 * a + i) := by unfold suspTo; rw [if_neg (by omega)]
      have e2 : V' (h + 1 + 1) i = nI (σ (20 + 10 * a + i)) := by
        rw [← h2]
        exact qi.2.1 i h1 (by rw [hsi]; exact c2)
      have hb2 := hb (20 + 10 * a + i) (by omega)
      rw [e2, clt (by omega) (by omega)] at c3
      refine ⟨10 - (i + 1), by omega, i + 1, by omega, rfl, rfl, ?_, offF_up hf (by omega)⟩
      rw [step, if_pos ⟨c2, by omega⟩]
      have em : suspTo σ a t i (100 + a) = σ (100 + a) := by unfold suspTo; rw [if_neg (by omega)]
      obtain ⟨q1, q2, q3, q4, q5, q6, q7, q8, q9⟩ := qi
      have r1 : ∀ j, j ≠ 10 * a + i → up1 (suspTo σ a t i) (10 * a + i) 0 j = suspTo σ a t i j := fun j hj => up1_off _ _ hj
      refine ⟨fun x hx => ?_, fun x hx hs => ?_, fun x hx => ?_, fun x hx => ?_, fun k hk => ?_, ?_, ?_, ?_, ?_⟩
      · by_cases hxi : x = i
        · subst hxi
          rw [up1_at]
          exact up2_same _ _ _ _
        · rw [r1 _ (by omega)]
          exact (up2_ne _ _ (Or.inr hxi)).trans (q1 x hx)
      · by_cases hxi : x = i
        · subst hxi; rw [up1_at] at hs; omega
        · rw [r1 _ (by omega)] at hs ⊢
          exact (up2_ne _ _ (Or.inl (by omega))).trans (q2 x hx hs)
      · rw [r1 _ (by omega)]; exact (up2_ne _ _ (Or.inl (by omega))).trans (q3 x hx)
      · rw [r1 _ (by omega)]; exact (up2_ne _ _ (Or.inl (by omega))).trans (q4 x hx)
      · rw [r1 _ (by omega)] at hk
        rw [em] at hk
        rw [r1 _ (by omega)]; exact (up2_ne _ _ (Or.inl (by omega))).trans (q5 k (by rw [em]; exact hk))
      · rw [r1 _ (by omega)]; exact (up2_ne _ _ (Or.inl (by omega))).trans q6
      · rw [r1 _ (by omega)]; exact (up2_ne _ _ (Or.inl (by omega))).trans q7
      · rw [r1 _ (by omega)]; exact (up2_ne _ _ (Or.inl (by omega))).trans q8
      · rw [r1 _ (by omega)]; exact (up2_ne _ _ (Or.inl (by omega))).trans q9
end SideL
