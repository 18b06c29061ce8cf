/-! the start of the law -/
def RN : Nat → Nat → Option Nat := fun _ _ => none
def Vz : Nat → Nat → Int32 := fun _ _ => 0
def Va0 : Nat → Nat → Int32 := vP3 402 24 (-1) (vP1 399 8 1000 (up2 Vz 398 6 (-1)))
def V00 : Nat → Nat → Int32 := up2 (vP3 424 24 (-1) (vP1 421 8 1000 Va0)) 405 33 (-1)
theorem okM0 : okM RN 0 Vz := ⟨fun _ _ => rfl, fun i j t h => (by cases h), fun _ _ => rfl⟩
theorem R_all : rF (rF RN 0 1 405) 405 406 427 = R0 := by
  funext i j
  unfold rF
  by_cases e : i = 405 ∨ (406 ≤ i ∧ i < 427)
  · rw [if_pos e]
  · rw [if_neg e]
    by_cases e2 : i = 0 ∨ (1 ≤ i ∧ i < 405)
    · rw [if_pos e2]
    · rw [if_neg e2, R0_none (by omega)]
      rfl
def u00 : Au := fun k => if k < 8 then 1000 else if 30 ≤ k ∧ k ≤ 120 then -1 else 0
def q00 : LSt := ((fun _ => 0, fun _ _ => 0), u00, fun _ => 0, 0, fun _ => -1)
theorem szA_le (i : Nat) : szA i ≤ 24 := by
  unfold szA
  split <;> omega
theorem clS00 : clS V00 q00 := by
  have a1 : ∀ i, i < 6 → ∀ j, j < 24 → j < szA i → V00 (399 + i) j = u00 (ofA i + j) := by decide +kernel
  have a2 : ∀ l, l < 24 → u00 (90 + l) = -1 := by decide +kernel
  have a3 : ∀ c, c < 8 → ∀ j, j < 6 → V00 (392 + j) c = 0 := by decide +kernel
  refine ⟨⟨⟨?_, ?_, ?_, ?_⟩, ?_⟩, ⟨⟨?_, ?_, ?_, ?_⟩, ?_⟩, ?_, ?_⟩
  · show clF V00 (fun _ => 0)
    unfold clF
    decide +kernel
  · exact fun k hk => absurd hk (Nat.not_lt_zero k)
  · exact fun k hk => absurd hk (Nat.not_lt_zero k)
  · exact fun h => absurd h Nat.zero_ne_one
  · exact ⟨Nat.zero_le _, Nat.zero_le _, Nat.zero_le _, Nat.le_refl _, Nat.zero_le _, Nat.zero_le _, fun _ => rfl, fun h => absurd h Nat.zero_ne_one, fun k hk => absurd hk (Nat.not_lt_zero k), fun k hk => absurd hk (Nat.not_lt_zero k), fun h => absurd h Nat.zero_ne_one⟩
  · exact fun i j hi hj => a1 i hi j (Nat.lt_of_lt_of_le hj (szA_le i)) hj
  · show V00 398 6 = u00 120
    decide +kernel
  · show V00 398 10 = u00 124
    decide +kernel
  · exact fun h => (h (show u00 120 = -1 by decide +kernel)).elim
  · exact ⟨Or.inl (show u00 120 = -1 by decide +kernel), fun l hl => Or.inl (a2 l hl), Or.inl (show u00 124 = 0 by decide +kernel)⟩
  · exact fun c j hc hj => a3 c hc j hj
  · exact ⟨show V00 389 1 = nI 0 by decide +kernel, by decide, funext fun a => if_neg (Nat.not_lt_zero a)⟩
theorem rfS00 : rfS V00 q00 := by
  have a1 : ∀ i, i < 6 → ∀ j, j < 24 → j < szA i → V00 (421 + i) j = u00 (ofA i + j) := by decide +kernel
  have a2 : ∀ i, i < 5 → V00 405 (33 + i) = u00 (120 + i) := by decide +kernel
  have a3 : ∀ k, k < 48 → V00 420 k = 0 := by decide +kernel
  refine ⟨⟨?_, ?_, ?_⟩, ⟨?_, ?_⟩, ?_, ?_⟩
  · show V00 405 1 = nI 0
    decide +kernel
  · show V00 405 2 = nI 0
    decide +kernel
  · exact fun h => absurd h Nat.zero_ne_one
  · exact fun i j hi hj => a1 i hi j (Nat.lt_of_lt_of_le hj (szA_le i)) hj
  · exact fun i hi => a2 i hi
  · exact fun k hk => a3 k hk
  · exact ⟨show V00 405 20 = nI 0 by decide +kernel, by decide, fun a ha => absurd ha (Nat.not_lt_zero a), fun _ _ => rfl⟩
def okR (n : Nat) (v : Value) : Bool := match v with
  | .ref k => decide (k < n) || decide (1000 ≤ k)
  | _ => true
theorem rOK_b {L : List (Nat × Value)} {st : List Value} {n n' : Nat} (h1 : (L.all fun r => okR n r.2) = true) (h2 : st.all (okR n) = true) (hn : n' ≤ 1000) : rOK L st n n' := by
  have key : ∀ k : Nat, okR n (.ref k) = true → k < n ∨ n' ≤ k := by
    intro k h
    have h : (decide (k < n) || decide (1000 ≤ k)) = true := h
    simp only [Bool.or_eq_true, decide_eq_true_eq] at h
    omega
  intro k hk
  rcases hk with ⟨i, hi⟩ | hi
  · exact key k (List.all_eq_true.mp h1 _ hi)
  · exact key k (List.all_eq_true.mp h2 _ hi)
section LS9
variable {p : Program} {l : Launch} {e : Env} {s : State} {m : MethodId} {args : Array Value} {below : List Frame} {meth : Method} {c : Code} {G : gT} {ad0 : Nat → Nat} {M0 : pM} {A : Nat → Prop} {Z : State → Prop} {N : Nat} {xs : Nat → Int32}
theorem law_start (F : SC N xs s G A) (hN : N ≤ 3072) (E : ∀ (L : List (Nat × Value)) (M : pM) (bc bs : Nat), WLs p l e s m args below meth c G ad0 M0 A Z mL_law 2136 L [.int 1] M bc bs) : WLs p l e s m args below meth c G ad0 M0 A Z mL_law 0 [(0, .ref 1150)] [] (Mx RN 0 Vz) 601024 7293033 := by
  have q1 : okM RN 1 Vz := okM_le okM0 (by omega)
  refine q_newL (m0 := L0 0) nw_9_8 dL_law_0 (hR_of okM0) (show 0 < 1000 by decide) (rOK_b (n := 0) (n' := 1) (by decide) (by decide) (by decide)) (by decide) (by decide) ?_
  rw [Mx_new (k := 7) (m := L0 0) okM0 rfl rfl]
  refine q_dup dL_law_3 rfl (q_callI (h := 0) (As := []) (st := [.ref 0]) iv_9_110 dL_law_4 (by unfold rmP; decide) rfl (show 1 ≤ 8 by decide) (by decide) (by decide) (ci_7 q1 rfl (fun R' q h => ci_1 q h) (fun R' q h => ci_0 q h)) (fun v M' hv => ?_) (fun E M' z => z))
  obtain ⟨rfl, rfl, q2⟩ := hv
  refine ⟨rOK_b (n := 1) (n' := 405) (by decide) (by decide) (by decide), ?_⟩
  refine q_astore_n (x := 0) dL_law_7 (by decide) (q_newL (m0 := L0 405) nw_9_111 dL_law_8 (hR_of q2) (show 405 < 1000 by decide) (rOK_b (n := 405) (n' := 406) (by decide) (by decide) (by decide)) (by decide) (by decide) ?_)
  rw [Mx_new (k := 8) (m := L0 405) q2 rfl rfl]
  refine q_dup dL_law_11 rfl (q_callI (h := 405) (As := []) (st := [.ref 405]) iv_9_113 dL_law_12 (by unfold rmP; decide) rfl (show 1 ≤ 8 by decide) (by decide) (by decide) (ci_8 (okM_le q2 (by omega)) (q2.1 405 (Nat.le_refl _))) (fun v M' hv => ?_) (fun E M' z => z))
  obtain ⟨rfl, rfl, q3⟩ := hv
  refine ⟨rOK_b (n := 406) (n' := 427) (by decide) (by decide) (by decide), ?_⟩
  refine q_astore_n (x := 405) dL_law_15 (by decide) (q_iconst (v := 1) dL_law_16 rfl (q_newJ (N := 1) dL_law_17 ac_J (by decide) (by decide) (by decide) (hR_of q3) (show 427 < 1000 by decide) (rOK_b (n := 427) (n' := 428) (by decide) (by decide) (by decide)) (by decide) (by decide) ?_))
  rw [Mx_new (k := 12) (m := 1) q3 rfl rfl, R_all]
  refine q_astore_n (x := 427) dL_law_19 (by decide) (q_iconst (v := 0) dL_law_20 rfl (q_istore dL_law_21 (by decide) ?_))
  exact law_loop F hN E 512 0 0 (by decide) (by omega) (by decide) (fun _ _ => 0) V00 q00 _ _ clS00 rfS00 (fun _ _ => Nat.zero_le _) (by decide) (by decide)
end LS9
