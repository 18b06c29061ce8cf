/-! the start of the law: two halls, the second made behind the first -/
def RN : Nat → Nat → Option Nat := fun _ _ => none
def Vz : Nat → Nat → Int32 := fun _ _ => 0
def Va0 : Nat → Nat → Int32 := vP3 402 24 (-1) (vP1 399 8 1000 (up2 Vz 398 6 (-1)))
theorem okM0 : okM RN 0 Vz := ⟨fun _ _ => rfl, fun i j t h => (by cases h), fun _ _ => rfl⟩
theorem R_405 : R0 405 = fun _ => none := by
  funext j
  simp [R0]
theorem R_all : rF RN 0 1 405 = R0 := by
  funext i j
  unfold rF
  by_cases e : i = 0 ∨ (1 ≤ i ∧ i < 405)
  · rw [if_pos e]
  · rw [if_neg e]
    by_cases e2 : i = 405
    · subst e2
      rw [R_405]
      rfl
    · rw [R0_none (by omega)]
      rfl
def u00 : Au := fun k => if k < 8 then 1000 else if 30 ≤ k ∧ k ≤ 120 then -1 else 0
def q00 : HS := ((fun _ => 0, fun _ _ => 0), u00, fun _ => 0)
theorem szA_le (i : Nat) : szA i ≤ 24 := by
  unfold szA
  split <;> omega
theorem G00 : GX 0 q00 := by
  have a2 : ∀ l, l < 24 → u00 (90 + l) = -1 := by decide +kernel
  have a4 : ∀ l, l < 24 → u00 (30 + l) = -1 ∧ u00 (60 + l) = -1 := by decide +kernel
  have a5 : ∀ c, c < 8 → AuC u00 c := by unfold AuC; decide +kernel
  have a6 : u00 120 = -1 := by decide +kernel
  have a7 : u00 124 = 0 := by decide +kernel
  refine ⟨?_, ?_, fun k hk => Nat.zero_le _, Nat.le_refl _, ⟨rfl, fun c hc => ⟨Nat.le_refl _, Nat.le_refl _, Nat.le_refl _⟩⟩, ⟨fun l hl => Or.inl (a4 l hl), a5, fun h => absurd a6 h, fun h => absurd a6 h, fun h => ?_⟩, fun c hc => Nat.le_refl _⟩
  · exact ⟨Nat.zero_le _, Nat.zero_le _, Nat.zero_le _, Nat.le_refl _, Nat.zero_le _, Nat.zero_le _, fun _ => rfl, fun h => absurd h Nat.zero_ne_one, fun k hk => absurd hk (Nat.not_lt_zero k), fun k hk => absurd hk (Nat.not_lt_zero k), fun h => absurd h Nat.zero_ne_one⟩
  · exact ⟨Or.inl a6, fun l hl => Or.inl (a2 l hl), Or.inl a7⟩
  · have h : u00 124 = 1 := h
    rw [a7] at h
    exact absurd h (by decide)
theorem clH00 : clH Va0 q00 := by
  have a1 : ∀ i, i < 6 → ∀ j, j < 24 → j < szA i → Va0 (399 + i) j = u00 (ofA i + j) := by decide +kernel
  have a3 : ∀ c, c < 8 → ∀ j, j < 6 → Va0 (392 + j) c = 0 := by decide +kernel
  refine ⟨⟨?_, ?_, ?_, ?_⟩, ⟨?_, ?_, ?_, ?_⟩, ?_⟩
  · show clF Va0 (fun _ => 0)
    unfold clF
    decide +kernel
  · exact fun k hk => absurd hk (Nat.not_lt_zero k)
  · exact fun k hk => absurd hk (Nat.not_lt_zero k)
  · exact fun h => absurd h Nat.zero_ne_one
  · exact fun i j hi hj => a1 i hi j (Nat.lt_of_lt_of_le hj (szA_le i)) hj
  · show Va0 398 6 = u00 120
    decide +kernel
  · show Va0 398 10 = u00 124
    decide +kernel
  · exact fun h => (h (show u00 120 = -1 by decide +kernel)).elim
  · exact fun c j hc hj => a3 c hc j hj
/-- the memory with the first hall and an object behind it -/
def B2 : pM := mN (Mx R0 405 Va0) 7 (L0 0)
def M9 : pM := Mx R0 405 Va0
theorem B2_lo {i : Nat} (h : i < 405) : pK B2 i = K0 i ∧ pL B2 i = L0 i ∧ pV B2 i = Va0 i ∧ ∀ j, pR B2 i j = R0 i j := by
  have e : i ≠ 405 := by omega
  refine ⟨?_, ?_, ?_, fun j => ?_⟩
  · show up1 K0 405 7 i = _
    exact up1_off _ _ e
  · show up1 L0 405 (L0 0) i = _
    exact up1_off _ _ e
  · show up1 Va0 405 (fun _ => 0) i = _
    exact up1_off _ _ e
  · show up1 R0 405 (fun _ => none) i j = _
    rw [up1_off _ _ e]
theorem B2_hi : pK B2 405 = 7 ∧ pL B2 405 = L0 0 ∧ pV B2 405 = (fun _ => 0) ∧ pJ B2 405 = (fun _ => 0) ∧ ∀ j, pR B2 405 j = none := by
  refine ⟨?_, ?_, ?_, ?_, fun j => ?_⟩
  · show up1 K0 405 7 405 = _
    exact up1_at _ _ _
  · show up1 L0 405 (L0 0) 405 = _
    exact up1_at _ _ _
  · show up1 Va0 405 (fun _ => 0) 405 = _
    exact up1_at _ _ _
  · show up1 (fun (_ _ : Nat) => (0 : Int64)) 405 (fun _ => 0) 405 = _
    exact up1_at _ _ _
  · show up1 R0 405 (fun _ => none) 405 j = _
    rw [up1_at]
theorem B2_W : isWn 405 B2 (Mx RN 1 Vz) := by
  obtain ⟨h1, h2, h3, h4, h5⟩ := B2_hi
  refine ⟨Nat.le_refl _, by decide, fun i hi => ?_, fun i j t _ ht => by cases ht⟩
  have e : i = 0 := by
    have hi : i < 1 := hi
    omega
  subst e
  exact ⟨h1, h2, h3, h4, h5⟩
theorem B2_R : ∀ i j t, i < pN B2 → pR B2 i j = some t → t < pN B2 := by
  intro i j t hi ht
  have hi : i < 406 := hi
  show t < 406
  by_cases e : i = 405
  · subst e
    rw [B2_hi.2.2.2.2 j] at ht
    cases ht
  · rw [(B2_lo (show i < 405 by omega)).2.2.2 j] at ht
    have := R0_lt i j t (by omega) ht
    omega
theorem B2_ok : okW 405 B2 (Mx RN 1 Vz) M9 := ⟨Nat.le_refl _, by decide, fun i j t hi ht => R0_lt i j t hi ht, Or.inr rfl⟩
theorem B3_ok : LH (gl 405 B2 M9) q00 q00 0 := by
  have hN : pN (gl 405 B2 M9) = 810 := rfl
  have hin : ∀ i, i < 405 → pK (gl 405 B2 M9) (405 + i) = K0 i ∧ pL (gl 405 B2 M9) (405 + i) = L0 i ∧ pV (gl 405 B2 M9) (405 + i) = Va0 i ∧ ∀ j, pR (gl 405 B2 M9) (405 + i) j = (R0 i j).map (fun t => 405 + t) := by
    intro i hi
    obtain ⟨g1, g2, g3, g4, g5⟩ := gl_in (b := 405) (B := B2) (M := M9) hi
    exact ⟨g1, g2, g3, g5⟩
  have hout : ∀ i, i < 405 → pK (gl 405 B2 M9) i = K0 i ∧ pL (gl 405 B2 M9) i = L0 i ∧ pV (gl 405 B2 M9) i = Va0 i ∧ ∀ j, pR (gl 405 B2 M9) i j = R0 i j := by
    intro i hi
    obtain ⟨g1, g2, g3, g4, g5⟩ := gl_out (b := 405) (B := B2) (M := M9) (i := i) (by omega)
    obtain ⟨k1, k2, k3, k4⟩ := B2_lo hi
    exact ⟨g1.trans k1, g2.trans k2, g3.trans k3, fun j => (g5 j).trans (k4 j)⟩
  have refs : ∀ V : Mem, refsOK ((gl 405 B2 M9).1, V) := by
    intro V i j t hi ht
    have hi : i < 810 := hi
    have ht : pR (gl 405 B2 M9) i j = some t := ht
    show t < 810
    by_cases e : i < 405
    · rw [(hout i e).2.2.2 j] at ht
      have := R0_lt i j t e ht
      omega
    · obtain ⟨i', rfl⟩ : ∃ i', i = 405 + i' := ⟨i - 405, by omega⟩
      rw [(hin i' (by omega)).2.2.2 j] at ht
      cases z : R0 i' j with
      | none => rw [z] at ht; cases ht
      | some t' =>
        rw [z] at ht
        cases ht
        have := R0_lt i' j t' (by omega) z
        show 405 + t' < 810
        omega
  have GH := GX_H G00 (by decide)
  refine ⟨fun V => ⟨⟨show 0 + 405 ≤ 810 by decide, fun i hi => ?_⟩, refs V, show 810 ≤ 1000 by decide⟩, fun V => ⟨⟨show 405 + 405 ≤ 810 by decide, fun i hi => ?_⟩, refs V, show 810 ≤ 1000 by decide⟩, Nat.le_refl _, ?_, ?_⟩
  · rw [Nat.zero_add]
    obtain ⟨k1, k2, k3, k4⟩ := hout i hi
    refine ⟨k1, k2, fun j => (k4 j).trans ?_⟩
    cases R0 i j with
    | none => rfl
    | some t => exact congrArg some (Nat.zero_add t).symm
  · obtain ⟨k1, k2, k3, k4⟩ := hin i hi
    exact ⟨k1, k2, k4⟩
  · refine clH_lo GH clH00 (fun x hx => ?_)
    show pV (gl 405 B2 M9) (0 + x) = Va0 x
    rw [Nat.zero_add]
    exact (hout x hx).2.2.1
  · exact clH_lo GH clH00 (fun x hx => (hin x hx).2.2.1)
section LS9
variable {p : Program} {l : Launch} {e : Env} {s : State} {m : MethodId} {args : Array Value} {below : List Frame} {meth : Method} {c : Code} {G : gT} {ad0 : Nat → Nat} {M0 : pM} {A : Nat → Prop} {Z : State → Prop}
theorem law_start (E : ∀ (L : List (Nat × Value)) (M : pM) (bc bs : Nat), WLs p l e s m args below meth c G ad0 M0 A Z mL_law 216 L [.int 1] M bc bs) : WLs p l e s m args below meth c G ad0 M0 A Z mL_law 0 [(0, .ref 1150)] [] (Mx RN 0 Vz) 677997 7067706 := by
  have q1 : okM RN 1 Vz := okM_le okM0 (by omega)
  refine q_newL (m0 := L0 0) nw_9_15 dL_law_0 (hR_of okM0) (show 0 < 1000 by decide) (rOK_b (n := 0) (n' := 1) rfl rfl (by decide)) (by decide) (by decide) ?_
  rw [Mx_new (k := 7) (m := L0 0) okM0 rfl rfl]
  refine q_dup dL_law_3 rfl (q_callI (h := 0) (As := []) (st := [.ref 0]) iv_9_130 dL_law_4 (by unfold rmP; decide) rfl (show 1 ≤ 8 by decide) (by decide) (by decide) (ci_7 q1 rfl (fun R' q h => ci_1 q h) (fun R' q h => ci_0 q h)) (fun v M' hv => ?_) (fun E M' z => z))
  obtain ⟨rfl, rfl, q2⟩ := hv
  refine ⟨rOK_b (n := 1) (n' := 405) rfl rfl (by decide), ?_⟩
  rw [R_all] at q2 ⊢
  refine q_astore_n (x := 0) dL_law_7 (by decide) (q_newL (m0 := L0 0) nw_9_15 dL_law_8 (hR_of q2) (show 405 < 1000 by decide) (rOK_b (n := 405) (n' := 406) rfl rfl (by decide)) (by decide) (by decide) ?_)
  have hc := ct_win (b := 405) (B := B2) (M := Mx RN 1 Vz) (as := [.ref 0]) B2_W (show 406 ≤ 1000 by decide) B2_R (fun v M' hv => ⟨by
    obtain ⟨-, rfl, -⟩ := hv
    rw [R_all]
    exact B2_ok, fun k e9 => by
    obtain ⟨rfl, -, -⟩ := hv
    cases e9⟩) (fun E M' hE => False.elim hE) (ci_7 q1 rfl (fun R' q h => ci_1 q h) (fun R' q h => ci_0 q h))
  refine q_dup dL_law_11 rfl (q_callI (h := 405) (As := []) (st := [.ref 405]) iv_9_130 dL_law_12 (by unfold rmP; decide) rfl (show 1 ≤ 8 by decide) (by decide) (by decide) hc (fun v M' hv => ?_) (fun E M' z => by
    obtain ⟨_, z, _⟩ := z
    exact z))
  obtain ⟨M3, ⟨rfl, rfl, q3⟩, rfl⟩ := hv
  rw [R_all]
  have H : LH (gl 405 B2 (Mx R0 405 Va0)) q00 q00 ((0 + 12) / 30) := B3_ok
  refine ⟨rOK_b (n := 406) (n' := 810) rfl rfl (by decide), ?_⟩
  refine q_astore_n (x := 405) dL_law_15 (by decide) (q_iconst (v := 1) dL_law_16 rfl (q_istore_n (x := 1) dL_law_17 (by decide) (q_iconst (v := 0) dL_law_18 rfl (q_istore (x := 0) dL_law_19 (by decide) (q_loc (L' := Lk 0) (fun r hr => ?_) ?_)))))
  · have hr : r ∈ [(0, Value.ref 1150), (1, .ref 0), (2, .ref 405), (3, .int 1), (4, .int 0)] := hr
    show r ∈ [(4, Value.int 0), (3, .int 1), (2, .ref 405), (1, .ref 0), (0, .ref 1150)]
    simp only [List.mem_cons, List.not_mem_nil, or_false] at hr ⊢
    rcases hr with h | h | h | h | h
    · exact Or.inr (Or.inr (Or.inr (Or.inr h)))
    · exact Or.inr (Or.inr (Or.inr (Or.inl h)))
    · exact Or.inr (Or.inr (Or.inl h))
    · exact Or.inr (Or.inl h)
    · exact Or.inl h
  · exact q_bud (bc' := 600000) (bs' := 6000000) (by decide) (by decide) (law_loop E 360 0 rfl _ q00 600000 6000000 H G00 (Nat.le_trans (show 274000 ≤ 600000 by decide) (Nat.le_add_right _ _)) (Nat.le_trans (show 6 * 274000 ≤ 6000000 by decide) (Nat.le_add_right _ _)))
end LS9
