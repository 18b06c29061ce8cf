/-! what is foretold is what follows -/
theorem dv_0 {k : Nat} {x : Int32} (h : k = 0) : dv k x = x := if_pos h
theorem dv_n {k : Nat} {x : Int32} (h : k ≠ 0) : dv k x = -2100000000 := if_neg h
theorem and_1 (x : Int32) : ∃ a, a < 2 ∧ x &&& 1 = nI a := by
  refine ⟨(x &&& 1).toBitVec.toNat, ?_, ?_⟩
  · rw [Int32.toBitVec_and, BitVec.toNat_and]
    exact Nat.lt_of_le_of_lt Nat.and_le_right (by decide)
  · apply Int32.toBitVec_inj.mp
    show (x &&& 1).toBitVec = BitVec.ofNat 32 (x &&& 1).toBitVec.toNat
    exact BitVec.eq_of_toNat_eq (by rw [BitVec.toNat_ofNat, Nat.mod_eq_of_lt (BitVec.isLt _)])
theorem falls_iff {s : Ms} {E : Evs} {n p k w : Int32} : fallsK s E n p k w = 0 ↔ stepIx s E n p = true ∧ stepB k w 5 = true := by
  unfold fallsK
  cases h1 : stepIx s E n p <;> cases h2 : stepB k w 5 <;> simp
theorem rev_iff {s : Ms} {E : Evs} {a n p k w : Int32} : revK s E a n p k w = 0 ↔ isIx a 2 = true ∧ (stepIx s E n p = true ∧ stepB k w 5 = true) ∧ ¬ (s 1 = 1 ∨ s (7 + a.toNatClampNeg) = 1 ∨ fallsV s E n p k w ≠ -1) := by
  unfold revK
  cases h0 : isIx a 2 <;> cases h1 : stepIx s E n p <;> cases h2 : stepB k w 5 <;> by_cases h3 : (s 1 = 1 ∨ s (7 + a.toNatClampNeg) = 1 ∨ fallsV s E n p k w ≠ -1) <;> simp [h3]
theorem view_0 {s : Ms} {b : Bool} : viewK s b = 0 ↔ b = true ∧ s 0 = 1 := by
  unfold viewK
  cases b
  · simp
  · by_cases h : s 0 = 1 <;> simp [h]
section Fore
variable {m : Nat} {q : HS} {R : Int32 → HS × HS → Prop} {v A x3 x4 x5 x6 : Int32}
theorem fore_250 (hR : ∀ a b c d e, R 1 (opN q a b c d e 5, opN q a b c d e 5)) {n : Nat} (hn : 1 ≤ n) : lF_isForetold_250 v x3 x4 x5 x6 A (dW q 5 A x3 x4 x5 x6) 1 (opN q A x3 x4 x5 x6 5) q n R :=
  ⟨hn, fun z => absurd z (by decide), fun _ => ⟨fun z => absurd rfl z, fun _ => hR A x3 x4 x5 x6⟩⟩
theorem fore_245 (hR : ∀ a b c d e, R 1 (opN q a b c d e 5, opN q a b c d e 5)) {n : Nat} (hn : 1 ≤ n) : lF_isForetold_245 v x3 x4 x5 x6 A (dW q 5 A x3 x4 x5 x6) (opN q A x3 x4 x5 x6 5) q n R := ⟨Nat.zero_le _, fore_250 hR hn⟩
theorem fore_158 (hR : ∀ a b c d e, R 1 (opN q a b c d e 5, opN q a b c d e 5)) {x10 : Int32} {n : Nat} (hn : 3 ≤ n) (ht : dW q 5 A x3 x4 x5 x6 = -2100000000) : lF_isForetold_158 v x3 x4 x5 x6 A x10 (dW q 5 A x3 x4 x5 x6) (opN q A x3 x4 x5 x6 5) q n R :=
  ⟨Nat.zero_le _, Nat.zero_le _, fun _ => ⟨hn, fun z => absurd rfl z, fun _ => ⟨fun _ => fore_245 hR (by omega), fun z => (z ht).elim⟩⟩, fun z => (z ht).elim⟩
theorem fore_made (G : GX m q) (hm : m ≤ 1900) {a : Nat} (ha : a < 2) (hk : opK q (nI a) x3 x4 x5 x6 5 = 0) : (dW q 6 x3 x4 x5 x6 0 = -1 ∧ dW q 18 (nI a) 0 0 0 0 = 1 ∧ dW (opN q (nI a) x3 x4 x5 x6 5) 17 3 0 0 0 0 = 0) ∧
    dW q 5 (nI a) x3 x4 x5 x6 ≠ -2100000000 ∧ dW (opN q (nI a) x3 x4 x5 x6 5) 16 (nI a) 0 0 0 0 - dW (opN q (nI a) x3 x4 x5 x6 5) 16 (1 - nI a) 0 0 0 0 = (dW q 16 (nI a) 0 0 0 0 - dW q 16 (1 - nI a) 0 0 0 0) + dW q 5 (nI a) x3 x4 x5 x6 ∧
    dW (opN q (nI a) x3 x4 x5 x6 5) 18 (nI a) 0 0 0 0 = if dW q 5 (nI a) x3 x4 x5 x6 ≤ 0 then 0 else 1 := by
  have hk9 : revK q.1.1 q.1.2 (nI a) x3 x4 x5 x6 = 0 := hk
  obtain ⟨r1, r2, r3⟩ := rev_iff.mp hk9
  have hval := op_val G (by omega) (nI a) x3 x4 x5 x6 5 (by omega) hk
  obtain ⟨b, i, j, x, w, hb, hi, h0, hj, hj10, hx, hv, hxv, e1, e2, e3, e4, e5, hwN, h1, h7, hf⟩ := rev_inv G.1 hk9
  have hab : b = a := by rw [ceq (by omega) (by omega)] at e1; exact e1.symm
  subst hab
  have g2 := G.1.2.2.1
  have g1 := G.1.2.1
  have ea : (nI b).toNatClampNeg = b := ccl (by omega)
  have ei : x3.toNatClampNeg = i := by rw [e2]; exact ccl (by omega)
  have ej : x4.toNatClampNeg = j := by rw [e3]; exact ccl (by omega)
  have ex : x5.toNatClampNeg = x := by rw [e4]; exact ccl (by omega)
  have hs0 : q.1.1 0 = 1 := by
    have z0 := G.1.1
    rcases Nat.lt_or_ge (q.1.1 0) 1 with z | z
    · have := G.1.2.2.2.2.2.2.1 (by omega)
      omega
    · omega
  have hN : opN q (nI b) x3 x4 x5 x6 5 = ((amendS q.1.1 q.1.2 b i j x w, fixE q.1.2 i j x w), q.2) := by
    show (revN q.1.1 q.1.2 (nI b) x3 x4 x5 x6, q.2) = _
    unfold revN
    rw [if_pos hk9, ea, ei, ej, ex, hwN]
  have hV : dW q 5 (nI b) x3 x4 x5 x6 = amendR q.1.1 q.1.2 b i j x w := by
    refine (dv_0 hk).trans ?_
    show revV q.1.1 q.1.2 (nI b) x3 x4 x5 x6 = _
    unfold revV
    rw [ea, ei, ej, ex, hwN]
  have hval2 : dW q 5 (nI b) x3 x4 x5 x6 ≠ -2100000000 := by
    rw [show dW q 5 (nI b) x3 x4 x5 x6 = opX q (nI b) x3 x4 x5 x6 5 from dv_0 hk]
    exact hval
  have so : ∀ k, k ≠ 7 + b → amendS q.1.1 q.1.2 b i j x w k = q.1.1 k := fun k hk => up1_off _ _ hk
  have ix2 : ∀ c, c < 2 → isIx (nI c) 2 = true := fun c hc => isIx_nI (by omega) hc
  have hnow : nowF (amendS q.1.1 q.1.2 b i j x w) (fixE q.1.2 i j x w) = nowF q.1.1 (fixE q.1.2 i j x w) := by
    unfold nowF
    rw [so 2 (by omega), so 1 (by omega)]
  have pts : ∀ c, c < 2 → dW ((amendS q.1.1 q.1.2 b i j x w, fixE q.1.2 i j x w), q.2) 16 (nI c) 0 0 0 0 = nI (nowF q.1.1 (fixE q.1.2 i j x w) (104 + c)) := by
    intro c hc
    refine (dv_0 (view_0.mpr ⟨ix2 c hc, ?_⟩)).trans ?_
    · show amendS _ _ _ _ _ _ _ 0 = 1
      rw [so 0 (by omega)]; exact hs0
    · show nI (nowF (amendS q.1.1 q.1.2 b i j x w) (fixE q.1.2 i j x w) (104 + (nI c).toNatClampNeg)) = _
      rw [hnow, ccl (by omega)]
  have pts0 : ∀ c, c < 2 → dW q 16 (nI c) 0 0 0 0 = nI (nowF q.1.1 q.1.2 (104 + c)) := by
    intro c hc
    refine (dv_0 (view_0.mpr ⟨ix2 c hc, hs0⟩)).trans ?_
    show nI (nowF q.1.1 q.1.2 (104 + (nI c).toNatClampNeg)) = _
    rw [ccl (by omega)]
  refine ⟨⟨?_, ?_, ?_⟩, hval2, ?_, ?_⟩
  · refine (dv_0 (falls_iff.mpr r2)).trans ?_
    show fallsV q.1.1 q.1.2 x3 x4 x5 x6 = -1
    by_cases z : fallsV q.1.1 q.1.2 x3 x4 x5 x6 = -1
    · exact z
    · exact (r3 (Or.inr (Or.inr z))).elim
  · refine (dv_0 (view_0.mpr ⟨ix2 b hb, hs0⟩)).trans ?_
    show bI (decide (q.1.1 (7 + (nI b).toNatClampNeg) = 0)) = 1
    rw [ea, decide_eq_true h7]
    rfl
  · rw [hN]
    refine (dv_0 (view_0.mpr ⟨by decide, ?_⟩)).trans ?_
    · show amendS _ _ _ _ _ _ _ 0 = 1
      rw [so 0 (by omega)]; exact hs0
    · show nI (amendS q.1.1 q.1.2 b i j x w 1) = 0
      rw [so 1 (by omega), h1]
      rfl
  · rw [hN, nI_other b hb, pts b hb, pts (1 - b) (by omega), pts0 b hb, pts0 (1 - b) (by omega), hV]
    unfold amendR
    rw [Int32.add_comm, Int32.sub_add_cancel]
  · rw [hN, hV]
    refine (dv_0 (view_0.mpr ⟨ix2 b hb, ?_⟩)).trans ?_
    · show amendS _ _ _ _ _ _ _ 0 = 1
      rw [so 0 (by omega)]; exact hs0
    · show bI (decide (amendS q.1.1 q.1.2 b i j x w (7 + (nI b).toNatClampNeg) = 0)) = _
      rw [ea]
      unfold amendS
      rw [up1_at]
      by_cases z : amendR q.1.1 q.1.2 b i j x w ≤ 0
      · have z2 : ¬ 0 < amendR q.1.1 q.1.2 b i j x w := by rw [i_lt]; rw [i_le] at z; omega
        rw [if_neg z2, if_pos z]
        rfl
      · have z2 : 0 < amendR q.1.1 q.1.2 b i j x w := by rw [i_lt]; rw [i_le] at z; omega
        rw [if_pos z2, if_neg z]
        rfl
theorem fore_not (G : GX m q) {a : Nat} (ha : a < 2) (hk : opK q (nI a) x3 x4 x5 x6 5 ≠ 0) (h1 : dW q 6 x3 x4 x5 x6 0 = -1) (h2 : dW q 18 (nI a) 0 0 0 0 = 1) (h3 : dW q 17 3 0 0 0 0 = 0) : False := by
  refine hk (show revK q.1.1 q.1.2 (nI a) x3 x4 x5 x6 = 0 from rev_iff.mpr ?_)
  have ea : (nI a).toNatClampNeg = a := ccl (by omega)
  have f0 : fallsK q.1.1 q.1.2 x3 x4 x5 x6 = 0 := by
    by_cases z : fallsK q.1.1 q.1.2 x3 x4 x5 x6 = 0
    · exact z
    · rw [show dW q 6 x3 x4 x5 x6 0 = -2100000000 from dv_n z] at h1
      exact absurd h1 (by decide)
  rw [show dW q 6 x3 x4 x5 x6 0 = fallsV q.1.1 q.1.2 x3 x4 x5 x6 from dv_0 f0] at h1
  refine ⟨isIx_nI (by omega) ha, falls_iff.mp f0, ?_⟩
  rw [ea]
  rintro (z | z | z)
  · have v3 : viewK q.1.1 (isIx 3 8) = 0 := by
      by_cases y : viewK q.1.1 (isIx 3 8) = 0
      · exact y
      · rw [show dW q 17 3 0 0 0 0 = -2100000000 from dv_n y] at h3
        exact absurd h3 (by decide)
    rw [show dW q 17 3 0 0 0 0 = nI (q.1.1 1) from dv_0 v3, z] at h3
    exact absurd h3 (by decide)
  · have v3 : viewK q.1.1 (isIx (nI a) 2) = 0 := by
      by_cases y : viewK q.1.1 (isIx (nI a) 2) = 0
      · exact y
      · rw [show dW q 18 (nI a) 0 0 0 0 = -2100000000 from dv_n y] at h2
        exact absurd h2 (by decide)
    rw [show dW q 18 (nI a) 0 0 0 0 = bI (decide (q.1.1 (7 + (nI a).toNatClampNeg) = 0)) from dv_0 v3, ea, z] at h2
    exact absurd h2 (by decide)
  · exact z h1
theorem fore_44 (G : GX m q) (hm : m ≤ 1900) (hR : ∀ a b c d e, R 1 (opN q a b c d e 5, opN q a b c d e 5)) : lF_isForetold_44 v x3 x4 x5 x6 q q 20 R := by
  unfold lF_isForetold_44
  obtain ⟨a, ha, eA⟩ := and_1 (v >>> ((2 : Int32) &&& 31))
  rw [eA]
  by_cases hk : opK q (nI a) x3 x4 x5 x6 5 = 0
  · obtain ⟨⟨c1, c2, c3⟩, ht, hp, hh⟩ := fore_made G hm ha hk
    refine ⟨by omega, fun z => (z c1).elim, fun _ => ⟨fun z => (z c2).elim, fun _ => ⟨fun z => (z c3).elim, fun _ => ?_⟩⟩⟩
    refine ⟨Nat.zero_le _, fun z => (ht z).elim, fun _ => ⟨by omega, fun z => absurd rfl z, fun _ => ⟨fun z => (ht z).elim, fun _ => ⟨fun z => (z hp).elim, fun _ => ⟨fun z => ?_, fun z => ?_⟩⟩⟩⟩⟩
    · rw [if_pos z] at hh
      exact ⟨Nat.zero_le _, fun y => (y hh).elim, fun _ => fore_245 hR (by omega)⟩
    · rw [if_neg z] at hh
      exact ⟨Nat.zero_le _, fun y => (y hh).elim, fun _ => fore_245 hR (by omega)⟩
  · have ht : dW q 5 (nI a) x3 x4 x5 x6 = -2100000000 := dv_n hk
    have hq := op_keep (q := q) (nI a) x3 x4 x5 x6 5 hk
    refine ⟨by omega, fun _ => fore_158 hR (by omega) ht, fun c1 => ⟨fun _ => fore_158 hR (by omega) ht, fun c2 => ⟨fun _ => fore_158 hR (by omega) ht, fun c3 => ?_⟩⟩⟩
    rw [hq] at c3
    exact (fore_not G ha hk c1 c2 c3).elim
theorem fore_F (G : GX m q) (hm : m ≤ 1900) (hR : ∀ a b c d e, R 1 (opN q a b c d e 5, opN q a b c d e 5)) : lF_isForetold v q q 20 R :=
  ⟨Nat.zero_le _, fun _ => fore_44 G hm hR, fun _ => fore_44 G hm hR⟩
end Fore
theorem GdH_5 (q : HS) (G : GdH q) (a b c d e : Int32) : GdH (opN q a b c d e 5) := ⟨Gd_revN G.1 a b c d e, G.2.1, G.2.2⟩
theorem fore_ct {T : pT} {X : Mem} {q : HS} {B : pM} {m : Nat} (v : Int32) (hT : okT T 0) (hT4 : okT T 405) (G : GX m q) (hm : m ≤ 1900) (hB : P2 T X (q, q) B) : CT mL_isForetold [.ref 0, .ref 405, .int v] B (fun r B' => r = some (.int 1) ∧ ∃ a b c d e, P2 T X (opN q a b c d e 5, opN q a b c d e 5) B') NXl := by
  have GH := GX_H G (by omega)
  have hW := lv_isForetold hT hT4 GdH_5 (v := v) (X := X) q q GH GH 20 (fore_F G hm (R := fun x s => x = 1 ∧ ∃ a b c d e, s = (opN q a b c d e 5, opN q a b c d e 5)) (fun a b c d e => ⟨rfl, a, b, c, d, e, rfl⟩)) B hB
  refine ct_mono (ct_of pL_isForetold (fun _ _ => rfl) (show 3 ≤ 14 by decide) hW) (fun r B' hr => ?_) (fun _ _ z => z)
  obtain ⟨x, s, rfl, ⟨rfl, a, b, c, d, e, rfl⟩, hP⟩ := hr
  exact ⟨rfl, a, b, c, d, e, hP⟩
