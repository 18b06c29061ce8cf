/-! a match is in order -/
theorem bits_pos {σ : Sg} {a : Nat} : ∀ n, 1 ≤ cntTo σ a 0 0 n → 1 ≤ bitsTo σ a n
  | 0, h => absurd h (by unfold cntTo; omega)
  | n + 1, h => by
    unfold cntTo at h
    by_cases z : σ (10 * a + n) = 0
    · unfold bitsTo
      rw [if_pos z]
      have : 1 ≤ 2 ^ n := Nat.one_le_two_pow
      omega
    · rw [if_neg (by omega)] at h
      rw [bitsTo_n z]
      exact bits_pos n (by omega)
/-- those in the row, bit by bit -/
def lstTo (σ : Sg) (a : Nat) : Nat → Nat
  | 0 => 0
  | n + 1 => lstTo σ a n ||| 2 ^ σ (80 + 10 * a + n)
theorem lst_bit {σ : Sg} {a : Nat} : ∀ n j, (lstTo σ a n).testBit j = true → ∃ i, i < n ∧ σ (80 + 10 * a + i) = j
  | 0, j, h => by simp [lstTo] at h
  | n + 1, j, h => by
    unfold lstTo at h
    rw [Nat.testBit_or, Bool.or_eq_true, Nat.testBit_two_pow, decide_eq_true_eq] at h
    rcases h with h | h
    · obtain ⟨i, h1, h2⟩ := lst_bit n j h
      exact ⟨i, by omega, h2⟩
    · exact ⟨n, by omega, h⟩
theorem lst_lt {σ : Sg} {a : Nat} : ∀ n, (∀ i, i < n → σ (80 + 10 * a + i) < 10) → lstTo σ a n < 1024
  | 0, _ => by unfold lstTo; decide
  | n + 1, h => by
    unfold lstTo
    have h1 := lst_lt n (fun i hi => h i (by omega))
    have h2 : 2 ^ σ (80 + 10 * a + n) < 2 ^ 10 := Nat.pow_lt_pow_right (by decide) (h n (by omega))
    exact Nat.or_lt_two_pow (n := 10) h1 h2
theorem and_bit : ∀ r, r < 10 → ∀ L, L < 1024 → Nat.testBit L r = false → nI L &&& ((1 : Int32) <<< (nI r &&& 31)) = 0 := by decide +kernel
theorem or_bit2 : ∀ r, r < 10 → ∀ L, L < 1024 → nI L ||| ((1 : Int32) <<< (nI r &&& 31)) = nI (L ||| 2 ^ r) := by decide +kernel
theorem isF {b : Bool} (h : ¬ b = true) : b = false := by cases b <;> simp_all
section Ord
variable {m : Nat} {q : HS} {R : Int32 → HS → Prop} {a r : Nat}
theorem v2_0 (h0 : q.1.1 0 = 1) {b : Bool} (hb : b = true) : viewK q.1.1 b = 0 := view_0.mpr ⟨hb, h0⟩
theorem ix_t {k n : Nat} (hn : n < 2147483648) (h : k < n) : isIx (nI k) n = true := isIx_nI hn h
theorem ord_pl (h0 : q.1.1 0 = 1) (ha : a < 2) {i : Nat} (hi : i < 10) : opK q (nI a) (nI i) 0 0 0 13 = 0 ∧ opX q (nI a) (nI i) 0 0 0 13 = nI (nowF q.1.1 q.1.2 (10 * a + i)) := by
  refine ⟨v2_0 h0 ?_, ?_⟩
  · rw [ix_t (by omega) ha, ix_t (by omega) hi]; rfl
  · show nI (nowF q.1.1 q.1.2 (10 * (nI a).toNatClampNeg + (nI i).toNatClampNeg)) = _
    rw [ccl (by omega), ccl (by omega)]
theorem ord_rp (h0 : q.1.1 0 = 1) (ha : a < 2) {i : Nat} (hi : i < 10) : opK q (nI a) (nI i) 0 0 0 22 = 0 ∧ opX q (nI a) (nI i) 0 0 0 22 = nI (nowF q.1.1 q.1.2 (60 + 10 * a + i)) := by
  refine ⟨v2_0 h0 ?_, ?_⟩
  · rw [ix_t (by omega) ha, ix_t (by omega) hi]; rfl
  · show nI (nowF q.1.1 q.1.2 (60 + 10 * (nI a).toNatClampNeg + (nI i).toNatClampNeg)) = _
    rw [ccl (by omega), ccl (by omega)]
theorem ord_out (h0 : q.1.1 0 = 1) (ha : a < 2) {i : Nat} (hi : i < 1000) : opK q (nI a) (nI i) 0 0 0 14 = 0 ∧ opX q (nI a) (nI i) 0 0 0 14 = if i < nowF q.1.1 q.1.2 (100 + a) ∧ nowF q.1.1 q.1.2 (100 + a) < 1000 then nI (nowF q.1.1 q.1.2 (80 + 10 * a + i)) else outV q.1.1 q.1.2 a (nI i) := by
  refine ⟨v2_0 h0 ?_, ?_⟩
  · rw [ix_t (by omega) ha, decide_eq_false]
    · rfl
    · rw [i_lt, nI_toInt (by omega)]
      show ¬ (i : Int) < 0
      omega
  · show outV q.1.1 q.1.2 (nI a).toNatClampNeg (nI i) = _
    rw [ccl (by omega)]
    by_cases z : i < nowF q.1.1 q.1.2 (100 + a) ∧ nowF q.1.1 q.1.2 (100 + a) < 1000
    · rw [if_pos z]
      unfold outV
      rw [if_pos (ix_t (by omega) z.1), ccl (by omega)]
    · rw [if_neg z]
theorem ord_pt (h0 : q.1.1 0 = 1) (ha : a < 2) : opK q (nI a) 0 0 0 0 16 = 0 ∧ opX q (nI a) 0 0 0 0 16 = nI (nowF q.1.1 q.1.2 (104 + a)) := by
  refine ⟨v2_0 h0 (ix_t (by omega) ha), ?_⟩
  show nI (nowF q.1.1 q.1.2 (104 + (nI a).toNatClampNeg)) = _
  rw [ccl (by omega)]
theorem ord_af (G : GX m q) (ha : a < 2) {k : Nat} (hk : k < q.1.1 2 - q.1.1 1) : (opK q (nI k) (nI a) 0 0 0 19 = 0 ∧ opK q (nI k) (nI a) 0 0 0 20 = 0 ∧ opK q (nI k) (nI a) 0 0 0 21 = 0) ∧ opX q (nI k) (nI a) 0 0 0 19 = nI (bits (runE q.1.2 (k + 1)) a) ∧ opX q (nI k) (nI a) 0 0 0 20 = nI (bits (runE q.1.2 (k + 1)) a) ∧ opX q (nI k) (nI a) 0 0 0 21 = nI (runE q.1.2 (k + 1) (104 + a)) := by
  have g2 := G.1.2.2.1
  have e : endK q.1.1 (nI k) (nI a) = 0 := ek_0 (ix_t (by omega) hk) (ix_t (by omega) ha)
  refine ⟨⟨e, e, e⟩, ?_, ?_, ?_⟩
  · show nI (bits (runE q.1.2 ((nI k).toNatClampNeg + 1)) (nI a).toNatClampNeg) = _
    rw [ccl (by omega), ccl (by omega)]
  · show nI (bits (runE q.1.2 ((nI k).toNatClampNeg + 1)) (nI a).toNatClampNeg) = _
    rw [ccl (by omega), ccl (by omega)]
  · show nI (runE q.1.2 ((nI k).toNatClampNeg + 1) (104 + (nI a).toNatClampNeg)) = _
    rw [ccl (by omega), ccl (by omega)]
theorem run_le (G : GX m q) {k j : Nat} (hk : k ≤ q.1.1 2 - q.1.1 1) (hj : j < 110) : runE q.1.2 k j ≤ 1000000 := by
  have g2 := G.1.2.2.1
  have := (run_ok (E := q.1.2) (n := k) (fun i hi => Gd_ok G.1 i (by omega))).2.1 j hj
  omega
theorem nI_pre {k : Nat} (h : 1 ≤ k) : nI k - 1 = nI (k - 1) := nI_sub (b := 1) h
theorem ord_341 (G : GX m q) (ha : a < 2) {K32 : Int32 → Int32 → Int32 → Nat → Prop} {e : Nat} (he : e = q.1.1 2 - q.1.1 1) (hK : ∀ n, r ≤ n → K32 1 (nI e) (nI (a + 1)) n) {n : Nat} (hn : 4 * e + 4 + r ≤ n) : lF_isInOrder_341 q K32 1 (nI e) (nI a) 0 n R := by
  have g2 := G.1.2.2.1
  refine ⟨fun m x1 x2 x3 x10 => x1 = 1 ∧ x2 = nI e ∧ x3 = nI a ∧ ∃ k, k ≤ e ∧ x10 = nI k ∧ 4 * (e - k) + 4 + r ≤ m, ⟨n, Nat.le_refl _, rfl, rfl, rfl, 0, by omega, rfl, by omega⟩, ?_⟩
  rintro m9 x1 x2 x3 x10 ⟨rfl, rfl, rfl, k, hk, rfl, hm⟩
  refine ⟨by omega, fun _ => ⟨Nat.zero_le _, ?_⟩, fun c => ⟨fun z => absurd z (by decide), fun _ => ?_⟩⟩
  · rw [nI_inc]
    exact hK _ (by omega)
  · have c2 : k < e := lpL (n := e) (by omega) hk c
    obtain ⟨⟨k1, k2, k3⟩, x1, x2, x3⟩ := ord_af G ha (k := k) (by omega)
    refine ⟨k1, k2, fun z => (z (x1.trans x2.symm)).elim, fun _ => ⟨fun z => ?_, fun z => ?_⟩⟩
    · refine ⟨Nat.zero_le _, Nat.zero_le _, m9 - 4, by omega, by omega, rfl, rfl, rfl, k + 1, by omega, nI_inc k, by omega⟩
    · have hk0 : 1 ≤ k := by
        rcases Nat.lt_or_ge k 1 with y | y
        · exact (z (by rw [show k = 0 by omega]; rfl)).elim
        · exact y
      rw [nI_pre hk0]
      obtain ⟨⟨j1, j2, j3⟩, y1, y2, y3⟩ := ord_af G ha (k := k - 1) (by omega)
      refine ⟨k3, j3, fun y => ?_, fun _ => ⟨Nat.zero_le _, Nat.zero_le _, m9 - 4, by omega, by omega, rfl, rfl, rfl, k + 1, by omega, nI_inc k, by omega⟩⟩
      exfalso
      rw [x3, y3, show k - 1 + 1 = k by omega] at y
      have hm1 := run_mono (E := q.1.2) (n := k) (a := a) (fun i hi => Gd_ok G.1 i (by omega)) ha
      have b1 := run_le G (k := k) (j := 104 + a) (by omega) (by omega)
      have b2 := run_le G (k := k + 1) (j := 104 + a) (by omega) (by omega)
      rw [clt (by omega) (by omega)] at y
      omega
theorem ord_332 (G : GX m q) (ha : a < 2) {K32 : Int32 → Int32 → Int32 → Nat → Prop} {e : Nat} (he : e = q.1.1 2 - q.1.1 1) (hK : ∀ n, r ≤ n → K32 1 (nI e) (nI (a + 1)) n) {n : Nat} (hn : 4 * e + 4 + r ≤ n) : lF_isInOrder_332 q K32 (nI e) (nI a) n R := ⟨Nat.zero_le _, Nat.zero_le _, ord_341 G ha he hK hn⟩
theorem ord_294 (G : GX m q) (h0 : q.1.1 0 = 1) (ha : a < 2) {K32 : Int32 → Int32 → Int32 → Nat → Prop} {e : Nat} (he : e = q.1.1 2 - q.1.1 1) (hK : ∀ n, r ≤ n → K32 1 (nI e) (nI (a + 1)) n) {n : Nat} (hn : 4 * e + 4 + r + 3 ≤ n) : lF_isInOrder_294 q K32 (nI e) (nI a) (nI (bits (nowF q.1.1 q.1.2) a)) 1 n R := by
  have g2 := G.1.2.2.1
  refine ⟨by omega, fun z => absurd z (by decide), fun _ => ⟨fun _ => ord_332 G ha he hK (by omega), fun z => ?_⟩⟩
  have he0 : 1 ≤ e := by
    rcases Nat.lt_or_ge e 1 with y | y
    · exact (z (by rw [show e = 0 by omega]; rfl)).elim
    · exact y
  rw [nI_pre he0]
  obtain ⟨⟨j1, j2, j3⟩, y1, y2, y3⟩ := ord_af G ha (k := e - 1) (by omega)
  have hr : runE q.1.2 (e - 1 + 1) = nowF q.1.1 q.1.2 := by unfold nowF; rw [← he, show e - 1 + 1 = e by omega]
  rw [hr] at y1 y3
  obtain ⟨p1, p2⟩ := ord_pt h0 ha
  exact ⟨j1, fun z => (z y1).elim, fun _ => ⟨j3, p1, fun z => (z (y3.trans p2.symm)).elim, fun _ => ord_332 G ha he hK (by omega)⟩⟩
theorem ord_234 (G : GX m q) (h0 : q.1.1 0 = 1) (ha : a < 2) {K32 : Int32 → Int32 → Int32 → Nat → Prop} {e : Nat} (he : e = q.1.1 2 - q.1.1 1) (hK : ∀ n, r ≤ n → K32 1 (nI e) (nI (a + 1)) n) {n : Nat} (hn : 4 * e + 4 + r + 7 ≤ n) : lF_isInOrder_234 q K32 1 (nI e) (nI a) (nI (bits (nowF q.1.1 q.1.2) a)) (nI (cnt (nowF q.1.1 q.1.2) a 2 2)) (nI (cnt (nowF q.1.1 q.1.2) a 3 4)) (nI (sumM (nowF q.1.1 q.1.2) a)) 0 n R := by
  obtain ⟨w, hb, -, -⟩ := Gd_run G.1
  have M := MI_run (Gd_ok G.1) a ha
  have M : cnt (nowF q.1.1 q.1.2) a 3 4 ≤ 3 ∧ 1 ≤ cnt (nowF q.1.1 q.1.2) a 0 0 ∧ sumM (nowF q.1.1 q.1.2) a ≤ nowF q.1.1 q.1.2 (104 + a) := M
  have wS := wfM_at w ha
  have hm := wfS_m wS
  have hc2 := wS.2.1
  have hpt := hb (104 + a) (by omega)
  rw [← hc2]
  obtain ⟨o1, o2⟩ := ord_out h0 ha (i := nowF q.1.1 q.1.2 (100 + a)) (by omega)
  rw [if_neg (by omega)] at o2
  have o3 : outV q.1.1 q.1.2 a (nI (nowF q.1.1 q.1.2 (100 + a))) = -1 := by
    unfold outV
    rw [if_neg]
    intro z
    obtain ⟨j, hj, hj2⟩ := isIx_ex (by omega) z
    rw [ceq (by omega) (by omega)] at hj2
    omega
  have z1 : opK q (nI a) 0 0 0 0 15 = 0 := v2_0 h0 (ix_t (by omega) ha)
  have z2 := ord_out h0 ha (i := 0) (by omega)
  have z3 : opX q (nI a) 0 0 0 0 15 = opX q (nI a) 0 0 0 0 14 := rfl
  obtain ⟨p1, p2⟩ := ord_pt h0 ha
  have hbit := bits_pos 10 M.2.1
  have hbl := bitsTo_lt (nowF q.1.1 q.1.2) a 10
  refine ⟨by omega, fun z => absurd z (by decide), fun _ => ⟨fun z => absurd rfl z, fun _ => ⟨o1, fun z => (z (o2.trans o3)).elim, fun _ => ⟨z1, z2.1, fun z => (z z3).elim, fun _ => ⟨fun z => ?_, fun _ => ⟨p1, fun z => ?_, fun _ => ⟨fun z => ?_, fun _ => ord_294 G h0 ha he hK (by omega)⟩⟩⟩⟩⟩⟩⟩
  · exfalso
    rw [show (3 : Int32) = nI 3 from rfl, clt (by omega) (by omega)] at z
    omega
  · exfalso
    rw [p2, clt (by omega) (by omega)] at z
    omega
  · exfalso
    rw [show (0 : Int32) = nI 0 from rfl] at z
    unfold bits at z
    rw [cle (by omega) (by omega)] at z
    omega
theorem ord_149 (G : GX m q) (h0 : q.1.1 0 = 1) (ha : a < 2) {K32 : Int32 → Int32 → Int32 → Nat → Prop} {e : Nat} (he : e = q.1.1 2 - q.1.1 1) (hK : ∀ n, r ≤ n → K32 1 (nI e) (nI (a + 1)) n) {n : Nat} (hn : 4 * e + 4 + r + 29 ≤ n) : lF_isInOrder_149 q K32 1 (nI e) (nI a) (nI (bits (nowF q.1.1 q.1.2) a)) (nI (cnt (nowF q.1.1 q.1.2) a 2 2)) (nI (cnt (nowF q.1.1 q.1.2) a 3 4)) (nI (sumM (nowF q.1.1 q.1.2) a)) 0 0 0 n R := by
  obtain ⟨w, hb, -, -⟩ := Gd_run G.1
  have wS := wfM_at w ha
  have hmm := wfS_m wS
  have hc2 := wS.2.1
  have hrow := wS.2.2.1
  have hdis := wS.2.2.2.1
  refine ⟨fun m x1 x2 x3 x4 x5 x6 x7 x8 x9 x10 => x1 = 1 ∧ x2 = nI e ∧ x3 = nI a ∧ x4 = nI (bits (nowF q.1.1 q.1.2) a) ∧ x5 = nI (cnt (nowF q.1.1 q.1.2) a 2 2) ∧ x6 = nI (cnt (nowF q.1.1 q.1.2) a 3 4) ∧ x7 = nI (sumM (nowF q.1.1 q.1.2) a) ∧ x9 = 0 ∧ ∃ k, k ≤ cnt (nowF q.1.1 q.1.2) a 2 2 ∧ x8 = nI (lstTo (nowF q.1.1 q.1.2) a k) ∧ x10 = nI k ∧ 2 * (cnt (nowF q.1.1 q.1.2) a 2 2 - k) + 2 + (4 * e + 4 + r + 7) ≤ m, ⟨n, Nat.le_refl _, rfl, rfl, rfl, rfl, rfl, rfl, rfl, rfl, 0, by omega, rfl, rfl, by omega⟩, ?_⟩
  rintro m9 x1 x2 x3 x4 x5 x6 x7 x8 x9 x10 ⟨rfl, rfl, rfl, rfl, rfl, rfl, rfl, rfl, k, hk, rfl, rfl, hm⟩
  refine ⟨by omega, fun _ => ord_234 G h0 ha he hK (by omega), fun c => ⟨fun z => absurd z (by decide), fun _ => ?_⟩⟩
  have c2 : k < cnt (nowF q.1.1 q.1.2) a 2 2 := lpL (by omega) hk c
  obtain ⟨o1, o2⟩ := ord_out h0 ha (i := k) (by omega)
  rw [if_pos (by omega)] at o2
  obtain ⟨r1, r2⟩ := hrow k (by omega)
  obtain ⟨p1, p2⟩ := ord_pl h0 ha (i := nowF q.1.1 q.1.2 (80 + 10 * a + k)) r1
  rw [r2] at p2
  rw [o2]
  have hl := lst_lt (σ := nowF q.1.1 q.1.2) (a := a) k (fun i hi => (hrow i (by omega)).1)
  have hnb : (lstTo (nowF q.1.1 q.1.2) a k).testBit (nowF q.1.1 q.1.2 (80 + 10 * a + k)) = false := isF (fun z => by
    obtain ⟨i, hi1, hi2⟩ := lst_bit k _ z
    exact hdis i k hi1 (by omega) hi2)
  have ea := and_bit _ r1 _ hl hnb
  have eo := or_bit2 _ r1 _ hl
  refine ⟨o1, fun z => ?_, fun _ => ⟨p1, fun z => (z p2).elim, fun _ => ⟨Nat.zero_le _, fun z => absurd z (by decide), fun _ => ⟨Nat.zero_le _, fun z => absurd z (by decide), fun _ => ⟨Nat.zero_le _, ?_⟩⟩⟩⟩⟩
  · exfalso
    rw [show (0 : Int32) = nI 0 from rfl, clt (by omega) (by omega)] at z
    omega
  · refine ⟨m9 - 2, by omega, by omega, rfl, rfl, rfl, rfl, rfl, rfl, rfl, ?_, k + 1, by omega, ?_, nI_inc k, by omega⟩
    · rw [ea]; rfl
    · exact eo
theorem ord_56 (G : GX m q) (h0 : q.1.1 0 = 1) (ha : a < 2) {K32 : Int32 → Int32 → Int32 → Nat → Prop} {e : Nat} (he : e = q.1.1 2 - q.1.1 1) (hK : ∀ n, r ≤ n → K32 1 (nI e) (nI (a + 1)) n) {n : Nat} (hn : 4 * e + 4 + r + 51 ≤ n) : lF_isInOrder_56 q K32 1 (nI e) (nI a) 0 0 0 0 0 n R := by
  obtain ⟨w, hb, -, -⟩ := Gd_run G.1
  have wS := wfM_at w ha
  have h4 := wS.1
  refine ⟨fun m x1 x2 x3 x4 x5 x6 x7 x8 => x1 = 1 ∧ x2 = nI e ∧ x3 = nI a ∧ ∃ k, k ≤ 10 ∧ x4 = nI (bitsTo (nowF q.1.1 q.1.2) a k) ∧ x5 = nI (cntTo (nowF q.1.1 q.1.2) a 2 2 k) ∧ x6 = nI (cntTo (nowF q.1.1 q.1.2) a 3 4 k) ∧ x7 = nI (sumTo (nowF q.1.1 q.1.2) a k) ∧ x8 = nI k ∧ 2 * (10 - k) + 2 + (4 * e + 4 + r + 29) ≤ m, ⟨n, Nat.le_refl _, rfl, rfl, rfl, 0, by omega, rfl, rfl, rfl, rfl, rfl, by omega⟩, ?_⟩
  rintro m9 x1 x2 x3 x4 x5 x6 x7 x8 ⟨rfl, rfl, rfl, k, hk, rfl, rfl, rfl, rfl, rfl, hm⟩
  refine ⟨by omega, fun c => ?_, fun c => ?_⟩
  · have hk10 : k = 10 := lpE (n := 10) (by omega) hk c
    subst hk10
    exact ord_149 G h0 ha he hK (by omega)
  · have c2 : k < 10 := lpL (n := 10) (by omega) hk c
    obtain ⟨p1, p2⟩ := ord_pl h0 ha (i := k) c2
    obtain ⟨d1, d2⟩ := ord_rp h0 ha (i := k) c2
    have hst := h4 k c2
    rw [p2]
    have fin : ∀ y4 y5 y6 : Int32, y4 = nI (bitsTo (nowF q.1.1 q.1.2) a (k + 1)) → y5 = nI (cntTo (nowF q.1.1 q.1.2) a 2 2 (k + 1)) → y6 = nI (cntTo (nowF q.1.1 q.1.2) a 3 4 (k + 1)) → ∃ m', m' ≤ m9 - 1 - 1 ∧ m' < m9 ∧ ((1 : Int32) = 1 ∧ nI e = nI e ∧ nI a = nI a ∧ ∃ k', k' ≤ 10 ∧ y4 = nI (bitsTo (nowF q.1.1 q.1.2) a k') ∧ y5 = nI (cntTo (nowF q.1.1 q.1.2) a 2 2 k') ∧ y6 = nI (cntTo (nowF q.1.1 q.1.2) a 3 4 k') ∧ nI (sumTo (nowF q.1.1 q.1.2) a k) + opX q (nI a) (nI k) 0 0 0 22 = nI (sumTo (nowF q.1.1 q.1.2) a k') ∧ nI k + 1 = nI k' ∧ 2 * (10 - k') + 2 + (4 * e + 4 + r + 29) ≤ m') := by
      intro y4 y5 y6 e4 e5 e6
      refine ⟨m9 - 2, by omega, by omega, rfl, rfl, rfl, k + 1, by omega, e4, e5, e6, ?_, nI_inc k, by omega⟩
      rw [d2]
      exact (Int32.ofNat_add _ _).symm
    have c22 : ∀ z : Nat, cntTo (nowF q.1.1 q.1.2) a 2 2 (k + 1) = cntTo (nowF q.1.1 q.1.2) a 2 2 k + z → nI (cntTo (nowF q.1.1 q.1.2) a 2 2 k) + nI z = nI (cntTo (nowF q.1.1 q.1.2) a 2 2 (k + 1)) := fun z hz => by rw [hz]; exact (Int32.ofNat_add _ _).symm
    have c34 : ∀ z : Nat, cntTo (nowF q.1.1 q.1.2) a 3 4 (k + 1) = cntTo (nowF q.1.1 q.1.2) a 3 4 k + z → nI (cntTo (nowF q.1.1 q.1.2) a 3 4 k) + nI z = nI (cntTo (nowF q.1.1 q.1.2) a 3 4 (k + 1)) := fun z hz => by rw [hz]; exact (Int32.ofNat_add _ _).symm
    have go : ∀ y4 : Int32, y4 = nI (bitsTo (nowF q.1.1 q.1.2) a (k + 1)) → ∀ (s0 s1 : Int32), s1 ||| s0 = y4 → lF_isInOrder_87 q K32 (fun x1 x2 x3 x4 x5 x6 x7 x8 m' => ∃ m9', m9' ≤ m' ∧ m9' < m9 ∧ (x1 = 1 ∧ x2 = nI e ∧ x3 = nI a ∧ ∃ k, k ≤ 10 ∧ x4 = nI (bitsTo (nowF q.1.1 q.1.2) a k) ∧ x5 = nI (cntTo (nowF q.1.1 q.1.2) a 2 2 k) ∧ x6 = nI (cntTo (nowF q.1.1 q.1.2) a 3 4 k) ∧ x7 = nI (sumTo (nowF q.1.1 q.1.2) a k) ∧ x8 = nI k ∧ 2 * (10 - k) + 2 + (4 * e + 4 + r + 29) ≤ m9')) 1 (nI e) (nI a) (nI (cntTo (nowF q.1.1 q.1.2) a 2 2 k)) (nI (cntTo (nowF q.1.1 q.1.2) a 3 4 k)) (nI (sumTo (nowF q.1.1 q.1.2) a k)) (nI k) (nI (nowF q.1.1 q.1.2 (10 * a + k))) s0 s1 (m9 - 1) R := by
      intro y4 e4 s0 s1 e01
      have st2 : ∀ y5 : Int32, y5 = nI (cntTo (nowF q.1.1 q.1.2) a 2 2 (k + 1)) → ∀ t0 t1 : Int32, t1 + t0 = y5 → lF_isInOrder_103 q K32 (fun x1 x2 x3 x4 x5 x6 x7 x8 m' => ∃ m9', m9' ≤ m' ∧ m9' < m9 ∧ (x1 = 1 ∧ x2 = nI e ∧ x3 = nI a ∧ ∃ k, k ≤ 10 ∧ x4 = nI (bitsTo (nowF q.1.1 q.1.2) a k) ∧ x5 = nI (cntTo (nowF q.1.1 q.1.2) a 2 2 k) ∧ x6 = nI (cntTo (nowF q.1.1 q.1.2) a 3 4 k) ∧ x7 = nI (sumTo (nowF q.1.1 q.1.2) a k) ∧ x8 = nI k ∧ 2 * (10 - k) + 2 + (4 * e + 4 + r + 29) ≤ m9')) 1 (nI e) (nI a) (s1 ||| s0) (nI (cntTo (nowF q.1.1 q.1.2) a 3 4 k)) (nI (sumTo (nowF q.1.1 q.1.2) a k)) (nI k) (nI (nowF q.1.1 q.1.2 (10 * a + k))) t0 t1 (m9 - 1) R := by
        intro y5 e5 t0 t1 et
        rw [e01]
        refine ⟨Nat.zero_le _, fun z => ?_, fun z => ?_⟩
        · rw [et]
          rw [show (2 : Int32) = nI 2 from rfl, cle (by omega) (by omega)] at z
          refine ⟨by omega, d1, fin _ _ _ e4 e5 (c34 0 ?_)⟩
          show cntTo _ _ _ _ k + _ = _
          rw [if_neg (by omega)]
        · rw [et]
          rw [show (2 : Int32) = nI 2 from rfl, cle (by omega) (by omega)] at z
          refine ⟨by omega, d1, fin _ _ _ e4 e5 (c34 1 ?_)⟩
          show cntTo _ _ _ _ k + _ = _
          rw [if_pos (by omega)]
      refine ⟨Nat.zero_le _, fun z => st2 _ (c22 0 ?_) 0 _ rfl, fun z => st2 _ (c22 1 ?_) 1 _ rfl⟩
      · rw [show (2 : Int32) = nI 2 from rfl, ceq (by omega) (by omega)] at z
        show cntTo _ _ _ _ k + _ = _
        rw [if_neg (by omega)]
      · rw [show (2 : Int32) = nI 2 from rfl, ceq (by omega) (by omega)] at z
        show cntTo _ _ _ _ k + _ = _
        rw [if_pos (by omega)]
    refine ⟨p1, fun z => ?_, fun z => ?_⟩
    · rw [show (0 : Int32) = nI 0 from rfl, ceq (by omega) (by omega)] at z
      refine go _ rfl 0 _ ?_
      rw [bitsTo_n z]
      exact Int32.or_zero
    · rw [show (0 : Int32) = nI 0 from rfl, ceq (by omega) (by omega)] at z
      exact go _ rfl _ _ (bitsTo_y c2 z)
theorem ord_F (G : GX m q) (hR : R 1 q) : lF_isInOrder q 700 R := by
  have g2 := G.1.2.2.1
  have g3 := G.1.2.2.2.1
  refine ⟨by omega, fun z => ?_, fun _ => hR⟩
  have h0 : q.1.1 0 = 1 := by
    by_cases y : viewK q.1.1 (isIx 0 8) = 0
    · exact (view_0.mp y).2
    · rw [show dW q 17 0 0 0 0 0 = -2100000000 from dv_n y] at z
      exact absurd z (by decide)
  have k2 : opK q 2 0 0 0 0 17 = 0 := v2_0 h0 (by decide)
  have k3 : opK q 3 0 0 0 0 17 = 0 := v2_0 h0 (by decide)
  have k1 : opK q 1 0 0 0 0 17 = 0 := v2_0 h0 (by decide)
  refine ⟨k2, k3, ?_⟩
  have e2 : opX q 2 0 0 0 0 17 - opX q 3 0 0 0 0 17 = nI (q.1.1 2 - q.1.1 1) := nI_sub g3
  rw [e2]
  have e1 : opX q 1 0 0 0 0 17 = nI (turnF (nowF q.1.1 q.1.2)) := rfl
  have ht := turnF_lt (nowF q.1.1 q.1.2)
  have fin : ∀ n, 2 ≤ n → lF_isInOrder_410 q 1 n R := fun n hn => ⟨hn, fun z => absurd z (by decide), fun _ => ⟨k1, fun z => by
      exfalso
      rw [e1, show (0 : Int32) = nI 0 from rfl, clt (by omega) (by omega)] at z
      omega, fun _ => ⟨k1, fun z => by
      exfalso
      rw [e1, show (2 : Int32) = nI 2 from rfl, cle (by omega) (by omega)] at z
      omega, fun _ => hR⟩⟩⟩
  refine ⟨fun m x1 x2 x3 => x1 = 1 ∧ x2 = nI (q.1.1 2 - q.1.1 1) ∧ ∃ a, a ≤ 2 ∧ x3 = nI a ∧ 300 * (2 - a) + 4 ≤ m, ⟨697, by omega, rfl, rfl, 0, by omega, rfl, by omega⟩, ?_⟩
  rintro m9 x1 x2 x3 ⟨rfl, rfl, a, ha, rfl, hm⟩
  refine ⟨Nat.zero_le _, fun _ => fin _ (by omega), fun c => ⟨fun z => absurd z (by decide), fun _ => ?_⟩⟩
  have ha2 : a < 2 := lpL (n := 2) (by omega) ha c
  refine ord_56 (r := 300 * (2 - (a + 1)) + 4) G h0 ha2 rfl (fun n hn => ⟨300 * (2 - (a + 1)) + 4, hn, by omega, rfl, rfl, a + 1, by omega, rfl, by omega⟩) (by omega)
end Ord
theorem ord_ct {T : pT} {b : Nat} {X : Mem} {q : HS} {B : pM} {m : Nat} (hT : okT T b) (G : GX m q) (hm : m ≤ 1900) (hB : P1 T b X q B) : CT mL_isInOrder [.ref b] B (fun r B' => r = some (.int 1) ∧ P1 T b X q B') NXl := by
  have GH := GX_H G (by omega)
  have hW := lv_isInOrder hT (X := X) GH 700 (ord_F G (R := fun x s => x = 1 ∧ s = q) ⟨rfl, rfl⟩) B hB
  refine ct_mono (ct_of pL_isInOrder (fun _ _ => rfl) (show 1 ≤ 12 by decide) hW) (fun r B' hr => ?_) (fun _ _ z => z)
  obtain ⟨x, s, rfl, ⟨rfl, rfl⟩, hP⟩ := hr
  exact ⟨rfl, hP⟩
