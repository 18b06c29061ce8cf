/-! both halls in the law's memory: what its own methods do there -/
/-- the law's memory: two halls, and arrays behind them -/
def LH (B : pM) (q0 q1 : HS) (z : Nat) : Prop := okT B.1 0 ∧ okT B.1 405 ∧ pN B ≤ 810 + 2 * z ∧ clH (wn B 0) q0 ∧ clH (wn B 405) q1
theorem okT_N {B : pM} {b : Nat} (h : okT B.1 b) : b + 405 ≤ pN B ∧ pN B ≤ 1000 := ⟨(h (pV B)).1.1, (h (pV B)).2.2⟩
theorem LH_N {B : pM} {q0 q1 : HS} {z : Nat} (h : LH B q0 q1 z) : 810 ≤ pN B ∧ pN B ≤ 1000 := by
  have h1 := okT_N h.2.1
  omega
theorem LH_act0 {B B' : pM} {q0 q1 q' : HS} {z : Nat} (h : LH B q0 q1 z) (G : GdH q1) (hP : P1 B.1 0 (pV B) q' B') : LH B' q' q1 z := by
  obtain ⟨h1, h2, h3, h4, h5⟩ := h
  obtain ⟨p1, p2, p3⟩ := hP
  have hN : pN B' = pN B := congrArg (fun T : pT => T.2.2.2.1) p1
  exact ⟨by rw [p1]; exact h1, by rw [p1]; exact h2, by rw [hN]; exact h3, p3, clH_lo G h5 (fun x hx => p2 (405 + x) (by omega))⟩
theorem LH_act4 {B B' : pM} {q0 q1 q' : HS} {z : Nat} (h : LH B q0 q1 z) (G : GdH q0) (hP : P1 B.1 405 (pV B) q' B') : LH B' q0 q' z := by
  obtain ⟨h1, h2, h3, h4, h5⟩ := h
  obtain ⟨p1, p2, p3⟩ := hP
  have hN : pN B' = pN B := congrArg (fun T : pT => T.2.2.2.1) p1
  exact ⟨by rw [p1]; exact h1, by rw [p1]; exact h2, by rw [hN]; exact h3, clH_lo G h4 (fun x hx => p2 (0 + x) (by omega)), p3⟩
theorem LH_P1 {B : pM} {q0 q1 : HS} {z : Nat} (h : LH B q0 q1 z) : P1 B.1 0 (pV B) q0 B ∧ P1 B.1 405 (pV B) q1 B := ⟨⟨rfl, fun _ _ => rfl, h.2.2.2.1⟩, rfl, fun _ _ => rfl, h.2.2.2.2⟩
theorem LH_P2 {B : pM} {q0 q1 : HS} {z : Nat} (h : LH B q0 q1 z) : P2 B.1 (pV B) (q0, q1) B := ⟨rfl, fun _ _ => rfl, h.2.2.2.1, h.2.2.2.2⟩
theorem LH_of2 {B B' : pM} {q0 q1 q0' q1' : HS} {z : Nat} (h : LH B q0 q1 z) (hP : P2 B.1 (pV B) (q0', q1') B') : LH B' q0' q1' z := by
  obtain ⟨h1, h2, h3, h4, h5⟩ := h
  obtain ⟨p1, p2, p3, p4⟩ := hP
  have hN : pN B' = pN B := congrArg (fun T : pT => T.2.2.2.1) p1
  exact ⟨by rw [p1]; exact h1, by rw [p1]; exact h2, by rw [hN]; exact h3, p3, p4⟩
/-- an array more -/
theorem okT_new {B : pM} {b k n : Nat} (h : okT B.1 b) (hn : pN B + 1 ≤ 1000) : okT (mN B k n).1 b := by
  obtain ⟨⟨R, K, L, N, J⟩, V0⟩ := B
  intro V
  obtain ⟨⟨h1, h2⟩, h3, h4⟩ := h V
  have h1 : b + 405 ≤ N := h1
  have hn : N + 1 ≤ 1000 := hn
  refine ⟨⟨show b + 405 ≤ N + 1 by omega, fun i hi => ?_⟩, fun i j t hi ht => ?_, hn⟩
  · obtain ⟨a1, a2, a3⟩ := h2 i hi
    have hne : b + i ≠ N := by omega
    refine ⟨?_, ?_, fun j => ?_⟩
    · show up1 K N k (b + i) = _
      rw [up1_off _ _ hne]; exact a1
    · show up1 L N n (b + i) = _
      rw [up1_off _ _ hne]; exact a2
    · show up1 R N (fun _ => none) (b + i) j = _
      rw [up1_off _ _ hne]; exact a3 j
  · have ht : up1 R N (fun _ => none) i j = some t := ht
    have hi : i < N + 1 := hi
    show t < N + 1
    by_cases e : i = N
    · rw [e, up1_at] at ht
      cases ht
    · rw [up1_off _ _ e] at ht
      have : t < N := h3 i j t (by show i < N; omega) ht
      omega
theorem new_lo {B : pM} {k n : Nat} (i : Nat) (h : i < pN B) : pV (mN B k n) i = pV B i := up1_off _ _ (by show i ≠ pN B; omega)
theorem refs_new {B : pM} {b : Nat} (h : okT B.1 b) : ∀ i, i < pN B → ∀ j, pR B i j ≠ some (pN B) := fun i hi j z => Nat.lt_irrefl _ ((h (pV B)).2.1 i j _ hi z)
theorem fair_ct {B : pM} {b b' m : Nat} {q q' : HS} (h : okT B.1 b) (hN : pN B + 2 ≤ 1000) (G : GX m q) (hm : m ≤ 1900) (G' : GdH q') (hd : b' + 405 ≤ b ∨ b + 405 ≤ b') (hb' : b' + 405 ≤ pN B) (hc : clH (wn B b) q) (hc' : clH (wn B b') q') : CT mL_isFair [.ref b] B (fun r B' => r = some (.int 1) ∧ (∀ b9, okT B.1 b9 → okT B'.1 b9) ∧ pN B' = pN B + 2 ∧ clH (wn B' b) q ∧ clH (wn B' b') q') NXl := by
  have hb := (okT_N h).1
  have n1 : pN (mN B 9 8) = pN B + 1 := rfl
  have n2 : pN (mN (mN B 9 8) 9 8) = pN B + 2 := rfl
  have o1 : ∀ b9, okT B.1 b9 → okT (mN B 9 8).1 b9 := fun b9 h9 => okT_new h9 (by omega)
  have o2 : ∀ b9, okT B.1 b9 → okT (mN (mN B 9 8) 9 8).1 b9 := fun b9 h9 => okT_new (o1 b9 h9) (by rw [n1]; omega)
  have lo : ∀ i, i < pN B → pV (mN (mN B 9 8) 9 8) i = pV B i := fun i hi => (new_lo i (by rw [n1]; omega)).trans (new_lo i hi)
  have GH := GX_H G (by omega)
  have x0 : pV (mN (mN B 9 8) 9 8) (pN B) = fun _ => 0 := (new_lo (B := mN B 9 8) (pN B) (by rw [n1]; omega)).trans (mN_V B 9 8)
  have x1 : pV (mN (mN B 9 8) 9 8) (pN B + 1) = fun _ => 0 := mN_V (mN B 9 8) 9 8
  have k0 : pK (mN (mN B 9 8) 9 8) (pN B) = 9 := (up1_off _ _ (by show pN B ≠ pN (mN B 9 8); omega)).trans (mN_K B 9 8)
  have k1 : pK (mN (mN B 9 8) 9 8) (pN B + 1) = 9 := mN_K (mN B 9 8) 9 8
  have l0 : pL (mN (mN B 9 8) 9 8) (pN B) = 8 := (up1_off _ _ (by show pN B ≠ pN (mN B 9 8); omega)).trans (mN_L B 9 8)
  have l1 : pL (mN (mN B 9 8) 9 8) (pN B + 1) = 8 := mN_L (mN B 9 8) 9 8
  have ha0 : arX (mN (mN B 9 8) 9 8).1 b (pN B) := fun V => ⟨show pN B < pN B + 2 by omega, k0, l0, by omega⟩
  have ha1 : arX (mN (mN B 9 8) 9 8).1 b (pN B + 1) := fun V => ⟨show pN B + 1 < pN B + 2 by omega, k1, l1, by omega⟩
  have hP : P1 (mN (mN B 9 8) 9 8).1 b (pV (mN (mN B 9 8) 9 8)) q (mN (mN B 9 8) 9 8) := ⟨rfl, fun _ _ => rfl, clH_lo GH hc (fun x hx => lo (b + x) (by omega))⟩
  have hW := lv_isFair (o2 b h) ha0 ha1 GH (pV (mN (mN B 9 8) 9 8)) 248 (fair_F G hm (X0 := pV (mN (mN B 9 8) 9 8)) (n0 := pN B) (fun c _ => ⟨by rw [x0], by rw [x1]⟩) (R := fun x X' => x = 1 ∧ ∀ i, i ≠ pN B → i ≠ pN B + 1 → X' i = pV (mN (mN B 9 8) 9 8) i) (fun X hX => ⟨rfl, hX⟩)) _ hP
  have body : CT mL_isFair [.ref b] B (QW (fun X B' => P1 (mN (mN B 9 8) 9 8).1 b X q B') (fun x X' => x = 1 ∧ ∀ i, i ≠ pN B → i ≠ pN B + 1 → X' i = pV (mN (mN B 9 8) 9 8) i)) NXl := by
    refine ct_of pL_isFair (fun _ _ => rfl) (show 1 ≤ 8 by decide) ?_
    refine s_iconst (v := 1) dL_isFair_0 rfl (s_istore_n dL_isFair_1 (by decide) (s_bipush (v := 8) dL_isFair_2 rfl ?_))
    refine s_newI (N := 8) dL_isFair_4 ac_I (by decide) (by decide) (by decide) (refs_new h) (by omega) (rOK_in (fun r hr k hk => ?_) (fun v hv => by cases hv)) (by decide) (by decide) ?_
    · have hr : r ∈ [(1, Value.int 1), (0, Value.ref b)] := hr
      simp only [List.mem_cons, List.not_mem_nil, or_false] at hr
      rcases hr with rfl | rfl
      · cases hk
      · cases hk
        exact (show b < pN B by omega)
    refine s_astore_n (x := pN B) dL_isFair_6 (by decide) (s_bipush (v := 8) dL_isFair_7 rfl ?_)
    refine s_newI (N := 8) dL_isFair_9 ac_I (by decide) (by decide) (by decide) (refs_new (o1 b h)) (by rw [n1]; omega) (rOK_in (fun r hr k hk => ?_) (fun v hv => by cases hv)) (by decide) (by decide) ?_
    · have hr : r ∈ [(2, Value.ref (pN B)), (1, Value.int 1), (0, Value.ref b)] := hr
      simp only [List.mem_cons, List.not_mem_nil, or_false] at hr
      rcases hr with rfl | rfl | rfl
      · cases hk
        exact (show pN B < pN B + 1 by omega)
      · cases hk
      · cases hk
        exact (show b < pN B + 1 by omega)
    refine s_astore_n (x := pN B + 1) dL_isFair_11 (by decide) ?_
    exact s_bud (bc' := 5 * 248) (bs' := 30 * 248) (by decide) (by decide) hW
  refine ct_mono body (fun r B' hr => ?_) (fun _ _ z => z)
  obtain ⟨x, X', rfl, ⟨rfl, hX⟩, hP'⟩ := hr
  obtain ⟨p1, p2, p3⟩ := hP'
  refine ⟨rfl, fun b9 h9 => by rw [p1]; exact o2 b9 h9, congrArg (fun T : pT => T.2.2.2.1) p1, p3, clH_lo G' hc' (fun y hy => ?_)⟩
  show pV B' (b' + y) = pV B (b' + y)
  rw [p2 _ (by omega), hX _ (by omega) (by omega)]
  exact lo _ (by omega)
