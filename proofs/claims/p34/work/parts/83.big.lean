/-! a hall anywhere in the law's memory -/
def hallT (B : pM) (b : Nat) : Prop := b + 405 ≤ pN B ∧ ∀ i, i < 405 → pK B (b + i) = K0 i ∧ pL B (b + i) = L0 i ∧ ∀ j, pR B (b + i) j = (R0 i j).map (fun t => b + t)
def refsOK (B : pM) : Prop := ∀ i j t, i < pN B → pR B i j = some t → t < pN B
def wn (B : pM) (b : Nat) : Mem := fun i => pV B (b + i)
/-- the shape stays, and what lies outside -/
def keepW (B B' : pM) (b : Nat) : Prop := B'.1 = B.1 ∧ ∀ i, ¬ (b ≤ i ∧ i < b + 405) → pV B' i = pV B i
theorem R0_lt (i j t : Nat) (hi : i < 405) (h : R0 i j = some t) : t < 405 := by
  unfold R0 at h
  split at h
  · split at h
    · cases h; omega
    · split at h
      · cases h; omega
      · split at h
        · cases h; omega
        · split at h
          · cases h; omega
          · cases h
  split at h
  · split at h
    · cases h; omega
    · split at h
      · cases h; omega
      · split at h
        · cases h; omega
        · cases h
  split at h
  · split at h
    · cases h; omega
    · cases h
  split at h
  · split at h
    · cases h; omega
    · split at h
      · cases h; omega
      · cases h
  split at h
  · split at h
    · cases h; omega
    · cases h
  split at h
  · split at h
    · cases h; omega
    · cases h
  split at h
  · split at h
    · cases h; omega
    · cases h
  split at h
  · split at h
    · cases h; omega
    · cases h
  split at h
  · split at h
    · cases h; omega
    · cases h
  cases h
theorem win_T0 {B : pM} {b : Nat} (h : hallT B b) : isWn b B (T0 (fun i => pJ B (b + i)), wn B b) := by
  obtain ⟨h1, h2⟩ := h
  refine ⟨h1, Nat.le_refl _, fun i hi => ?_, fun i j t hi ht => R0_lt i j t hi ht⟩
  obtain ⟨k1, k2, k3⟩ := h2 i hi
  exact ⟨k1, k2, rfl, rfl, k3⟩
theorem pT5 {a a' : Nat → Nat → Option Nat} {b b' c c' : Nat → Nat} {d d' : Nat} {e e' : Nat → Nat → Int64} (h1 : a = a') (h2 : b = b') (h3 : c = c') (h4 : d = d') (h5 : e = e') : ((a, b, c, d, e) : pT) = (a', b', c', d', e') := by
  subst h1 h2 h3 h4 h5
  rfl
theorem gl_T0 {B : pM} {b : Nat} (h : hallT B b) (V : Mem) : keepW B (gl b B (T0 (fun i => pJ B (b + i)), V)) b ∧ wn (gl b B (T0 (fun i => pJ B (b + i)), V)) b = fun i => if i < 405 then V i else pV B (b + i) := by
  obtain ⟨h1, h2⟩ := h
  obtain ⟨⟨R, K, L, n, Jv⟩, W⟩ := B
  have h1 : b + 405 ≤ n := h1
  refine ⟨⟨?_, fun i hi => (gl_out hi).2.2.1⟩, ?_⟩
  · show (_, _, _, _, _) = (R, K, L, n, Jv)
    have e1 : (fun i j => if b ≤ i ∧ i < b + 405 then (R0 (i - b) j).map (fun t => b + t) else R i j) = R := by
      funext i j
      split
      · rename_i e
        obtain ⟨i', rfl⟩ : ∃ i', i = b + i' := ⟨i - b, by omega⟩
        rw [show b + i' - b = i' by omega]
        exact ((h2 i' (by omega)).2.2 j).symm
      · rfl
    have e2 : (fun i => if b ≤ i ∧ i < b + 405 then K0 (i - b) else K i) = K := by
      funext i
      split
      · rename_i e
        obtain ⟨i', rfl⟩ : ∃ i', i = b + i' := ⟨i - b, by omega⟩
        rw [show b + i' - b = i' by omega]
        exact (h2 i' (by omega)).1.symm
      · rfl
    have e3 : (fun i => if b ≤ i ∧ i < b + 405 then L0 (i - b) else L i) = L := by
      funext i
      split
      · rename_i e
        obtain ⟨i', rfl⟩ : ∃ i', i = b + i' := ⟨i - b, by omega⟩
        rw [show b + i' - b = i' by omega]
        exact (h2 i' (by omega)).2.1.symm
      · rfl
    have e4 : (if n ≤ b + 405 then b + 405 else n) = n := by
      split <;> omega
    have e5 : (fun i => if b ≤ i ∧ i < b + 405 then Jv (b + (i - b)) else Jv i) = Jv := by
      funext i
      split
      · rename_i e
        rw [show b + (i - b) = i by omega]
      · rfl
    exact pT5 e1 e2 e3 e4 e5
  · funext i
    by_cases hi : i < 405
    · rw [if_pos hi]
      exact (gl_in hi).2.2.1
    · rw [if_neg hi]
      exact (gl_out (by omega)).2.2.1
theorem clH_lo {V V' : Mem} {q : HS} (G : GdH q) (h : clH V q) (f : ∀ x, x < 405 → V' x = V x) : clH V' q := ⟨clM_off h.1 G.1.2.2.1 (fun x hx => f x (by omega)), clA_off h.2.1 (fun x h1 h2 => f x (by omega)), clL_off h.2.2 (fun x h1 h2 => f x (by omega))⟩
/-- a call, at a hall anywhere -/
def OpB (d7 : pD) (as : List Value) (xs : List (Nat × String)) (q : HS) (k : Nat) (x : Int32) (q' : HS) : Prop := ∀ (B : pM) (b : Nat), hallT B b → refsOK B → pN B ≤ 1000 → clH (wn B b) q → CT d7 (.ref b :: as) B (fun r B' => k = 0 ∧ r = some (.int x) ∧ keepW B B' b ∧ clH (wn B' b) q') (fun X B' => k ≠ 0 ∧ (k, X) ∈ xs ∧ keepW B B' b ∧ clH (wn B' b) q')
theorem op_big {d7 : pD} {as : List Value} {xs : List (Nat × String)} {q : HS} {k : Nat} {x : Int32} {q' : HS} (G : GdH q') (has : ∀ b, as.map (shv b) = as) (h : OpH d7 as xs q k x q') : OpB d7 as xs q k x q' := by
  intro B b hT hR hN hc
  have h1 := h (fun i => pJ B (b + i)) (wn B b) hc
  have hW := win_T0 hT
  have ok : ∀ M' : pM, M'.1 = T0 (fun i => pJ B (b + i)) → okW b B (T0 (fun i => pJ B (b + i)), wn B b) M' := by
    intro M' e
    obtain ⟨T', V'⟩ := M'
    dsimp only at e
    subst e
    exact ⟨Nat.le_refl _, Nat.le_trans hT.1 hN, fun i j t hi ht => R0_lt i j t hi ht, Or.inl ⟨rfl, rfl⟩⟩
  have fin : ∀ M' : pM, M'.1 = T0 (fun i => pJ B (b + i)) → clH M'.2 q' → keepW B (gl b B M') b ∧ clH (wn (gl b B M') b) q' := by
    intro M' e hc'
    obtain ⟨T', V'⟩ := M'
    dsimp only at e hc'
    subst e
    obtain ⟨g1, g2⟩ := gl_T0 hT V'
    refine ⟨g1, ?_⟩
    rw [g2]
    exact clH_lo G hc' (fun y hy => if_pos hy)
  have h2 := ct_win (b := b) (B := B) hW hN hR (fun v M' hv => ⟨ok M' hv.1, fun k9 e => by
    have := hv.2.2.1
    rw [e] at this
    cases this⟩) (fun E M' hE => ok M' hE.1) h1
  rw [List.map_cons, has b, show shv b (.ref 0) = .ref b from rfl] at h2
  refine ct_mono h2 (fun v B' hv => ?_) (fun E B' hE => ?_)
  · obtain ⟨M', ⟨e1, e2, e3, e4⟩, rfl⟩ := hv
    exact ⟨e2, e3, fin M' e1 e4⟩
  · obtain ⟨M', ⟨e1, e2, e3, e4⟩, rfl⟩ := hE
    exact ⟨e2, e3, fin M' e1 e4⟩
