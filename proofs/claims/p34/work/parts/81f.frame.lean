/-! a part of a memory: what is done there is done in the whole, and the rest stays -/
theorem pcell_cg {cA : Nat → ClassId} {ad ad' : Nat → Nat} {M M' : pM} {i i' : Nat} (hK : pK M i = pK M' i') (hL : pL M i = pL M' i') (hV : pV M i = pV M' i') (hJ : pJ M i = pJ M' i') (hR : ∀ j, (pR M i j).map ad = (pR M' i' j).map ad') : pcell cA ad M i = pcell cA ad' M' i' := by
  have h1 : pfs ad M i = pfs ad' M' i' := by
    unfold pfs
    rw [hK]
    refine List.map_congr_left (fun j _ => ?_)
    unfold pfv
    rw [hK, hV, hR]
  have h2 : pArr ad M i = pArr ad' M' i' := by
    unfold pArr
    have h3 : (fun j => (pR M i j).map ad) = (fun j => (pR M' i' j).map ad') := funext hR
    rw [h3, hK, hL, hV, hJ]
  unfold pcell
  rw [h1, h2, hK]
theorem pP_iff {D : va_G} {cA : Nat → ClassId} {ad : Nat → Nat} {M : pM} {H : Heap} : va_P D vwCl (pws cA ad M) H ↔ ∀ k, k < pN M → va_at D vwCl (ad k, pcell cA ad M k) H := by
  constructor
  · intro h k hk
    exact h k _ (pws_get cA ad M hk)
  · intro h k q hq
    by_cases hk : k < pN M
    · rw [pws_get cA ad M hk] at hq
      cases hq
      exact h k hk
    · rw [pws_out cA ad M (Nat.le_of_not_lt hk)] at hq
      cases hq
theorem pD_iff {A : Nat → Prop} {cA : Nat → ClassId} {ad : Nat → Nat} {M : pM} : va_D A (pws cA ad M) ↔ (∀ i j, i < pN M → j < pN M → ad i = ad j → i = j) ∧ ∀ k, k < pN M → A (ad k) := by
  constructor
  · intro h
    exact ⟨fun i j hi hj e => h.1 i j _ _ (pws_get cA ad M hi) (pws_get cA ad M hj) e, fun k hk => h.2 k _ (pws_get cA ad M hk)⟩
  · intro h
    have key : ∀ (k : Nat) (q : Nat × va_E), (pws cA ad M)[k]? = some q → k < pN M ∧ q.1 = ad k := by
      intro k q hq
      by_cases hk : k < pN M
      · rw [pws_get cA ad M hk] at hq
        cases hq
        exact ⟨hk, rfl⟩
      · rw [pws_out cA ad M (Nat.le_of_not_lt hk)] at hq
        cases hq
    refine ⟨fun i j x y hx hy e => ?_, fun k q hq => ?_⟩
    · obtain ⟨i1, i2⟩ := key i x hx
      obtain ⟨j1, j2⟩ := key j y hy
      exact h.1 i j i1 j1 (by rw [← i2, ← j2]; exact e)
    · obtain ⟨k1, k2⟩ := key k q hq
      rw [k2]
      exact h.2 k k1
theorem pA_iff {cA : Nat → ClassId} {ad : Nat → Nat} {M : pM} {sz q : Nat} : va_A (pws cA ad M) sz q ↔ (∃ k, k < pN M ∧ q = ad k) ∨ sz ≤ q := by
  constructor
  · rintro (⟨k, e, h⟩ | h)
    · by_cases hk : k < pN M
      · rw [pws_get cA ad M hk] at h
        cases h
        exact Or.inl ⟨k, hk, rfl⟩
      · rw [pws_out cA ad M (Nat.le_of_not_lt hk)] at h
        cases h
    · exact Or.inr h
  · rintro (⟨k, hk, rfl⟩ | h)
    · exact Or.inl ⟨k, _, pws_get cA ad M hk⟩
    · exact Or.inr h
/-- a reference of the part, in the whole -/
def shv (b : Nat) : Value → Value
  | .ref k => if k < 405 then .ref (b + k) else .ref k
  | v => v
/-- the whole with the part as it is now -/
def gl (b : Nat) (B M : pM) : pM := ((fun i j => if b ≤ i ∧ i < b + 405 then (pR M (i - b) j).map (fun t => b + t) else pR B i j, fun i => if b ≤ i ∧ i < b + 405 then pK M (i - b) else pK B i, fun i => if b ≤ i ∧ i < b + 405 then pL M (i - b) else pL B i, if pN B ≤ b + pN M then b + pN M else pN B, fun i => if b ≤ i ∧ i < b + 405 then pJ M (i - b) else pJ B i), fun i => if b ≤ i ∧ i < b + 405 then pV M (i - b) else pV B i)
def isWn (b : Nat) (B M : pM) : Prop := b + pN M ≤ pN B ∧ pN M ≤ 405 ∧ (∀ i, i < pN M → pK B (b + i) = pK M i ∧ pL B (b + i) = pL M i ∧ pV B (b + i) = pV M i ∧ pJ B (b + i) = pJ M i ∧ ∀ j, pR B (b + i) j = (pR M i j).map (fun t => b + t)) ∧ ∀ i j t, i < pN M → pR M i j = some t → t < 405
def okW (b : Nat) (B M M' : pM) : Prop := pN M' ≤ 405 ∧ b + pN M' ≤ 1000 ∧ (∀ i j t, i < pN M' → pR M' i j = some t → t < 405) ∧ ((pN M' = pN M ∧ pN M = 405) ∨ pN B = b + pN M)
theorem gl_in {b : Nat} {B M : pM} {i : Nat} (h : i < 405) : pK (gl b B M) (b + i) = pK M i ∧ pL (gl b B M) (b + i) = pL M i ∧ pV (gl b B M) (b + i) = pV M i ∧ pJ (gl b B M) (b + i) = pJ M i ∧ ∀ j, pR (gl b B M) (b + i) j = (pR M i j).map (fun t => b + t) := by
  have e : b ≤ b + i ∧ b + i < b + 405 := by omega
  have e2 : b + i - b = i := by omega
  refine ⟨?_, ?_, ?_, ?_, fun j => ?_⟩
  · show (if _ then _ else _) = _
    rw [if_pos e, e2]
  · show (if _ then _ else _) = _
    rw [if_pos e, e2]
  · show (if _ then _ else _) = _
    rw [if_pos e, e2]
  · show (if _ then _ else _) = _
    rw [if_pos e, e2]
  · show (if _ then _ else _) = _
    rw [if_pos e, e2]
theorem gl_out {b : Nat} {B M : pM} {i : Nat} (h : ¬ (b ≤ i ∧ i < b + 405)) : pK (gl b B M) i = pK B i ∧ pL (gl b B M) i = pL B i ∧ pV (gl b B M) i = pV B i ∧ pJ (gl b B M) i = pJ B i ∧ ∀ j, pR (gl b B M) i j = pR B i j := by
  refine ⟨?_, ?_, ?_, ?_, fun j => ?_⟩
  · exact if_neg h
  · exact if_neg h
  · exact if_neg h
  · exact if_neg h
  · exact if_neg h
section Win
variable {b : Nat} {B M M' : pM} {G : gT} {ad : Nat → Nat} {sz : Nat}
def adS (b : Nat) (ad : Nat → Nat) : Nat → Nat := fun k => if k < 405 then ad (b + k) else ad k
theorem adS_lo {k : Nat} (h : k < 405) : adS b ad k = ad (b + k) := if_pos h
theorem tr_win (v : Value) : tr ad (shv b v) = tr (adS b ad) v := by
  cases v with
  | ref k =>
    show tr ad (if k < 405 then .ref (b + k) else .ref k) = .ref (if k < 405 then ad (b + k) else ad k)
    split <;> rfl
  | _ => rfl
theorem map_win {α : Type} {t : Option Nat} {f g : Nat → α} (h : ∀ k, t = some k → f k = g k) : t.map f = t.map g := by
  cases t with
  | none => rfl
  | some k => exact congrArg some (h k rfl)
theorem cell_win (hW : isWn b B M) {cA : Nat → ClassId} {i : Nat} (hi : i < pN M) : pcell cA ad B (b + i) = pcell cA (adS b ad) M i := by
  obtain ⟨h1, h2, h3, h4⟩ := hW
  obtain ⟨k1, k2, k3, k4, k5⟩ := h3 i hi
  refine pcell_cg k1 k2 k3 k4 (fun j => ?_)
  rw [k5, Option.map_map]
  exact map_win (fun k hk => (adS_lo (h4 i j k hi hk)).symm)
theorem free_win (hW : isWn b B M) {q : Nat} (h : va_A (pws G.2.1 (adS b ad) M) sz q) : va_A (pws G.2.1 ad B) sz q := by
  obtain ⟨h1, h2, h3, h4⟩ := hW
  rcases pA_iff.mp h with ⟨k, hk, rfl⟩ | h
  · exact pA_iff.mpr (Or.inl ⟨b + k, by omega, adS_lo (by omega)⟩)
  · exact pA_iff.mpr (Or.inr h)
theorem pre_win (hW : isWn b B M) {U : State} (h : pPre G ad B sz U) : pPre G (adS b ad) M sz U := by
  have hfree : ∀ q, va_A (pws G.2.1 (adS b ad) M) sz q → va_A (pws G.2.1 ad B) sz q := fun q => free_win hW
  have hc := fun (i : Nat) (hi : i < pN M) => cell_win (ad := ad) (cA := G.2.1) hW hi
  obtain ⟨h1, h2, h3, h4⟩ := hW
  obtain ⟨p1, p2, p3, p4, p5, p6, p7⟩ := h
  refine ⟨p1, pP_iff.mpr (fun k hk => ?_), p3, pD_iff.mpr ⟨fun i j hi hj e => ?_, fun _ _ => trivial⟩, by omega, fun k hk => ?_, GU_narrow p7 hfree⟩
  · rw [adS_lo (by omega), ← hc k hk]
    exact pP_iff.mp p2 (b + k) (by omega)
  · rw [adS_lo (by omega), adS_lo (by omega)] at e
    have := (pD_iff.mp p4).1 (b + i) (b + j) (by omega) (by omega) e
    omega
  · show (if 1000 + k < 405 then _ else _) = _
    rw [if_neg (by omega)]
    exact p6 k hk
def adW (b : Nat) (ad ad1 : Nat → Nat) : Nat → Nat := fun k => if b ≤ k ∧ k < b + 405 then ad1 (k - b) else ad k
theorem adW_in {ad1 : Nat → Nat} {k : Nat} (h : k < 405) : adW b ad ad1 (b + k) = ad1 k := by
  unfold adW
  rw [if_pos (by omega), show b + k - b = k by omega]
theorem adW_out {ad1 : Nat → Nat} {k : Nat} (h : ¬ (b ≤ k ∧ k < b + 405)) : adW b ad ad1 k = ad k := if_neg h
theorem glN (hW : isWn b B M) (ho : okW b B M M') (hn : pN M ≤ pN M') : (pN B ≤ pN (gl b B M') ∧ b + pN M' ≤ pN (gl b B M')) ∧ (pN (gl b B M') = pN B ∨ (pN B = b + pN M ∧ pN (gl b B M') = b + pN M')) := by
  obtain ⟨h1, h2, -, -⟩ := hW
  obtain ⟨o1, o2, -, o4⟩ := ho
  show (pN B ≤ (if pN B ≤ b + pN M' then b + pN M' else pN B) ∧ b + pN M' ≤ (if pN B ≤ b + pN M' then b + pN M' else pN B)) ∧ ((if pN B ≤ b + pN M' then b + pN M' else pN B) = pN B ∨ (pN B = b + pN M ∧ (if pN B ≤ b + pN M' then b + pN M' else pN B) = b + pN M'))
  split <;> omega
theorem post_win (hW : isWn b B M) (hB : pN B ≤ 1000) (hR : ∀ i j t, i < pN B → pR B i j = some t → t < pN B) (ho : okW b B M M') {st t : State} {ad1 : Nat → Nat} (hpre : pPre G ad B sz st)
    (h : pPost G (adS b ad) M (va_A (pws G.2.1 (adS b ad) M) sz) st t ad1 M') : pPost G ad B (va_A (pws G.2.1 ad B) sz) st t (adW b ad ad1) (gl b B M') := by
  obtain ⟨q1, q2, q3, q4, q5, q6, q7⟩ := h
  obtain ⟨⟨n1, n3⟩, n2⟩ := glN hW ho q1
  have hfree : ∀ q, va_A (pws G.2.1 (adS b ad) M) sz q → va_A (pws G.2.1 ad B) sz q := fun q => free_win hW
  obtain ⟨h1, h2, h3, h4⟩ := hW
  obtain ⟨o1, o2, o3, o4⟩ := ho
  obtain ⟨p1, p2, p3, p4, p5, p6, p7⟩ := hpre
  have same : ∀ k, (k < pN B ∨ pN (gl b B M') ≤ k) → adW b ad ad1 k = ad k := by
    intro k hk
    by_cases e : b ≤ k ∧ k < b + 405
    · obtain ⟨i, rfl⟩ : ∃ i, k = b + i := ⟨k - b, by omega⟩
      rw [adW_in (by omega), q3 i (by omega), adS_lo (by omega)]
    · exact adW_out e
  have inW : ∀ k, k < pN (gl b B M') → (b ≤ k ∧ k < b + 405) → k - b < pN M' := by
    intro k hk e
    rcases o4 with o4 | o4 <;> rcases n2 with n2 | n2 <;> omega
  have hdS := pD_iff.mp q6
  have hdB := pD_iff.mp p4
  -- what lies outside: its address is none of the part's
  have outA : ∀ k, k < pN B → ¬ (b ≤ k ∧ k < b + 405) → ad k < sz ∧ ¬ va_A (pws G.2.1 (adS b ad) M) sz (ad k) := by
    intro k hk e
    have hlt : ad k < sz := by
      have := p2 k _ (pws_get G.2.1 ad B hk)
      rw [← p1]
      exact this.lt
    refine ⟨hlt, fun z => ?_⟩
    rcases pA_iff.mp z with ⟨i, hi, z⟩ | z
    · rw [adS_lo (by omega)] at z
      have := hdB.1 k (b + i) hk (by omega) z
      omega
    · omega
  have outN : ∀ k, k < pN (gl b B M') → ¬ (b ≤ k ∧ k < b + 405) → k < pN B := by
    intro k hk e
    rcases n2 with n2 | n2 <;> omega
  refine ⟨n1, ?_, same, pP_iff.mpr (fun k hk => ?_), q5, pD_iff.mpr ⟨fun i j hi hj e => ?_, fun k hk => ?_⟩, ⟨q7.1, fun q hq hA => q7.2 q hq (fun z => hA (hfree q z))⟩⟩
  · rcases n2 with n2 | n2 <;> omega
  · by_cases e : b ≤ k ∧ k < b + 405
    · have hk2 := inW k hk e
      obtain ⟨i, rfl⟩ : ∃ i, k = b + i := ⟨k - b, by omega⟩
      have hi : i < pN M' := by omega
      obtain ⟨g1, g2, g3, g4, g5⟩ := gl_in (b := b) (B := B) (M := M') (i := i) (by omega)
      rw [adW_in (by omega)]
      have hc : pcell G.2.1 (adW b ad ad1) (gl b B M') (b + i) = pcell G.2.1 ad1 M' i := by
        refine pcell_cg g1 g2 g3 g4 (fun j => ?_)
        rw [g5, Option.map_map]
        exact map_win (fun t ht => adW_in (o3 i j t hi ht))
      rw [hc]
      exact pP_iff.mp q4 i hi
    · have hkB := outN k hk e
      obtain ⟨g1, g2, g3, g4, g5⟩ := gl_out (b := b) (B := B) (M := M') e
      rw [adW_out e]
      have hc : pcell G.2.1 (adW b ad ad1) (gl b B M') k = pcell G.2.1 ad B k := by
        refine pcell_cg g1 g2 g3 g4 (fun j => ?_)
        rw [g5]
        exact map_win (fun t ht => same t (Or.inl (hR k j t hkB ht)))
      rw [hc]
      obtain ⟨a1, a2⟩ := outA k hkB e
      have hcell := pP_iff.mp p2 k hkB
      have hsame : t.heap[ad k]? = st.heap[ad k]? := q7.2 (ad k) (by rw [p1]; exact a1) a2
      exact va_at.kept hcell hsame
  · by_cases ei : b ≤ i ∧ i < b + 405
    · have hi2 := inW i hi ei
      obtain ⟨i', rfl⟩ : ∃ i', i = b + i' := ⟨i - b, by omega⟩
      rw [adW_in (by omega)] at e
      by_cases ej : b ≤ j ∧ j < b + 405
      · have hj2 := inW j hj ej
        obtain ⟨j', rfl⟩ : ∃ j', j = b + j' := ⟨j - b, by omega⟩
        rw [adW_in (by omega)] at e
        have := hdS.1 i' j' (by omega) (by omega) e
        omega
      · exfalso
        rw [adW_out ej] at e
        obtain ⟨a1, a2⟩ := outA j (outN j hj ej) ej
        exact a2 (e ▸ hdS.2 i' (by omega))
    · rw [adW_out ei] at e
      by_cases ej : b ≤ j ∧ j < b + 405
      · exfalso
        have hj2 := inW j hj ej
        obtain ⟨j', rfl⟩ : ∃ j', j = b + j' := ⟨j - b, by omega⟩
        rw [adW_in (by omega)] at e
        obtain ⟨a1, a2⟩ := outA i (outN i hi ei) ei
        exact a2 (e ▸ hdS.2 j' (by omega))
      · rw [adW_out ej] at e
        exact hdB.1 i j (outN i hi ei) (outN j hj ej) e
  · by_cases e : b ≤ k ∧ k < b + 405
    · have hk2 := inW k hk e
      obtain ⟨i, rfl⟩ : ∃ i, k = b + i := ⟨k - b, by omega⟩
      rw [adW_in (by omega)]
      exact hfree _ (hdS.2 i (by omega))
    · rw [adW_out e]
      exact pA_iff.mpr (Or.inl ⟨k, outN k hk e, rfl⟩)
theorem ct_win {d : pD} {as : List Value} {Qr : Option Value → pM → Prop} {Qx : String → pM → Prop} (hW : isWn b B M) (hB : pN B ≤ 1000) (hR : ∀ i j t, i < pN B → pR B i j = some t → t < pN B) (hq : ∀ v M', Qr v M' → okW b B M M' ∧ ∀ k, v ≠ some (.ref k)) (hx : ∀ E M', Qx E M' → okW b B M M') (h : CT d as M Qr Qx) : CT d (as.map (shv b)) B (fun v B' => ∃ M', Qr v M' ∧ B' = gl b B M') (fun E B' => ∃ M', Qx E M' ∧ B' = gl b B M') := by
  intro l G ad sz hst
  intro p e ha hc hk s m args below hf hfit hpre hK
  obtain ⟨hargs, hp⟩ := hpre
  have hmap : (as.map (shv b)).map (tr ad) = as.map (tr (adS b ad)) := by
    rw [List.map_map]
    exact List.map_congr_left (fun v _ => tr_win v)
  rw [hmap] at hargs
  obtain ⟨k, o, q1, q2, q3, q4⟩ := h l G (adS b ad) sz hst p e ha hc hk s m args below hf hfit ⟨hargs, pre_win hW hp⟩ hK
  refine ⟨k, o, q1, q2, q3, ?_⟩
  rcases q4 with ⟨⟨v, M', ad', z1, z2, z3⟩, L, z4, z5⟩ | ⟨q, z1, E, ce, Lc, ⟨M', ad', z2, z3⟩, z4, z5, z6, z7, z8, z9⟩
  · obtain ⟨w1, w2⟩ := hq v M' z2
    refine Or.inl ⟨⟨v, gl b B M', adW b ad ad', ?_, ⟨M', z2, rfl⟩, post_win hW hB hR w1 hp z3⟩, L, z4, fun q hq => free_win hW (z5 q hq)⟩
    rw [z1]
    refine congrArg Outcome.returned ?_
    cases v with
    | none => rfl
    | some v =>
      cases v with
      | ref k => exact (w2 k rfl).elim
      | _ => rfl
  · exact Or.inr ⟨q, z1, E, ce, Lc, ⟨gl b B M', adW b ad ad', ⟨M', z2, rfl⟩, post_win hW hB hR (hx E M' z2) hp z3⟩, z4, z5, z6, z7, z8, fun z hz => free_win hW (z9 z hz)⟩
end Win
