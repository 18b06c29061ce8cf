/-! the league: sums, and ranks that are each once -/
def sumL (g : Lg) (j : Nat) : Nat → Nat
  | 0 => 0
  | n + 1 => sumL g j n + g (6 * n + j)
theorem sumL_note {g : Lg} {c own ag j : Nat} (hj : j < 6) : ∀ n, sumL (noteG g c own ag) j n = sumL g j n + (if c < n then addF j own ag else 0)
  | 0 => rfl
  | n + 1 => by
    unfold sumL
    rw [sumL_note hj n]
    by_cases e : n = c
    · subst e
      rw [noteG_s _ _ _ _ _ hj, if_neg (by omega), if_pos (by omega)]
      omega
    · rw [noteG_o _ _ _ _ _ _ hj e]
      by_cases h : c < n
      · rw [if_pos h, if_pos (by omega)]; omega
      · rw [if_neg h, if_neg (by omega)]; omega
def LgI (g : Lg) : Prop := sumL g 4 8 = sumL g 5 8 ∧ ∀ c, c < 8 → g (6 * c + 1) + g (6 * c + 2) ≤ g (6 * c) ∧ g (6 * c + 3) ≤ 5 * g (6 * c) ∧ 5 * g (6 * c + 1) + 3 * g (6 * c + 2) ≤ g (6 * c + 3)
def LgR (g : Lg) (c : Nat) : Prop := g (6 * c + 1) + g (6 * c + 2) ≤ g (6 * c) ∧ g (6 * c + 3) ≤ 5 * g (6 * c) ∧ 5 * g (6 * c + 1) + 3 * g (6 * c + 2) ≤ g (6 * c + 3)
theorem LgR_note {g : Lg} {c own ag d : Nat} (h : LgR g d) : LgR (noteG g c own ag) d := by
  unfold LgR at *
  by_cases e : d = c
  · subst e
    have e0 := noteG_s g d own ag 0 (by omega)
    rw [Nat.add_zero] at e0
    rw [e0, noteG_s _ _ _ _ 1 (by omega), noteG_s _ _ _ _ 2 (by omega), noteG_s _ _ _ _ 3 (by omega)]
    have a0 : addF 0 own ag = 1 := rfl
    have a1 : addF 1 own ag = if ag < own then 1 else 0 := rfl
    have a2 : addF 2 own ag = if own = ag then 1 else 0 := rfl
    have a3 : addF 3 own ag = if ag < own then 5 else if own = ag then 3 else if ag - own ≤ 7 then 1 else 0 := rfl
    rw [a0, a1, a2, a3]
    split
    · rw [if_neg (by omega)]; omega
    · split
      · omega
      · split <;> omega
  · have e0 := noteG_o g c d own ag 0 (by omega) e
    rw [Nat.add_zero] at e0
    rw [e0, noteG_o _ _ _ _ _ 1 (by omega) e, noteG_o _ _ _ _ _ 2 (by omega) e, noteG_o _ _ _ _ _ 3 (by omega) e]
    exact h
theorem LgI_note {g : Lg} {c d x y : Nat} (h : LgI g) (hc : c < 8) (hd : d < 8) : LgI (noteG (noteG g c x y) d y x) := by
  refine ⟨?_, fun k hk => LgR_note (LgR_note (h.2 k hk))⟩
  have k : ∀ (g : Lg) (c own ag j : Nat), j < 6 → c < 8 → sumL (noteG g c own ag) j 8 = sumL g j 8 + addF j own ag := fun g c own ag j hj hc => by rw [sumL_note hj, if_pos hc]
  rw [k _ _ _ _ _ (by omega) hd, k _ _ _ _ _ (by omega) hc, k _ _ _ _ _ (by omega) hd, k _ _ _ _ _ (by omega) hc, h.1]
  have a4 : ∀ o a, addF 4 o a = o := fun _ _ => rfl
  have a5 : ∀ o a, addF 5 o a = a := fun _ _ => rfl
  rw [a4, a4, a5, a5]
  omega
/-- fractions -/
def FL (g : Lg) (c d : Nat) : Prop := upF g d * loF g c ≤ upF g c * loF g d
theorem lo_or (g : Lg) (c : Nat) : 0 < loF g c ∨ (loF g c = 0 ∧ upF g c = 1) := by
  unfold loF upF
  by_cases h : g (6 * c + 5) = 0
  · by_cases h2 : g (6 * c + 4) = 0
    · rw [if_pos ⟨h, h2⟩]; exact Or.inl (by decide)
    · rw [if_neg (fun z => h2 z.2), if_pos h]; exact Or.inr ⟨h, rfl⟩
  · rw [if_neg (fun z => h z.1)]; exact Or.inl (by omega)
theorem FL_tr {g : Lg} {c d e : Nat} (h1 : FL g c d) (h2 : FL g d e) : FL g c e := by
  unfold FL at *
  rcases lo_or g d with h | ⟨h, hu⟩
  · refine Nat.le_of_mul_le_mul_right ?_ h
    calc upF g e * loF g c * loF g d = (upF g e * loF g d) * loF g c := by rw [Nat.mul_right_comm]
      _ ≤ (upF g d * loF g e) * loF g c := Nat.mul_le_mul_right _ h2
      _ = (upF g d * loF g c) * loF g e := by rw [Nat.mul_right_comm]
      _ ≤ (upF g c * loF g d) * loF g e := Nat.mul_le_mul_right _ h1
      _ = upF g c * loF g e * loF g d := by rw [Nat.mul_right_comm]
  · rw [h, hu, Nat.mul_zero, Nat.one_mul] at h1
    rw [show loF g c = 0 by omega, Nat.mul_zero]
    exact Nat.zero_le _
def AH (g : Lg) (c d : Nat) : Prop := g (6 * d + 3) < g (6 * c + 3) ∨ (g (6 * c + 3) = g (6 * d + 3) ∧ FL g c d ∧ (¬ FL g d c ∨ c < d))
theorem AH_iff {g : Lg} {c d : Nat} : aheadB g c d = true ↔ AH g c d := by
  unfold aheadB AH FL
  by_cases h : g (6 * c + 3) = g (6 * d + 3)
  · rw [if_pos h]
    by_cases h2 : upF g c * loF g d = upF g d * loF g c
    · rw [if_pos h2, decide_eq_true_eq]
      constructor
      · intro z
        exact Or.inr ⟨h, by omega, Or.inr z⟩
      · rintro (z | ⟨-, -, z | z⟩)
        · omega
        · omega
        · exact z
    · rw [if_neg h2, decide_eq_true_eq]
      constructor
      · intro z
        exact Or.inr ⟨h, by omega, Or.inl (by omega)⟩
      · rintro (z | ⟨-, z1, z2⟩)
        · omega
        · omega
  · rw [if_neg h, decide_eq_true_eq]
    constructor
    · exact fun z => Or.inl z
    · rintro (z | ⟨z, -⟩)
      · exact z
      · exact (h z).elim
theorem AH_irr {g : Lg} {c : Nat} : ¬ AH g c c := by
  rintro (z | ⟨-, z1, z2 | z2⟩)
  · omega
  · exact z2 z1
  · omega
theorem AH_tr {g : Lg} {c d e : Nat} (h1 : AH g c d) (h2 : AH g d e) : AH g c e := by
  rcases h1 with a | ⟨a, a2, a3⟩ <;> rcases h2 with b | ⟨b, b2, b3⟩
  · exact Or.inl (by omega)
  · exact Or.inl (by omega)
  · exact Or.inl (by omega)
  · refine Or.inr ⟨by omega, FL_tr a2 b2, ?_⟩
    by_cases z : FL g e c
    · refine Or.inr ?_
      have hcd : c < d := by rcases a3 with q | q; exact (q (FL_tr b2 z)).elim; exact q
      have hde : d < e := by rcases b3 with q | q; exact (q (FL_tr z a2)).elim; exact q
      omega
    · exact Or.inl z
theorem AH_tot {g : Lg} {c d : Nat} (h : c ≠ d) : AH g c d ∨ AH g d c := by
  unfold AH
  by_cases h1 : g (6 * c + 3) = g (6 * d + 3)
  · by_cases a : FL g c d
    · by_cases b : FL g d c
      · rcases Nat.lt_or_ge c d with q | q
        · exact Or.inl (Or.inr ⟨h1, a, Or.inr q⟩)
        · exact Or.inr (Or.inr ⟨h1.symm, b, Or.inr (by omega)⟩)
      · exact Or.inl (Or.inr ⟨h1, a, Or.inl b⟩)
    · have b : FL g d c := by unfold FL at *; omega
      exact Or.inr (Or.inr ⟨h1.symm, b, Or.inl a⟩)
  · omega
theorem rank_lt {g : Lg} {c d : Nat} (h : AH g c d) : ∀ n, rankTo g c n + (if c < n then 1 else 0) ≤ rankTo g d n
  | 0 => Nat.le_refl 0
  | n + 1 => by
    have ih := rank_lt h n
    unfold rankTo
    by_cases e : n = c
    · subst e
      have hne : n ≠ d := fun z => AH_irr (z ▸ h)
      have e1 : (if n ≠ n ∧ aheadB g n n = true then 1 else 0) = 0 := if_neg (fun z => z.1 rfl)
      have e2 : (if n ≠ d ∧ aheadB g n d = true then 1 else 0) = 1 := if_pos ⟨hne, AH_iff.mpr h⟩
      have e3 : (if n < n + 1 then 1 else 0) = 1 := if_pos (by omega)
      rw [e1, e2, e3]
      rw [if_neg (by omega)] at ih
      omega
    · have e1 : (if c < n + 1 then 1 else 0) = (if c < n then 1 else 0) := by
        by_cases q : c < n
        · rw [if_pos q, if_pos (by omega)]
        · rw [if_neg q, if_neg (by omega)]
      rw [e1]
      by_cases z : n ≠ c ∧ aheadB g n c = true
      · have h2 := AH_tr (AH_iff.mp z.2) h
        have hne : n ≠ d := fun y => AH_irr (y ▸ h2)
        have e2 : (if n ≠ d ∧ aheadB g n d = true then 1 else 0) = 1 := if_pos ⟨hne, AH_iff.mpr h2⟩
        have e3 : (if n ≠ c ∧ aheadB g n c = true then 1 else 0) = 1 := if_pos z
        rw [e2, e3]
        omega
      · have e3 : (if n ≠ c ∧ aheadB g n c = true then 1 else 0) = 0 := if_neg z
        rw [e3]
        omega
theorem rank_le {g : Lg} {c : Nat} : ∀ n, rankTo g c n + (if c < n then 1 else 0) ≤ n
  | 0 => Nat.le_refl 0
  | n + 1 => by
    have ih := rank_le (g := g) (c := c) n
    unfold rankTo
    by_cases e : n = c
    · subst e
      have e1 : (if n ≠ n ∧ aheadB g n n = true then 1 else 0) = 0 := if_neg (fun z => z.1 rfl)
      have e3 : (if n < n + 1 then 1 else 0) = 1 := if_pos (by omega)
      rw [e1, e3]
      rw [if_neg (by omega)] at ih
      omega
    · have e1 : (if c < n + 1 then 1 else 0) = (if c < n then 1 else 0) := by
        by_cases q : c < n
        · rw [if_pos q, if_pos (by omega)]
        · rw [if_neg q, if_neg (by omega)]
      rw [e1]
      split <;> omega
/-- as many places as there are to go: each is gone to -/
theorem php : ∀ (n : Nat) (r : Nat → Nat), (∀ i, i < n → r i < n) → (∀ i j, i < n → j < n → r i = r j → i = j) → ∀ j, j < n → ∃ i, i < n ∧ r i = j
  | 0, _, _, _, j, hj => absurd hj (Nat.not_lt_zero j)
  | n + 1, r, hb, hi, j, hj => by
    have tn : ∀ i, i < n → r i = n → r n < n := fun i h1 h2 => by
      have := hb n (by omega)
      have : r n ≠ n := fun z => by
        have := hi i n (by omega) (by omega) (h2.trans z.symm)
        omega
      omega
    have ih := php n (fun i => if r i = n then r n else r i) (fun i h1 => by
      first | dsimp only | skip
      split
      · rename_i z
        exact tn i h1 z
      · have := hb i (by omega)
        omega) (fun i k h1 h2 he => by
      first | dsimp only at he | skip
      split at he
      · split at he
        · exact hi i k (by omega) (by omega) (by omega)
        · have := hi n k (by omega) (by omega) he
          omega
      · split at he
        · have := hi i n (by omega) (by omega) he
          omega
        · exact hi i k (by omega) (by omega) he)
    by_cases h1 : j = r n
    · exact ⟨n, by omega, h1.symm⟩
    · by_cases h2 : j = n
      · have htn : r n < n := by
          have := hb n (by omega)
          omega
        obtain ⟨i, hi1, hi2⟩ := ih (r n) htn
        first | dsimp only at hi2 | skip
        split at hi2
        · rename_i z
          exact ⟨i, by omega, by omega⟩
        · have := hi i n (by omega) (by omega) hi2
          omega
      · obtain ⟨i, hi1, hi2⟩ := ih j (by omega)
        first | dsimp only at hi2 | skip
        split at hi2
        · omega
        · exact ⟨i, by omega, hi2⟩
def rnk (g : Lg) (c : Nat) : Nat := rankTo g c 8
theorem rnk_lt {g : Lg} {c : Nat} (hc : c < 8) : rnk g c < 8 := by
  have := rank_le (g := g) (c := c) 8
  rw [if_pos hc] at this
  unfold rnk
  omega
theorem rnk_inj {g : Lg} {c d : Nat} (hc : c < 8) (hd : d < 8) (h : rnk g c = rnk g d) : c = d := by
  rcases Nat.decEq c d with z | z
  · exfalso
    unfold rnk at h
    rcases AH_tot (g := g) z with q | q
    · have := rank_lt q 8
      rw [if_pos hc] at this
      omega
    · have := rank_lt q 8
      rw [if_pos hd] at this
      omega
  · exact z
/-- bits of the ranks -/
def orR (g : Lg) : Nat → Nat
  | 0 => 0
  | n + 1 => orR g n ||| (2 ^ rnk g n)
theorem orR_bit {g : Lg} : ∀ n j, (orR g n).testBit j = true ↔ ∃ i, i < n ∧ rnk g i = j
  | 0, j => by simp [orR]
  | n + 1, j => by
    unfold orR
    rw [Nat.testBit_or, Bool.or_eq_true, orR_bit n j, Nat.testBit_two_pow, decide_eq_true_eq]
    constructor
    · rintro (⟨i, h1, h2⟩ | h)
      · exact ⟨i, by omega, h2⟩
      · exact ⟨n, by omega, h⟩
    · rintro ⟨i, h1, h2⟩
      by_cases e : i = n
      · subst e; exact Or.inr h2
      · exact Or.inl ⟨i, by omega, h2⟩
theorem orR_lt {g : Lg} : ∀ n, n ≤ 8 → orR g n < 256
  | 0, _ => by unfold orR; decide
  | n + 1, h => by
    unfold orR
    have h1 := orR_lt (g := g) n (by omega)
    have h2 : 2 ^ rnk g n < 2 ^ 8 := Nat.pow_lt_pow_right (by decide) (rnk_lt (by omega))
    exact Nat.or_lt_two_pow (n := 8) h1 h2
theorem orR_8 (g : Lg) : orR g 8 = 255 := by
  apply Nat.eq_of_testBit_eq
  intro j
  by_cases hj : j < 8
  · have h1 : (orR g 8).testBit j = true := (orR_bit 8 j).mpr (php 8 (rnk g) (fun i hi => rnk_lt hi) (fun i k hi hk h => rnk_inj hi hk h) j hj)
    rw [h1]
    have : ∀ j, j < 8 → true = Nat.testBit 255 j := by decide
    exact this j hj
  · have hp : 2 ^ 8 ≤ 2 ^ j := Nat.pow_le_pow_right (by decide) (by omega)
    have h0 : orR g 8 < 2 ^ 8 := orR_lt 8 (Nat.le_refl 8)
    have h1 : (orR g 8).testBit j = false := Nat.testBit_lt_two_pow (Nat.lt_of_lt_of_le h0 hp)
    have h2 : (255 : Nat).testBit j = false := Nat.testBit_lt_two_pow (Nat.lt_of_lt_of_le (by decide) hp)
    rw [h1, h2]
