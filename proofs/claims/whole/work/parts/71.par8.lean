/-! the reference: reading words -/
def tkF (sg : Nat → Int32) (c : Int32) (z : Nat × Bool) : Nat × Bool := if z.2 = false ∧ sg z.1 = c then (z.1 + 1, false) else (z.1, true)
def tkL (sg : Nat → Int32) : List Int32 → Nat × Bool → Nat × Bool
  | [], z => z
  | c :: l, z => tkL sg l (tkF sg c z)
theorem tkL_bad {sg : Nat → Int32} {a : Nat} : ∀ l, tkL sg l (a, true) = (a, true)
  | [] => rfl
  | c :: l => by
    show tkL sg l (tkF sg c (a, true)) = _
    rw [show tkF sg c (a, true) = (a, true) from if_neg (fun z => Bool.noConfusion z.1)]
    exact tkL_bad l
theorem tkF_y {sg : Nat → Int32} {a : Nat} {c : Int32} (h : sg a = c) : tkF sg c (a, false) = (a + 1, false) := if_pos ⟨rfl, h⟩
theorem tkF_n {sg : Nat → Int32} {a : Nat} {c : Int32} (h : ¬ sg a = c) : tkF sg c (a, false) = (a, true) := if_neg (fun z => h z.2)
theorem tkL_y {sg : Nat → Int32} {a : Nat} {c : Int32} {l : List Int32} (h : sg a = c) : tkL sg (c :: l) (a, false) = tkL sg l (a + 1, false) := by
  show tkL sg l (tkF sg c (a, false)) = _
  rw [tkF_y h]
theorem tkL_n {sg : Nat → Int32} {a : Nat} {c : Int32} {l : List Int32} (h : ¬ sg a = c) : tkL sg (c :: l) (a, false) = (a, true) := by
  show tkL sg l (tkF sg c (a, false)) = _
  rw [tkF_n h, tkL_bad]
theorem keep_no {f x : Int32} {p : Nat} (ls : List Int32) (h : ∀ i, i < 8 → ((f >>> (nI i &&& 31)) &&& 1) = 1 → p < lenS.getD i 0 → (ls.contains (chS i p)) = true) (hx : x ∉ ls) : keepTo f x p 8 = 0 := by
  have hn : ∀ i, i ≤ 8 → keepTo f x p i = 0 := by
    intro i
    induction i with
    | zero => intro _; rfl
    | succ i ih =>
      intro hi
      unfold keepTo
      rw [if_neg, ih (by omega)]
      intro z
      exact hx (z.2.2 ▸ List.contains_iff_mem.mp (h i (by omega) z.1 z.2.1))
  exact hn 8 (by omega)
/-- one fitting word: the rest of it, sign by sign -/
def wB (i : Nat) : List Int32 := bytS.getD i []
def bitI (i : Nat) : Int32 := 1 <<< (nI i &&& 31)
theorem one_a : ∀ i, i < 8 → ∀ p, p < 5 → p < lenS.getD i 0 → keepTo (bitI i) (chS i p) p 8 = bitI i := by decide +kernel
theorem one_b : ∀ i, i < 8 → ∀ p, p < 5 → p < lenS.getD i 0 → oneTo (bitI i) p 8 = (if p + 1 = lenS.getD i 0 then some i else none) := by decide +kernel
theorem one_c : ∀ i, i < 8 → ¬ bitI i = 0 := by decide +kernel
theorem one_d : ∀ i, i < 8 → ∀ p, p < 5 → p < lenS.getD i 0 → (wB i).drop p = chS i p :: (wB i).drop (p + 1) := by decide +kernel
theorem one_e : ∀ i, i < 8 → ∀ p, p < 5 → p + 1 = lenS.getD i 0 → (wB i).drop (p + 1) = [] := by decide +kernel
theorem one_j : ∀ i, i < 8 → ∀ j, j < 8 → ((bitI i >>> (nI j &&& 31)) &&& 1) = 1 → j = i := by decide +kernel
theorem one_n (i : Nat) (hi : i < 8) (p : Nat) : ∀ j, j < 8 → ((bitI i >>> (nI j &&& 31)) &&& 1) = 1 → p < lenS.getD j 0 → ([chS i p].contains (chS j p)) = true := by
  intro j hj hb _
  rw [one_j i hi j hj hb]
  exact List.contains_iff_mem.mpr (List.mem_singleton.mpr rfl)
def outW (z : Nat × Bool) (i : Nat) : Nat × Option Nat := (z.1, if z.2 = true then none else some i)
theorem rw_step {sg : Nat → Int32} {m a p : Nat} {f : Int32} : rwF sg (m + 1) a p f = if keepTo f (sg a) p 8 = 0 then (a, none) else match oneTo (keepTo f (sg a) p 8) p 8 with
    | some i => (a + 1, some i)
    | none => rwF sg m (a + 1) (p + 1) (keepTo f (sg a) p 8) := rfl
theorem rw_lin {sg : Nat → Int32} {i : Nat} (hi : i < 8) : ∀ d p a m, d = lenS.getD i 0 - p → p < lenS.getD i 0 → d ≤ m → rwF sg m a p (bitI i) = outW (tkL sg ((wB i).drop p) (a, false)) i
  | 0, p, a, m, hd, hp, _ => by omega
  | d + 1, p, a, m, hd, hp, hm => by
    have h5 := lenS_8 i hi
    have y1 := one_a i hi p (by omega) hp
    have y2 := one_b i hi p (by omega) hp
    have y3 := one_c i hi
    have y4 := one_d i hi p (by omega) hp
    have y5 := one_e i hi p (by omega)
    obtain ⟨m', rfl⟩ : ∃ m', m = m' + 1 := ⟨m - 1, by omega⟩
    rw [rw_step, y4]
    by_cases hx : sg a = chS i p
    · rw [hx, y1, if_neg y3, y2, tkL_y hx]
      by_cases hl : p + 1 = lenS.getD i 0
      · rw [if_pos hl, y5 hl]; rfl
      · rw [if_neg hl]
        exact rw_lin hi d (p + 1) (a + 1) m' (by omega) (by omega) (by omega)
    · rw [keep_no [chS i p] (one_n i hi p) (by simp [hx]), if_pos rfl, tkL_n hx]; rfl
def wzk (sg : Nat → Int32) (a : Nat) : (Nat × Bool) × Nat :=
  if sg a = 114 then (tkL sg [97, 105, 100] (a + 1, false), 7)
  else if sg a = 102 then (tkL sg [97, 108, 108] (a + 1, false), 4)
  else if sg a = 108 then (tkL sg [105, 110, 101] (a + 1, false), 5)
  else if sg a = 116 ∧ sg (a + 1) = 105 then (tkL sg [105, 109, 101] (a + 1, false), 6)
  else if sg a = 116 then (tkL sg [111, 117, 99, 104] (a + 1, false), 0)
  else if sg a = 98 ∧ sg (a + 1) = 111 then (tkL sg [111, 110, 117, 115] (a + 1, false), 1)
  else if sg a = 98 then (if (tkF sg 97 (a + 1, false)).2 = false ∧ sg (tkF sg 97 (a + 1, false)).1 = 117 then (tkL sg [117, 108, 107] (tkF sg 97 (a + 1, false)), 2) else (tkL sg [99, 107] (tkF sg 97 (a + 1, false)), 3))
  else ((a, true), 7)
theorem node0 : keepTo 255 114 0 8 = bitI 7 ∧ keepTo 255 102 0 8 = bitI 4 ∧ keepTo 255 108 0 8 = bitI 5 ∧ keepTo 255 116 0 8 = 65 ∧ keepTo 255 98 0 8 = 14 ∧ oneTo 65 0 8 = none ∧ oneTo 14 0 8 = none ∧ keepTo 65 105 1 8 = bitI 6 ∧ keepTo 65 111 1 8 = bitI 0 ∧ keepTo 14 111 1 8 = bitI 1 ∧ keepTo 14 97 1 8 = 12 ∧ oneTo 12 1 8 = none ∧ keepTo 12 117 2 8 = bitI 2 ∧ keepTo 12 99 2 8 = bitI 3 ∧ oneTo (bitI 0) 1 8 = none ∧ oneTo (bitI 1) 1 8 = none ∧ oneTo (bitI 6) 1 8 = none ∧ oneTo (bitI 2) 2 8 = none ∧ oneTo (bitI 3) 2 8 = none ∧ oneTo (bitI 7) 0 8 = none ∧ oneTo (bitI 4) 0 8 = none ∧ oneTo (bitI 5) 0 8 = none := by decide +kernel
theorem n255 : ∀ i, i < 8 → (((255 : Int32) >>> (nI i &&& 31)) &&& 1) = 1 → 0 < lenS.getD i 0 → ([114, 102, 108, 116, 98].contains (chS i 0)) = true := by decide +kernel
theorem n65 : ∀ i, i < 8 → (((65 : Int32) >>> (nI i &&& 31)) &&& 1) = 1 → 1 < lenS.getD i 0 → ([105, 111].contains (chS i 1)) = true := by decide +kernel
theorem n14 : ∀ i, i < 8 → (((14 : Int32) >>> (nI i &&& 31)) &&& 1) = 1 → 1 < lenS.getD i 0 → ([111, 97].contains (chS i 1)) = true := by decide +kernel
theorem n12 : ∀ i, i < 8 → (((12 : Int32) >>> (nI i &&& 31)) &&& 1) = 1 → 2 < lenS.getD i 0 → ([117, 99].contains (chS i 2)) = true := by decide +kernel
theorem rw_in {sg : Nat → Int32} {m a p : Nat} {f g x : Int32} (h : sg a = x) (k : keepTo f x p 8 = g) (z : ¬ g = 0) (o : oneTo g p 8 = none) : rwF sg (m + 1) a p f = rwF sg m (a + 1) (p + 1) g := by
  rw [rw_step, h, k, if_neg z, o]
theorem rw_no {sg : Nat → Int32} {m a p : Nat} {f : Int32} (k : keepTo f (sg a) p 8 = 0) : rwF sg (m + 1) a p f = (a, none) := by
  rw [rw_step, if_pos k]
theorem wz_eq (sg : Nat → Int32) (a : Nat) : rwF sg 60 a 0 255 = outW (wzk sg a).1 (wzk sg a).2 := by
  obtain ⟨k7, k4, k5, k65, k14, o65, o14, k6, k0, k1, k12, o12, k2, k3, q0, q1, q6, q2, q3, q7, q4, q5⟩ := node0
  have z0 := one_c 0 (by omega)
  have z1 := one_c 1 (by omega)
  have z2 := one_c 2 (by omega)
  have z3 := one_c 3 (by omega)
  have z4 := one_c 4 (by omega)
  have z5 := one_c 5 (by omega)
  have z6 := one_c 6 (by omega)
  have z7 := one_c 7 (by omega)
  by_cases h114 : sg a = 114
  · have R : wzk sg a = (tkL sg [97, 105, 100] (a + 1, false), 7) := if_pos h114
    rw [R, rw_in h114 k7 z7 q7]
    exact rw_lin (by omega) 3 1 (a + 1) 59 rfl (by decide) (by omega)
  by_cases h102 : sg a = 102
  · have R : wzk sg a = (tkL sg [97, 108, 108] (a + 1, false), 4) := by unfold wzk; rw [if_neg h114, if_pos h102]
    rw [R, rw_in h102 k4 z4 q4]
    exact rw_lin (by omega) 3 1 (a + 1) 59 rfl (by decide) (by omega)
  by_cases h108 : sg a = 108
  · have R : wzk sg a = (tkL sg [105, 110, 101] (a + 1, false), 5) := by unfold wzk; rw [if_neg h114, if_neg h102, if_pos h108]
    rw [R, rw_in h108 k5 z5 q5]
    exact rw_lin (by omega) 3 1 (a + 1) 59 rfl (by decide) (by omega)
  by_cases h116 : sg a = 116
  · rw [rw_in h116 k65 (by decide) o65]
    by_cases h105 : sg (a + 1) = 105
    · have R : wzk sg a = (tkL sg [105, 109, 101] (a + 1, false), 6) := by unfold wzk; rw [if_neg h114, if_neg h102, if_neg h108, if_pos ⟨h116, h105⟩]
      rw [R, rw_in h105 k6 z6 q6, tkL_y h105]
      exact rw_lin (by omega) 2 2 (a + 1 + 1) 58 rfl (by decide) (by omega)
    · have R : wzk sg a = (tkL sg [111, 117, 99, 104] (a + 1, false), 0) := by unfold wzk; rw [if_neg h114, if_neg h102, if_neg h108, if_neg (fun z => h105 z.2), if_pos h116]
      rw [R]
      by_cases h111 : sg (a + 1) = 111
      · rw [rw_in h111 k0 z0 q0, tkL_y h111]
        exact rw_lin (by omega) 3 2 (a + 1 + 1) 58 rfl (by decide) (by omega)
      · rw [rw_no (keep_no [105, 111] n65 (by simp [h105, h111])), tkL_n h111]; rfl
  by_cases h98 : sg a = 98
  · rw [rw_in h98 k14 (by decide) o14]
    by_cases h111 : sg (a + 1) = 111
    · have R : wzk sg a = (tkL sg [111, 110, 117, 115] (a + 1, false), 1) := by unfold wzk; rw [if_neg h114, if_neg h102, if_neg h108, if_neg (fun z => h116 z.1), if_neg h116, if_pos ⟨h98, h111⟩]
      rw [R, rw_in h111 k1 z1 q1, tkL_y h111]
      exact rw_lin (by omega) 3 2 (a + 1 + 1) 58 rfl (by decide) (by omega)
    · have R : wzk sg a = if (tkF sg 97 (a + 1, false)).2 = false ∧ sg (tkF sg 97 (a + 1, false)).1 = 117 then (tkL sg [117, 108, 107] (tkF sg 97 (a + 1, false)), 2) else (tkL sg [99, 107] (tkF sg 97 (a + 1, false)), 3) := by unfold wzk; rw [if_neg h114, if_neg h102, if_neg h108, if_neg (fun z => h116 z.1), if_neg h116, if_neg (fun z => h111 z.2), if_pos h98]
      rw [R]
      by_cases h97 : sg (a + 1) = 97
      · rw [rw_in h97 k12 (by decide) o12, tkF_y h97]
        by_cases h117 : sg (a + 1 + 1) = 117
        · rw [if_pos ⟨rfl, h117⟩, rw_in h117 k2 z2 q2, tkL_y h117]
          exact rw_lin (by omega) 2 3 (a + 1 + 1 + 1) 57 rfl (by decide) (by omega)
        · rw [if_neg (fun z => h117 z.2)]
          by_cases h99 : sg (a + 1 + 1) = 99
          · rw [rw_in h99 k3 z3 q3, tkL_y h99]
            exact rw_lin (by omega) 1 3 (a + 1 + 1 + 1) 57 rfl (by decide) (by omega)
          · rw [rw_no (keep_no [117, 99] n12 (by simp [h117, h99])), tkL_n h99]; rfl
      · rw [rw_no (keep_no [111, 97] n14 (by simp [h111, h97])), tkF_n h97, if_neg (fun z => Bool.noConfusion z.1), tkL_bad]; rfl
  have R : wzk sg a = ((a, true), 7) := by unfold wzk; rw [if_neg h114, if_neg h102, if_neg h108, if_neg (fun z => h116 z.1), if_neg h116, if_neg (fun z => h98 z.1), if_neg h98]
  rw [R, rw_no (keep_no [114, 102, 108, 116, 98] n255 (by simp [h114, h102, h108, h116, h98]))]
  rfl
