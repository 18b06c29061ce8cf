/-! THE PURE MACHINE: memories by index, what a cell of it is in the heap -/
abbrev pT : Type := (Nat → Nat → Option Nat) × (Nat → Nat) × (Nat → Nat) × Nat × (Nat → Nat → Int64)
abbrev pM : Type := pT × (Nat → Nat → Int32)
def pR (M : pM) : Nat → Nat → Option Nat := M.1.1
def pK (M : pM) : Nat → Nat := M.1.2.1
def pL (M : pM) : Nat → Nat := M.1.2.2.1
def pN (M : pM) : Nat := M.1.2.2.2.1
def pJ (M : pM) : Nat → Nat → Int64 := M.1.2.2.2.2
def pV (M : pM) : Nat → Nat → Int32 := M.2
def up2 {α : Type} (f : Nat → Nat → α) (h j : Nat) (x : α) : Nat → Nat → α := fun a b => if a = h ∧ b = j then x else f a b
def up1 {α : Type} (f : Nat → α) (h : Nat) (x : α) : Nat → α := fun a => if a = h then x else f a
theorem up1_off {α : Type} (f : Nat → α) {h a : Nat} (x : α) (q : a ≠ h) : up1 f h x a = f a := if_neg q
theorem up1_at {α : Type} (f : Nat → α) (h : Nat) (x : α) : up1 f h x h = x := if_pos rfl
theorem up2_same {α : Type} (f : Nat → Nat → α) (h j : Nat) (x : α) : up2 f h j x h j = x := by simp [up2]
theorem up2_ne {α : Type} (f : Nat → Nat → α) {h j a b : Nat} (x : α) (q : a ≠ h ∨ b ≠ j) : up2 f h j x a b = f a b := by
  unfold up2
  rw [if_neg]
  intro z
  rcases q with q | q
  · exact q z.1
  · exact q z.2
theorem up2_row {α : Type} (f : Nat → Nat → α) (h j : Nat) (x : α) (b : Nat) : up2 f h j x h b = if b = j then x else f h b := by simp [up2]
theorem up2_off {α : Type} (f : Nat → Nat → α) {h a : Nat} (j : Nat) (x : α) (q : a ≠ h) : up2 f h j x a = f a := by funext b; exact up2_ne f x (Or.inl q)
theorem up2_at {α : Type} (f : Nat → Nat → α) (h j : Nat) (x : α) : up2 f h j x h = up1 (f h) j x := by funext b; simp [up2, up1]
def mV (M : pM) (h j : Nat) (x : Int32) : pM := (M.1, up2 M.2 h j x)
def mJ (M : pM) (h j : Nat) (x : Int64) : pM := ((M.1.1, M.1.2.1, M.1.2.2.1, M.1.2.2.2.1, up2 M.1.2.2.2.2 h j x), M.2)
def mR (M : pM) (h j : Nat) (r : Option Nat) : pM := ((up2 M.1.1 h j r, M.1.2), M.2)
/-- a new cell of a kind, of a length -/
def mN (M : pM) (k n : Nat) : pM := ((up1 M.1.1 M.1.2.2.2.1 (fun _ => none), up1 M.1.2.1 M.1.2.2.2.1 k, up1 M.1.2.2.1 M.1.2.2.2.1 n, M.1.2.2.2.1 + 1, up1 M.1.2.2.2.2 M.1.2.2.2.1 (fun _ => 0)), up1 M.2 M.1.2.2.2.1 (fun _ => 0))
def fN : Nat → Nat
  | 0 => 11 | 1 => 11 | 2 => 10 | 3 => 6 | 4 => 4 | 5 => 6 | 6 => 9 | 7 => 4 | _ => 0
def fT : Nat → Nat → FieldType
  | 0 => tyX0 | 1 => tyX1 | 2 => tyX2 | 3 => tyX3 | 4 => tyX4 | 5 => tyX5 | 6 => tyX6 | 7 => tyX7 | _ => fun _ => .int
def fX : Nat → u_T
  | 0 => TX0 | 1 => TX1 | 2 => TX2 | 3 => TX3 | 4 => TX4 | 5 => TX5 | 6 => TX6 | _ => TX7
def fC : Nat → String
  | 0 => RX0 | 1 => RX1 | 2 => RX2 | 3 => RX3 | 4 => RX4 | 5 => RX5 | 6 => RX6 | 7 => RX7 | 8 => RX8 | 10 => RJ0 | 11 => RJ1 | 12 => RJ3 | _ => RL
def isRT : FieldType → Bool
  | .object _ => true | .array _ => true | _ => false
theorem ci8 {P : Nat → Prop} (h0 : P 0) (h1 : P 1) (h2 : P 2) (h3 : P 3) (h4 : P 4) (h5 : P 5) (h6 : P 6) (h7 : P 7) : ∀ ci, ci < 8 → P ci
  | 0, _ => h0 | 1, _ => h1 | 2, _ => h2 | 3, _ => h3 | 4, _ => h4 | 5, _ => h5 | 6, _ => h6 | 7, _ => h7
  | n + 8, h => absurd h (by omega)
theorem vwCl_at : ∀ ci, ci < 8 → vwCl[ci]? = some (fC ci, fX ci, fN ci) := ci8 rfl rfl rfl rfl rfl rfl rfl rfl
theorem fX_ty : ∀ ci, ci < 8 → ∀ k, k < fN ci → parseFieldDescriptor (fX ci k).2.2.1 = some (fT ci k) := ci8 tyX0_ok tyX1_ok tyX2_ok tyX3_ok tyX4_ok tyX5_ok tyX6_ok tyX7_ok
theorem fX_nm : ∀ ci, ci < 8 → ∀ a, a < fN ci → ∀ b, b < fN ci → a ≠ b → (fX ci a).2.1 ≠ (fX ci b).2.1 := ci8 nmX0 nmX1 nmX2 nmX3 nmX4 nmX5 nmX6 nmX7
theorem fX_own : ∀ ci, ci < 8 → ∀ k, k < fN ci → (fX ci k).1 = fC ci := ci8 (by decide +kernel) (by decide +kernel) (by decide +kernel) (by decide +kernel) (by decide +kernel) (by decide +kernel) (by decide +kernel) (by decide +kernel)
/-- a final field is a reference; the others are numbers -/
theorem fX_fin : ∀ ci, ci < 8 → ∀ k, k < fN ci → (fX ci k).2.2.2 = isRT (fT ci k) := ci8 (by decide +kernel) (by decide +kernel) (by decide +kernel) (by decide +kernel) (by decide +kernel) (by decide +kernel) (by decide +kernel) (by decide +kernel)
theorem fX_num : ∀ ci, ci < 8 → ∀ k, k < fN ci → isRT (fT ci k) = false → fT ci k = .int ∨ fT ci k = .boolean := ci8 (by decide +kernel) (by decide +kernel) (by decide +kernel) (by decide +kernel) (by decide +kernel) (by decide +kernel) (by decide +kernel) (by decide +kernel)
/-- a value of the pure machine: references are indices -/
def tr (ad : Nat → Nat) : Value → Value
  | .ref k => .ref (ad k)
  | v => v
theorem tr_cat (ad : Nat → Nat) (v : Value) : (tr ad v).category = v.category := by cases v <;> rfl
theorem tr_rf (ad : Nat → Nat) (r : Option Nat) : tr ad (va_rf r) = va_rf (r.map ad) := by cases r <;> rfl
def pfv (ad : Nat → Nat) (M : pM) (k j : Nat) : Value := if isRT (fT (pK M k) j) = true then va_rf ((pR M k j).map ad) else .int (pV M k j)
def pfs (ad : Nat → Nat) (M : pM) (k : Nat) : List Value := (List.range (fN (pK M k))).map (pfv ad M k)
def pArr (ad : Nat → Nat) (M : pM) (k : Nat) : vp_A := (pL M k, if pK M k = 11 then .inr (.inr (.inr (.inr (fun j => (pR M k j).map ad)))) else if pK M k = 12 then .inr (.inl (pJ M k)) else .inl (pV M k))
def pcell (cA : Nat → ClassId) (ad : Nat → Nat) (M : pM) (k : Nat) : va_E := if pK M k < 8 then .inr (pK M k, pfs ad M k) else .inl (cA (pK M k), pArr ad M k)
def pws (cA : Nat → ClassId) (ad : Nat → Nat) (M : pM) : va_W := (List.range (pN M)).map (fun k => (ad k, pcell cA ad M k))
abbrev gT : Type := va_G × (Nat → ClassId) × (Nat → Nat)
def gtys (cA : Nat → ClassId) : List (ClassId × FieldType) := [(cA 9, .int), (cA 11, .object RX2)]
theorem pws_len (cA : Nat → ClassId) (ad : Nat → Nat) (M : pM) : (pws cA ad M).length = pN M := by simp [pws]
theorem pws_get (cA : Nat → ClassId) (ad : Nat → Nat) (M : pM) {k : Nat} (h : k < pN M) : (pws cA ad M)[k]? = some (ad k, pcell cA ad M k) := by
  simp [pws, List.getElem?_range h]
theorem pws_out (cA : Nat → ClassId) (ad : Nat → Nat) (M : pM) {k : Nat} (h : pN M ≤ k) : (pws cA ad M)[k]? = none := by
  rw [List.getElem?_eq_none_iff, pws_len]; exact h
theorem pws_obj (cA : Nat → ClassId) (ad : Nat → Nat) (M : pM) {k ci : Nat} (h : k < pN M) (hk : pK M k = ci) (hc : ci < 8) : (pws cA ad M)[k]? = some (ad k, .inr (ci, pfs ad M k)) := by
  subst hk
  rw [pws_get cA ad M h, pcell, if_pos hc]
theorem pws_arr (cA : Nat → ClassId) (ad : Nat → Nat) (M : pM) {k c : Nat} (h : k < pN M) (hk : pK M k = c) (hc : 9 ≤ c) : (pws cA ad M)[k]? = some (ad k, .inl (cA c, pArr ad M k)) := by
  subst hk
  rw [pws_get cA ad M h, pcell, if_neg (by omega)]
theorem pws_set (cA : Nat → ClassId) (ad : Nat → Nat) (M M' : pM) {k : Nat} {e : va_E} (h : k < pN M) (hn : pN M' = pN M) (he : pcell cA ad M' k = e) (ho : ∀ i, i < pN M → i ≠ k → pcell cA ad M' i = pcell cA ad M i) : (pws cA ad M).set k (ad k, e) = pws cA ad M' := by
  apply List.ext_getElem?
  intro i
  by_cases hi : i < pN M
  · rw [pws_get cA ad M' (by rw [hn]; exact hi)]
    by_cases hik : i = k
    · subst hik
      rw [List.getElem?_set_self (by rw [pws_len]; exact hi), he]
    · rw [List.getElem?_set_ne (Ne.symm hik), pws_get cA ad M hi, ho i hi hik]
  · rw [pws_out cA ad M' (by rw [hn]; omega), List.getElem?_eq_none_iff, List.length_set, pws_len]
    omega
theorem pfs_get (ad : Nat → Nat) (M : pM) (k : Nat) {j : Nat} (h : j < fN (pK M k)) : (pfs ad M k)[j]? = some (pfv ad M k j) := by
  simp [pfs, List.getElem?_range h]
theorem pfv_congr {ad : Nat → Nat} {M M' : pM} {k j : Nat} (hK : pK M' k = pK M k) (hR : pR M' k j = pR M k j) (hV : pV M' k j = pV M k j) : pfv ad M' k j = pfv ad M k j := by
  unfold pfv
  rw [hK, hR, hV]
theorem pfv_num {ad : Nat → Nat} {M : pM} {k j : Nat} (hr : isRT (fT (pK M k) j) = false) : pfv ad M k j = .int (pV M k j) := by
  unfold pfv
  rw [hr, if_neg (by decide)]
theorem pfv_ref {ad : Nat → Nat} {M : pM} {k j : Nat} (hr : isRT (fT (pK M k) j) = true) : pfv ad M k j = va_rf ((pR M k j).map ad) := by
  unfold pfv
  rw [hr, if_pos rfl]
theorem pfs_set (ad : Nat → Nat) (M M' : pM) (k : Nat) {j : Nat} (hk : pK M' k = pK M k) {v : Value} (h : j < fN (pK M k)) (he : pfv ad M' k j = v) (ho : ∀ i, i ≠ j → pfv ad M' k i = pfv ad M k i) : (pfs ad M k).set j v = pfs ad M' k := by
  apply List.ext_getElem?
  intro i
  have hl : (pfs ad M k).length = fN (pK M k) := by simp [pfs]
  by_cases hi : i < fN (pK M k)
  · rw [pfs_get ad M' k (by rw [hk]; exact hi)]
    by_cases hij : i = j
    · subst hij
      rw [List.getElem?_set_self (by rw [hl]; exact hi), he]
    · rw [List.getElem?_set_ne (Ne.symm hij), pfs_get ad M k hi, ho i hij]
  · rw [List.getElem?_eq_none_iff.mpr (by rw [List.length_set, hl]; omega), List.getElem?_eq_none_iff.mpr (by simp [pfs, hk]; omega)]
/-- the world with one number changed -/
theorem pws_V_obj (cA : Nat → ClassId) (ad : Nat → Nat) (M : pM) {k ci j : Nat} {x : Int32} (h : k < pN M) (hk : pK M k = ci) (hc : ci < 8) (hj : j < fN ci) (hr : isRT (fT ci j) = false) : (pws cA ad M).set k (ad k, .inr (ci, (pfs ad M k).set j (.int x))) = pws cA ad (mV M k j x) := by
  subst hk
  refine pws_set cA ad M (mV M k j x) h rfl ?_ ?_
  · show pcell cA ad (mV M k j x) k = _
    have hk' : pK (mV M k j x) k = pK M k := rfl
    rw [pcell, hk', if_pos hc]
    refine congrArg (fun l => (Sum.inr (pK M k, l) : va_E)) (pfs_set ad M (mV M k j x) k rfl hj ?_ ?_).symm
    · rw [pfv_num (by rw [hk']; exact hr)]
      exact congrArg Value.int (up2_same M.2 k j x)
    · intro i hi
      exact pfv_congr rfl rfl (up2_ne M.2 x (Or.inr hi))
  · intro i hi hik
    have h1 : pfs ad (mV M k j x) i = pfs ad M i := by
      unfold pfs
      exact List.map_congr_left (fun b _ => pfv_congr rfl rfl (up2_ne M.2 x (Or.inl hik)))
    have h2 : pArr ad (mV M k j x) i = pArr ad M i := by
      have h3 : pV (mV M k j x) i = pV M i := up2_off M.2 j x hik
      unfold pArr
      rw [h3]
      rfl
    unfold pcell
    rw [h1, h2]
    rfl
theorem pws_V_arr (cA : Nat → ClassId) (ad : Nat → Nat) (M : pM) {k c j : Nat} {x : Int32} (h : k < pN M) (hk : pK M k = c) (hc : c = 9 ∨ c = 10) : (pws cA ad M).set k (ad k, .inl (cA c, pL M k, .inl (upd (pV M k) j x))) = pws cA ad (mV M k j x) := by
  subst hk
  refine pws_set cA ad M (mV M k j x) h rfl ?_ ?_
  · show pcell cA ad (mV M k j x) k = _
    have hk' : pK (mV M k j x) k = pK M k := rfl
    have hv : pV (mV M k j x) k = upd (pV M k) j x := by funext b; simp [mV, pV, up2, upd]
    rw [pcell, hk', if_neg (by omega), pArr, hk', if_neg (by omega), if_neg (by omega), hv]
    rfl
  · intro i hi hik
    have h1 : pfs ad (mV M k j x) i = pfs ad M i := by
      unfold pfs
      exact List.map_congr_left (fun b _ => pfv_congr rfl rfl (up2_ne M.2 x (Or.inl hik)))
    have h2 : pArr ad (mV M k j x) i = pArr ad M i := by
      have h3 : pV (mV M k j x) i = pV M i := up2_off M.2 j x hik
      unfold pArr
      rw [h3]
      rfl
    unfold pcell
    rw [h1, h2]
    rfl
theorem pws_J_arr (cA : Nat → ClassId) (ad : Nat → Nat) (M : pM) {k j : Nat} {x : Int64} (h : k < pN M) (hk : pK M k = 12) : (pws cA ad M).set k (ad k, .inl (cA 12, pL M k, .inr (.inl (vp_updL (pJ M k) j x)))) = pws cA ad (mJ M k j x) := by
  refine pws_set cA ad M (mJ M k j x) h rfl ?_ ?_
  · show pcell cA ad (mJ M k j x) k = _
    have hk' : pK (mJ M k j x) k = 12 := hk
    have hv : pJ (mJ M k j x) k = vp_updL (pJ M k) j x := by funext b; simp [mJ, pJ, up2, vp_updL]
    rw [pcell, hk', if_neg (by omega), pArr, hk', if_neg (by omega), if_pos rfl, hv]
    rfl
  · intro i hi hik
    have h2 : pArr ad (mJ M k j x) i = pArr ad M i := by
      have h3 : pJ (mJ M k j x) i = pJ M i := up2_off M.1.2.2.2.2 j x hik
      unfold pArr
      rw [h3]
      rfl
    unfold pcell
    rw [h2]
    rfl
/-- .. one reference changed -/
theorem pws_R_off (cA : Nat → ClassId) (ad : Nat → Nat) (M : pM) (k j : Nat) (r : Option Nat) {i : Nat} (hik : i ≠ k) : pcell cA ad (mR M k j r) i = pcell cA ad M i := by
  have h3 : pR (mR M k j r) i = pR M i := up2_off M.1.1 j r hik
  have h1 : pfs ad (mR M k j r) i = pfs ad M i := by
    unfold pfs
    refine List.map_congr_left (fun b _ => ?_)
    unfold pfv
    rw [h3]
    rfl
  have h2 : pArr ad (mR M k j r) i = pArr ad M i := by
    unfold pArr
    rw [h3]
    rfl
  unfold pcell
  rw [h1, h2]
  rfl
theorem pws_R_obj (cA : Nat → ClassId) (ad : Nat → Nat) (M : pM) {k ci j : Nat} {r : Option Nat} (h : k < pN M) (hk : pK M k = ci) (hc : ci < 8) (hj : j < fN ci) (hr : isRT (fT ci j) = true) : (pws cA ad M).set k (ad k, .inr (ci, (pfs ad M k).set j (va_rf (r.map ad)))) = pws cA ad (mR M k j r) := by
  subst hk
  refine pws_set cA ad M (mR M k j r) h rfl ?_ (fun i _ hik => pws_R_off cA ad M k j r hik)
  show pcell cA ad (mR M k j r) k = _
  have hk' : pK (mR M k j r) k = pK M k := rfl
  rw [pcell, hk', if_pos hc]
  refine congrArg (fun l => (Sum.inr (pK M k, l) : va_E)) (pfs_set ad M (mR M k j r) k rfl hj ?_ ?_).symm
  · rw [pfv_ref (by rw [hk']; exact hr)]
    exact congrArg (fun z : Option Nat => va_rf (z.map ad)) (up2_same M.1.1 k j r)
  · intro i hi
    exact pfv_congr rfl (up2_ne M.1.1 r (Or.inr hi)) rfl
theorem pws_R_arr (cA : Nat → ClassId) (ad : Nat → Nat) (M : pM) {k j v : Nat} (h : k < pN M) (hk : pK M k = 11) : (pws cA ad M).set k (ad k, .inl (cA 11, pL M k, .inr (.inr (.inr (.inr (va_up (fun j => (pR M k j).map ad) j (some (ad v)))))))) = pws cA ad (mR M k j (some v)) := by
  refine pws_set cA ad M (mR M k j (some v)) h rfl ?_ (fun i _ hik => pws_R_off cA ad M k j (some v) hik)
  show pcell cA ad (mR M k j (some v)) k = _
  have hk' : pK (mR M k j (some v)) k = 11 := hk
  have hv : (fun i => (pR (mR M k j (some v)) k i).map ad) = va_up (fun j => (pR M k j).map ad) j (some (ad v)) := by
    funext b
    by_cases hb : b = j <;> simp [mR, pR, up2, va_up, hb]
  rw [pcell, hk', if_neg (by omega), pArr, hk', if_pos rfl, hv]
  rfl
/-- .. a cell more -/
theorem pws_new (cA : Nat → ClassId) (ad ad' : Nat → Nat) (M : pM) {k n q : Nat} {e : va_E} (hR : ∀ i, i < pN M → ∀ j, pR M i j ≠ some (pN M)) (hq : ad' (pN M) = q) (hk : ∀ i, i ≠ pN M → ad' i = ad i) (he : pcell cA ad' (mN M k n) (pN M) = e) : pws cA ad M ++ [(q, e)] = pws cA ad' (mN M k n) := by
  have hn : pN (mN M k n) = pN M + 1 := rfl
  have ho : ∀ i, i < pN M → pcell cA ad' (mN M k n) i = pcell cA ad M i := by
    intro i hi
    have hne : i ≠ pN M := by omega
    have h3 : ∀ j, (pR (mN M k n) i j).map ad' = (pR M i j).map ad := by
      intro j
      have h4 : pR (mN M k n) i = pR M i := by
        exact up1_off _ _ hne
      rw [h4]
      cases hr : pR M i j with
      | none => rfl
      | some r =>
        show some (ad' r) = some (ad r)
        rw [hk r (fun z => hR i hi j (by rw [hr, z]))]
    have h5 : pK (mN M k n) i = pK M i := by
      exact up1_off _ _ hne
    have h6 : pL (mN M k n) i = pL M i := by
      exact up1_off _ _ hne
    have h7 : pV (mN M k n) i = pV M i := by
      exact up1_off _ _ hne
    have h8 : pJ (mN M k n) i = pJ M i := by
      exact up1_off _ _ hne
    have h1 : pfs ad' (mN M k n) i = pfs ad M i := by
      unfold pfs
      rw [h5]
      refine List.map_congr_left (fun b _ => ?_)
      unfold pfv
      rw [h3, h5, h7]
    have h2 : pArr ad' (mN M k n) i = pArr ad M i := by
      have h9 : (fun j => (pR (mN M k n) i j).map ad') = (fun j => (pR M i j).map ad) := funext h3
      unfold pArr
      rw [h9, h5, h6, h7, h8]
    unfold pcell
    rw [h1, h2, h5]
  apply List.ext_getElem?
  intro i
  by_cases hi : i < pN M
  · rw [List.getElem?_append_left (by rw [pws_len]; exact hi), pws_get cA ad M hi, pws_get cA ad' (mN M k n) (by rw [hn]; omega), ho i hi, hk i (by omega)]
  · by_cases hi2 : i = pN M
    · subst hi2
      rw [List.getElem?_append_right (by rw [pws_len]; exact Nat.le_refl _), pws_len, Nat.sub_self, pws_get cA ad' (mN M k n) (by rw [hn]; omega), he, hq]
      rfl
    · rw [pws_out cA ad' (mN M k n) (by rw [hn]; omega), List.getElem?_eq_none_iff, List.length_append, pws_len]
      show pN M + 1 ≤ i
      omega
/-- locals: a list of those that are known -/
def lset (i : Nat) (v : Value) (L : List (Nat × Value)) : List (Nat × Value) := (i, v) :: L.filter (fun q => !(q.1 == i) && !(q.1 + 1 == i && q.2.category == 2))
def lget (i : Nat) : List (Nat × Value) → Option Value
  | [] => none
  | q :: L => if q.1 = i then some q.2 else lget i L
def trL (ad : Nat → Nat) (L : List (Nat × Value)) : List (Nat × Value) := L.map (fun q => (q.1, tr ad q.2))
theorem lget_mem {i : Nat} {v : Value} : ∀ {L : List (Nat × Value)}, lget i L = some v → (i, v) ∈ L
  | [], h => by cases h
  | q :: L, h => by
    unfold lget at h
    by_cases hq : q.1 = i
    · rw [if_pos hq] at h
      cases h
      subst hq
      exact List.mem_cons_self
    · rw [if_neg hq] at h
      exact List.mem_cons_of_mem _ (lget_mem h)
theorem trL_mem {ad : Nat → Nat} {i : Nat} {v : Value} {L : List (Nat × Value)} (h : (i, v) ∈ L) : (i, tr ad v) ∈ trL ad L := List.mem_map.mpr ⟨(i, v), h, rfl⟩
theorem lget_at {ad : Nat → Nat} {ls : Array Slot} {nL i : Nat} {v : Value} {L : List (Nat × Value)} (hl : lv_has ls nL (trL ad L)) (h : lget i L = some v) : ls[i]? = some (.val (tr ad v)) := hl.2.2 (i, tr ad v) (trL_mem (lget_mem h))
theorem lset_tr (ad : Nat → Nat) (i : Nat) (v : Value) (L : List (Nat × Value)) : (i, tr ad v) :: (trL ad L).filter (fun q => !(q.1 == i) && !(q.1 + 1 == i && q.2.category == 2)) = trL ad (lset i v L) := by
  unfold trL lset
  rw [List.map_cons, List.filter_map]
  refine congrArg (fun l => (i, tr ad v) :: l) (congrArg (List.map _) (List.filter_congr (fun q _ => ?_)))
  show (!(q.1 == i) && !(q.1 + 1 == i && (tr ad q.2).category == 2)) = _
  rw [tr_cat]
def lsetL (i : Nat) (v : Value) (L : List (Nat × Value)) : List (Nat × Value) := (i, v) :: L.filter (fun q => !(q.1 == i) && (!(q.1 == i + 1) && !(q.1 + 1 == i && q.2.category == 2)))
theorem lsetL_tr (ad : Nat → Nat) (i : Nat) (v : Value) (L : List (Nat × Value)) : (i, tr ad v) :: (trL ad L).filter (fun q => !(q.1 == i) && (!(q.1 == i + 1) && !(q.1 + 1 == i && q.2.category == 2))) = trL ad (lsetL i v L) := by
  unfold trL lsetL
  rw [List.map_cons, List.filter_map]
  refine congrArg (fun l => (i, tr ad v) :: l) (congrArg (List.map _) (List.filter_congr (fun q _ => ?_)))
  show (!(q.1 == i) && (!(q.1 == i + 1) && !(q.1 + 1 == i && (tr ad q.2).category == 2))) = _
  rw [tr_cat]
