/-! constructors: the memory grows as the topology says -/
def Mx (R : Nat → Nat → Option Nat) (n : Nat) (V : Nat → Nat → Int32) : pM := ((R, K0, L0, n, fun _ _ => 0), V)
def okM (R : Nat → Nat → Option Nat) (n : Nat) (V : Nat → Nat → Int32) : Prop := (∀ i, n ≤ i → R i = fun _ => none) ∧ (∀ i j t, R i j = some t → t < n) ∧ (∀ i, n ≤ i → V i = fun _ => 0)
def rF (R : Nat → Nat → Option Nat) (h n n' : Nat) : Nat → Nat → Option Nat := fun i j => if i = h ∨ (n ≤ i ∧ i < n') then R0 i j else R i j
theorem up1_id {α : Type} (f : Nat → α) (k : Nat) : up1 f k (f k) = f := by
  funext j
  by_cases h : j = k
  · subst h; rw [up1_at]
  · rw [up1_off _ _ h]
theorem Mx_new {R : Nat → Nat → Option Nat} {n : Nat} {V : Nat → Nat → Int32} (q : okM R n V) {k m : Nat} (hk : K0 n = k) (hm : L0 n = m) : mN (Mx R n V) k m = Mx R (n + 1) V := by
  subst hk
  subst hm
  have e1 : up1 R n (fun _ => none) = R := (congrArg (up1 R n) (q.1 n (Nat.le_refl _)).symm).trans (up1_id R n)
  have e2 : up1 V n (fun _ => 0) = V := (congrArg (up1 V n) (q.2.2 n (Nat.le_refl _)).symm).trans (up1_id V n)
  have e3 : up1 (fun (_ _ : Nat) => (0 : Int64)) n (fun _ => 0) = fun (_ _ : Nat) => (0 : Int64) := up1_id (fun (_ _ : Nat) => (0 : Int64)) n
  show ((up1 R n (fun _ => none), up1 K0 n (K0 n), up1 L0 n (L0 n), n + 1, up1 (fun (_ _ : Nat) => (0 : Int64)) n (fun _ => 0)), up1 V n (fun _ => 0)) = _
  rw [e1, e2, e3, up1_id, up1_id]
  rfl
theorem okM_put {R : Nat → Nat → Option Nat} {n : Nat} {V : Nat → Nat → Int32} {h j t : Nat} (q : okM R n V) (hh : h < n) (ht : t < n) : okM (up2 R h j (some t)) n V := by
  refine ⟨fun i hi => ?_, fun a b t' ht' => ?_, q.2.2⟩
  · rw [up2_off R j (some t) (by omega)]
    exact q.1 i hi
  · unfold up2 at ht'
    by_cases e : a = h ∧ b = j
    · rw [if_pos e] at ht'
      cases ht'
      exact ht
    · rw [if_neg e] at ht'
      exact q.2.1 a b t' ht'
theorem okM_le {R : Nat → Nat → Option Nat} {n n' : Nat} {V : Nat → Nat → Int32} (q : okM R n V) (h : n ≤ n') : okM R n' V :=
  ⟨fun i hi => q.1 i (Nat.le_trans h hi), fun a b t ht => Nat.lt_of_lt_of_le (q.2.1 a b t ht) h, fun i hi => q.2.2 i (Nat.le_trans h hi)⟩
theorem R0_none {i : Nat} (h : ¬ i = 0 ∧ ¬ i = 1 ∧ ¬ i = 2 ∧ ¬ i = 3 ∧ ¬ i = 16 ∧ ¬ i = 4 ∧ ¬ i = 10 ∧ ¬ i = 17 ∧ ¬ i = 23 ∧ ¬ i = 389 ∧ ¬ i = 391 ∧ ¬ i = 398 ∧ ¬ i = 405 ∧ ¬ (29 ≤ i ∧ i < 389 ∧ (i - 29) % 6 = 0)) : R0 i = fun _ => none := by
  funext j
  unfold R0
  rw [if_neg h.1, if_neg h.2.1, if_neg h.2.2.1, if_neg (by omega), if_neg (by omega), if_neg h.2.2.2.2.2.2.2.2.2.2.2.2.2, if_neg (by omega), if_neg (by omega), if_neg (by omega)]
theorem K0_side {h : Nat} (q : isSide h) (j : Nat) (hj : j < 5) : K0 (h + 1 + j) = 9 ∧ L0 (h + 1 + j) = 10 := (sd_a q j hj).2
/-- arrays of one object, the last first -/
def ups (R : Nat → Nat → Option Nat) (h : Nat) : List (Nat × Nat) → Nat → Nat → Option Nat
  | [] => R
  | q :: l => up2 (ups R h l) h q.1 (some q.2)
theorem ups_off {R : Nat → Nat → Option Nat} {h i : Nat} (hi : i ≠ h) : ∀ l : List (Nat × Nat), ups R h l i = R i
  | [] => rfl
  | q :: l => by
    unfold ups
    rw [up2_off _ _ _ hi]
    exact ups_off hi l
theorem ups_at {R : Nat → Nat → Option Nat} {h : Nat} (hR : R h = fun _ => none) (j : Nat) : ∀ l : List (Nat × Nat), ups R h l h j = (l.find? (fun q => q.1 == j)).map (fun q => q.2)
  | [] => by
    show R h j = none
    rw [hR]
  | q :: l => by
    unfold ups
    rw [up2_row, List.find?_cons]
    by_cases e : j = q.1
    · rw [if_pos e, e, beq_self_eq_true]
      rfl
    · rw [if_neg e, show (q.1 == j) = false from beq_eq_false_iff_ne.mpr (Ne.symm e)]
      exact ups_at hR j l
theorem ups_eq {R : Nat → Nat → Option Nat} {h n n' : Nat} {l : List (Nat × Nat)} (hR : R h = fun _ => none) (hRn : ∀ i, n ≤ i → R i = fun _ => none) (h1 : ∀ i, n ≤ i → i < n' → R0 i = fun _ => none) (h2 : ∀ j, R0 h j = (l.find? (fun q => q.1 == j)).map (fun q => q.2)) : ups R h l = rF R h n n' := by
  funext i j
  unfold rF
  by_cases e : i = h
  · subst e
    rw [if_pos (Or.inl rfl), ups_at hR, h2]
  · rw [ups_off e]
    by_cases e2 : n ≤ i ∧ i < n'
    · rw [if_pos (Or.inr e2), hRn i e2.1, h1 i e2.1 e2.2]
    · rw [if_neg (by omega)]
theorem rF_off {R : Nat → Nat → Option Nat} {h n n' i : Nat} (q : ¬ (i = h ∨ (n ≤ i ∧ i < n'))) : rF R h n n' i = R i := funext (fun j => if_neg q)
theorem rF_in {R : Nat → Nat → Option Nat} {h n n' i : Nat} (q : i = h ∨ (n ≤ i ∧ i < n')) : rF R h n n' i = R0 i := funext (fun j => if_pos q)
theorem find_j {l : List (Nat × Nat)} {h : Nat} (h1 : ∀ j, j < 40 → R0 h j = (l.find? (fun q => q.1 == j)).map (fun q => q.2)) (h2 : (l.all fun q => decide (q.1 < 40)) = true) (h3 : ∀ j, 40 ≤ j → R0 h j = none) : ∀ j, R0 h j = (l.find? (fun q => q.1 == j)).map (fun q => q.2) := by
  intro j
  by_cases e : j < 40
  · exact h1 j e
  · rw [h3 j (by omega), List.find?_eq_none.mpr (fun q hq z => ?_)]
    · rfl
    · have := of_decide_eq_true (List.all_eq_true.mp h2 q hq)
      have := eq_of_beq z
      omega
section CiRows
variable {d d' : pD} {Qr : Option Value → pM → Prop} {Qx : String → pM → Prop} {pc p1 idx ik ic : Nat} {R : Nat → Nat → Option Nat} {V V' : Nat → Nat → Int32} {h n j N bc bs : Nat} {x : Int32}
theorem hR_of (q : okM R n V) : ∀ i, i < pN (Mx R n V) → ∀ b, pR (Mx R n V) i b ≠ some (pN (Mx R n V)) := fun i _ b z => Nat.lt_irrefl _ (q.2.1 i b n z)
theorem rOK_in {L : List (Nat × Value)} {st : List Value} {n n' : Nat} (h1 : ∀ r ∈ L, ∀ k, r.2 = Value.ref k → k < n) (h2 : ∀ v ∈ st, ∀ k, v = Value.ref k → k < n) : rOK L st n n' := by
  intro k hk
  rcases hk with ⟨i, hi⟩ | hi
  · exact Or.inl (h1 _ hi k rfl)
  · exact Or.inl (h2 _ hi k rfl)
theorem c_arr (knd : Nat) (q : okM R n V) (hh : h < n) (hn : n < 405) (hk : K0 h = mdO d) (hK : K0 n = knd) (hN : L0 n = N)
    (hnew : ∀ {L : List (Nat × Value)} {st : List Value}, pN (Mx R n V) < 1000 → (∀ i, i < pN (Mx R n V) → ∀ b, pR (Mx R n V) i b ≠ some (pN (Mx R n V))) → rOK L st (pN (Mx R n V)) (pN (Mx R n V) + 1) → WPs d Qr Qx (p1 + 2) L (.ref (pN (Mx R n V)) :: st) (mN (Mx R n V) knd N) (bc - 1) (bs - N) → WPs d Qr Qx p1 L (.int x :: st) (Mx R n V) bc bs)
    (d0 : decode (mdB d) pc = .ok (.aload_n 0, 1)) (hp : WPs d Qr Qx p1 [(0, .ref h)] [.int x, .ref h] (Mx R n V) bc bs → WPs d Qr Qx (pc + 1) [(0, .ref h)] [.ref h] (Mx R n V) bc bs) (hf : fldP (mdO d) idx (mdO d) j 0) (d2 : decode (mdB d) (p1 + 2) = .ok (.putfield idx, 3)) (ht : isRT (fT (mdO d) j) = true) (hi : (mdY d).name = "<init>")
    (k : okM (up2 R h j (some n)) (n + 1) V → WPs d Qr Qx (p1 + 2 + 3) [(0, .ref h)] [] (Mx (up2 R h j (some n)) (n + 1) V) (bc - 1) (bs - N)) : WPs d Qr Qx pc [(0, .ref h)] [] (Mx R n V) bc bs := by
  refine s_aload_n (x := h) d0 rfl (hp (hnew (show n < 1000 by omega) (hR_of q) (rOK_in (fun r hr k hk9 => ?_) (fun v hv k hk9 => ?_)) ?_))
  · rw [List.mem_singleton] at hr
    subst hr
    cases hk9
    exact hh
  · rw [List.mem_singleton] at hv
    subst hv
    cases hk9
    exact hh
  · rw [Mx_new q hK hN]
    exact s_putR (r := n) hf d2 (show h < n + 1 by omega) hk ht hi (k (okM_put (okM_le q (by omega)) (by omega) (by omega)))
theorem s_newL {ci m0 : Nat} {L : List (Nat × Value)} {st : List Value} {M : pM} (hw : newP (mdO d) idx ci) (hd : decode (mdB d) pc = .ok (.new idx, 3)) (hR : ∀ i, i < pN M → ∀ j, pR M i j ≠ some (pN M)) (hn : pN M < 1000) (hro : rOK L st (pN M) (pN M + 1)) (hb : 1 ≤ bc) (hs : fN ci ≤ bs) (k : WPs d Qr Qx (pc + 3) L (.ref (pN M) :: st) (mN M ci m0) (bc - 1) (bs - fN ci)) : WPs d Qr Qx pc L st M bc bs := by
  intro p l e s m args below meth c G ad0 M0 A ad H locs ls cells slots X
  obtain ⟨⟨c1, c2, c3, c4, c5, c6, c7, c8, c9, c10, c11, c12, c13, c14, c15⟩, h1, h2, h3, h4, h5, hP, hD, hS, hl⟩ := id X
  obtain ⟨w0, w1, w2, w3⟩ := hw
  refine va_new (fs := (List.range (fN ci)).map (fun j => defaultValue (fT ci j))) c1 c2 c6 (fun w hw => List.mem_cons_of_mem _ (ulay ci w0 w hw)) (fT ci) (fX_ty ci w0) c5 (c6 _ (List.mem_cons_of_mem _ w1)) (c6 _ (List.mem_cons_of_mem _ w2)) (c6 _ (List.mem_cons_of_mem _ w3)) c7 hP hD hS c13 (vwCl_at ci w0) ?_ (by omega) (by omega) hd (fun q H1 hP1 hD1 hS1 => ?_)
  · intro j hj
    simp [vp_V, List.getElem?_range hj]
  · have he : ∀ ad', pcell G.2.1 ad' (mN M ci m0) (pN M) = .inr (ci, (List.range (fN ci)).map (fun j => defaultValue (fT ci j))) := by
      intro ad'
      rw [pcell, mN_K, if_pos w0, pfs, mN_K]
      refine congrArg (fun z => (Sum.inr (ci, z) : va_E)) (List.map_congr_left (fun j hj => ?_))
      rw [dflt_of ci w0 j (List.mem_range.mp hj), pfv, mN_K, mN_R, mN_V]
      rfl
    obtain ⟨ad', z1, z2, Y⟩ := pNew X hR hn hro he hb hs hP1 hD1 hS1
    have Z := k p l e s m args below meth c G ad0 M0 A ad' H1 locs ls (cells + 1) (slots + fN ci) Y
    have e9 : (Value.ref (pN M) :: st).map (tr ad') = Value.ref q :: st.map (tr ad) := by
      rw [List.map_cons, z2]
      show Value.ref (ad' (pN M)) :: _ = _
      rw [z1]
    rw [e9] at Z
    exact Z
/-- what a constructor does -/
def CI (d : pD) (h n n' : Nat) (R : Nat → Nat → Option Nat) (V V' : Nat → Nat → Int32) : Prop := CT d [.ref h] (Mx R n V) (fun v M => v = none ∧ M = Mx (rF R h n n') n' V' ∧ okM (rF R h n n') n' V') (fun _ _ => False)
theorem c_go {L : List (Nat × Value)} {st : List Value} {n1 n' : Nat} (hx : mdX d pc = fun _ => some none) (hr : rOK L st n1 n') (kk : okM (rF R h n1 n') n' V' → WPs d Qr Qx (pc + 3) L st (Mx (rF R h n1 n') n' V') (bc - (mdM d').cells) (bs - (mdM d').slots)) : pGo d d' Qr Qx pc L st (Mx R n1 V) bc bs (fun v M => v = none ∧ M = Mx (rF R h n1 n') n' V' ∧ okM (rF R h n1 n') n' V') (fun _ _ => False) := by
  refine ⟨fun v M' hv => ?_, fun E M' hE => hE.elim⟩
  obtain ⟨rfl, rfl, hq⟩ := hv
  exact ⟨hr, kk hq⟩
/-- this.f = new C() -/
theorem c_obj {n' : Nat} (hcall : iv3 (mdO d) ic d' ∨ iv4 (mdO d) ic d') (q : okM R n V) (hh : h < n) (hn : n < 405) (hk : K0 h = mdO d) (hK : K0 n = mdO d') (hn' : n < n')
    (d0 : decode (mdB d) pc = .ok (.aload_n 0, 1)) (d1 : decode (mdB d) (pc + 1) = .ok (.new ik, 3)) (hw : newP (mdO d) ik (mdO d')) (d4 : decode (mdB d) (pc + 4) = .ok (.dup, 1)) (d5 : decode (mdB d) (pc + 5) = .ok (.invokespecial ic, 3)) (d8 : decode (mdB d) (pc + 8) = .ok (.putfield idx, 3)) (hrm : rmP d d') (ha : 0 = mdA d') (hb : 1 + (mdM d').cells ≤ bc) (hs : fN (mdO d') + (mdM d').slots ≤ bs) (hx : mdX d (pc + 5) = fun _ => some none) (hf : fldP (mdO d) idx (mdO d) j 0) (ht : isRT (fT (mdO d) j) = true) (hi : (mdY d).name = "<init>")
    (hC : CI d' n (n + 1) n' R V V')
    (k : okM (up2 (rF R n (n + 1) n') h j (some n)) n' V' → WPs d Qr Qx (pc + 8 + 3) [(0, .ref h)] [] (Mx (up2 (rF R n (n + 1) n') h j (some n)) n' V') (bc - 1 - (mdM d').cells) (bs - fN (mdO d') - (mdM d').slots)) : WPs d Qr Qx pc [(0, .ref h)] [] (Mx R n V) bc bs := by
  have hL : ∀ r ∈ [((0 : Nat), Value.ref h)], ∀ k, r.2 = Value.ref k → k < n := by
    intro r hr k hk9
    rw [List.mem_singleton] at hr
    subst hr
    cases hk9
    exact hh
  have hS : ∀ v ∈ [Value.ref h], ∀ k, v = Value.ref k → k < n := by
    intro v hv k hk9
    rw [List.mem_singleton] at hv
    subst hv
    cases hk9
    exact hh
  refine s_aload_n (x := h) d0 rfl (s_newL (m0 := L0 n) hw d1 (hR_of q) (show n < 1000 by omega) (rOK_in hL hS) (by omega) (by omega) ?_)
  rw [Mx_new q hK rfl]
  refine s_dup d4 rfl ?_
  have kk : okM (rF R n (n + 1) n') n' V' → WPs d Qr Qx (pc + 5 + 3) [(0, .ref h)] [.ref n, .ref h] (Mx (rF R n (n + 1) n') n' V') (bc - 1 - (mdM d').cells) (bs - fN (mdO d') - (mdM d').slots) := fun hq => s_putR (r := n) hf d8 (show h < n' by omega) hk ht hi (k (okM_put hq (by omega) (by omega)))
  have hr : rOK [((0 : Nat), Value.ref h)] [.ref n, .ref h] (n + 1) n' := rOK_in (fun r hr k hk9 => Nat.lt_succ_of_lt (hL r hr k hk9)) (fun v hv k hk9 => by
    rcases List.mem_cons.mp hv with e | e
    · subst e
      cases hk9
      exact Nat.lt_succ_self _
    · exact Nat.lt_succ_of_lt (hS v e k hk9))
  have hG := c_go (d := d) (d' := d') (Qr := Qr) (Qx := Qx) (pc := pc + 5) (R := R) (V := V) (V' := V') (bc := bc - 1) (bs := bs - fN (mdO d')) (h := n) hx hr kk
  rcases hcall with hcall | hcall
  · exact s_callI (h := n) (As := []) (st := [.ref n, .ref h]) hcall d5 hrm ha (show 2 ≤ 8 by decide) (by omega) (by omega) hC hG
  · exact s_callIN (h := n) (As := []) (st := [.ref n, .ref h]) hcall d5 hrm ha (show 2 ≤ 8 by decide) (by omega) (by omega) hC hG
end CiRows
