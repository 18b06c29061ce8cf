/-! making cells, throwing, weaker ends -/
section MRows
variable {d : pD} {Qr : Option Value → pM → Prop} {Qx : String → pM → Prop} {pc idx : Nat} {L : List (Nat × Value)} {st : List Value} {M : pM} {bc bs : Nat}
def newP (own idx ci : Nat) : Prop := ci < 8 ∧ Cond.classLink (fC own) idx (fC ci) ∈ TBg ∧ Cond.instantiable (fC ci) (fN ci) ∈ TBg ∧ Cond.initialized (fC ci) ∈ TBg
theorem mN_K (M : pM) (k n : Nat) : pK (mN M k n) (pN M) = k := up1_at _ _ _
theorem mN_L (M : pM) (k n : Nat) : pL (mN M k n) (pN M) = n := up1_at _ _ _
theorem mN_R (M : pM) (k n j : Nat) : pR (mN M k n) (pN M) j = none := congrFun (up1_at M.1.1 M.1.2.2.2.1 (fun _ => none)) j
theorem mN_V (M : pM) (k n : Nat) : pV (mN M k n) (pN M) = fun _ => 0 := up1_at M.2 M.1.2.2.2.1 (fun _ => 0)
theorem mN_J (M : pM) (k n : Nat) : pJ (mN M k n) (pN M) = fun _ => 0 := up1_at M.1.2.2.2.2 M.1.2.2.2.1 (fun _ => 0)
theorem dflt_of (ci : Nat) (hc : ci < 8) (j : Nat) (hj : j < fN ci) : defaultValue (fT ci j) = if isRT (fT ci j) = true then .null else .int 0 := by
  cases hr : isRT (fT ci j) with
  | true =>
    generalize fT ci j = ty at hr
    cases ty <;> first | rfl | (simp [isRT] at hr)
  | false =>
    rcases fX_num ci hc j hj hr with h | h <;> rw [h] <;> rfl
/-- the world with a cell more -/
theorem pNew {p : Program} {l : Launch} {s : State} {m : MethodId} {args : Array Value} {meth : Method} {c : Code} {G : gT} {ad0 : Nat → Nat} {M0 : pM} {A : Nat → Prop} {ad : Nat → Nat} {H H1 : Heap} {locs : List Loc} {ls : Array Slot} {cells slots q k n n' : Nat} {e9 : va_E}
    (X : pAt d p l s m args meth c G ad0 M0 A ad M L bc bs H locs ls cells slots) (hR : ∀ i, i < pN M → ∀ j, pR M i j ≠ some (pN M)) (hn : pN M < 1000) (hro : rOK L st (pN M) (pN M + 1)) (he : ∀ ad', pcell G.2.1 ad' (mN M k n) (pN M) = e9) (hb : 1 ≤ bc) (hs : n' ≤ bs)
    (hP1 : va_P G.1 vwCl (pws G.2.1 ad M ++ [(q, e9)]) H1) (hD1 : va_D A (pws G.2.1 ad M ++ [(q, e9)])) (hS1 : va_S A s.heap H1 locs) :
    ∃ ad' : Nat → Nat, ad' (pN M) = q ∧ st.map (tr ad') = st.map (tr ad) ∧ pAt d p l s m args meth c G ad0 M0 A ad' (mN M k n) L (bc - 1) (bs - n') H1 locs ls (cells + 1) (slots + n') := by
  obtain ⟨C, h1, h2, h3, h4, h5, hP, hD, hS, hl⟩ := X
  obtain ⟨ad', hz1, hz2⟩ : ∃ ad' : Nat → Nat, ad' (pN M) = q ∧ ∀ i, i ≠ pN M → ad' i = ad i := ⟨fun i => if i = pN M then q else ad i, if_pos rfl, fun i hi => if_neg hi⟩
  have hw := pws_new G.2.1 ad ad' M (k := k) (n := n) hR hz1 hz2 (he ad')
  rw [hw] at hP1 hD1
  have hne : ∀ i, (i < pN M ∨ pN M + 1 ≤ i) → i ≠ pN M := by omega
  have hl' : trL ad' L = trL ad L := List.map_congr_left (fun r hr => by
    rw [tr_eq (fun i hi => ?_)]
    exact hz2 i (hne i (hro i (Or.inl ⟨r.1, by rw [← hi]; exact hr⟩))))
  have hs' : st.map (tr ad') = st.map (tr ad) := List.map_congr_left (fun r hr => by
    refine tr_eq (fun i hi => ?_)
    exact hz2 i (hne i (hro i (Or.inr (by rw [← hi]; exact hr)))))
  refine ⟨ad', hz1, hs', C, Nat.le_succ_of_le h1, hn, fun i hi => ?_, by omega, by omega, hP1, hD1, hS1, by rw [hl']; exact hl⟩
  have e1 : pN (mN M k n) = pN M + 1 := rfl
  rw [e1] at hi
  rw [hz2 i (by omega)]
  exact h3 i (by omega)
theorem s_new {ci : Nat} (hw : newP (mdO d) idx ci) (hd : decode (mdB d) pc = .ok (.new idx, 3)) (hR : ∀ i, i < pN M → ∀ j, pR M i j ≠ some (pN M)) (hn : pN M < 1000) (hro : rOK L st (pN M) (pN M + 1)) (hb : 1 ≤ bc) (hs : fN ci ≤ bs) (k : WPs d Qr Qx (pc + 3) L (.ref (pN M) :: st) (mN M ci 0) (bc - 1) (bs - fN ci)) : WPs d Qr Qx pc L st M bc bs := by
  intro p l e s m args below meth c G ad0 M0 A ad H locs ls cells slots X
  obtain ⟨⟨c1, c2, c3, c4, c5, c6, c7, c8, c9, c10, c11, c12, c13, c14, c15⟩, h1, h2, h3, h4, h5, hP, hD, hS, hl⟩ := id X
  obtain ⟨w0, w1, w2, w3⟩ := hw
  refine va_new (fs := (List.range (fN ci)).map (fun j => defaultValue (fT ci j))) c1 c2 c6 (fun w hw => List.mem_cons_of_mem _ (ulay ci w0 w hw)) (fT ci) (fX_ty ci w0) c5 (c6 _ (List.mem_cons_of_mem _ w1)) (c6 _ (List.mem_cons_of_mem _ w2)) (c6 _ (List.mem_cons_of_mem _ w3)) c7 hP hD hS c13 (vwCl_at ci w0) ?_ (by omega) (by omega) hd (fun q H1 hP1 hD1 hS1 => ?_)
  · intro j hj
    simp [vp_V, List.getElem?_range hj]
  · have he : ∀ ad', pcell G.2.1 ad' (mN M ci 0) (pN M) = .inr (ci, (List.range (fN ci)).map (fun j => defaultValue (fT ci j))) := by
      intro ad'
      rw [pcell, mN_K, if_pos w0, pfs, mN_K]
      refine congrArg (fun z => (Sum.inr (ci, z) : va_E)) (List.map_congr_left (fun j hj => ?_))
      rw [dflt_of ci w0 j (List.mem_range.mp hj), pfv, mN_K, mN_R, mN_V]
      rfl
    obtain ⟨ad', z1, z2, Y⟩ := pNew X hR hn hro he hb hs hP1 hD1 hS1
    have Z := k p l e s m args below meth c G ad0 M0 A ad' H1 locs ls (cells + 1) (slots + fN ci) Y
    have e9 : (Value.ref (pN M) :: st).map (tr ad') = Value.ref q :: st.map (tr ad) := by
      rw [List.map_cons, z2]
      show Value.ref (ad' (pN M)) :: _ = _
      rw [z1]
    rw [e9] at Z
    exact Z
theorem gtys_same {cA : Nat → ClassId} {D : va_G} {s : State} (hK : va_K D vwCl (gtys cA) s) {cB : ClassId} {ty : FieldType} {t k : Nat} (ht : (gtys cA)[t]? = some (cA k, ty)) (hB : va_K D vwCl (gtys cA ++ [(cB, ty)]) s) : cB = cA k := by
  have h1 := (hK.2 t _ ht).2
  have h2 := (hB.2 (gtys cA).length (cB, ty) (by simp)).2
  cases ty with
  | object C =>
    obtain ⟨_, _, _, _, _, z1⟩ := h1
    obtain ⟨_, _, _, _, _, z2⟩ := h2
    exact Option.some.inj (z2.symm.trans z1)
  | _ => exact Option.some.inj (h2.symm.trans h1)
theorem s_newI {n : Int32} {N : Nat} (hd : decode (mdB d) pc = .ok (.newarray .int, 2)) (hac : Cond.arrayClass .int ∈ TBg) (hn0 : ¬ n < 0) (hN : n.toNatClampNeg = N) (hN2 : N ≤ 10000) (hR : ∀ i, i < pN M → ∀ j, pR M i j ≠ some (pN M)) (hn : pN M < 1000) (hro : rOK L st (pN M) (pN M + 1)) (hb : 1 ≤ bc) (hs : N ≤ bs) (k : WPs d Qr Qx (pc + 2) L (.ref (pN M) :: st) (mN M 9 N) (bc - 1) (bs - N)) : WPs d Qr Qx pc L (.int n :: st) M bc bs := by
  intro p l e s m args below meth c G ad0 M0 A ad H locs ls cells slots X
  obtain ⟨⟨c1, c2, c3, c4, c5, c6, c7, c8, c9, c10, c11, c12, c13, c14, c15⟩, h1, h2, h3, h4, h5, hP, hD, hS, hl⟩ := id X
  refine va_newa (atype := .int) (ty := .int) (a0 := (N, .inl (fun _ => 0))) c1 c2 (c6 _ (List.mem_cons_of_mem _ hac)) rfl c7 hP hD hS c13 (fun _ => rfl) hn0 hN (by show N * 4 ≤ _; omega) (by omega) (by omega) hd (fun q cB H1 hK1 hP1 hD1 hS1 => ?_)
  have hcb := gtys_same c7 (t := 0) (k := 9) rfl hK1
  have he : ∀ ad', pcell G.2.1 ad' (mN M 9 N) (pN M) = .inl (cB, N, .inl (fun _ => 0)) := by
    intro ad'
    rw [pcell, mN_K, if_neg (by decide), pArr_I (mN_K M 9 N) (Or.inl rfl), mN_L, mN_V, hcb]
  obtain ⟨ad', z1, z2, Y⟩ := pNew X hR hn hro he hb hs hP1 hD1 hS1
  have Z := k p l e s m args below meth c G ad0 M0 A ad' H1 locs ls (cells + 1) (slots + N) Y
  have e9 : (Value.ref (pN M) :: st).map (tr ad') = Value.ref q :: st.map (tr ad) := by
    rw [List.map_cons, z2]
    show Value.ref (ad' (pN M)) :: _ = _
    rw [z1]
  rw [e9] at Z
  exact Z
theorem s_newE {n : Int32} {N : Nat} (hd : decode (mdB d) pc = .ok (.anewarray idx, 3)) (hcl : Cond.classLink (fC (mdO d)) idx RX2 ∈ TBg) (hn0 : ¬ n < 0) (hN : n.toNatClampNeg = N) (hN2 : N ≤ 10000) (hR : ∀ i, i < pN M → ∀ j, pR M i j ≠ some (pN M)) (hn : pN M < 1000) (hro : rOK L st (pN M) (pN M + 1)) (hb : 1 ≤ bc) (hs : N ≤ bs) (k : WPs d Qr Qx (pc + 3) L (.ref (pN M) :: st) (mN M 11 N) (bc - 1) (bs - N)) : WPs d Qr Qx pc L (.int n :: st) M bc bs := by
  intro p l e s m args below meth c G ad0 M0 A ad H locs ls cells slots X
  obtain ⟨⟨c1, c2, c3, c4, c5, c6, c7, c8, c9, c10, c11, c12, c13, c14, c15⟩, h1, h2, h3, h4, h5, hP, hD, hS, hl⟩ := id X
  refine va_newq (C := RX2) c1 c2 c5 (c6 _ (List.mem_cons_of_mem _ hcl)) c10.2.2.1 c7 hP hD hS c13 hn0 hN (by omega) (by omega) (by omega) hd (fun q cB H1 hK1 hP1 hD1 hS1 => ?_)
  have hcb := gtys_same c7 (t := 1) (k := 11) rfl hK1
  have he : ∀ ad', pcell G.2.1 ad' (mN M 11 N) (pN M) = .inl (cB, N, .inr (.inr (.inr (.inr (fun _ => none))))) := by
    intro ad'
    have e8 : (fun j => (pR (mN M 11 N) (pN M) j).map ad') = (fun _ => none) := funext (fun j => by rw [mN_R]; rfl)
    rw [pcell, mN_K, if_neg (by decide), pArr_Q (mN_K M 11 N), e8, mN_L, hcb]
  obtain ⟨ad', z1, z2, Y⟩ := pNew X hR hn hro he hb hs hP1 hD1 hS1
  have Z := k p l e s m args below meth c G ad0 M0 A ad' H1 locs ls (cells + 1) (slots + N) Y
  have e9 : (Value.ref (pN M) :: st).map (tr ad') = Value.ref q :: st.map (tr ad) := by
    rw [List.map_cons, z2]
    show Value.ref (ad' (pN M)) :: _ = _
    rw [z1]
  rw [e9] at Z
  exact Z
def xNms : List String := ["java/lang/RuntimeException", "java/lang/Exception"]
/-- throw new E("text") -/
theorem s_throw {cls : String} {ik is ic sk : Nat} (hk : Cond.classLink (fC (mdO d)) ik cls ∈ TBg) (hini : Cond.initialized cls ∈ TBg) (hs : sk < 11) (hso : strO sk = fC (mdO d)) (hsi : strI sk = is) (hat : ∀ w ∈ vx_atS (fC (mdO d)) ic cls xNms, w ∈ TBg ∨ w ∈ xW)
    (hgood : ∀ w ∈ Cond.classLink (fC (mdO d)) ik cls :: Cond.initialized cls :: vx_atS (fC (mdO d)) ic cls xNms, vx_ot w = true) (hcls : Bundle.fit cls = true) (d0 : decode (mdB d) pc = .ok (.new ik, 3)) (d3 : decode (mdB d) (pc + 3) = .ok (.dup, 1)) (d4 : decode (mdB d) (pc + 4) = .ok (.ldc is, 2)) (d6 : decode (mdB d) (pc + 6) = .ok (.invokespecial ic, 3)) (d9 : decode (mdB d) (pc + 9) = .ok (.athrow, 1))
    (hX : mdX d (pc + 9) cls = some none) (hf : 5 < (mdM d).frames) (hlo : (st.map fun v => v.category).sum + 82 ≤ (mdM d).locals) (hb : 1 ≤ bc) (hbs : 6 ≤ bs) (q : Qx cls M) : WPs d Qr Qx pc L st M bc bs := by
  intro p l e s m args below meth c G ad0 M0 A ad H locs ls cells slots X
  obtain ⟨⟨c1, c2, c3, c4, c5, c6, c7, c8, c9, c10, c11, c12, c13, c14, c15⟩, h1, h2, h3, h4, h5, hP, hD, hS, hl⟩ := id X
  obtain ⟨g1, g2, g3, g4, g5, aV, g6, g7, g8⟩ := id c10
  have hcat : ((st.map (tr ad)).map fun v => v.category).sum = (st.map fun v => v.category).sum := by
    rw [List.map_map, show ((fun v : Value => v.category) ∘ tr ad) = (fun v => v.category) from funext (tr_cat ad)]
  have hstr := g6 sk hs
  rw [hso, hsi] at hstr
  refine vx_throwS (names := xNms) c1 c2 c12 c5 hcls (by decide +kernel) (c6 _ (List.mem_cons_of_mem _ hk)) (c6 _ (List.mem_cons_of_mem _ hini)) hstr (fun w hw => ?_) hgood g4 g5 hS (by rw [c4]; exact hl.1) d0 d3 d4 d6 d9 (c14 _ _ hX) hf (by rw [hcat]; exact hlo) (by omega) (by omega) c8 (fun t hv hz hk9 => ?_) hS.2.2 (by omega) (by omega)
  · rcases hat w hw with h | h
    · exact c6 _ (List.mem_cons_of_mem _ h)
    · exact va_Nw.use (xW_onT w h) (g1 w h)
  · refine ⟨M, ad, q, h1, h2, h3, hP.kept (fun k r hr => hk9 _ (hP k r hr).lt), va_K.moved hv c7, hD, Nat.le_trans hS.1 hz, fun r hr hA => ?_⟩
    rw [hk9 r (Nat.lt_of_lt_of_le hr hS.1)]
    exact hS.2.1 r hr hA
/-- weaker ends -/
theorem ct_mono {As : List Value} {Qr' : Option Value → pM → Prop} {Qx' : String → pM → Prop} (h : CT d As M Qr Qx) (hr : ∀ v M', Qr v M' → Qr' v M') (hx : ∀ E M', Qx E M' → Qx' E M') : CT d As M Qr' Qx' := by
  intro l G ad sz hst
  intro p e ha hc hk s m args below hf hfit hpre hK
  obtain ⟨k, o, q1, q2, q3, q4⟩ := h l G ad sz hst p e ha hc hk s m args below hf hfit hpre hK
  refine ⟨k, o, q1, q2, q3, ?_⟩
  rcases q4 with ⟨⟨v, M', ad', z1, z2, z3⟩, z4⟩ | ⟨q, z1, E, ce, Lc, ⟨M', ad', z2, z3⟩, z4⟩
  · exact Or.inl ⟨⟨v, M', ad', z1, hr v M' z2, z3⟩, z4⟩
  · exact Or.inr ⟨q, z1, E, ce, Lc, ⟨M', ad', hx E M' z2, z3⟩, z4⟩
end MRows
