/-! literals: the JDK's own methods on them -/
def iv5 (own idx : Nat) (d : pD) : Prop := pdP d ∧ Cond.methodLink (fC own) idx (mdY d) ∈ TBg ∧ Cond.instanceMethod (mdY d) ∈ TBg ∧ Cond.selects (fC (mdO d)) (mdY d) (mdY d) ∈ TBg
def iv6 (own idx : Nat) (d : pD) : Prop := pdP d ∧ Cond.methodLink (fC own) idx (mdY d) ∈ TBg ∧ Cond.static (mdY d) ∈ TBg
theorem adK_of {d : pD} {M : pM} {L : List (Nat × Value)} {bc bs : Nat} {p : Program} {l : Launch} {s : State} {m : MethodId} {args : Array Value} {meth : Method} {c : Code} {G : gT} {ad0 : Nat → Nat} {M0 : pM} {A : Nat → Prop} {ad : Nat → Nat} {H : Heap} {locs : List Loc} {ls : Array Slot} {cells slots : Nat} (X : pAt d p l s m args meth c G ad0 M0 A ad M L bc bs H locs ls cells slots) {k : Nat} (hk : k < 200) : ad (1000 + k) = G.2.2 k := by
  have h2 := X.2.2.1
  rw [X.2.2.2.1 _ (Or.inr (by omega))]
  exact X.1.2.2.2.2.2.2.2.2.2.2.1 k hk
section Str0
variable {d d' : pD} {Qr Qr' : Option Value → pM → Prop} {Qx Qx' : String → pM → Prop} {pc idx q : Nat} {L : List (Nat × Value)} {st As : List Value} {M : pM} {bc bs : Nat}
theorem s_iretG {x : Int32} {ty : FieldType} (hd : decode (mdB d) pc = .ok (.ireturn, 1)) (h9 : mdR d = some ty) (h8 : narrow ty (.int x) = .int x) (z : Qr (some (.int x)) M) : WPs d Qr Qx pc L [.int x] M bc bs := by
  intro p l e s m args below meth c G ad0 M0 A ad H locs ls cells slots X
  have C := X.1
  have hlocks := C.2.2.2.2.2.2.2.1
  refine W.widen (k := (mdM d).cells) (n := (mdM d).slots) (by have := X.2.2.2.2.1; omega) (by have := X.2.2.2.2.2.1; omega) (vx_ret ?_)
  exact W.zret C.1 C.2.1 (C.2.2.1.trans h9) h8 (fun t ht hW => ⟨some (.int x), M, ad, rfl, z, pPost_of X ht hW.alike⟩) X.2.2.2.2.2.2.2.2.1.2.2 hd
theorem s_i2c {x v : Int32} (hd : decode (mdB d) pc = .ok (.i2c, 1)) (hv : (x.toUInt32 % 65536).toInt32 = v) (k : WPs d Qr Qx (pc + 1) L (.int v :: st) M bc bs) : WPs d Qr Qx pc L (.int x :: st) M bc bs := by
  intro p l e s m args below meth c G ad0 M0 A ad H locs ls cells slots X
  exact lv_i2c X.1.1 X.1.2.1 hd hv (k p l e s m args below meth c G ad0 M0 A ad H locs ls cells slots X)
theorem s_ldcS (hq : q < 11) (ho : strO q = fC (mdO d)) (hi : strI q = idx) (hd : decode (mdB d) pc = .ok (.ldc idx, 2)) (k : WPs d Qr Qx (pc + 2) L (.ref (1000 + q) :: st) M bc bs) : WPs d Qr Qx pc L st M bc bs := by
  intro p l e s m args below meth c G ad0 M0 A ad H locs ls cells slots X
  obtain ⟨g1, g2, g3, g4, g5, aV, g6, g7, g8⟩ := id X.1.2.2.2.2.2.2.2.2.2.1
  have hz := g6 q hq
  rw [ho, hi] at hz
  refine va_ldcS X.1.1 X.1.2.1 X.1.2.2.2.2.1 hz hd ?_
  rw [← adK_of X (show q < 200 by omega)]
  exact k p l e s m args below meth c G ad0 M0 A ad H locs ls cells slots X
theorem s_valS (hq : q < 11) (hl : Cond.fieldLink (fC (mdO d)) idx "java/lang/String" "value" "[B" ∈ TBg) (hd : decode (mdB d) pc = .ok (.getfield idx, 3)) (k : WPs d Qr Qx (pc + 3) L (.ref (1000 + (100 + q)) :: st) M bc bs) : WPs d Qr Qx pc L (.ref (1000 + q) :: st) M bc bs := by
  intro p l e s m args below meth c G ad0 M0 A ad H locs ls cells slots X
  obtain ⟨g1, g2, g3, g4, g5, aV, g6, g7, g8⟩ := id X.1.2.2.2.2.2.2.2.2.2.1
  have hv := (g7.1 q hq).2.2.1
  have k1 := k p l e s m args below meth c G ad0 M0 A ad H locs ls cells slots X
  have e1 : tr ad (.ref (1000 + (100 + q))) = .ref (aV q) := by show Value.ref (ad (1000 + (100 + q))) = _; rw [adK_of X (show 100 + q < 200 by omega), g8.2.1 q hq]
  have e2 : tr ad (.ref (1000 + q)) = .ref (G.2.2 q) := by show Value.ref (ad (1000 + q)) = _; rw [adK_of X (show q < 200 by omega)]
  rw [List.map_cons, e1] at k1
  rw [List.map_cons, e2]
  exact vk_getf X.1.1 X.1.2.1 hv X.2.2.2.2.2.2.2.2.1 X.1.2.2.2.2.1 (X.1.2.2.2.2.2.1 _ (List.mem_cons_of_mem _ hl)) (fun _ z => z) hd k1
theorem s_codS (hq : q < 11) (hl : Cond.fieldLink (fC (mdO d)) idx "java/lang/String" "coder" "B" ∈ TBg) (hd : decode (mdB d) pc = .ok (.getfield idx, 3)) (k : WPs d Qr Qx (pc + 3) L (.int 0 :: st) M bc bs) : WPs d Qr Qx pc L (.ref (1000 + q) :: st) M bc bs := by
  intro p l e s m args below meth c G ad0 M0 A ad H locs ls cells slots X
  obtain ⟨g1, g2, g3, g4, g5, aV, g6, g7, g8⟩ := id X.1.2.2.2.2.2.2.2.2.2.1
  have hv := (g7.1 q hq).2.1
  have k1 := k p l e s m args below meth c G ad0 M0 A ad H locs ls cells slots X
  have e2 : tr ad (.ref (1000 + q)) = .ref (G.2.2 q) := by show Value.ref (ad (1000 + q)) = _; rw [adK_of X (show q < 200 by omega)]
  rw [List.map_cons, e2]
  exact vk_getf X.1.1 X.1.2.1 hv X.2.2.2.2.2.2.2.2.1 X.1.2.2.2.2.1 (X.1.2.2.2.2.2.1 _ (List.mem_cons_of_mem _ hl)) (fun _ z => z) hd k1
theorem s_gstC (hl : Cond.fieldLink (fC (mdO d)) idx "java/lang/String" "COMPACT_STRINGS" "Z" ∈ TBg) (hd : decode (mdB d) pc = .ok (.getstatic idx, 3)) (k : WPs d Qr Qx (pc + 3) L (.int 1 :: st) M bc bs) : WPs d Qr Qx pc L st M bc bs := by
  intro p l e s m args below meth c G ad0 M0 A ad H locs ls cells slots X
  obtain ⟨g1, g2, g3, g4, g5, aV, g6, g7, g8⟩ := id X.1.2.2.2.2.2.2.2.2.2.1
  exact va_gets X.1.1 X.1.2.1 g8.1 X.2.2.2.2.2.2.2.2.1 X.1.2.2.2.2.1 (X.1.2.2.2.2.2.1 _ (List.mem_cons_of_mem _ hl)) (fun _ z => z) hd (k p l e s m args below meth c G ad0 M0 A ad H locs ls cells slots X)
theorem s_gstF (hl : Cond.fieldLink (fC (mdO d)) idx "jdk/internal/util/Preconditions" "SIOOBE_FORMATTER" "Ljava/util/function/BiFunction;" ∈ TBg) (hd : decode (mdB d) pc = .ok (.getstatic idx, 3)) (k1 : WPs d Qr Qx (pc + 3) L (.null :: st) M bc bs) (k2 : WPs d Qr Qx (pc + 3) L (.ref (1000 + 50) :: st) M bc bs) : WPs d Qr Qx pc L st M bc bs := by
  intro p l e s m args below meth c G ad0 M0 A ad H locs ls cells slots X
  obtain ⟨g1, g2, g3, g4, g5, aV, g6, g7, g8⟩ := id X.1.2.2.2.2.2.2.2.2.2.1
  rcases g8.2.2 with z | z
  · exact va_gets X.1.1 X.1.2.1 z X.2.2.2.2.2.2.2.2.1 X.1.2.2.2.2.1 (X.1.2.2.2.2.2.1 _ (List.mem_cons_of_mem _ hl)) (fun _ z => z) hd (k1 p l e s m args below meth c G ad0 M0 A ad H locs ls cells slots X)
  · have k3 := k2 p l e s m args below meth c G ad0 M0 A ad H locs ls cells slots X
    have e2 : tr ad (.ref (1000 + 50)) = .ref (G.2.2 50) := by show Value.ref (ad (1000 + 50)) = _; rw [adK_of X (show 50 < 200 by omega)]
    rw [List.map_cons, e2] at k3
    exact va_gets X.1.1 X.1.2.1 z X.2.2.2.2.2.2.2.2.1 X.1.2.2.2.2.1 (X.1.2.2.2.2.2.1 _ (List.mem_cons_of_mem _ hl)) (fun _ z => z) hd k3
theorem s_alenB (hq : q < 11) (hd : decode (mdB d) pc = .ok (.arraylength, 1)) (k : WPs d Qr Qx (pc + 1) L (.int (nI (lenS.getD q 0)) :: st) M bc bs) : WPs d Qr Qx pc L (.ref (1000 + (100 + q)) :: st) M bc bs := by
  intro p l e s m args below meth c G ad0 M0 A ad H locs ls cells slots X
  obtain ⟨g1, g2, g3, g4, g5, aV, g6, g7, g8⟩ := id X.1.2.2.2.2.2.2.2.2.2.1
  have k1 := k p l e s m args below meth c G ad0 M0 A ad H locs ls cells slots X
  have e1 : tr ad (.ref (1000 + (100 + q))) = .ref (aV q) := by show Value.ref (ad (1000 + (100 + q))) = _; rw [adK_of X (show 100 + q < 200 by omega), g8.2.1 q hq]
  rw [List.map_cons, e1]
  exact va_tlen X.1.1 X.1.2.1 (g7.1 q hq).2.2.2 X.2.2.2.2.2.2.2.2.1 rfl hd k1
theorem s_baldB {i : Int32} (hq : q < 11) (hi : vp_in i (lenS.getD q 0)) (hd : decode (mdB d) pc = .ok (.baload, 1)) (k : WPs d Qr Qx (pc + 1) L (.int ((bytS.getD q []).getD i.toNatClampNeg 0) :: st) M bc bs) : WPs d Qr Qx pc L (.int i :: .ref (1000 + (100 + q)) :: st) M bc bs := by
  intro p l e s m args below meth c G ad0 M0 A ad H locs ls cells slots X
  obtain ⟨g1, g2, g3, g4, g5, aV, g6, g7, g8⟩ := id X.1.2.2.2.2.2.2.2.2.2.1
  have k1 := k p l e s m args below meth c G ad0 M0 A ad H locs ls cells slots X
  have e1 : tr ad (.ref (1000 + (100 + q))) = .ref (aV q) := by show Value.ref (ad (1000 + (100 + q))) = _; rw [adK_of X (show 100 + q < 200 by omega), g8.2.1 q hq]
  rw [List.map_cons, List.map_cons, e1]
  exact va_tb X.1.1 X.1.2.1 (g7.1 q hq).2.2.2 X.2.2.2.2.2.2.2.2.1 hi rfl hd k1
theorem s_callX (hi : iv6 (mdO d) idx d') (hd : decode (mdB d) pc = .ok (.invokestatic idx, 3)) (hrm : rmP d d') (hn : As.length = mdA d') (hst : (st.map fun v => v.category).sum ≤ 8) (hb : (mdM d').cells ≤ bc) (hs : (mdM d').slots ≤ bs) (hM : CT d' As M Qr' Qx') (kk : pGo d d' Qr Qx pc L st M bc bs Qr' Qx') : WPs d Qr Qx pc L (As.reverse ++ st) M bc bs := by
  intro p l e s m args below meth c G ad0 M0 A ad H locs ls cells slots X
  obtain ⟨c1, c2, c3, c4, c5, c6, c7, c8, c9, c10, c11, c12, c13, c14, c15⟩ := id X.1
  obtain ⟨hp, h1, h2⟩ := hi
  have hcat : ((st.map (tr ad)).map fun v => v.category).sum ≤ 8 := by
    rw [List.map_map, show ((fun v : Value => v.category) ∘ tr ad) = (fun v => v.category) from funext (tr_cat ad)]
    exact hst
  have hG : GoodIn (pW d) (va_wsS (fC (mdO d)) idx (mdY d') (pW d')) := by
    intro w hw
    rcases List.mem_append.mp hw with h | h
    · simp only [List.mem_cons, List.not_mem_nil, or_false] at h
      rcases h with rfl | rfl | rfl
      · exact good1 d h1
      · exact good1 d h2
      · exact good1 d hp.2.2.1
    · exact pW_good d d' hp w h
  have hw : pW d' = Cond.code (mdY d') (mdB d') (mdL d') (mdR d') :: TBg := by unfold pW; rw [hp.1]
  have hr := vx_runS (e := e) (below := below) (meth := meth) (locs := locs) (cells := cells) (slots := slots) (As := As.map (tr ad)) (rest := st.map (tr ad)) (g := F0 m pc ls ((As.reverse ++ st).map (tr ad))) ⟨c1, c2, c4, c5, c6⟩ (hM l G ad H.size c12) (va_cwS (mdA d') c6 hG hw rfl rfl hp.2.2.2.2.1 hrm) ⟨blind _ _ _ _ _, fun U hU hW => ⟨rfl, pPre_of X hU hW⟩⟩ rfl (by rw [List.length_map]; exact hn) X.2.2.2.2.2.2.2.2.2.1 (by rw [List.map_append, List.map_reverse]) (lv_room hcat) hd ⟨by have := X.2.2.2.2.1; omega, by have := X.2.2.2.2.2.1; omega⟩
  exact s_run X hr hb hs kk.1 kk.2
theorem s_callW (hi : iv5 (mdO d) idx d') (h10 : mdO d' = 10) (hd : decode (mdB d) pc = .ok (.invokevirtual idx, 3)) (hrm : rmP d d') (hn : As.length = mdA d') (hst : (st.map fun v => v.category).sum ≤ 8) (hb : (mdM d').cells ≤ bc) (hs : (mdM d').slots ≤ bs) (hq : q < 11) (hM : CT d' (.ref (1000 + q) :: As) M Qr' Qx') (kk : pGo d d' Qr Qx pc L st M bc bs Qr' Qx') : WPs d Qr Qx pc L (As.reverse ++ .ref (1000 + q) :: st) M bc bs := by
  intro p l e s m args below meth c G ad0 M0 A ad H locs ls cells slots X
  obtain ⟨c1, c2, c3, c4, c5, c6, c7, c8, c9, c10, c11, c12, c13, c14, c15⟩ := id X.1
  obtain ⟨g1, g2, g3, g4, g5, aV, g6, g7, g8⟩ := id c10
  have hcat : ((st.map (tr ad)).map fun v => v.category).sum ≤ 8 := by
    rw [List.map_map, show ((fun v : Value => v.category) ∘ tr ad) = (fun v => v.category) from funext (tr_cat ad)]
    exact hst
  obtain ⟨hp, h1, h2, h3⟩ := hi
  have hw : pW d' = Cond.code (mdY d') (mdB d') (mdL d') (mdR d') :: TBg := by unfold pW; rw [hp.1]
  have hcls : (mdY d').cls = fC (mdO d') := hp.2.2.2.2.2
  have hG : GoodIn (pW d) (wsV (fC (mdO d)) idx (fC (mdO d')) (mdY d') (pW d')) := by
    intro w hw
    rcases List.mem_append.mp hw with h | h
    · simp only [List.mem_cons, List.not_mem_nil, or_false] at h
      rcases h with rfl | rfl | rfl | rfl
      · exact good1 d h1
      · exact good1 d h2
      · exact good1 d h3
      · exact good1 d (hcls ▸ hp.2.2.1)
    · exact pW_good d d' hp w h
  have hrc : ∃ cell : Cell, H[ad (1000 + q)]? = some cell ∧ cell.vm.isStatics = false ∧ s.vm.findClass (fC (mdO d')) = some cell.cls := by
    rw [h10, adK_of X (show q < 200 by omega)]
    exact vk_recv g7 hq X.2.2.2.2.2.2.2.2.1
  have hr := vx_runV (C := fC (mdO d')) (b := ad (1000 + q)) (e := e) (below := below) (meth := meth) (locs := locs) (cells := cells) (slots := slots) (As := As.map (tr ad)) (rest := st.map (tr ad)) (g := F0 m pc ls ((As.reverse ++ .ref (1000 + q) :: st).map (tr ad))) ⟨c1, c2, c4, c5, c6⟩ (hM l G ad H.size c12) (cwV (mdA d') c6 hG hw rfl rfl ⟨hcls, hp.2.2.2.2.1⟩ hrm) ⟨blind _ _ _ _ _, hrc, fun U hU hW => ⟨rfl, pPre_of X hU hW⟩⟩ rfl (by rw [List.length_map]; exact hn) X.2.2.2.2.2.2.2.2.2.1 (by rw [List.map_append, List.map_reverse]; rfl) (lv_room hcat) hd ⟨by have := X.2.2.2.2.1; omega, by have := X.2.2.2.2.2.1; omega⟩
  exact s_run X hr hb hs kk.1 kk.2
theorem s_mmin {x y : Int32} (hl : Cond.methodLink (fC (mdO d)) idx Lib.Math.min.name ∈ TBg) (h2 : Cond.static Lib.Math.min.name ∈ TBg) (h3 : Cond.initialized "java/lang/Math" ∈ TBg) (h4 : Cond.code Lib.Math.min.name Lib.Math.min.code 2 (some .int) ∈ TBg) (hd : decode (mdB d) pc = .ok (.invokestatic idx, 3)) (hst : (st.map fun v => v.category).sum ≤ 8) (hf : 1 ≤ (mdM d).frames) (hlo : 21 ≤ (mdM d).locals)
    (k : WPs d Qr Qx (pc + 3) L (.int (if y < x then y else x) :: st) M bc bs) : WPs d Qr Qx pc L (.int y :: .int x :: st) M bc bs := by
  intro p l e s m args below meth c G ad0 M0 A ad H locs ls cells slots X
  obtain ⟨c1, c2, c3, c4, c5, c6, c7, c8, c9, c10, c11, c12, c13, c14, c15⟩ := id X.1
  have hcat : ((st.map (tr ad)).map fun v => v.category).sum ≤ 8 := by
    rw [List.map_map, show ((fun v : Value => v.category) ∘ tr ad) = (fun v => v.category) from funext (tr_cat ad)]
    exact hst
  exact va_mmin c1 c2 (by rw [c4]; exact X.2.2.2.2.2.2.2.2.2.1.symm) c5 (c6 _ (List.mem_cons_of_mem _ hl)) (c6 _ (List.mem_cons_of_mem _ h2)) (c6 _ (List.mem_cons_of_mem _ h3)) (c6 _ (List.mem_cons_of_mem _ h4)) hf (by omega) (by have := X.2.2.2.2.1; omega) (by have := X.2.2.2.2.2.1; omega) hd (k p l e s m args below meth c G ad0 M0 A ad H locs ls cells slots X)
end Str0
section Str1
variable {J : Nat → Nat → Int64} {d d' : pD} {Qr Qr' : Option Value → (Nat → Nat → Int32) → Prop} {Qx : String → (Nat → Nat → Int32) → Prop} {pc idx q : Nat} {L : List (Nat × Value)} {st As : List Value} {V : Nat → Nat → Int32} {bc bs : Nat}
theorem t_cX (hi : iv6 (mdO d) idx d') (hd : decode (mdB d) pc = .ok (.invokestatic idx, 3)) (hrm : rmP d d') (hn : As.length = mdA d') (hst : (st.map fun v => v.category).sum ≤ 8) (hb : (mdM d').cells ≤ bc) (hs : (mdM d').slots ≤ bs) (hx : mdX d pc = fun _ => some none) (hM : CTc J d' As V Qr' Qx) (kk : ∀ v V', Qr' v V' → WPc J d Qr Qx (pc + 3) L (v.toList ++ st) V' (bc - (mdM d').cells) (bs - (mdM d').slots)) : WPc J d Qr Qx pc L (As.reverse ++ st) V bc bs :=
  s_callX hi hd hrm hn hst hb hs hM (t_go hx kk)
theorem t_cW (hi : iv5 (mdO d) idx d') (h10 : mdO d' = 10) (hd : decode (mdB d) pc = .ok (.invokevirtual idx, 3)) (hrm : rmP d d') (hn : As.length = mdA d') (hst : (st.map fun v => v.category).sum ≤ 8) (hb : (mdM d').cells ≤ bc) (hs : (mdM d').slots ≤ bs) (hx : mdX d pc = fun _ => some none) (hq : q < 11) (hM : CTc J d' (.ref (1000 + q) :: As) V Qr' Qx) (kk : ∀ v V', Qr' v V' → WPc J d Qr Qx (pc + 3) L (v.toList ++ st) V' (bc - (mdM d').cells) (bs - (mdM d').slots)) : WPc J d Qr Qx pc L (As.reverse ++ .ref (1000 + q) :: st) V bc bs :=
  s_callW hi h10 hd hrm hn hst hb hs hq hM (t_go hx kk)
end Str1
/-! the methods -/
abbrev mJ3_ck : pD := (yJ3_checkIndex_8e157, cJ3_checkIndex_8e157, 3, some .int, 12, { frames := 0, cells := 0, slots := 0, locals := 0 }, 3, Cond.code yJ3_checkIndex_8e157 cJ3_checkIndex_8e157 3 (some .int), fun _ _ => some none)
theorem pJ3_ck : pdP mJ3_ck := ⟨rfl, TBg_of (w := Cond.code yJ3_checkIndex_8e157 cJ3_checkIndex_8e157 3 (some .int)) (i := 425) (by decide +kernel) (by decide +kernel), TBg_of (w := Cond.initialized yJ3_checkIndex_8e157.cls) (i := 89) (by decide +kernel) (by decide +kernel), by decide +kernel, ⟨by decide +kernel, by decide +kernel, by decide +kernel⟩, rfl⟩
abbrev mJ0_ck : pD := (yJ0_checkIndex_df160, cJ0_checkIndex_df160, 2, none, 10, { frames := 1, cells := 0, slots := 0, locals := 22 }, 2, Cond.code yJ0_checkIndex_df160 cJ0_checkIndex_df160 2 none, fun _ _ => some none)
theorem pJ0_ck : pdP mJ0_ck := ⟨rfl, TBg_of (w := Cond.code yJ0_checkIndex_df160 cJ0_checkIndex_df160 2 none) (i := 420) (by decide +kernel) (by decide +kernel), TBg_of (w := Cond.initialized yJ0_checkIndex_df160.cls) (i := 87) (by decide +kernel) (by decide +kernel), by decide +kernel, ⟨by decide +kernel, by decide +kernel, by decide +kernel⟩, rfl⟩
abbrev mJ1_ch : pD := (yJ1_charAt_3b067, cJ1_charAt_3b067, 2, some .char, 11, { frames := 2, cells := 0, slots := 0, locals := 43 }, 2, Cond.code yJ1_charAt_3b067 cJ1_charAt_3b067 2 (some .char), fun _ _ => some none)
theorem pJ1_ch : pdP mJ1_ch := ⟨rfl, TBg_of (w := Cond.code yJ1_charAt_3b067 cJ1_charAt_3b067 2 (some .char)) (i := 417) (by decide +kernel) (by decide +kernel), TBg_of (w := Cond.initialized yJ1_charAt_3b067.cls) (i := 88) (by decide +kernel) (by decide +kernel), by decide +kernel, ⟨by decide +kernel, by decide +kernel, by decide +kernel⟩, rfl⟩
abbrev mJ0_isl : pD := (yJ0_isLatin1_aae02, cJ0_isLatin1_aae02, 1, some .boolean, 10, { frames := 0, cells := 0, slots := 0, locals := 0 }, 0, Cond.code yJ0_isLatin1_aae02 cJ0_isLatin1_aae02 1 (some .boolean), fun _ _ => some none)
theorem pJ0_isl : pdP mJ0_isl := ⟨rfl, TBg_of (w := Cond.code yJ0_isLatin1_aae02 cJ0_isLatin1_aae02 1 (some .boolean)) (i := 414) (by decide +kernel) (by decide +kernel), TBg_of (w := Cond.initialized yJ0_isLatin1_aae02.cls) (i := 87) (by decide +kernel) (by decide +kernel), by decide +kernel, ⟨by decide +kernel, by decide +kernel, by decide +kernel⟩, rfl⟩
abbrev mJ0_cod : pD := (yJ0_coder_7d493, cJ0_coder_7d493, 1, some .byte, 10, { frames := 0, cells := 0, slots := 0, locals := 0 }, 0, Cond.code yJ0_coder_7d493 cJ0_coder_7d493 1 (some .byte), fun _ _ => some none)
theorem pJ0_cod : pdP mJ0_cod := ⟨rfl, TBg_of (w := Cond.code yJ0_coder_7d493 cJ0_coder_7d493 1 (some .byte)) (i := 404) (by decide +kernel) (by decide +kernel), TBg_of (w := Cond.initialized yJ0_coder_7d493.cls) (i := 87) (by decide +kernel) (by decide +kernel), by decide +kernel, ⟨by decide +kernel, by decide +kernel, by decide +kernel⟩, rfl⟩
abbrev mJ0_len : pD := (yJ0_length_8abf5, cJ0_length_8abf5, 1, some .int, 10, { frames := 1, cells := 0, slots := 0, locals := 20 }, 0, Cond.code yJ0_length_8abf5 cJ0_length_8abf5 1 (some .int), fun _ _ => some none)
theorem pJ0_len : pdP mJ0_len := ⟨rfl, TBg_of (w := Cond.code yJ0_length_8abf5 cJ0_length_8abf5 1 (some .int)) (i := 400) (by decide +kernel) (by decide +kernel), TBg_of (w := Cond.initialized yJ0_length_8abf5.cls) (i := 87) (by decide +kernel) (by decide +kernel), by decide +kernel, ⟨by decide +kernel, by decide +kernel, by decide +kernel⟩, rfl⟩
abbrev mJ0_ch : pD := (yJ0_charAt_5068e, cJ0_charAt_5068e, 2, some .char, 10, { frames := 3, cells := 0, slots := 0, locals := 64 }, 1, Cond.code yJ0_charAt_5068e cJ0_charAt_5068e 2 (some .char), fun _ _ => some none)
theorem pJ0_ch : pdP mJ0_ch := ⟨rfl, TBg_of (w := Cond.code yJ0_charAt_5068e cJ0_charAt_5068e 2 (some .char)) (i := 410) (by decide +kernel) (by decide +kernel), TBg_of (w := Cond.initialized yJ0_charAt_5068e.cls) (i := 87) (by decide +kernel) (by decide +kernel), by decide +kernel, ⟨by decide +kernel, by decide +kernel, by decide +kernel⟩, rfl⟩
theorem iv_J1059 : iv6 10 1059 mJ3_ck := ⟨pJ3_ck, TBg_of (w := Cond.methodLink RJ0 1059 yJ3_checkIndex_8e157) (i := 423) (by decide +kernel) (by decide +kernel), TBg_of (w := Cond.static yJ3_checkIndex_8e157) (i := 424) (by decide +kernel) (by decide +kernel)⟩
theorem iv_J9 : iv6 11 9 mJ0_ck := ⟨pJ0_ck, TBg_of (w := Cond.methodLink RJ1 9 yJ0_checkIndex_df160) (i := 418) (by decide +kernel) (by decide +kernel), TBg_of (w := Cond.static yJ0_checkIndex_df160) (i := 419) (by decide +kernel) (by decide +kernel)⟩
theorem iv_J495 : iv6 10 495 mJ1_ch := ⟨pJ1_ch, TBg_of (w := Cond.methodLink RJ0 495 yJ1_charAt_3b067) (i := 415) (by decide +kernel) (by decide +kernel), TBg_of (w := Cond.static yJ1_charAt_3b067) (i := 416) (by decide +kernel) (by decide +kernel)⟩
theorem iv_J492 : iv5 10 492 mJ0_isl := ⟨pJ0_isl, TBg_of (w := Cond.methodLink RJ0 492 yJ0_isLatin1_aae02) (i := 411) (by decide +kernel) (by decide +kernel), TBg_of (w := Cond.instanceMethod yJ0_isLatin1_aae02) (i := 412) (by decide +kernel) (by decide +kernel), TBg_of (w := Cond.selects RJ0 yJ0_isLatin1_aae02 yJ0_isLatin1_aae02) (i := 413) (by decide +kernel) (by decide +kernel)⟩
theorem iv_J335 : iv5 10 335 mJ0_cod := ⟨pJ0_cod, TBg_of (w := Cond.methodLink RJ0 335 yJ0_coder_7d493) (i := 401) (by decide +kernel) (by decide +kernel), TBg_of (w := Cond.instanceMethod yJ0_coder_7d493) (i := 402) (by decide +kernel) (by decide +kernel), TBg_of (w := Cond.selects RJ0 yJ0_coder_7d493 yJ0_coder_7d493) (i := 403) (by decide +kernel) (by decide +kernel)⟩
theorem iv_J56 : iv5 5 56 mJ0_len := ⟨pJ0_len, TBg_of (w := Cond.methodLink RX5 56 yJ0_length_8abf5) (i := 397) (by decide +kernel) (by decide +kernel), TBg_of (w := Cond.instanceMethod yJ0_length_8abf5) (i := 398) (by decide +kernel) (by decide +kernel), TBg_of (w := Cond.selects RJ0 yJ0_length_8abf5 yJ0_length_8abf5) (i := 399) (by decide +kernel) (by decide +kernel)⟩
theorem iv_J65 : iv5 5 65 mJ0_ch := ⟨pJ0_ch, TBg_of (w := Cond.methodLink RX5 65 yJ0_charAt_5068e) (i := 407) (by decide +kernel) (by decide +kernel), TBg_of (w := Cond.instanceMethod yJ0_charAt_5068e) (i := 408) (by decide +kernel) (by decide +kernel), TBg_of (w := Cond.selects RJ0 yJ0_charAt_5068e yJ0_charAt_5068e) (i := 409) (by decide +kernel) (by decide +kernel)⟩
theorem fl_val : Cond.fieldLink RJ0 9 "java/lang/String" "value" "[B" ∈ TBg := TBg_of (i := 1713) (by decide +kernel) (by decide +kernel)
theorem fl_cod : Cond.fieldLink RJ0 15 "java/lang/String" "coder" "B" ∈ TBg := TBg_of (i := 1714) (by decide +kernel) (by decide +kernel)
theorem fl_cmp : Cond.fieldLink RJ0 38 "java/lang/String" "COMPACT_STRINGS" "Z" ∈ TBg := TBg_of (i := 405) (by decide +kernel) (by decide +kernel)
theorem fl_sio : Cond.fieldLink RJ0 1053 "jdk/internal/util/Preconditions" "SIOOBE_FORMATTER" "Ljava/util/function/BiFunction;" ∈ TBg := TBg_of (i := 421) (by decide +kernel) (by decide +kernel)
/-- the sign of a literal at a place -/
def chS (q k : Nat) : Int32 := (bytS.getD q []).getD k 0
theorem chS_and : ∀ q, q < 11 → ∀ k, k < 27 → ((chS q k &&& 255).toUInt32 % 65536).toInt32 = chS q k ∧ narrow .char (.int (chS q k)) = .int (chS q k) := by decide +kernel
theorem lenS_sh : ∀ q, q < 11 → nI (lenS.getD q 0) >>> ((0 : Int32) &&& 31) = nI (lenS.getD q 0) ∧ lenS.getD q 0 ≤ 27 := by decide +kernel
section Str2
variable {J : Nat → Nat → Int64} {V : Mem} {Qr : Option Value → Mem → Prop} {Qx : String → Mem → Prop}
theorem ct_pc (i n : Int32) (v : Value) (hv : v = .null ∨ v = .ref (1000 + 50)) (h0 : ¬ i < 0) (hn : i < n) (H : Qr (some (.int i)) V) : CTc J mJ3_ck [.int i, .int n, v] V Qr Qx := by
  rcases hv with rfl | rfl
  · refine ctc_of (M := (T0 J, V)) pJ3_ck (fun _ _ => rfl) (Nat.le_of_ble_eq_true rfl) ?_
    show WPc J mJ3_ck _ _ 0 [(0, .int i), (1, .int n), (2, .null)] [] V 0 0
    refine s_iload_n dJ3_checkIndex_8e157_0 rfl ?_
    refine s_if_lt (tgt := 9) dJ3_checkIndex_8e157_1 (by decide) (fun c => (h0 c).elim) (fun c => ?_)
    refine s_iload_n dJ3_checkIndex_8e157_4 rfl (s_iload_n dJ3_checkIndex_8e157_5 rfl ?_)
    refine s_icmp_lt (tgt := 16) dJ3_checkIndex_8e157_6 (by decide) (fun c => ?_) (fun c => (c hn).elim)
    exact s_iload_n dJ3_checkIndex_8e157_16 rfl (s_iret dJ3_checkIndex_8e157_17 (Or.inl rfl) ⟨rfl, H⟩)
  · refine ctc_of (M := (T0 J, V)) pJ3_ck (fun _ _ => rfl) (Nat.le_of_ble_eq_true rfl) ?_
    show WPc J mJ3_ck _ _ 0 [(0, .int i), (1, .int n), (2, .ref (1000 + 50))] [] V 0 0
    refine s_iload_n dJ3_checkIndex_8e157_0 rfl ?_
    refine s_if_lt (tgt := 9) dJ3_checkIndex_8e157_1 (by decide) (fun c => (h0 c).elim) (fun c => ?_)
    refine s_iload_n dJ3_checkIndex_8e157_4 rfl (s_iload_n dJ3_checkIndex_8e157_5 rfl ?_)
    refine s_icmp_lt (tgt := 16) dJ3_checkIndex_8e157_6 (by decide) (fun c => ?_) (fun c => (c hn).elim)
    exact s_iload_n dJ3_checkIndex_8e157_16 rfl (s_iret dJ3_checkIndex_8e157_17 (Or.inl rfl) ⟨rfl, H⟩)
theorem ct_ck (i n : Int32) (h0 : ¬ i < 0) (hn : i < n) (H : Qr (none) V) : CTc J mJ0_ck [.int i, .int n] V Qr Qx := by
  refine ctc_of (M := (T0 J, V)) pJ0_ck (fun _ _ => rfl) (Nat.le_of_ble_eq_true rfl) ?_
  show WPc J mJ0_ck _ _ 0 [(0, .int i), (1, .int n)] [] V 0 0
  have go : ∀ v : Value, (v = .null ∨ v = .ref (1000 + 50)) → WPc J mJ0_ck Qr Qx 5 [(0, .int i), (1, .int n)] [v, .int n, .int i] V 0 0 := by
    intro v hv
    refine t_cX (As := [.int i, .int n, v]) (st := []) iv_J1059 dJ0_checkIndex_df160_5 ⟨by decide, by decide⟩ rfl (Nat.le_of_ble_eq_true rfl) (by decide) (by decide) rfl (ct_pc (Qr := fun r V' => r = some (.int i) ∧ V' = V) i n v hv h0 hn ⟨rfl, rfl⟩) (fun r V' z => ?_)
    obtain ⟨rfl, rfl⟩ := z
    exact s_pop dJ0_checkIndex_df160_8 rfl (s_vret dJ0_checkIndex_df160_9 rfl ⟨rfl, H⟩)
  exact s_iload_n dJ0_checkIndex_df160_0 rfl (s_iload_n dJ0_checkIndex_df160_1 rfl (s_gstF fl_sio dJ0_checkIndex_df160_2 (go .null (Or.inl rfl)) (go _ (Or.inr rfl))))
theorem ct_l1 (q k : Nat) (hq : q < 11) (hk : k < lenS.getD q 0) (H : Qr (some (.int (chS q k))) V) : CTc J mJ1_ch [.ref (1000 + (100 + q)), .int (nI k)] V Qr Qx := by
  have hl := (lenS_sh q hq).2
  obtain ⟨e1, e2⟩ := chS_and q hq k (by omega)
  refine ctc_of (M := (T0 J, V)) pJ1_ch (fun _ _ => rfl) (Nat.le_of_ble_eq_true rfl) ?_
  show WPc J mJ1_ch _ _ 0 [(0, .ref (1000 + (100 + q))), (1, .int (nI k))] [] V 0 0
  refine s_iload_n dJ1_charAt_3b067_0 rfl (s_aload_n dJ1_charAt_3b067_1 rfl (s_alenB hq dJ1_charAt_3b067_2 ?_))
  refine t_cX (As := [.int (nI k), .int (nI (lenS.getD q 0))]) (st := []) iv_J9 dJ1_charAt_3b067_3 ⟨by decide, by decide⟩ rfl (Nat.le_of_ble_eq_true rfl) (by decide) (by decide) rfl (ct_ck (Qr := fun r V' => r = none ∧ V' = V) _ _ (nI_pos (by omega)) ((clt (by omega) (by omega)).mpr hk) ⟨rfl, rfl⟩) (fun r V' z => ?_)
  obtain ⟨rfl, rfl⟩ := z
  refine s_aload_n dJ1_charAt_3b067_6 rfl (s_iload_n dJ1_charAt_3b067_7 rfl (s_baldB hq (vp_in_nI hk (by omega)) dJ1_charAt_3b067_8 ?_))
  rw [ccl (n := k) (by omega)]
  exact s_sipush (v := 255) dJ1_charAt_3b067_9 (by decide) (s_iand dJ1_charAt_3b067_12 (s_i2c dJ1_charAt_3b067_13 e1 (s_iretG dJ1_charAt_3b067_14 rfl e2 ⟨rfl, H⟩)))
theorem ct_isl (q : Nat) (hq : q < 11) (H : Qr (some (.int 1)) V) : CTc J mJ0_isl [.ref (1000 + q)] V Qr Qx := by
  refine ctc_of (M := (T0 J, V)) pJ0_isl (fun _ _ => rfl) (Nat.le_of_ble_eq_true rfl) ?_
  show WPc J mJ0_isl _ _ 0 [(0, .ref (1000 + q))] [] V 0 0
  refine s_gstC fl_cmp dJ0_isLatin1_aae02_0 (s_if_eq (tgt := 17) dJ0_isLatin1_aae02_3 (by decide) (fun c => absurd c (by decide)) (fun _ => ?_))
  refine s_aload_n dJ0_isLatin1_aae02_6 rfl (s_codS hq fl_cod dJ0_isLatin1_aae02_7 (s_if_ne (tgt := 17) dJ0_isLatin1_aae02_10 (by decide) (fun c => absurd rfl c) (fun _ => ?_)))
  exact s_iconst (v := 1) dJ0_isLatin1_aae02_13 (by decide) (s_goto (tgt := 18) dJ0_isLatin1_aae02_14 (by decide) (s_iret dJ0_isLatin1_aae02_18 (Or.inr ⟨rfl, Or.inr rfl⟩) ⟨rfl, H⟩))
theorem ct_cod (q : Nat) (hq : q < 11) (H : Qr (some (.int 0)) V) : CTc J mJ0_cod [.ref (1000 + q)] V Qr Qx := by
  refine ctc_of (M := (T0 J, V)) pJ0_cod (fun _ _ => rfl) (Nat.le_of_ble_eq_true rfl) ?_
  show WPc J mJ0_cod _ _ 0 [(0, .ref (1000 + q))] [] V 0 0
  refine s_gstC fl_cmp dJ0_coder_7d493_0 (s_if_eq (tgt := 13) dJ0_coder_7d493_3 (by decide) (fun c => absurd c (by decide)) (fun _ => ?_))
  exact s_aload_n dJ0_coder_7d493_6 rfl (s_codS hq fl_cod dJ0_coder_7d493_7 (s_goto (tgt := 14) dJ0_coder_7d493_10 (by decide) (s_iretG dJ0_coder_7d493_14 rfl rfl ⟨rfl, H⟩)))
theorem ct_len (q : Nat) (hq : q < 11) (H : Qr (some (.int (nI (lenS.getD q 0)))) V) : CTc J mJ0_len [.ref (1000 + q)] V Qr Qx := by
  refine ctc_of (M := (T0 J, V)) pJ0_len (fun _ _ => rfl) (Nat.le_of_ble_eq_true rfl) ?_
  show WPc J mJ0_len _ _ 0 [(0, .ref (1000 + q))] [] V 0 0
  refine s_aload_n dJ0_length_8abf5_0 rfl (s_valS hq fl_val dJ0_length_8abf5_1 (s_alenB hq dJ0_length_8abf5_4 (s_aload_n dJ0_length_8abf5_5 rfl ?_)))
  refine t_cW (As := []) (st := [.int (nI (lenS.getD q 0))]) iv_J335 rfl dJ0_length_8abf5_6 ⟨by decide, by decide⟩ rfl (Nat.le_of_ble_eq_true rfl) (by decide) (by decide) rfl hq (ct_cod (Qr := fun r V' => r = some (.int 0) ∧ V' = V) q hq ⟨rfl, rfl⟩) (fun r V' z => ?_)
  obtain ⟨rfl, rfl⟩ := z
  refine s_ishr dJ0_length_8abf5_9 ?_
  rw [(lenS_sh q hq).1]
  exact s_iret dJ0_length_8abf5_10 (Or.inl rfl) ⟨rfl, H⟩
theorem ct_ch (q k : Nat) (hq : q < 11) (hk : k < lenS.getD q 0) (H : Qr (some (.int (chS q k))) V) : CTc J mJ0_ch [.ref (1000 + q), .int (nI k)] V Qr Qx := by
  have hl := (lenS_sh q hq).2
  refine ctc_of (M := (T0 J, V)) pJ0_ch (fun _ _ => rfl) (Nat.le_of_ble_eq_true rfl) ?_
  show WPc J mJ0_ch _ _ 0 [(0, .ref (1000 + q)), (1, .int (nI k))] [] V 0 0
  refine s_aload_n dJ0_charAt_5068e_0 rfl ?_
  refine t_cW (As := []) (st := []) iv_J492 rfl dJ0_charAt_5068e_1 ⟨by decide, by decide⟩ rfl (Nat.le_of_ble_eq_true rfl) (by decide) (by decide) rfl hq (ct_isl (Qr := fun r V' => r = some (.int 1) ∧ V' = V) q hq ⟨rfl, rfl⟩) (fun r V' z => ?_)
  obtain ⟨rfl, rfl⟩ := z
  refine s_if_eq (tgt := 16) dJ0_charAt_5068e_4 (by decide) (fun c => absurd c (by decide)) (fun _ => ?_)
  refine s_aload_n dJ0_charAt_5068e_7 rfl (s_valS hq fl_val dJ0_charAt_5068e_8 (s_iload_n dJ0_charAt_5068e_11 rfl ?_))
  refine t_cX (As := [.ref (1000 + (100 + q)), .int (nI k)]) (st := []) iv_J495 dJ0_charAt_5068e_12 ⟨by decide, by decide⟩ rfl (Nat.le_of_ble_eq_true rfl) (by decide) (by decide) rfl (ct_l1 (Qr := fun r W => r = some (.int (chS q k)) ∧ W = V') q k hq hk ⟨rfl, rfl⟩) (fun r V' z => ?_)
  obtain ⟨rfl, rfl⟩ := z
  exact s_iretG dJ0_charAt_5068e_15 rfl (chS_and q hq k (by omega)).2 ⟨rfl, H⟩
end Str2
