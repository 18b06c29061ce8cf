/-! calls -/
/-- the references that the caller still holds stay what they are -/
def rOK (L : List (Nat × Value)) (st : List Value) (n n' : Nat) : Prop := ∀ k, ((∃ i, (i, Value.ref k) ∈ L) ∨ Value.ref k ∈ st) → (k < n ∨ n' ≤ k)
theorem tr_eq {ad ad' : Nat → Nat} {v : Value} (h : ∀ k, v = .ref k → ad' k = ad k) : tr ad' v = tr ad v := by
  cases v <;> first | rfl | exact congrArg Value.ref (h _ rfl)
theorem blind (av : List Value) (G : gT) (ad : Nat → Nat) (M : pM) (sz : Nat) : FrameBlind (va_Pc av (pPre G ad M sz)) := by
  intro a U g mk h
  obtain ⟨h0, h1, h2, h3, h4, h5, h6, h7⟩ := h
  exact ⟨h0, h1, h2, va_K.moved (u := U) (U := U.calling g mk a) (Vm.Alike.refl U.vm) h3, h4, h5, h6, GU_same (s := U) (U := U.calling g mk a) rfl h7⟩
/-- a handler's first instruction puts the exception away -/
def lclr (i : Nat) (L : List (Nat × Value)) : List (Nat × Value) := L.filter (fun q => !(q.1 == i) && !(q.1 + 1 == i && q.2.category == 2))
theorem lclr_tr (ad : Nat → Nat) (i : Nat) (L : List (Nat × Value)) : (trL ad L).filter (fun q => !(q.1 == i) && !(q.1 + 1 == i && q.2.category == 2)) = trL ad (lclr i L) := by
  unfold trL lclr
  rw [List.filter_map]
  refine congrArg (List.map _) (List.filter_congr (fun q _ => ?_))
  show (!(q.1 == i) && !(q.1 + 1 == i && (tr ad q.2).category == 2)) = _
  rw [tr_cat]
def pCat (d : pD) (Qr : Option Value → pM → Prop) (Qx : String → pM → Prop) (t : Nat) (L : List (Nat × Value)) (M : pM) (bc bs : Nat) : Prop := (∃ k0 : Fin 4, decode (mdB d) t = .ok (.astore_n k0, 1) ∧ (k0 : Nat) < mdL d ∧ WPs d Qr Qx (t + 1) (lclr (k0 : Nat) L) [] M bc bs) ∨ (∃ i : Nat, decode (mdB d) t = .ok (.astore i, 2) ∧ i < mdL d ∧ WPs d Qr Qx (t + 2) (lclr i L) [] M bc bs)
section CRows
variable {d : pD} {Qr : Option Value → pM → Prop} {Qx : String → pM → Prop} {pc : Nat} {L : List (Nat × Value)} {st : List Value} {M : pM} {bc bs : Nat}
variable {p : Program} {l : Launch} {e : Env} {s : State} {m : MethodId} {args : Array Value} {below : List Frame} {meth : Method} {c : Code} {G : gT} {ad0 : Nat → Nat} {M0 : pM} {A : Nat → Prop} {ad : Nat → Nat} {H : Heap} {locs : List Loc} {ls : Array Slot} {cells slots : Nat}
theorem pFree (X : pAt d p l s m args meth c G ad0 M0 A ad M L bc bs H locs ls cells slots) : ∀ q, va_A (pws G.2.1 ad M) H.size q → A q := by
  obtain ⟨C, h1, h2, h3, h4, h5, hP, hD, hS, hl⟩ := X
  intro q hq
  rcases hq with ⟨k, e9, h⟩ | h
  · exact hD.2 k (q, e9) h
  · exact C.2.2.2.2.2.2.2.2.2.2.2.2.1 q (Nat.le_trans hS.1 h)
theorem pPre_of (X : pAt d p l s m args meth c G ad0 M0 A ad M L bc bs H locs ls cells slots) {U : State} (hU : U.heap = H) (hW : s.WarmedH U.vm) : pPre G ad M H.size U := by
  have hF := pFree X
  obtain ⟨C, h1, h2, h3, h4, h5, hP, hD, hS, hl⟩ := X
  obtain ⟨c1, c2, c3, c4, c5, c6, c7, c8, c9, c10, c11, c12, c13, c14, c15⟩ := C
  refine ⟨by rw [hU], by rw [hU]; exact hP, va_K.moved hW.alike c7, hD.weaken (fun _ _ _ _ => trivial), h2, fun k hk => ?_, ?_⟩
  · rw [h3 (1000 + k) (Or.inr (by omega))]
    exact c11 k hk
  · rw [hU]
    exact GU_warm hW (GU_narrow (GU_kept c10 (fun a ha hna => hS.2.1 a ha hna)) hF)
/-- behind a call -/
theorem s_run {mc ms : Nat} {st0 rest : List Value} {a : Array Value} {Qr' : Option Value → pM → Prop} {Qx' : String → pM → Prop} (X : pAt d p l s m args meth c G ad0 M0 A ad M L bc bs H locs ls cells slots)
    (hr : vx_Run p l e (mdM d) s m args below meth c H locs cells slots mc ms (F0 m pc ls st0) (rest.map (tr ad)) (pQc G ad M (va_A (pws G.2.1 ad M) H.size) Qr' a) (pXC G ad M (va_A (pws G.2.1 ad M) H.size) Qx') (va_A (pws G.2.1 ad M) H.size))
    (hb : mc ≤ bc) (hs : ms ≤ bs) (kk : ∀ v M', Qr' v M' → rOK L rest (pN M) (pN M') ∧ WPs d Qr Qx (pc + 3) L (v.toList ++ rest) M' (bc - mc) (bs - ms))
    (kx : ∀ E M', Qx' E M' → (mdX d pc E = some none ∧ Qx E M') ∨ ∃ t, mdX d pc E = some (some t) ∧ rOK L [] (pN M) (pN M') ∧ pCat d Qr Qx t L M' (bc - mc) (bs - ms)) :
    W p l e (mdM d) s m args below meth c H locs cells slots (vx_MQ below (pQc G ad0 M0 A Qr) (pXC G ad0 M0 A Qx) args s (mdM d).cells (mdM d).slots A) (F0 m pc ls st0) := by
  have hF := pFree X
  obtain ⟨C, h1, h2, h3, h4, h5, hP, hD, hS, hl⟩ := X
  obtain ⟨c1, c2, c3, c4, c5, c6, c7, c8, c9, c10, c11, c12, c13, c14, c15⟩ := id C
  intro T hT XT
  rcases hr T hT XT with ⟨v, st₀, t, T', Lc, h0, X', hL, e1, e2, ⟨v1, M', ad', hv, hq, ⟨q1, q2, q3, q4, q5, q6, q7⟩⟩, stp⟩ | ⟨q, st₀, t, T', Lc, E, ce, h0, X', hL, e1, e2, ⟨M', ad', hq, ⟨q1, q2, q3, q4, q5, q6, q7⟩⟩, hce, hcv, hcl, stp⟩
  · cases hv
    obtain ⟨k1, k2, k3⟩ := vx_keep h0 e1 hS (fun q _ h => hF q h) hF hL q7
    obtain ⟨hro, hk⟩ := kk v1 M' hq
    have hl' : trL ad' L = trL ad L := List.map_congr_left (fun r hr => by
      rw [tr_eq (fun k hk9 => ?_)]
      exact q3 k (hro k (Or.inl ⟨r.1, by rw [← hk9]; exact hr⟩)))
    have hs' : rest.map (tr ad') = rest.map (tr ad) := List.map_congr_left (fun r hr => by
      refine tr_eq (fun k hk9 => ?_)
      exact q3 k (hro k (Or.inr (by rw [← hk9]; exact hr))))
    have hst : (v1.toList ++ rest).map (tr ad') = (v1.map (tr ad')).toList ++ rest.map (tr ad) := by
      rw [List.map_append, hs']
      cases v1 <;> rfl
    have Y : pAt d p l s m args meth c G ad0 M0 A ad' M' L (bc - mc) (bs - ms) T'.heap (locs ++ Lc) ls (cells + mc) (slots + ms) := by
      refine ⟨C, Nat.le_trans h1 q1, q2, fun k hk9 => ?_, by omega, by omega, by rw [e1]; exact q4, q6.weaken (fun _ q9 _ h => hF q9.1 h), k3, by rw [hl']; exact hl⟩
      rw [q3 k (by omega), h3 k (by omega)]
    have Z := hk p l e s m args below meth c G ad0 M0 A ad' T'.heap (locs ++ Lc) ls (cells + mc) (slots + ms) Y
    rw [hst] at Z
    obtain ⟨t2, a1, b1⟩ := Z T' rfl X'
    exact ⟨t2, stp t2 a1, b1⟩
  · obtain ⟨k1, k2, k3⟩ := vx_keep h0 e1 hS (fun q _ h => hF q h) hF hL q7
    have hcell : T'.heap[q]? = some ce := by rw [e1]; exact hce
    rcases kx E M' hq with ⟨hx, hq9⟩ | ⟨tg, hx, hro, hk⟩
    · have Y : vx_W p l e (mdM d) s m args below meth c T'.heap (locs ++ Lc) (cells + mc) (slots + ms) (vx_MQ below (pQc G ad0 M0 A Qr) (pXC G ad0 M0 A Qx) args s (mdM d).cells (mdM d).slots A) (F0 m pc ls (rest.map (tr ad))) q := by
        refine vx_out (E := E) (ce := ce) (c14 pc E hx) c8 hcell hcv hcl (fun t9 ht9 hv9 => ⟨M', ad', hq9, Nat.le_trans h1 q1, q2, fun k hk9 => ?_, ?_, va_K.moved hv9 c7, q6.weaken (fun _ q9 _ h => hF q9.1 h), k3.F ht9⟩) k3.2.2 (by omega) (by omega)
        · rw [q3 k (by omega), h3 k (by omega)]
        · rw [ht9, e1]; exact q4
      obtain ⟨t2, a1, b1⟩ := Y T' rfl X'
      exact ⟨t2, stp.trans a1, b1⟩
    · obtain ⟨pre, x, suf, name, w1, w2, w3, w4, w5, w6, w7⟩ := c15 pc E tg hx
      have hl' : trL ad' L = trL ad L := List.map_congr_left (fun r hr => by
        rw [tr_eq (fun k hk9 => ?_)]
        exact q3 k (hro k (Or.inl ⟨r.1, by rw [← hk9]; exact hr⟩)))
      have Y : ∀ (L' : List (Nat × Value)) (ls' : Array Slot), lv_has ls' (mdL d) (trL ad' L') → pAt d p l s m args meth c G ad0 M0 A ad' M' L' (bc - mc) (bs - ms) T'.heap (locs ++ Lc) ls' (cells + mc) (slots + ms) := by
        refine fun L' ls' hl9 => ⟨C, Nat.le_trans h1 q1, q2, fun k hk9 => ?_, by omega, by omega, by rw [e1]; exact q4, q6.weaken (fun _ q9 _ h => hF q9.1 h), k3, hl9⟩
        rw [q3 k (by omega), h3 k (by omega)]
      have Z2 : vx_W p l e (mdM d) s m args below meth c T'.heap (locs ++ Lc) (cells + mc) (slots + ms) (vx_MQ below (pQc G ad0 M0 A Qr) (pXC G ad0 M0 A Qx) args s (mdM d).cells (mdM d).slots A) (F0 m pc ls (rest.map (tr ad))) q := by
        refine vx_catch c5 pre x suf w1 w2 w3 w4 w5 w6 hcell hcv hcl ?_
        rw [w7]
        rw [← hl'] at hl
        rcases hk with ⟨k0, g1, g2, g3⟩ | ⟨i, g1, g2, g3⟩
        · exact lv_astore_n c1 c2 g1 rfl hl g2 rfl (fun ls' hl9 => g3 p l e s m args below meth c G ad0 M0 A ad' T'.heap (locs ++ Lc) ls' (cells + mc) (slots + ms) (Y _ ls' ⟨hl9.1, hl9.2.1, fun r hr => hl9.2.2 r (List.mem_cons_of_mem _ (by rw [lclr_tr]; exact hr))⟩))
        · exact lv_astore c1 c2 g1 hl g2 rfl (fun ls' hl9 => g3 p l e s m args below meth c G ad0 M0 A ad' T'.heap (locs ++ Lc) ls' (cells + mc) (slots + ms) (Y _ ls' ⟨hl9.1, hl9.2.1, fun r hr => hl9.2.2 r (List.mem_cons_of_mem _ (by rw [lclr_tr]; exact hr))⟩))
      obtain ⟨t2, a1, b1⟩ := Z2 T' rfl X'
      exact ⟨t2, stp.trans a1, b1⟩
theorem pW_good (d d' : pD) (h : pdP d') : GoodIn (pW d) (pW d') := by
  intro w hw
  rcases List.mem_cons.mp hw with e1 | h1
  · rw [e1]
    exact ⟨List.mem_cons_of_mem _ h.2.1, TBg_good h.2.1⟩
  · exact ⟨List.mem_cons_of_mem _ h1, TBg_good h1⟩
theorem good1 (d : pD) {w : Cond} (h : w ∈ TBg) : w ∈ pW d ∧ ((w.onTables && w.keeps) = true ∨ ∃ ty, w = .arrayClass ty) := ⟨List.mem_cons_of_mem _ h, TBg_good h⟩
end CRows
section CRows2
variable {d d' : pD} {Qr : Option Value → pM → Prop} {Qx : String → pM → Prop} {pc idx : Nat} {L : List (Nat × Value)} {st As : List Value} {M : pM} {bc bs : Nat} {Qr' : Option Value → pM → Prop} {Qx' : String → pM → Prop}
/-- what the caller goes on with -/
def pGo (d d' : pD) (Qr : Option Value → pM → Prop) (Qx : String → pM → Prop) (pc : Nat) (L : List (Nat × Value)) (st : List Value) (M : pM) (bc bs : Nat) (Qr' : Option Value → pM → Prop) (Qx' : String → pM → Prop) : Prop :=
  (∀ v M', Qr' v M' → rOK L st (pN M) (pN M') ∧ WPs d Qr Qx (pc + 3) L (v.toList ++ st) M' (bc - (mdM d').cells) (bs - (mdM d').slots)) ∧
  (∀ E M', Qx' E M' → (mdX d pc E = some none ∧ Qx E M') ∨ ∃ t, mdX d pc E = some (some t) ∧ rOK L [] (pN M) (pN M') ∧ pCat d Qr Qx t L M' (bc - (mdM d').cells) (bs - (mdM d').slots))
theorem s_callS (hi : iv0 (mdO d) idx d') (hd : decode (mdB d) pc = .ok (.invokestatic idx, 3)) (hrm : rmP d d') (hn : As.length = mdA d') (hst : (st.map fun v => v.category).sum ≤ 8) (hb : (mdM d').cells ≤ bc) (hs : (mdM d').slots ≤ bs) (hM : CT d' As M Qr' Qx') (kk : pGo d d' Qr Qx pc L st M bc bs Qr' Qx') : WPs d Qr Qx pc L (As.reverse ++ st) M bc bs := by
  intro p l e s m args below meth c G ad0 M0 A ad H locs ls cells slots X
  obtain ⟨c1, c2, c3, c4, c5, c6, c7, c8, c9, c10, c11, c12, c13, c14, c15⟩ := id X.1
  obtain ⟨hp, ho, h1, h2⟩ := hi
  have hcat : ((st.map (tr ad)).map fun v => v.category).sum ≤ 8 := by
    rw [List.map_map, show ((fun v : Value => v.category) ∘ tr ad) = (fun v => v.category) from funext (tr_cat ad)]
    exact hst
  have hcls : (mdY d').cls = fC (mdO d) := by rw [ho]; exact hp.2.2.2.2.2
  have hG : GoodIn (pW d) (wsS (fC (mdO d)) idx (mdY d') (pW d')) := by
    intro w hw
    rcases List.mem_append.mp hw with h | h
    · simp only [List.mem_cons, List.not_mem_nil, or_false] at h
      rcases h with rfl | rfl | rfl
      · exact good1 d h1
      · exact good1 d h2
      · exact good1 d (hcls ▸ hp.2.2.1)
    · exact pW_good d d' hp w h
  have hw : pW d' = Cond.code (mdY d') (mdB d') (mdL d') (mdR d') :: TBg := by unfold pW; rw [hp.1]
  have hr := vx_runS (e := e) (below := below) (meth := meth) (locs := locs) (cells := cells) (slots := slots) (As := As.map (tr ad)) (rest := st.map (tr ad)) (g := F0 m pc ls ((As.reverse ++ st).map (tr ad))) ⟨c1, c2, c4, c5, c6⟩ (hM l G ad H.size c12) (cwS (mdA d') c6 hG hw rfl rfl ⟨hcls, hp.2.2.2.2.1⟩ hrm) ⟨blind _ _ _ _ _, fun U hU hW => ⟨rfl, pPre_of X hU hW⟩⟩ rfl (by rw [List.length_map]; exact hn) X.2.2.2.2.2.2.2.2.2.1 (by rw [List.map_append, List.map_reverse]) (lv_room hcat) hd ⟨by have := X.2.2.2.2.1; omega, by have := X.2.2.2.2.2.1; omega⟩
  exact s_run X hr hb hs kk.1 kk.2
theorem s_callN (hi : iv1 (mdO d) idx d') (hd : decode (mdB d) pc = .ok (.invokestatic idx, 3)) (hrm : rmP d d') (hn : As.length = mdA d') (hst : (st.map fun v => v.category).sum ≤ 8) (hb : (mdM d').cells ≤ bc) (hs : (mdM d').slots ≤ bs) (hM : CT d' As M Qr' Qx') (kk : pGo d d' Qr Qx pc L st M bc bs Qr' Qx') : WPs d Qr Qx pc L (As.reverse ++ st) M bc bs := by
  intro p l e s m args below meth c G ad0 M0 A ad H locs ls cells slots X
  obtain ⟨c1, c2, c3, c4, c5, c6, c7, c8, c9, c10, c11, c12, c13, c14, c15⟩ := id X.1
  have hcat : ((st.map (tr ad)).map fun v => v.category).sum ≤ 8 := by
    rw [List.map_map, show ((fun v : Value => v.category) ∘ tr ad) = (fun v => v.category) from funext (tr_cat ad)]
    exact hst
  obtain ⟨hp, h1, h2⟩ := hi
  have hw : pW d' = Cond.code (mdY d') (mdB d') (mdL d') (mdR d') :: TBg := by unfold pW; rw [hp.1]
  have hr := vx_runSN (e := e) (below := below) (meth := meth) (locs := locs) (cells := cells) (slots := slots) (As := As.map (tr ad)) (rest := st.map (tr ad)) (g := F0 m pc ls ((As.reverse ++ st).map (tr ad))) ⟨c1, c2, c4, c5, c6⟩ (hM l G ad H.size c12) ⟨va_cnB (mdA d') c6 (pW_good d d' hp) hw rfl rfl (c10.1 _ h1) (c6 _ (List.mem_cons_of_mem _ hp.2.2.1)) hp.2.2.2.2.1 hrm, c6 _ (List.mem_cons_of_mem _ h2), trivial⟩ ⟨blind _ _ _ _ _, fun U hU hW => ⟨rfl, pPre_of X hU hW⟩⟩ rfl (by rw [List.length_map]; exact hn) X.2.2.2.2.2.2.2.2.2.1 (by rw [List.map_append, List.map_reverse]) (lv_room hcat) hd ⟨by have := X.2.2.2.2.1; omega, by have := X.2.2.2.2.2.1; omega⟩
  exact s_run X hr hb hs kk.1 kk.2
theorem s_callV {h : Nat} (hi : iv2 (mdO d) idx d') (hd : decode (mdB d) pc = .ok (.invokevirtual idx, 3)) (hrm : rmP d d') (hn : As.length = mdA d') (hst : (st.map fun v => v.category).sum ≤ 8) (hb : (mdM d').cells ≤ bc) (hs : (mdM d').slots ≤ bs) (hh : h < pN M) (hk : pK M h = mdO d') (hM : CT d' (.ref h :: As) M Qr' Qx') (kk : pGo d d' Qr Qx pc L st M bc bs Qr' Qx') : WPs d Qr Qx pc L (As.reverse ++ .ref h :: st) M bc bs := by
  intro p l e s m args below meth c G ad0 M0 A ad H locs ls cells slots X
  obtain ⟨c1, c2, c3, c4, c5, c6, c7, c8, c9, c10, c11, c12, c13, c14, c15⟩ := id X.1
  have hcat : ((st.map (tr ad)).map fun v => v.category).sum ≤ 8 := by
    rw [List.map_map, show ((fun v : Value => v.category) ∘ tr ad) = (fun v => v.category) from funext (tr_cat ad)]
    exact hst
  obtain ⟨hp, h0, h1, h2, h3⟩ := hi
  have hw : pW d' = Cond.code (mdY d') (mdB d') (mdL d') (mdR d') :: TBg := by unfold pW; rw [hp.1]
  have hcls : (mdY d').cls = fC (mdO d') := hp.2.2.2.2.2
  have hG : GoodIn (pW d) (wsV (fC (mdO d)) idx (fC (mdO d')) (mdY d') (pW d')) := by
    intro w hw
    rcases List.mem_append.mp hw with h | h
    · simp only [List.mem_cons, List.not_mem_nil, or_false] at h
      rcases h with rfl | rfl | rfl | rfl
      · exact good1 d h1
      · exact good1 d h2
      · exact good1 d h3
      · exact good1 d (hcls ▸ hp.2.2.1)
    · exact pW_good d d' hp w h
  have hrc := va_recv (s := s) c7 X.2.2.2.2.2.2.1 (vwCl_at (mdO d') h0) (pws_obj G.2.1 ad M hh hk h0)
  have hr := vx_runV (C := fC (mdO d')) (b := ad h) (e := e) (below := below) (meth := meth) (locs := locs) (cells := cells) (slots := slots) (As := As.map (tr ad)) (rest := st.map (tr ad)) (g := F0 m pc ls ((As.reverse ++ .ref h :: st).map (tr ad))) ⟨c1, c2, c4, c5, c6⟩ (hM l G ad H.size c12) (cwV (mdA d') c6 hG hw rfl rfl ⟨hcls, hp.2.2.2.2.1⟩ hrm) ⟨blind _ _ _ _ _, hrc, fun U hU hW => ⟨rfl, pPre_of X hU hW⟩⟩ rfl (by rw [List.length_map]; exact hn) X.2.2.2.2.2.2.2.2.2.1 (by rw [List.map_append, List.map_reverse]; rfl) (lv_room hcat) hd ⟨by have := X.2.2.2.2.1; omega, by have := X.2.2.2.2.2.1; omega⟩
  exact s_run X hr hb hs kk.1 kk.2
theorem s_callI {h : Nat} (hi : iv3 (mdO d) idx d') (hd : decode (mdB d) pc = .ok (.invokespecial idx, 3)) (hrm : rmP d d') (hn : As.length = mdA d') (hst : (st.map fun v => v.category).sum ≤ 8) (hb : (mdM d').cells ≤ bc) (hs : (mdM d').slots ≤ bs) (hM : CT d' (.ref h :: As) M Qr' Qx') (kk : pGo d d' Qr Qx pc L st M bc bs Qr' Qx') : WPs d Qr Qx pc L (As.reverse ++ .ref h :: st) M bc bs := by
  intro p l e s m args below meth c G ad0 M0 A ad H locs ls cells slots X
  obtain ⟨c1, c2, c3, c4, c5, c6, c7, c8, c9, c10, c11, c12, c13, c14, c15⟩ := id X.1
  have hcat : ((st.map (tr ad)).map fun v => v.category).sum ≤ 8 := by
    rw [List.map_map, show ((fun v : Value => v.category) ∘ tr ad) = (fun v => v.category) from funext (tr_cat ad)]
    exact hst
  obtain ⟨hp, hy, hrn, h1, h2⟩ := hi
  have hw : pW d' = Cond.code (mdY d') (mdB d') (mdL d') (mdR d') :: TBg := by unfold pW; rw [hp.1]
  rw [hrn] at hw
  have hr := vx_runI (b := ad h) (e := e) (below := below) (meth := meth) (locs := locs) (cells := cells) (slots := slots) (As := As.map (tr ad)) (rest := st.map (tr ad)) (g := F0 m pc ls ((As.reverse ++ .ref h :: st).map (tr ad))) ⟨c1, c2, c4, c5, c6⟩ (hM l G ad H.size c12) (cwI (mdA d') c6 (pW_good d d' hp) hw rfl rfl (c6 _ (List.mem_cons_of_mem _ hp.2.2.1)) (c6 _ (List.mem_cons_of_mem _ h1)) (c6 _ (List.mem_cons_of_mem _ h2)) hy hp.2.2.2.2.1 hrm) ⟨blind _ _ _ _ _, fun U hU hW => ⟨rfl, pPre_of X hU hW⟩⟩ rfl (by rw [List.length_map]; exact hn) X.2.2.2.2.2.2.2.2.2.1 (by rw [List.map_append, List.map_reverse]; rfl) (lv_room hcat) hd ⟨by have := X.2.2.2.2.1; omega, by have := X.2.2.2.2.2.1; omega⟩
  exact s_run X hr hb hs kk.1 kk.2
theorem s_callIN {h : Nat} (hi : iv4 (mdO d) idx d') (hd : decode (mdB d) pc = .ok (.invokespecial idx, 3)) (hrm : rmP d d') (hn : As.length = mdA d') (hst : (st.map fun v => v.category).sum ≤ 8) (hb : (mdM d').cells ≤ bc) (hs : (mdM d').slots ≤ bs) (hM : CT d' (.ref h :: As) M Qr' Qx') (kk : pGo d d' Qr Qx pc L st M bc bs Qr' Qx') : WPs d Qr Qx pc L (As.reverse ++ .ref h :: st) M bc bs := by
  intro p l e s m args below meth c G ad0 M0 A ad H locs ls cells slots X
  obtain ⟨c1, c2, c3, c4, c5, c6, c7, c8, c9, c10, c11, c12, c13, c14, c15⟩ := id X.1
  have hcat : ((st.map (tr ad)).map fun v => v.category).sum ≤ 8 := by
    rw [List.map_map, show ((fun v : Value => v.category) ∘ tr ad) = (fun v => v.category) from funext (tr_cat ad)]
    exact hst
  obtain ⟨hp, hy, hrn, h1, h2⟩ := hi
  have hw : pW d' = Cond.code (mdY d') (mdB d') (mdL d') (mdR d') :: TBg := by unfold pW; rw [hp.1]
  rw [hrn] at hw
  have hr := vx_runIN (b := ad h) (e := e) (below := below) (meth := meth) (locs := locs) (cells := cells) (slots := slots) (As := As.map (tr ad)) (rest := st.map (tr ad)) (g := F0 m pc ls ((As.reverse ++ .ref h :: st).map (tr ad))) ⟨c1, c2, c4, c5, c6⟩ (hM l G ad H.size c12) ⟨va_cnB (mdA d') c6 (pW_good d d' hp) hw rfl rfl (c10.1 _ h1) (c6 _ (List.mem_cons_of_mem _ hp.2.2.1)) hp.2.2.2.2.1 hrm, hy, c6 _ (List.mem_cons_of_mem _ h2)⟩ ⟨blind _ _ _ _ _, fun U hU hW => ⟨rfl, pPre_of X hU hW⟩⟩ rfl (by rw [List.length_map]; exact hn) X.2.2.2.2.2.2.2.2.2.1 (by rw [List.map_append, List.map_reverse]; rfl) (lv_room hcat) hd ⟨by have := X.2.2.2.2.1; omega, by have := X.2.2.2.2.2.1; omega⟩
  exact s_run X hr hb hs kk.1 kk.2
/-- Object's own constructor -/
theorem s_objInit {h : Nat} (h1 : Cond.methodLink (fC (mdO d)) idx Lib.objectInit ∈ TBg) (h2 : Cond.instanceMethod Lib.objectInit ∈ TBg) (h3 : Cond.code Lib.objectInit ⟨#[0xb1]⟩ 1 none ∈ TBg) (hd : decode (mdB d) pc = .ok (.invokespecial idx, 3)) (hst : (st.map fun v => v.category).sum ≤ 8) (hf : 1 ≤ (mdM d).frames) (hlo : 20 ≤ (mdM d).locals) (k : WPs d Qr Qx (pc + 3) L st M bc bs) : WPs d Qr Qx pc L (.ref h :: st) M bc bs := by
  intro p l e s m args below meth c G ad0 M0 A ad H locs ls cells slots X
  obtain ⟨c1, c2, c3, c4, c5, c6, c7, c8, c9, c10, c11, c12, c13, c14, c15⟩ := id X.1
  have hcat : ((st.map (tr ad)).map fun v => v.category).sum ≤ 8 := by
    rw [List.map_map, show ((fun v : Value => v.category) ∘ tr ad) = (fun v => v.category) from funext (tr_cat ad)]
    exact hst
  refine W.objInit c1 c2 c5 (c6 _ (List.mem_cons_of_mem _ h1)) (c6 _ (List.mem_cons_of_mem _ h2)) (c6 _ (List.mem_cons_of_mem _ h3)) rfl (by rw [c4]; exact X.2.2.2.2.2.2.2.2.2.1) rfl hd hf ?_ (k p l e s m args below meth c G ad0 M0 A ad H locs ls cells slots X)
  have := lv_room (m := m) (pc := pc) (ls := ls) (rest := ((Value.ref h :: st).map (tr ad))) hcat
  omega
/-- THE CONTRACT OUT OF THE BODY -/
theorem ct_of (hp : pdP d) (hx : ∀ pc E, mdX d pc E = some none) (hl : (lg_sl As).length ≤ mdL d) (k : WPs d Qr Qx 0 (lv_args 0 As) [] M (mdM d).cells (mdM d).slots) : CT d As M Qr Qx := by
  intro l G ad sz hst
  have hw : pW d = Cond.code (mdY d) (mdB d) (mdL d) (mdR d) :: TBg := by unfold pW; rw [hp.1]
  refine vx_ofW hp.2.2.2.1 hw ?_
  intro p e s m args below meth c s₁ B hml htab hv
  obtain ⟨rfl, hsz, hP, hK, hD0, hn, hc, hU⟩ := hv
  subst hsz
  have hsl : ∀ vs : List Value, lg_sl (vs.map (tr ad)) = (lg_sl vs).map (fun z => match z with | .val v => .val (tr ad v) | z => z) := by
    intro vs
    induction vs with
    | nil => rfl
    | cons v vs ih =>
      unfold lg_sl at ih ⊢
      rw [List.map_cons, List.flatMap_cons, List.flatMap_cons, List.map_append, ih, tr_cat]
      by_cases h2 : v.category = 2
      · rw [if_pos h2, if_pos h2]; rfl
      · rw [if_neg h2, if_neg h2]; rfl
  have hla : ∀ (vs : List Value) (i : Nat), lv_args i (vs.map (tr ad)) = trL ad (lv_args i vs) := by
    intro vs
    induction vs with
    | nil => intro i; rfl
    | cons v vs ih =>
      intro i
      show (i, tr ad v) :: lv_args (if (tr ad v).category = 2 then i + 2 else i + 1) (vs.map (tr ad)) = _
      rw [tr_cat, ih]
      rfl
  have hle := lv_entry (As.map (tr ad)) (n := mdL d) (by rw [hsl, List.length_map]; exact hl)
  rw [lg_entry_eq]
  rw [hla] at hle
  generalize (lg_sl (As.map (tr ad)) ++ List.replicate (mdL d - (lg_sl (As.map (tr ad))).length) Slot.unset).toArray = ls at hle ⊢
  refine k p l e s m _ below meth c G ad M (va_A (pws G.2.1 ad M) s.heap.size) ad s.heap [] ls 0 0 ⟨⟨B.exec, B.bytes, B.returns, hml, ?_, atoms_spec (ws := pW d) B.pre, hK, B.notSynchronized, fun h9 => ?_, hU, hc, hst, fun q hq => Or.inr hq, fun pc E _ x hx9 => (htab x hx9).elim, fun pc E t ht => ?_⟩, Nat.le_refl _, hn, fun _ _ => rfl, by omega, by omega, hP, hD0.self, va_S.rf, hle⟩
  · rw [← hp.2.2.2.2.2]
    exact findClass_of_methodNamed B.named
  · rw [← h9]
    exact (name_of_methodNamed B.named B.method).1
  · rw [hx pc E] at ht
    cases ht
end CRows2
