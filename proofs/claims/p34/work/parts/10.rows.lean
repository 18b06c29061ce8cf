/-! rows on the heap, calls, ends -/
section HRows
variable {d : pD} {Qr : Option Value → pM → Prop} {Qx : String → pM → Prop} {pc : Nat} {L : List (Nat × Value)} {st : List Value} {M : pM} {bc bs : Nat}
theorem pArr_I {ad : Nat → Nat} {M : pM} {h c : Nat} (hk : pK M h = c) (hc : c = 9 ∨ c = 10) : pArr ad M h = (pL M h, .inl (pV M h)) := by
  unfold pArr
  rw [if_neg (by omega), if_neg (by omega)]
theorem pArr_J {ad : Nat → Nat} {M : pM} {h : Nat} (hk : pK M h = 12) : pArr ad M h = (pL M h, .inr (.inl (pJ M h))) := by
  unfold pArr
  rw [if_neg (by omega), if_pos hk]
theorem pArr_Q {ad : Nat → Nat} {M : pM} {h : Nat} (hk : pK M h = 11) : pArr ad M h = (pL M h, .inr (.inr (.inr (.inr (fun j => (pR M h j).map ad))))) := by
  unfold pArr
  rw [if_pos hk]
theorem s_get0 {idx ci j nest h : Nat} {v : Value} (hf : fldP (mdO d) idx ci j nest) (hd : decode (mdB d) pc = .ok (.getfield idx, 3)) (hn : h < pN M) (hk : pK M h = ci) (hv : ∀ ad, pfv ad M h j = tr ad v) (k : WPs d Qr Qx (pc + 3) L (v :: st) M bc bs) : WPs d Qr Qx pc L (.ref h :: st) M bc bs := by
  intro p l e s m args below meth c G ad0 M0 A ad H locs ls cells slots X
  obtain ⟨⟨c1, c2, c3, c4, c5, c6, c7, c8, c9, c10, c11, c12, c13, c14, c15⟩, h1, h2, h3, h4, h5, hP, hD, hS, hl⟩ := id X
  have hws := pws_obj G.2.1 ad M hn hk hf.1
  have hfs : (pfs ad M h)[j]? = some (tr ad v) := by
    rw [pfs_get ad M h (by rw [hk]; exact hf.2.1), hv]
  have hsm : ∀ x, s.fieldFound? (fX ci j).1 (fX ci j).2.1 (fX ci j).2.2.1 = some x → s.fieldFound? (fC ci) (fX ci j).2.1 (fX ci j).2.2.1 = some x := by
    rw [fX_own ci hf.1 j hf.2.1]
    exact fun _ q => q
  by_cases hz : nest = 0
  · exact va_get (ref := fC ci) c1 c2 c6 (fun w hw => List.mem_cons_of_mem _ (ulay ci hf.1 w hw)) c5 c7 hP h hws (vwCl_at ci hf.1) j hf.2.1 (c6 _ (List.mem_cons_of_mem _ (hf.2.2.1 hz))) hsm hfs hd (k p l e s m args below meth c G ad0 M0 A ad H locs ls cells slots X)
  · exact va_getN (ref := fC ci) (host := "Raidhall") c1 c2 c6 (fun w hw => List.mem_cons_of_mem _ (ulay ci hf.1 w hw)) c5 c7 hP h hws (vwCl_at ci hf.1) j hf.2.1 (va_Nw.use rfl (c10.1 _ (hf.2.2.2 hz))) hsm hfs hd (k p l e s m args below meth c G ad0 M0 A ad H locs ls cells slots X)
/-- a number's field is read -/
theorem s_getI {idx ci j nest h : Nat} (hf : fldP (mdO d) idx ci j nest) (hd : decode (mdB d) pc = .ok (.getfield idx, 3)) (hn : h < pN M) (hk : pK M h = ci) (ht : isRT (fT ci j) = false) (k : WPs d Qr Qx (pc + 3) L (.int (pV M h j) :: st) M bc bs) : WPs d Qr Qx pc L (.ref h :: st) M bc bs :=
  s_get0 hf hd hn hk (fun ad => pfv_num (by rw [hk]; exact ht)) k
/-- a reference's -/
theorem s_getR {idx ci j nest h r : Nat} (hf : fldP (mdO d) idx ci j nest) (hd : decode (mdB d) pc = .ok (.getfield idx, 3)) (hn : h < pN M) (hk : pK M h = ci) (ht : isRT (fT ci j) = true) (hr : pR M h j = some r) (k : WPs d Qr Qx (pc + 3) L (.ref r :: st) M bc bs) : WPs d Qr Qx pc L (.ref h :: st) M bc bs :=
  s_get0 hf hd hn hk (fun ad => by rw [pfv_ref (by rw [hk]; exact ht), hr]; rfl) k
theorem s_putI {idx ci j nest h : Nat} {x : Int32} (hf : fldP (mdO d) idx ci j nest) (hd : decode (mdB d) pc = .ok (.putfield idx, 3)) (hn : h < pN M) (hk : pK M h = ci) (ht : fT ci j = .int ∨ (fT ci j = .boolean ∧ (x = 0 ∨ x = 1))) (k : WPs d Qr Qx (pc + 3) L st (mV M h j x) bc bs) : WPs d Qr Qx pc L (.int x :: .ref h :: st) M bc bs := by
  intro p l e s m args below meth c G ad0 M0 A ad H locs ls cells slots X
  obtain ⟨C, h1, h2, h3, h4, h5, hP, hD, hS, hl⟩ := id X
  obtain ⟨c1, c2, c3, c4, c5, c6, c7, c8, c9, c10, c11, c12, c13, c14, c15⟩ := id C
  have hws := pws_obj G.2.1 ad M hn hk hf.1
  have hrt : isRT (fT ci j) = false := by rcases ht with ht | ⟨ht, -⟩ <;> rw [ht] <;> rfl
  have hnr : narrow (fT ci j) (.int x) = .int x ∧ fits (fT ci j) (.int x) = true := by
    rcases ht with ht | ⟨ht, rfl | rfl⟩ <;> rw [ht] <;> exact ⟨rfl, rfl⟩
  have hsm : ∀ x, s.fieldFound? (fX ci j).1 (fX ci j).2.1 (fX ci j).2.2.1 = some x → s.fieldFound? (fC ci) (fX ci j).2.1 (fX ci j).2.2.1 = some x := by
    rw [fX_own ci hf.1 j hf.2.1]
    exact fun _ q => q
  have hfin : (fX ci j).2.2.2 = false := (fX_fin ci hf.1 j hf.2.1).trans hrt
  have hlen : j < (pfs ad M h).length := by
    rw [show (pfs ad M h).length = fN (pK M h) by simp [pfs], hk]
    exact hf.2.1
  have kk : ∀ (H1 : Heap) (locs1 : List Loc), va_P G.1 vwCl ((pws G.2.1 ad M).set h (ad h, .inr (ci, (pfs ad M h).set j (.int x)))) H1 → va_D A ((pws G.2.1 ad M).set h (ad h, .inr (ci, (pfs ad M h).set j (.int x)))) → va_S A s.heap H1 locs1 → W p l e (mdM d) s m args below meth c H1 locs1 cells slots (vx_MQ below (pQc G ad0 M0 A Qr) (pXC G ad0 M0 A Qx) args s (mdM d).cells (mdM d).slots A) (F0 m (pc + 3) ls (st.map (tr ad))) := by
    intro H1 locs1 hP1 hD1 hS1
    rw [pws_V_obj G.2.1 ad M hn hk hf.1 hf.2.1 hrt] at hP1 hD1
    exact k p l e s m args below meth c G ad0 M0 A ad H1 locs1 ls cells slots ⟨C, h1, h2, h3, h4, h5, hP1, hD1, hS1, hl⟩
  by_cases hz : nest = 0
  · exact va_put (ref := fC ci) c1 c2 c6 (fun w hw => List.mem_cons_of_mem _ (ulay ci hf.1 w hw)) (fT ci) (fX_ty ci hf.1) (fX_nm ci hf.1) c5 c7 hP hD hS h hws (vwCl_at ci hf.1) j hf.2.1 (c6 _ (List.mem_cons_of_mem _ (hf.2.2.1 hz))) hsm hfin (fX_ty ci hf.1 j hf.2.1) hnr.1 hnr.2 hlen hd kk
  · exact va_putN (ref := fC ci) (host := "Raidhall") c1 c2 c6 (fun w hw => List.mem_cons_of_mem _ (ulay ci hf.1 w hw)) (fT ci) (fX_ty ci hf.1) (fX_nm ci hf.1) c5 c7 hP hD hS h hws (vwCl_at ci hf.1) j hf.2.1 (va_Nw.use rfl (c10.1 _ (hf.2.2.2 hz))) hsm hfin (fX_ty ci hf.1 j hf.2.1) hnr.1 hnr.2 hlen hd kk
/-- a final reference is written, in its constructor -/
theorem s_putR {idx j h r : Nat} (hf : fldP (mdO d) idx (mdO d) j 0) (hd : decode (mdB d) pc = .ok (.putfield idx, 3)) (hn : h < pN M) (hk : pK M h = mdO d) (ht : isRT (fT (mdO d) j) = true) (hi : (mdY d).name = "<init>") (k : WPs d Qr Qx (pc + 3) L st (mR M h j (some r)) bc bs) : WPs d Qr Qx pc L (.ref r :: .ref h :: st) M bc bs := by
  intro p l e s m args below meth c G ad0 M0 A ad H locs ls cells slots X
  obtain ⟨C, h1, h2, h3, h4, h5, hP, hD, hS, hl⟩ := id X
  obtain ⟨c1, c2, c3, c4, c5, c6, c7, c8, c9, c10, c11, c12, c13, c14, c15⟩ := id C
  have hws := pws_obj G.2.1 ad M hn hk hf.1
  have hnr : narrow (fT (mdO d) j) (.ref (ad r)) = .ref (ad r) ∧ fits (fT (mdO d) j) (.ref (ad r)) = true := by
    generalize fT (mdO d) j = ty at ht
    cases ty <;> first | exact ⟨rfl, rfl⟩ | (simp [isRT] at ht)
  have hown := fX_own (mdO d) hf.1 j hf.2.1
  have hsm : ∀ x, s.fieldFound? (fX (mdO d) j).1 (fX (mdO d) j).2.1 (fX (mdO d) j).2.2.1 = some x → s.fieldFound? (fC (mdO d)) (fX (mdO d) j).2.1 (fX (mdO d) j).2.2.1 = some x := by
    rw [hown]
    exact fun _ q => q
  have hlen : j < (pfs ad M h).length := by
    rw [show (pfs ad M h).length = fN (pK M h) by simp [pfs], hk]
    exact hf.2.1
  refine va_putF (ref := fC (mdO d)) (v := .ref (ad r)) c1 c2 c6 (fun w hw => List.mem_cons_of_mem _ (ulay (mdO d) hf.1 w hw)) (fT (mdO d)) (fX_ty (mdO d) hf.1) (fX_nm (mdO d) hf.1) c5 c7 hP hD hS h hws (vwCl_at (mdO d) hf.1) j hf.2.1 (c6 _ (List.mem_cons_of_mem _ (hf.2.2.1 rfl))) hsm ((fX_fin (mdO d) hf.1 j hf.2.1).trans ht) (c9 hi) hown (fX_ty (mdO d) hf.1 j hf.2.1) hnr.1 hnr.2 hlen hd ?_
  intro H1 locs1 hP1 hD1 hS1
  have e1 := pws_R_obj G.2.1 ad M (r := some r) hn hk hf.1 hf.2.1 ht
  have e2 : va_rf ((some r).map ad) = .ref (ad r) := rfl
  rw [e2] at e1
  rw [e1] at hP1 hD1
  exact k p l e s m args below meth c G ad0 M0 A ad H1 locs1 ls cells slots ⟨C, h1, h2, h3, h4, h5, hP1, hD1, hS1, hl⟩
theorem s_iald {h : Nat} {i : Int32} (hd : decode (mdB d) pc = .ok (.iaload, 1)) (hn : h < pN M) (hk : pK M h = 9) (hi : vp_in i (pL M h)) (k : WPs d Qr Qx (pc + 1) L (.int (pV M h i.toNatClampNeg) :: st) M bc bs) : WPs d Qr Qx pc L (.int i :: .ref h :: st) M bc bs := by
  intro p l e s m args below meth c G ad0 M0 A ad H locs ls cells slots X
  have ha := pws_arr G.2.1 ad M hn hk (by decide)
  rw [pArr_I hk (Or.inl rfl)] at ha
  exact va_iald X.1.1 X.1.2.1 X.1.2.2.2.2.2.2.1 X.2.2.2.2.2.2.1 h 0 ha rfl hi hd (k p l e s m args below meth c G ad0 M0 A ad H locs ls cells slots X)
theorem s_aald {h r : Nat} {i : Int32} (hd : decode (mdB d) pc = .ok (.aaload, 1)) (hn : h < pN M) (hk : pK M h = 11) (hi : vp_in i (pL M h)) (hr : pR M h i.toNatClampNeg = some r) (k : WPs d Qr Qx (pc + 1) L (.ref r :: st) M bc bs) : WPs d Qr Qx pc L (.int i :: .ref h :: st) M bc bs := by
  intro p l e s m args below meth c G ad0 M0 A ad H locs ls cells slots X
  have ha := pws_arr G.2.1 ad M hn hk (by decide)
  rw [pArr_Q hk] at ha
  refine va_aldq X.1.1 X.1.2.1 X.1.2.2.2.2.2.2.1 X.2.2.2.2.2.2.1 h 1 ha rfl hi hd ?_
  show W p l e (mdM d) s m args below meth c H locs cells slots _ (F0 m (pc + 1) ls (va_rf ((pR M h i.toNatClampNeg).map ad) :: st.map (tr ad)))
  rw [hr]
  exact k p l e s m args below meth c G ad0 M0 A ad H locs ls cells slots X
theorem s_iast {h : Nat} {i x : Int32} (hd : decode (mdB d) pc = .ok (.iastore, 1)) (hn : h < pN M) (hk : pK M h = 9) (hi : vp_in i (pL M h)) (k : WPs d Qr Qx (pc + 1) L st (mV M h i.toNatClampNeg x) bc bs) : WPs d Qr Qx pc L (.int x :: .int i :: .ref h :: st) M bc bs := by
  intro p l e s m args below meth c G ad0 M0 A ad H locs ls cells slots X
  obtain ⟨C, h1, h2, h3, h4, h5, hP, hD, hS, hl⟩ := id X
  have ha := pws_arr G.2.1 ad M hn hk (by decide)
  rw [pArr_I hk (Or.inl rfl)] at ha
  refine va_iast C.1 C.2.1 C.2.2.2.2.2.2.1 hP hD hS h 0 ha rfl hi hd (fun H1 locs1 hP1 hD1 hS1 => ?_)
  rw [pws_V_arr G.2.1 ad M hn hk (Or.inl rfl)] at hP1 hD1
  exact k p l e s m args below meth c G ad0 M0 A ad H1 locs1 ls cells slots ⟨C, h1, h2, h3, h4, h5, hP1, hD1, hS1, hl⟩
theorem s_aast {h r : Nat} {i : Int32} (hd : decode (mdB d) pc = .ok (.aastore, 1)) (hn : h < pN M) (hk : pK M h = 11) (hi : vp_in i (pL M h)) (hrn : r < pN M) (hrk : pK M r = 2) (k : WPs d Qr Qx (pc + 1) L st (mR M h i.toNatClampNeg (some r)) bc bs) : WPs d Qr Qx pc L (.ref r :: .int i :: .ref h :: st) M bc bs := by
  intro p l e s m args below meth c G ad0 M0 A ad H locs ls cells slots X
  obtain ⟨C, h1, h2, h3, h4, h5, hP, hD, hS, hl⟩ := id X
  have ha := pws_arr G.2.1 ad M hn hk (by decide)
  rw [pArr_Q hk] at ha
  have hr := pws_obj G.2.1 ad M hrn hrk (by decide)
  refine va_astq (v := ad r) C.1 C.2.1 C.2.2.2.2.2.2.1 hP hD hS h 1 r 2 ha rfl hr (vwCl_at 2 (by decide)) hi hd (fun H1 locs1 hP1 hD1 hS1 => ?_)
  rw [pws_R_arr G.2.1 ad M hn hk] at hP1 hD1
  exact k p l e s m args below meth c G ad0 M0 A ad H1 locs1 ls cells slots ⟨C, h1, h2, h3, h4, h5, hP1, hD1, hS1, hl⟩
/-- what a return owes -/
theorem pPost_of {p : Program} {l : Launch} {s : State} {m : MethodId} {args : Array Value} {meth : Method} {c : Code} {G : gT} {ad0 : Nat → Nat} {M0 : pM} {A : Nat → Prop} {ad : Nat → Nat} {H : Heap} {locs : List Loc} {ls : Array Slot} {cells slots : Nat}
    (X : pAt d p l s m args meth c G ad0 M0 A ad M L bc bs H locs ls cells slots) {t : State} (ht : t.heap = H) (hW : s.vm.Alike t.vm) : pPost G ad0 M0 A s t ad M := by
  obtain ⟨C, h1, h2, h3, h4, h5, hP, hD, hS, hl⟩ := X
  exact ⟨h1, h2, h3, by rw [ht]; exact hP, va_K.moved hW C.2.2.2.2.2.2.1, hD, hS.F ht⟩
theorem s_iret {x : Int32} (hd : decode (mdB d) pc = .ok (.ireturn, 1)) (hr : mdR d = some .int ∨ (mdR d = some .boolean ∧ (x = 0 ∨ x = 1))) (q : Qr (some (.int x)) M) : WPs d Qr Qx pc L [.int x] M bc bs := by
  intro p l e s m args below meth c G ad0 M0 A ad H locs ls cells slots X
  have C := X.1
  have hlocks := C.2.2.2.2.2.2.2.1
  refine W.widen (k := (mdM d).cells) (n := (mdM d).slots) (by have := X.2.2.2.2.1; omega) (by have := X.2.2.2.2.2.1; omega) (vx_ret ?_)
  have hn : ∃ ty, mdR d = some ty ∧ narrow ty (.int x) = .int x := by
    rcases hr with h | ⟨h, rfl | rfl⟩
    · exact ⟨_, h, rfl⟩
    · exact ⟨_, h, rfl⟩
    · exact ⟨_, h, rfl⟩
  obtain ⟨ty, h9, h8⟩ := hn
  exact W.zret C.1 C.2.1 (C.2.2.1.trans h9) h8 (fun t ht hW => ⟨some (.int x), M, ad, rfl, q, pPost_of X ht hW.alike⟩) X.2.2.2.2.2.2.2.2.1.2.2 hd
theorem s_lret {x : Int64} (hd : decode (mdB d) pc = .ok (.lreturn, 1)) (hr : mdR d = some .long) (q : Qr (some (.long x)) M) : WPs d Qr Qx pc L [.long x] M bc bs := by
  intro p l e s m args below meth c G ad0 M0 A ad H locs ls cells slots X
  have C := X.1
  have hlocks := C.2.2.2.2.2.2.2.1
  refine W.widen (k := (mdM d).cells) (n := (mdM d).slots) (by have := X.2.2.2.2.1; omega) (by have := X.2.2.2.2.2.1; omega) (vx_ret ?_)
  exact W.lret C.1 C.2.1 (C.2.2.1.trans hr) (fun t ht hW => ⟨some (.long x), M, ad, rfl, q, pPost_of X ht hW.alike⟩) X.2.2.2.2.2.2.2.2.1.2.2 hd
theorem s_vret (hd : decode (mdB d) pc = .ok (.return_, 1)) (hr : mdR d = none) (q : Qr none M) : WPs d Qr Qx pc L [] M bc bs := by
  intro p l e s m args below meth c G ad0 M0 A ad H locs ls cells slots X
  have C := X.1
  have hlocks := C.2.2.2.2.2.2.2.1
  refine W.widen (k := (mdM d).cells) (n := (mdM d).slots) (by have := X.2.2.2.2.1; omega) (by have := X.2.2.2.2.2.1; omega) (vx_ret ?_)
  exact W.vret C.1 C.2.1 (C.2.2.1.trans hr) (fun t ht hW => ⟨none, M, ad, rfl, q, pPost_of X ht hW.alike⟩) X.2.2.2.2.2.2.2.2.1.2.2 hd
theorem s_aret {r : Nat} {n : String} (hd : decode (mdB d) pc = .ok (.areturn, 1)) (hr : mdR d = some (.object n)) (q : Qr (some (.ref r)) M) : WPs d Qr Qx pc L [.ref r] M bc bs := by
  intro p l e s m args below meth c G ad0 M0 A ad H locs ls cells slots X
  have C := X.1
  have hlocks := C.2.2.2.2.2.2.2.1
  refine W.widen (k := (mdM d).cells) (n := (mdM d).slots) (by have := X.2.2.2.2.1; omega) (by have := X.2.2.2.2.2.1; omega) (vx_ret ?_)
  exact W.aret (v := .ref (ad r)) C.1 C.2.1 (C.2.2.1.trans hr) (Or.inl ⟨_, rfl⟩) (Or.inr ⟨_, rfl⟩) (fun t ht hW => ⟨some (.ref r), M, ad, rfl, q, pPost_of X ht hW.alike⟩) X.2.2.2.2.2.2.2.2.1.2.2 hd
theorem s_aretN {n : String} (hd : decode (mdB d) pc = .ok (.areturn, 1)) (hr : mdR d = some (.object n)) (q : Qr (some .null) M) : WPs d Qr Qx pc L [.null] M bc bs := by
  intro p l e s m args below meth c G ad0 M0 A ad H locs ls cells slots X
  have C := X.1
  have hlocks := C.2.2.2.2.2.2.2.1
  refine W.widen (k := (mdM d).cells) (n := (mdM d).slots) (by have := X.2.2.2.2.1; omega) (by have := X.2.2.2.2.2.1; omega) (vx_ret ?_)
  exact W.aret (v := .null) C.1 C.2.1 (C.2.2.1.trans hr) (Or.inl ⟨_, rfl⟩) (Or.inl rfl) (fun t ht hW => ⟨some .null, M, ad, rfl, q, pPost_of X ht hW.alike⟩) X.2.2.2.2.2.2.2.2.1.2.2 hd
end HRows
