/-! rows that the law's own methods want-/
theorem met_of {l : Launch} {y : MethodName} {ws : List Cond} {rm : Room} {Pc : Array Value → State → Prop} {Qc : Array Value → State → Outcome → State → Prop} {XC : String → State → State → Prop} {mc ms : Nat} {free : Addr → Prop} (h : vx_Met l y ws rm Pc Qc XC mc ms free) (hx : ∀ E s t, ¬ XC E s t) : Met l y ws rm Pc Qc mc ms free := by
  intro p e ha hc hk s m args below hf hfit hpre hK
  obtain ⟨k, o, q1, q2, q3, q4⟩ := h p e ha hc hk s m args below hf hfit hpre hK
  refine ⟨k, o, q1, q2, q3, ?_⟩
  rcases q4 with q4 | ⟨q, z1, E, ce, Lc, hXC, z4⟩
  · exact q4
  · exact (hx _ _ _ hXC).elim
theorem pWW_good (d d' : pD) {hh : List (Nat × Nat × Nat × Nat)} (h : pdW d' hh) : GoodIn (pW d) (pW d') := by
  intro w hw
  rcases List.mem_cons.mp hw with e1 | h1
  · rw [e1]
    exact ⟨List.mem_cons_of_mem _ h.2.1, TBg_good h.2.1⟩
  · exact ⟨List.mem_cons_of_mem _ h1, TBg_good h1⟩
section LwRows
variable {d d' : pD} {Qr Qr' : Option Value → pM → Prop} {Qx Qx' : String → pM → Prop} {pc idx : Nat} {L : List (Nat × Value)} {st As : List Value} {M : pM} {bc bs : Nat}
/-- room may be left over -/
theorem s_bud {bc' bs' : Nat} (h1 : bc' ≤ bc) (h2 : bs' ≤ bs) (k : WPs d Qr Qx pc L st M bc' bs') : WPs d Qr Qx pc L st M bc bs := by
  intro p l e s m args below meth c G ad0 M0 A ad H locs ls cells slots X
  obtain ⟨C, x1, x2, x3, x4, x5, x6⟩ := X
  exact k p l e s m args below meth c G ad0 M0 A ad H locs ls cells slots ⟨C, x1, x2, x3, by omega, by omega, x6⟩
theorem s_ldc {v : Int32} (h : Cond.constant (fC (mdO d)) idx v ∈ TBg) (hd : decode (mdB d) pc = .ok (.ldc idx, 2)) (k : WPs d Qr Qx (pc + 2) L (.int v :: st) M bc bs) : WPs d Qr Qx pc L st M bc bs := by
  intro p l e s m args below meth c G ad0 M0 A ad H locs ls cells slots X
  exact lv_ldc X.1.1 X.1.2.1 X.1.2.2.2.2.1 (X.1.2.2.2.2.2.1 _ (List.mem_cons_of_mem _ h)) hd (k p l e s m args below meth c G ad0 M0 A ad H locs ls cells slots X)
theorem s_idiv {x y : Int32} (hd : decode (mdB d) pc = .ok (.idiv, 1)) (hne : ¬ y = 0) (k : WPs d Qr Qx (pc + 1) L (.int (x / y) :: st) M bc bs) : WPs d Qr Qx pc L (.int y :: .int x :: st) M bc bs := by
  intro p l e s m args below meth c G ad0 M0 A ad H locs ls cells slots X
  exact lv_idiv X.1.1 X.1.2.1 hd hne (k p l e s m args below meth c G ad0 M0 A ad H locs ls cells slots X)
/-- the script: a cell of it, whatever that holds, where the place is below its length -/
theorem s_scr {i : Int32} {tgt : Nat} {off : Int} (d2 : decode (mdB d) pc = .ok (.arraylength, 1)) (d3 : decode (mdB d) (pc + 1) = .ok (.if_icmp .ge off, 3)) (ht : ((pc + 1 : Nat) : Int) + off = (tgt : Int)) (d6 : decode (mdB d) (pc + 4) = .ok (.aload_n 0, 1)) (d7 : decode (mdB d) (pc + 5) = .ok (.iload_n 1, 1)) (d8 : decode (mdB d) (pc + 6) = .ok (.iaload, 1)) (hL0 : lget 0 L = some (.ref 1150)) (hL1 : lget 1 L = some (.int i)) (hi : 0 ≤ i.toInt) (k1 : WPs d Qr Qx tgt L st M bc bs) (k2 : ∀ x, WPs d Qr Qx (pc + 7) L (.int x :: st) M bc bs) : WPs d Qr Qx pc L (.ref 1150 :: .int i :: st) M bc bs := by
  intro p l e s m args below meth c G ad0 M0 A ad H locs ls cells slots X
  have h1 : ad 1150 = G.2.2 150 := adK_of X (k := 150) (by decide)
  obtain ⟨-, -, -, -, -, aV, -, -, N, xs, hN, hX, hA⟩ := id X.1.2.2.2.2.2.2.2.2.2.1
  have hb : G.2.2 150 < s.heap.size := by
    obtain ⟨scr, hs, -⟩ := id hX
    exact (Array.getElem?_eq_some_iff.mp hs).1
  show W p l e (mdM d) s m args below meth c H locs cells slots _ (F0 m pc ls (.ref (ad 1150) :: .int i :: st.map (tr ad)))
  rw [h1]
  refine va_slen X.1.1 X.1.2.1 hX hb hA X.2.2.2.2.2.2.2.2.1 d2 ?_
  refine lv_icmp_ge X.1.1 X.1.2.1 d3 ht (fun _ => k1 p l e s m args below meth c G ad0 M0 A ad H locs ls cells slots X) (fun z => ?_)
  refine lv_aload_n X.1.1 X.1.2.1 d6 rfl (lget_at X.2.2.2.2.2.2.2.2.2 hL0) (lv_iload_n X.1.1 X.1.2.1 d7 rfl (lget_at X.2.2.2.2.2.2.2.2.2 hL1) ?_)
  show W p l e (mdM d) s m args below meth c H locs cells slots _ (F0 m (pc + 6) ls (.int i :: .ref (ad 1150) :: st.map (tr ad)))
  rw [h1]
  have hin : vp_in i N := by
    rw [vp_in_iff]
    rw [i_le, show (Int32.ofNat N).toInt = (N : Int) from nI_toInt (n := N) (by omega)] at z
    omega
  exact va_sld X.1.1 X.1.2.1 hX hb hA X.2.2.2.2.2.2.2.2.1 hin d8 (k2 _ p l e s m args below meth c G ad0 M0 A ad H locs ls cells slots X)
theorem s_callSW {hh : List (Nat × Nat × Nat × Nat)} (hp : pdW d' hh) (ho : mdO d = mdO d') (h1 : Cond.methodLink (fC (mdO d)) idx (mdY d') ∈ TBg) (h2 : Cond.static (mdY d') ∈ TBg) (hd : decode (mdB d) pc = .ok (.invokestatic idx, 3)) (hrm : rmP d d') (hn : As.length = mdA d') (hst : (st.map fun v => v.category).sum ≤ 8) (hb : (mdM d').cells ≤ bc) (hs : (mdM d').slots ≤ bs) (hM : CT d' As M Qr' Qx') (kk : ∀ v M', Qr' v M' → rOK L st (pN M) (pN M') ∧ WPs d Qr Qx (pc + 3) L (v.toList ++ st) M' (bc - (mdM d').cells) (bs - (mdM d').slots)) (kx : ∀ E M', ¬ Qx' E M') : WPs d Qr Qx pc L (As.reverse ++ st) M bc bs := by
  intro p l e s m args below meth c G ad0 M0 A ad H locs ls cells slots X
  obtain ⟨c1, c2, c3, c4, c5, c6, c7, c8, c9, c10, c11, c12, c13, c14, c15⟩ := id X.1
  have hcat : ((st.map (tr ad)).map fun v => v.category).sum ≤ 8 := by
    rw [List.map_map, show ((fun v : Value => v.category) ∘ tr ad) = (fun v => v.category) from funext (tr_cat ad)]
    exact hst
  have hcls : (mdY d').cls = fC (mdO d) := by rw [ho]; exact hp.2.2.2.2.2
  have hG : GoodIn (pW d) (va_wsS (fC (mdO d)) idx (mdY d') (pW d')) := by
    intro w hw
    rcases List.mem_append.mp hw with h | h
    · simp only [List.mem_cons, List.not_mem_nil, or_false] at h
      rcases h with rfl | rfl | rfl
      · exact good1 d h1
      · exact good1 d h2
      · exact good1 d (hcls ▸ hp.2.2.1)
    · exact pWW_good d d' hp w h
  have hw : pW d' = Cond.codeWith (mdY d') (mdB d') (mdL d') (mdR d') hh :: TBg := by unfold pW; rw [hp.1]
  have hr := vx_runSW (e := e) (below := below) (meth := meth) (locs := locs) (cells := cells) (slots := slots) (As := As.map (tr ad)) (rest := st.map (tr ad)) (g := F0 m pc ls ((As.reverse ++ st).map (tr ad))) ⟨c1, c2, c4, c5, c6⟩ (met_of (hM l G ad H.size c12) (fun E s9 t9 h9 => by obtain ⟨M9, ad9, h10, -⟩ := h9; exact kx E M9 h10)) (vx_cwSW (mdA d') c6 hG hw rfl rfl hp.2.2.2.2.1 hrm) ⟨blind _ _ _ _ _, fun U hU hW => ⟨rfl, pPre_of X hU hW⟩⟩ rfl (by rw [List.length_map]; exact hn) X.2.2.2.2.2.2.2.2.2.1 (by rw [List.map_append, List.map_reverse]) (lv_room hcat) hd ⟨by have := X.2.2.2.2.1; omega, by have := X.2.2.2.2.2.1; omega⟩
  exact s_run (Qx' := Qx') X (fun T hT XT => Or.inl (hr T hT XT)) hb hs kk (fun E M9 h9 => (kx E M9 h9).elim)
end LwRows
