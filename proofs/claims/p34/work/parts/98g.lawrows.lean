/-! the law's own walk: its context is one, its end its own -/
def WLs (p : Program) (l : Launch) (e : Env) (s : State) (m : MethodId) (args : Array Value) (below : List Frame) (meth : Method) (c : Code) (G : gT) (ad0 : Nat → Nat) (M0 : pM) (A : Nat → Prop) (Z : State → Prop) (d : pD) (pc : Nat) (L : List (Nat × Value)) (st : List Value) (M : pM) (bc bs : Nat) : Prop :=
  ∀ (ad : Nat → Nat) (H : Heap) (locs : List Loc) (ls : Array Slot) (cells slots : Nat),
    pAt d p l s m args meth c G ad0 M0 A ad M L bc bs H locs ls cells slots →
    W p l e (mdM d) s m args below meth c H locs cells slots Z (F0 m pc ls (st.map (tr ad)))
section LRows
variable {d : pD} {pc idx : Nat} {L : List (Nat × Value)} {st : List Value} {M : pM} {bc bs : Nat} {p : Program} {l : Launch} {e : Env} {s : State} {m : MethodId} {args : Array Value} {below : List Frame} {meth : Method} {c : Code} {G : gT} {ad0 : Nat → Nat} {M0 : pM} {A : Nat → Prop} {Z : State → Prop}
theorem q_loc {L' : List (Nat × Value)} (h : ∀ q ∈ L', q ∈ L) (k : WLs p l e s m args below meth c G ad0 M0 A Z d pc L' st M bc bs) : WLs p l e s m args below meth c G ad0 M0 A Z d pc L st M bc bs := by
  intro ad H locs ls cells slots X
  obtain ⟨C, h1, h2, h3, h4, h5, hP, hD, hS, hl⟩ := X
  refine k ad H locs ls cells slots ⟨C, h1, h2, h3, h4, h5, hP, hD, hS, hl.1, hl.2.1, fun q hq => ?_⟩
  obtain ⟨r, hr, rfl⟩ := List.mem_map.mp hq
  exact hl.2.2 _ (List.mem_map.mpr ⟨r, h r hr, rfl⟩)
theorem q_iconst {n : Int} {v : Int32} (hd : decode (mdB d) pc = .ok (.iconst n, 1)) (hv : Int32.ofInt n = v) (k : WLs p l e s m args below meth c G ad0 M0 A Z d (pc + 1) L (.int v :: st) M bc bs) : WLs p l e s m args below meth c G ad0 M0 A Z d pc L st M bc bs := by
  intro ad H locs ls cells slots X
  exact lv_iconst X.1.1 X.1.2.1 hd hv (k ad H locs ls cells slots X)
theorem q_bipush {n : Int} {v : Int32} (hd : decode (mdB d) pc = .ok (.bipush n, 2)) (hv : (Int8.ofInt n).toInt32 = v) (k : WLs p l e s m args below meth c G ad0 M0 A Z d (pc + 2) L (.int v :: st) M bc bs) : WLs p l e s m args below meth c G ad0 M0 A Z d pc L st M bc bs := by
  intro ad H locs ls cells slots X
  exact lv_bipush X.1.1 X.1.2.1 hd hv (k ad H locs ls cells slots X)
theorem q_sipush {n : Int} {v : Int32} (hd : decode (mdB d) pc = .ok (.sipush n, 3)) (hv : (Int16.ofInt n).toInt32 = v) (k : WLs p l e s m args below meth c G ad0 M0 A Z d (pc + 3) L (.int v :: st) M bc bs) : WLs p l e s m args below meth c G ad0 M0 A Z d pc L st M bc bs := by
  intro ad H locs ls cells slots X
  exact lv_sipush X.1.1 X.1.2.1 hd hv (k ad H locs ls cells slots X)
theorem q_ldc {v : Int32} (h : Cond.constant (fC (mdO d)) idx v ∈ TBg) (hd : decode (mdB d) pc = .ok (.ldc idx, 2)) (k : WLs p l e s m args below meth c G ad0 M0 A Z d (pc + 2) L (.int v :: st) M bc bs) : WLs p l e s m args below meth c G ad0 M0 A Z d pc L st M bc bs := by
  intro ad H locs ls cells slots X
  exact lv_ldc X.1.1 X.1.2.1 X.1.2.2.2.2.1 (X.1.2.2.2.2.2.1 _ (List.mem_cons_of_mem _ h)) hd (k ad H locs ls cells slots X)
theorem q_iadd {x y : Int32} (hd : decode (mdB d) pc = .ok (.iadd, 1)) (k : WLs p l e s m args below meth c G ad0 M0 A Z d (pc + 1) L (.int (x + y) :: st) M bc bs) : WLs p l e s m args below meth c G ad0 M0 A Z d pc L (.int y :: .int x :: st) M bc bs := by
  intro ad H locs ls cells slots X
  exact lv_iadd X.1.1 X.1.2.1 hd (k ad H locs ls cells slots X)
theorem q_imul {x y : Int32} (hd : decode (mdB d) pc = .ok (.imul, 1)) (k : WLs p l e s m args below meth c G ad0 M0 A Z d (pc + 1) L (.int (x * y) :: st) M bc bs) : WLs p l e s m args below meth c G ad0 M0 A Z d pc L (.int y :: .int x :: st) M bc bs := by
  intro ad H locs ls cells slots X
  exact lv_imul X.1.1 X.1.2.1 hd (k ad H locs ls cells slots X)
theorem q_idiv {x y : Int32} (hd : decode (mdB d) pc = .ok (.idiv, 1)) (hne : ¬ y = 0) (k : WLs p l e s m args below meth c G ad0 M0 A Z d (pc + 1) L (.int (x / y) :: st) M bc bs) : WLs p l e s m args below meth c G ad0 M0 A Z d pc L (.int y :: .int x :: st) M bc bs := by
  intro ad H locs ls cells slots X
  exact lv_idiv X.1.1 X.1.2.1 hd hne (k ad H locs ls cells slots X)
theorem q_irem {x y : Int32} (hd : decode (mdB d) pc = .ok (.irem, 1)) (hne : ¬ y = 0) (k : WLs p l e s m args below meth c G ad0 M0 A Z d (pc + 1) L (.int (x - x / y * y) :: st) M bc bs) : WLs p l e s m args below meth c G ad0 M0 A Z d pc L (.int y :: .int x :: st) M bc bs := by
  intro ad H locs ls cells slots X
  exact lv_irem X.1.1 X.1.2.1 hd hne (k ad H locs ls cells slots X)
theorem q_iand {x y : Int32} (hd : decode (mdB d) pc = .ok (.iand, 1)) (k : WLs p l e s m args below meth c G ad0 M0 A Z d (pc + 1) L (.int (x &&& y) :: st) M bc bs) : WLs p l e s m args below meth c G ad0 M0 A Z d pc L (.int y :: .int x :: st) M bc bs := by
  intro ad H locs ls cells slots X
  exact lv_iand X.1.1 X.1.2.1 hd (k ad H locs ls cells slots X)
theorem q_ishr {x y : Int32} (hd : decode (mdB d) pc = .ok (.ishr, 1)) (k : WLs p l e s m args below meth c G ad0 M0 A Z d (pc + 1) L (.int (x >>> (y &&& 31)) :: st) M bc bs) : WLs p l e s m args below meth c G ad0 M0 A Z d pc L (.int y :: .int x :: st) M bc bs := by
  intro ad H locs ls cells slots X
  exact lv_ishr X.1.1 X.1.2.1 hd (k ad H locs ls cells slots X)
theorem q_dup {v : Value} (hd : decode (mdB d) pc = .ok (.dup, 1)) (hc : v.category = 1) (k : WLs p l e s m args below meth c G ad0 M0 A Z d (pc + 1) L (v :: v :: st) M bc bs) : WLs p l e s m args below meth c G ad0 M0 A Z d pc L (v :: st) M bc bs := by
  intro ad H locs ls cells slots X
  exact lv_dup X.1.1 X.1.2.1 hd ((tr_cat _ _).trans hc) (k ad H locs ls cells slots X)
theorem q_iload {i : Nat} {x : Int32} (hd : decode (mdB d) pc = .ok (.iload i, 2)) (hl : lget i L = some (.int x)) (k : WLs p l e s m args below meth c G ad0 M0 A Z d (pc + 2) L (.int x :: st) M bc bs) : WLs p l e s m args below meth c G ad0 M0 A Z d pc L st M bc bs := by
  intro ad H locs ls cells slots X
  exact lv_iload X.1.1 X.1.2.1 hd (lget_at X.2.2.2.2.2.2.2.2.2 hl) (k ad H locs ls cells slots X)
theorem q_iload_n {k0 : Fin 4} {x : Int32} (hd : decode (mdB d) pc = .ok (.iload_n k0, 1)) (hl : lget (k0 : Nat) L = some (.int x)) (k : WLs p l e s m args below meth c G ad0 M0 A Z d (pc + 1) L (.int x :: st) M bc bs) : WLs p l e s m args below meth c G ad0 M0 A Z d pc L st M bc bs := by
  intro ad H locs ls cells slots X
  exact lv_iload_n X.1.1 X.1.2.1 hd rfl (lget_at X.2.2.2.2.2.2.2.2.2 hl) (k ad H locs ls cells slots X)
theorem q_aload_n {k0 : Fin 4} {x : Nat} (hd : decode (mdB d) pc = .ok (.aload_n k0, 1)) (hl : lget (k0 : Nat) L = some (.ref x)) (k : WLs p l e s m args below meth c G ad0 M0 A Z d (pc + 1) L (.ref x :: st) M bc bs) : WLs p l e s m args below meth c G ad0 M0 A Z d pc L st M bc bs := by
  intro ad H locs ls cells slots X
  exact lv_aload_n X.1.1 X.1.2.1 hd rfl (lget_at X.2.2.2.2.2.2.2.2.2 hl) (k ad H locs ls cells slots X)
theorem q_istore {i : Nat} {x : Int32} (hd : decode (mdB d) pc = .ok (.istore i, 2)) (hn : i < mdL d) (k : WLs p l e s m args below meth c G ad0 M0 A Z d (pc + 2) (lset i (.int x) L) st M bc bs) : WLs p l e s m args below meth c G ad0 M0 A Z d pc L (.int x :: st) M bc bs := by
  intro ad H locs ls cells slots X
  obtain ⟨C, h1, h2, h3, h4, h5, hP, hD, hS, hl⟩ := X
  exact lv_istore C.1 C.2.1 hd hl hn (lset_tr ad i (.int x) L) (fun ls' hl' => k ad H locs ls' cells slots ⟨C, h1, h2, h3, h4, h5, hP, hD, hS, hl'⟩)
theorem q_istore_n {k0 : Fin 4} {x : Int32} (hd : decode (mdB d) pc = .ok (.istore_n k0, 1)) (hn : (k0 : Nat) < mdL d) (k : WLs p l e s m args below meth c G ad0 M0 A Z d (pc + 1) (lset (k0 : Nat) (.int x) L) st M bc bs) : WLs p l e s m args below meth c G ad0 M0 A Z d pc L (.int x :: st) M bc bs := by
  intro ad H locs ls cells slots X
  obtain ⟨C, h1, h2, h3, h4, h5, hP, hD, hS, hl⟩ := X
  exact lv_istore_n C.1 C.2.1 hd rfl hl hn (lset_tr ad (k0 : Nat) (.int x) L) (fun ls' hl' => k ad H locs ls' cells slots ⟨C, h1, h2, h3, h4, h5, hP, hD, hS, hl'⟩)
theorem q_astore_n {k0 : Fin 4} {x : Nat} (hd : decode (mdB d) pc = .ok (.astore_n k0, 1)) (hn : (k0 : Nat) < mdL d) (k : WLs p l e s m args below meth c G ad0 M0 A Z d (pc + 1) (lset (k0 : Nat) (.ref x) L) st M bc bs) : WLs p l e s m args below meth c G ad0 M0 A Z d pc L (.ref x :: st) M bc bs := by
  intro ad H locs ls cells slots X
  obtain ⟨C, h1, h2, h3, h4, h5, hP, hD, hS, hl⟩ := X
  exact lv_astore_n C.1 C.2.1 hd rfl hl hn (lset_tr ad (k0 : Nat) (.ref x) L) (fun ls' hl' => k ad H locs ls' cells slots ⟨C, h1, h2, h3, h4, h5, hP, hD, hS, hl'⟩)
theorem q_iinc {i : Nat} {n : Int} {x v : Int32} (hd : decode (mdB d) pc = .ok (.iinc i n, 3)) (hg : lget i L = some (.int x)) (hv : x + Int32.ofInt n = v) (hn : i < mdL d) (k : WLs p l e s m args below meth c G ad0 M0 A Z d (pc + 3) (lset i (.int v) L) st M bc bs) : WLs p l e s m args below meth c G ad0 M0 A Z d pc L st M bc bs := by
  intro ad H locs ls cells slots X
  obtain ⟨C, h1, h2, h3, h4, h5, hP, hD, hS, hl⟩ := X
  obtain ⟨j, hj⟩ := List.getElem?_of_mem (trL_mem (ad := ad) (lget_mem hg))
  exact lv_iinc C.1 C.2.1 hd hl (k := j) hj hv hn (lset_tr ad i (.int v) L) (fun ls' hl' => k ad H locs ls' cells slots ⟨C, h1, h2, h3, h4, h5, hP, hD, hS, hl'⟩)
theorem q_if_eq {x : Int32} {off : Int} {tgt : Nat} (hd : decode (mdB d) pc = .ok (.ifCond .eq off, 3)) (ht : (pc : Int) + off = (tgt : Int)) (kt : x = 0 → WLs p l e s m args below meth c G ad0 M0 A Z d tgt L st M bc bs) (kf : ¬ (x = 0) → WLs p l e s m args below meth c G ad0 M0 A Z d (pc + 3) L st M bc bs) : WLs p l e s m args below meth c G ad0 M0 A Z d pc L (.int x :: st) M bc bs := by
  intro ad H locs ls cells slots X
  exact lv_if_eq X.1.1 X.1.2.1 hd ht (fun z => kt z ad H locs ls cells slots X) (fun z => kf z ad H locs ls cells slots X)
theorem q_icmp_eq {x y : Int32} {off : Int} {tgt : Nat} (hd : decode (mdB d) pc = .ok (.if_icmp .eq off, 3)) (ht : (pc : Int) + off = (tgt : Int)) (kt : x = y → WLs p l e s m args below meth c G ad0 M0 A Z d tgt L st M bc bs) (kf : ¬ (x = y) → WLs p l e s m args below meth c G ad0 M0 A Z d (pc + 3) L st M bc bs) : WLs p l e s m args below meth c G ad0 M0 A Z d pc L (.int y :: .int x :: st) M bc bs := by
  intro ad H locs ls cells slots X
  exact lv_icmp_eq X.1.1 X.1.2.1 hd ht (fun z => kt z ad H locs ls cells slots X) (fun z => kf z ad H locs ls cells slots X)
theorem q_icmp_ne {x y : Int32} {off : Int} {tgt : Nat} (hd : decode (mdB d) pc = .ok (.if_icmp .ne off, 3)) (ht : (pc : Int) + off = (tgt : Int)) (kt : ¬ x = y → WLs p l e s m args below meth c G ad0 M0 A Z d tgt L st M bc bs) (kf : x = y → WLs p l e s m args below meth c G ad0 M0 A Z d (pc + 3) L st M bc bs) : WLs p l e s m args below meth c G ad0 M0 A Z d pc L (.int y :: .int x :: st) M bc bs := by
  intro ad H locs ls cells slots X
  exact lv_icmp_ne X.1.1 X.1.2.1 hd ht (fun z => kt z ad H locs ls cells slots X) (fun z => kf z ad H locs ls cells slots X)
theorem q_icmp_ge {x y : Int32} {off : Int} {tgt : Nat} (hd : decode (mdB d) pc = .ok (.if_icmp .ge off, 3)) (ht : (pc : Int) + off = (tgt : Int)) (kt : y ≤ x → WLs p l e s m args below meth c G ad0 M0 A Z d tgt L st M bc bs) (kf : ¬ (y ≤ x) → WLs p l e s m args below meth c G ad0 M0 A Z d (pc + 3) L st M bc bs) : WLs p l e s m args below meth c G ad0 M0 A Z d pc L (.int y :: .int x :: st) M bc bs := by
  intro ad H locs ls cells slots X
  exact lv_icmp_ge X.1.1 X.1.2.1 hd ht (fun z => kt z ad H locs ls cells slots X) (fun z => kf z ad H locs ls cells slots X)
theorem q_goto {off : Int} {tgt : Nat} (hd : decode (mdB d) pc = .ok (.goto off, 3)) (ht : (pc : Int) + off = (tgt : Int)) (k : WLs p l e s m args below meth c G ad0 M0 A Z d tgt L st M bc bs) : WLs p l e s m args below meth c G ad0 M0 A Z d pc L st M bc bs := by
  intro ad H locs ls cells slots X
  exact lv_goto X.1.1 X.1.2.1 hd ht (k ad H locs ls cells slots X)
theorem q_newL {ci m0 : Nat} {L : List (Nat × Value)} {st : List Value} {M : pM} (hw : newP (mdO d) idx ci) (hd : decode (mdB d) pc = .ok (.new idx, 3)) (hR : ∀ i, i < pN M → ∀ j, pR M i j ≠ some (pN M)) (hn : pN M < 1000) (hro : rOK L st (pN M) (pN M + 1)) (hb : 1 ≤ bc) (hs : fN ci ≤ bs) (k : WLs p l e s m args below meth c G ad0 M0 A Z d (pc + 3) L (.ref (pN M) :: st) (mN M ci m0) (bc - 1) (bs - fN ci)) : WLs p l e s m args below meth c G ad0 M0 A Z d pc L st M bc bs := by
  intro ad H locs ls cells slots X
  obtain ⟨⟨c1, c2, c3, c4, c5, c6, c7, c8, c9, c10, c11, c12, c13, c14, c15⟩, h1, h2, h3, h4, h5, hP, hD, hS, hl⟩ := id X
  obtain ⟨w0, w1, w2, w3⟩ := hw
  refine va_new (fs := (List.range (fN ci)).map (fun j => defaultValue (fT ci j))) c1 c2 c6 (fun w hw => List.mem_cons_of_mem _ (ulay ci w0 w hw)) (fT ci) (fX_ty ci w0) c5 (c6 _ (List.mem_cons_of_mem _ w1)) (c6 _ (List.mem_cons_of_mem _ w2)) (c6 _ (List.mem_cons_of_mem _ w3)) c7 hP hD hS c13 (vwCl_at ci w0) ?_ (by omega) (by omega) hd (fun q H1 hP1 hD1 hS1 => ?_)
  · intro j hj
    simp [vp_V, List.getElem?_range hj]
  · have he : ∀ ad', pcell G.2.1 ad' (mN M ci m0) (pN M) = .inr (ci, (List.range (fN ci)).map (fun j => defaultValue (fT ci j))) := by
      intro ad'
      rw [pcell, mN_K, if_pos w0, pfs, mN_K]
      refine congrArg (fun z => (Sum.inr (ci, z) : va_E)) (List.map_congr_left (fun j hj => ?_))
      rw [dflt_of ci w0 j (List.mem_range.mp hj), pfv, mN_K, mN_R, mN_V]
      rfl
    obtain ⟨ad', z1, z2, Y⟩ := pNew X hR hn hro he hb hs hP1 hD1 hS1
    have Z := k ad' H1 locs ls (cells + 1) (slots + fN ci) Y
    have e9 : (Value.ref (pN M) :: st).map (tr ad') = Value.ref q :: st.map (tr ad) := by
      rw [List.map_cons, z2]
      show Value.ref (ad' (pN M)) :: _ = _
      rw [z1]
    rw [e9] at Z
    exact Z
theorem q_bud {bc' bs' : Nat} (h1 : bc' ≤ bc) (h2 : bs' ≤ bs) (k : WLs p l e s m args below meth c G ad0 M0 A Z d pc L st M bc' bs') : WLs p l e s m args below meth c G ad0 M0 A Z d pc L st M bc bs := by
  intro ad H locs ls cells slots X
  obtain ⟨C, x1, x2, x3, x4, x5, x6⟩ := X
  exact k ad H locs ls cells slots ⟨C, x1, x2, x3, by omega, by omega, x6⟩
theorem q_run {mc ms : Nat} {st0 rest : List Value} {a : Array Value} {As : List Value} {ad : Nat → Nat} {H : Heap} {locs : List Loc} {ls : Array Slot} {cells slots : Nat} {Qr' : Option Value → pM → Prop} {Qx' : String → pM → Prop} (X : pAt d p l s m args meth c G ad0 M0 A ad M L bc bs H locs ls cells slots)
    (hr : vx_Run p l e (mdM d) s m args below meth c H locs cells slots mc ms (F0 m pc ls st0) (rest.map (tr ad)) (pQc G ad M (va_A (pws G.2.1 ad M) H.size) Qr' a) (pXC G ad M (va_A (pws G.2.1 ad M) H.size) Qx') (va_A (pws G.2.1 ad M) H.size))
    (hb : mc ≤ bc) (hs : ms ≤ bs) (kk : ∀ v M', Qr' v M' → rOK L rest (pN M) (pN M') ∧ WLs p l e s m args below meth c G ad0 M0 A Z d (pc + 3) L (v.toList ++ rest) M' (bc - mc) (bs - ms))
    (kx : ∀ E M', ¬ Qx' E M') :
    W p l e (mdM d) s m args below meth c H locs cells slots Z (F0 m pc ls st0) := by
  have hF := pFree X
  obtain ⟨C, h1, h2, h3, h4, h5, hP, hD, hS, hl⟩ := X
  obtain ⟨c1, c2, c3, c4, c5, c6, c7, c8, c9, c10, c11, c12, c13, c14, c15⟩ := id C
  intro T hT XT
  rcases hr T hT XT with ⟨v, st₀, t, T', Lc, h0, X', hL, e1, e2, ⟨v1, M', ad', hv, hq, ⟨q1, q2, q3, q4, q5, q6, q7⟩⟩, stp⟩ | ⟨q, st₀, t, T', Lc, E, ce, h0, X', hL, e1, e2, ⟨M', ad', hq, ⟨q1, q2, q3, q4, q5, q6, q7⟩⟩, hce, hcv, hcl, stp⟩
  · cases hv
    obtain ⟨k1, k2, k3⟩ := vx_keep h0 e1 hS (fun q _ h => hF q h) hF hL q7
    obtain ⟨hro, hk⟩ := kk v1 M' hq
    have hl' : trL ad' L = trL ad L := List.map_congr_left (fun r hr => by
      rw [tr_eq (fun k hk9 => ?_)]
      exact q3 k (hro k (Or.inl ⟨r.1, by rw [← hk9]; exact hr⟩)))
    have hs' : rest.map (tr ad') = rest.map (tr ad) := List.map_congr_left (fun r hr => by
      refine tr_eq (fun k hk9 => ?_)
      exact q3 k (hro k (Or.inr (by rw [← hk9]; exact hr))))
    have hst : (v1.toList ++ rest).map (tr ad') = (v1.map (tr ad')).toList ++ rest.map (tr ad) := by
      rw [List.map_append, hs']
      cases v1 <;> rfl
    have Y : pAt d p l s m args meth c G ad0 M0 A ad' M' L (bc - mc) (bs - ms) T'.heap (locs ++ Lc) ls (cells + mc) (slots + ms) := by
      refine ⟨C, Nat.le_trans h1 q1, q2, fun k hk9 => ?_, by omega, by omega, by rw [e1]; exact q4, q6.weaken (fun _ q9 _ h => hF q9.1 h), k3, by rw [hl']; exact hl⟩
      rw [q3 k (by omega), h3 k (by omega)]
    have Z := hk ad' T'.heap (locs ++ Lc) ls (cells + mc) (slots + ms) Y
    rw [hst] at Z
    obtain ⟨t2, a1, b1⟩ := Z T' rfl X'
    exact ⟨t2, stp t2 a1, b1⟩
  · exact (kx E M' hq).elim
variable {d' : pD} {As : List Value} {Qr' : Option Value → pM → Prop} {Qx' : String → pM → Prop}
theorem q_callI {h : Nat} (hi : iv3 (mdO d) idx d') (hd : decode (mdB d) pc = .ok (.invokespecial idx, 3)) (hrm : rmP d d') (hn : As.length = mdA d') (hst : (st.map fun v => v.category).sum ≤ 8) (hb : (mdM d').cells ≤ bc) (hs : (mdM d').slots ≤ bs) (hM : CT d' (.ref h :: As) M Qr' Qx') (kk : ∀ v M', Qr' v M' → rOK L st (pN M) (pN M') ∧ WLs p l e s m args below meth c G ad0 M0 A Z d (pc + 3) L (v.toList ++ st) M' (bc - (mdM d').cells) (bs - (mdM d').slots)) (kx : ∀ E M', ¬ Qx' E M') : WLs p l e s m args below meth c G ad0 M0 A Z d pc L (As.reverse ++ .ref h :: st) M bc bs := by
  intro ad H locs ls cells slots X
  obtain ⟨c1, c2, c3, c4, c5, c6, c7, c8, c9, c10, c11, c12, c13, c14, c15⟩ := id X.1
  have hcat : ((st.map (tr ad)).map fun v => v.category).sum ≤ 8 := by
    rw [List.map_map, show ((fun v : Value => v.category) ∘ tr ad) = (fun v => v.category) from funext (tr_cat ad)]
    exact hst
  obtain ⟨hp, hy, hrn, h1, h2⟩ := hi
  have hw : pW d' = Cond.code (mdY d') (mdB d') (mdL d') (mdR d') :: TBg := by unfold pW; rw [hp.1]
  rw [hrn] at hw
  have hr := vx_runI (b := ad h) (e := e) (below := below) (meth := meth) (locs := locs) (cells := cells) (slots := slots) (As := As.map (tr ad)) (rest := st.map (tr ad)) (g := F0 m pc ls ((As.reverse ++ .ref h :: st).map (tr ad))) ⟨c1, c2, c4, c5, c6⟩ (hM l G ad H.size c12) (cwI (mdA d') c6 (pW_good d d' hp) hw rfl rfl (c6 _ (List.mem_cons_of_mem _ hp.2.2.1)) (c6 _ (List.mem_cons_of_mem _ h1)) (c6 _ (List.mem_cons_of_mem _ h2)) hy hp.2.2.2.2.1 hrm) ⟨blind _ _ _ _ _, fun U hU hW => ⟨rfl, pPre_of X hU hW⟩⟩ rfl (by rw [List.length_map]; exact hn) X.2.2.2.2.2.2.2.2.2.1 (by rw [List.map_append, List.map_reverse]; rfl) (lv_room hcat) hd ⟨by have := X.2.2.2.2.1; omega, by have := X.2.2.2.2.2.1; omega⟩
  exact q_run (As := As) X hr hb hs kk kx
theorem q_callS (hi : iv0 (mdO d) idx d') (hd : decode (mdB d) pc = .ok (.invokestatic idx, 3)) (hrm : rmP d d') (hn : As.length = mdA d') (hst : (st.map fun v => v.category).sum ≤ 8) (hb : (mdM d').cells ≤ bc) (hs : (mdM d').slots ≤ bs) (hM : CT d' As M Qr' Qx') (kk : ∀ v M', Qr' v M' → rOK L st (pN M) (pN M') ∧ WLs p l e s m args below meth c G ad0 M0 A Z d (pc + 3) L (v.toList ++ st) M' (bc - (mdM d').cells) (bs - (mdM d').slots)) (kx : ∀ E M', ¬ Qx' E M') : WLs p l e s m args below meth c G ad0 M0 A Z d pc L (As.reverse ++ st) M bc bs := by
  intro ad H locs ls cells slots X
  obtain ⟨c1, c2, c3, c4, c5, c6, c7, c8, c9, c10, c11, c12, c13, c14, c15⟩ := id X.1
  obtain ⟨hp, ho, h1, h2⟩ := hi
  have hcat : ((st.map (tr ad)).map fun v => v.category).sum ≤ 8 := by
    rw [List.map_map, show ((fun v : Value => v.category) ∘ tr ad) = (fun v => v.category) from funext (tr_cat ad)]
    exact hst
  have hcls : (mdY d').cls = fC (mdO d) := by rw [ho]; exact hp.2.2.2.2.2
  have hG : GoodIn (pW d) (wsS (fC (mdO d)) idx (mdY d') (pW d')) := by
    intro w hw
    rcases List.mem_append.mp hw with h | h
    · simp only [List.mem_cons, List.not_mem_nil, or_false] at h
      rcases h with rfl | rfl | rfl
      · exact good1 d h1
      · exact good1 d h2
      · exact good1 d (hcls ▸ hp.2.2.1)
    · exact pW_good d d' hp w h
  have hw : pW d' = Cond.code (mdY d') (mdB d') (mdL d') (mdR d') :: TBg := by unfold pW; rw [hp.1]
  have hr := vx_runS (e := e) (below := below) (meth := meth) (locs := locs) (cells := cells) (slots := slots) (As := As.map (tr ad)) (rest := st.map (tr ad)) (g := F0 m pc ls ((As.reverse ++ st).map (tr ad))) ⟨c1, c2, c4, c5, c6⟩ (hM l G ad H.size c12) (cwS (mdA d') c6 hG hw rfl rfl ⟨hcls, hp.2.2.2.2.1⟩ hrm) ⟨blind _ _ _ _ _, fun U hU hW => ⟨rfl, pPre_of X hU hW⟩⟩ rfl (by rw [List.length_map]; exact hn) X.2.2.2.2.2.2.2.2.2.1 (by rw [List.map_append, List.map_reverse]) (lv_room hcat) hd ⟨by have := X.2.2.2.2.1; omega, by have := X.2.2.2.2.2.1; omega⟩
  exact q_run (As := As) X hr hb hs kk kx
end LRows
