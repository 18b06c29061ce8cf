def strO : Nat → String := fun k => match k with
  | 0 => RX5
  | 1 => RX5
  | 2 => RX5
  | 3 => RX5
  | 4 => RX5
  | 5 => RX5
  | 6 => RX5
  | 7 => RX5
  | 8 => RX7
  | 9 => RX7
  | _ => RX7
def strI : Nat → Nat := fun k => match k with
  | 0 => 69
  | 1 => 71
  | 2 => 73
  | 3 => 75
  | 4 => 77
  | 5 => 79
  | 6 => 81
  | 7 => 83
  | 8 => 233
  | 9 => 240
  | _ => 245
def strT : Nat → String := fun k => match k with
  | 0 => "touch"
  | 1 => "bonus"
  | 2 => "baulk"
  | 3 => "back"
  | 4 => "fall"
  | 5 => "line"
  | 6 => "time"
  | 7 => "raid"
  | 8 => "there is no such one"
  | 9 => "an argument is out of range"
  | _ => "this cannot be now"
def lenS : List Nat := [5, 5, 5, 4, 4, 4, 4, 4, 20, 27, 18]
def bytS : List (List Int32) := [[116, 111, 117, 99, 104], [98, 111, 110, 117, 115], [98, 97, 117, 108, 107], [98, 97, 99, 107], [102, 97, 108, 108], [108, 105, 110, 101], [116, 105, 109, 101], [114, 97, 105, 100], [116, 104, 101, 114, 101, 32, 105, 115, 32, 110, 111, 32, 115, 117, 99, 104, 32, 111, 110, 101], [97, 110, 32, 97, 114, 103, 117, 109, 101, 110, 116, 32, 105, 115, 32, 111, 117, 116, 32, 111, 102, 32, 114, 97, 110, 103, 101], [116, 104, 105, 115, 32, 99, 97, 110, 110, 111, 116, 32, 98, 101, 32, 110, 111, 119]]
/-! contexts, contracts over pure memories -/
def TBg : List Cond := lw_tbl.filter goodWord
def xWord : Cond → Bool
  | .fieldLinkNest .. => true
  | .methodLinkNest .. => true
  | .castable .. => true
  | .declares _ => true
  | _ => false
def xW : List Cond := lw_tbl.filter xWord
theorem TBg_of {w : Cond} {i : Nat} (h : lw_tbl[i]? = some w) (hg : goodWord w = true) : w ∈ TBg := List.mem_filter.mpr ⟨List.mem_of_getElem? h, hg⟩
theorem xW_of {w : Cond} {i : Nat} (h : lw_tbl[i]? = some w) (hg : xWord w = true) : w ∈ xW := List.mem_filter.mpr ⟨List.mem_of_getElem? h, hg⟩
theorem TBg_good {w : Cond} (h : w ∈ TBg) : (w.onTables && w.keeps) = true ∨ ∃ ty, w = .arrayClass ty := good_of_word (List.mem_filter.mp h).2
theorem xW_onT : ∀ w ∈ xW, w.onTables = true := by
  intro w hw
  have h := (List.mem_filter.mp hw).2
  cases w <;> first | rfl | (simp [xWord] at h)
theorem xW_warm {s U : State} (hW : s.WarmedH U.vm) (h : ∀ w ∈ xW, va_Nw w s) : ∀ w ∈ xW, va_Nw w U := by
  intro w hw
  have h1 := (List.mem_filter.mp hw).2
  have h2 := h w hw
  cases w <;> first | exact va_Nw.warmF hW h2 | exact va_Nw.warmM hW h2 | exact va_Nw.warmC hW h2 | exact va_Nw.warmD hW h2 | (simp [xWord] at h1)
/-- the script stands and is none of ours -/
def ZS (G : gT) (_aV : Nat → Nat) (A : Nat → Prop) (U : State) (H : Heap) : Prop := ∃ (N : Nat) (xs : Nat → Int32), N ≤ 260 ∧ va_X (G.2.2 150) N xs U H ∧ ¬ A (G.2.2 150)
theorem ZS.narrow {G : gT} {aV : Nat → Nat} {A B : Nat → Prop} {U : State} {H : Heap} (h : ZS G aV A U H) (hAB : ∀ q, B q → A q) : ZS G aV B U H := by
  obtain ⟨N, xs, h1, h2, h3⟩ := h
  exact ⟨N, xs, h1, h2, fun z => h3 (hAB _ z)⟩
theorem ZS.kept {G : gT} {aV : Nat → Nat} {A : Nat → Prop} {U : State} {H H1 : Heap} (h : ZS G aV A U H) (hq : ∀ a : Nat, a < H.size → ¬ A a → H1[a]? = H[a]?) : ZS G aV A U H1 := by
  obtain ⟨N, xs, h1, h2, h3⟩ := h
  have hlt : G.2.2 150 < H.size := by
    obtain ⟨scr, hs, -⟩ := h2
    exact (Array.getElem?_eq_some_iff.mp hs).1
  exact ⟨N, xs, h1, h2.kept (hq _ hlt h3), h3⟩
theorem ZS.moved {G : gT} {aV : Nat → Nat} {A : Nat → Prop} {u U : State} {H : Heap} (h : ZS G aV A u H) (hvm : u.vm.Alike U.vm) : ZS G aV A U H := by
  obtain ⟨N, xs, h1, h2, h3⟩ := h
  exact ⟨N, xs, h1, h2.moved hvm, h3⟩
/-- the literals -/
def GS (G : gT) (aV : Nat → Nat) (A : Nat → Prop) (U : State) (H : Heap) : Prop := (∀ k, k < 11 → vk_R (strO k) (strI k) (strT k) (G.2.2 k) U) ∧ vk_S 11 lenS bytS G.2.2 aV A U H ∧ ZS G aV A U H
def xNc : List (String × String) := [("java/lang/IllegalArgumentException", "java/lang/IndexOutOfBoundsException"), ("java/lang/IllegalStateException", "java/lang/IndexOutOfBoundsException"), ("java/lang/IllegalStateException", "java/lang/IllegalArgumentException")]
/-- what a launch gives beside the cells -/
def GU (G : gT) (A : Nat → Prop) (U : State) (H : Heap) : Prop := (∀ w ∈ xW, va_Nw w U) ∧ (∀ q ∈ xNc, va_Nc q.1 q.2 U) ∧ va_AO RX2 U ∧ vx_Zq Bundle.tN "UNASSIGNED_STACK" Bundle.steD A U H ∧ vx_Zq Bundle.tN "SUPPRESSED_SENTINEL" Bundle.listD A U H ∧ ∃ aV, GS G aV A U H
theorem GU_narrow {G : gT} {A B : Nat → Prop} {U : State} {H : Heap} (h : GU G A U H) (hAB : ∀ q, B q → A q) : GU G B U H := by
  obtain ⟨h1, h0, hao, h2, h3, aV, h4, h5, h6⟩ := h
  exact ⟨h1, h0, hao, h2.narrow hAB, h3.narrow hAB, aV, h4, h5.narrow hAB, h6.narrow hAB⟩
theorem GU_kept {G : gT} {A : Nat → Prop} {U : State} {H H1 : Heap} (h : GU G A U H) (hq : ∀ a : Nat, a < H.size → ¬ A a → H1[a]? = H[a]?) : GU G A U H1 := by
  obtain ⟨h1, h0, hao, h2, h3, aV, h4, h5, h6⟩ := h
  exact ⟨h1, h0, hao, h2.kept hq, h3.kept hq, aV, h4, h5.kept hq, h6.kept hq⟩
theorem GU_warm {G : gT} {A : Nat → Prop} {s U : State} {H : Heap} (hW : s.WarmedH U.vm) (h : GU G A s H) : GU G A U H := by
  obtain ⟨h1, h0, hao, h2, h3, aV, h4, h5, h6⟩ := h
  exact ⟨xW_warm hW h1, fun q hq => (h0 q hq).moved hW.alike, hao.moved hW.alike, h2.moved hW.alike, h3.moved hW.alike, aV, fun k hk => (h4 k hk).warm hW, h5.moved hW.alike, h6.moved hW.alike⟩
theorem GU_same {G : gT} {A : Nat → Prop} {s U : State} {H : Heap} (hv : s.vm = U.vm) (h : GU G A s H) : GU G A U H := by
  obtain ⟨h1, h0, hao, h2, h3, aV, h4, h5, h6⟩ := h
  have ha : s.vm.Alike U.vm := by rw [hv]; exact Vm.Alike.refl _
  exact ⟨fun w hw => va_Nw.same (xW_onT w hw) hv (h1 w hw), fun q hq => (h0 q hq).moved ha, hao.moved ha, h2.moved ha, h3.moved ha, aV, fun k hk => (h4 k hk).same hv.symm, h5.moved ha, h6.moved ha⟩
/-- a method: name, code, locals, what it returns, its class, room, arguments, its word, its handlers -/
abbrev pD : Type := MethodName × ByteArray × Nat × Option FieldType × Nat × Room × Nat × Cond × (Nat → String → Option (Option Nat))
abbrev mdY (d : pD) : MethodName := d.1
abbrev mdB (d : pD) : ByteArray := d.2.1
abbrev mdL (d : pD) : Nat := d.2.2.1
abbrev mdR (d : pD) : Option FieldType := d.2.2.2.1
abbrev mdO (d : pD) : Nat := d.2.2.2.2.1
abbrev mdM (d : pD) : Room := d.2.2.2.2.2.1
abbrev mdA (d : pD) : Nat := d.2.2.2.2.2.2.1
abbrev mdW (d : pD) : Cond := d.2.2.2.2.2.2.2.1
abbrev mdX (d : pD) : Nat → String → Option (Option Nat) := d.2.2.2.2.2.2.2.2
def pW (d : pD) : List Cond := mdW d :: TBg
/-- the world ahead of a call -/
def pPre (G : gT) (ad : Nat → Nat) (M : pM) (sz : Nat) (U : State) : Prop := U.heap.size = sz ∧ va_P G.1 vwCl (pws G.2.1 ad M) U.heap ∧ va_K G.1 vwCl (gtys G.2.1) U ∧ va_D (fun _ => True) (pws G.2.1 ad M) ∧ pN M ≤ 1000 ∧ (∀ k, k < 200 → ad (1000 + k) = G.2.2 k) ∧ GU G (va_A (pws G.2.1 ad M) sz) U U.heap
/-- .. and behind it -/
def pPost (G : gT) (ad0 : Nat → Nat) (M0 : pM) (A : Nat → Prop) (st t : State) (ad : Nat → Nat) (M : pM) : Prop := pN M0 ≤ pN M ∧ pN M ≤ 1000 ∧ (∀ k, (k < pN M0 ∨ pN M ≤ k) → ad k = ad0 k) ∧ va_P G.1 vwCl (pws G.2.1 ad M) t.heap ∧ va_K G.1 vwCl (gtys G.2.1) t ∧ va_D A (pws G.2.1 ad M) ∧ va_F A st t
def pQc (G : gT) (ad0 : Nat → Nat) (M0 : pM) (A : Nat → Prop) (Qr : Option Value → pM → Prop) : Array Value → State → Outcome → State → Prop := fun _ st o t => ∃ (v : Option Value) (M : pM) (ad : Nat → Nat), o = .returned (v.map (tr ad)) ∧ Qr v M ∧ pPost G ad0 M0 A st t ad M
def pXC (G : gT) (ad0 : Nat → Nat) (M0 : pM) (A : Nat → Prop) (Qx : String → pM → Prop) : String → State → State → Prop := fun E st t => ∃ (M : pM) (ad : Nat → Nat), Qx E M ∧ pPost G ad0 M0 A st t ad M
/-- THE CONTRACT: from these arguments and this memory the method returns so, or throws so -/
def CT (d : pD) (as : List Value) (M : pM) (Qr : Option Value → pM → Prop) (Qx : String → pM → Prop) : Prop :=
  ∀ (l : Launch) (G : gT) (ad : Nat → Nat) (sz : Nat), l.stackTraces = false →
    vx_Met l (mdY d) (pW d) (mdM d) (va_Pc (as.map (tr ad)) (pPre G ad M sz)) (pQc G ad M (va_A (pws G.2.1 ad M) sz) Qr) (pXC G ad M (va_A (pws G.2.1 ad M) sz) Qx) (mdM d).cells (mdM d).slots (va_A (pws G.2.1 ad M) sz)
/-- where a body stands -/
def pCtx (d : pD) (p : Program) (l : Launch) (s : State) (m : MethodId) (args : Array Value) (meth : Method) (c : Code) (G : gT) (ad0 : Nat → Nat) (M0 : pM) (A : Nat → Prop) : Prop :=
  p.tables.exec = Jvm.exec ∧ c.code = mdB d ∧ meth.sig.returnType = mdR d ∧ c.maxLocals = mdL d ∧ s.vm.findClass (fC (mdO d)) = some m.cls ∧ (∀ w ∈ pW d, w.before args s = true) ∧ va_K G.1 vwCl (gtys G.2.1) s ∧ meth.locks = false ∧ ((mdY d).name = "<init>" → meth.name = "<init>") ∧ GU G A s s.heap ∧ (∀ k, k < 200 → ad0 (1000 + k) = G.2.2 k) ∧ l.stackTraces = false ∧ (∀ q, s.heap.size ≤ q → A q) ∧
  (∀ pc E, mdX d pc E = some none → ∀ x ∈ c.exceptionTable.toList, covers x pc = false) ∧
  (∀ pc E t, mdX d pc E = some (some t) → ∃ (pre : List ExceptionTableEntry) (x : ExceptionTableEntry) (suf : List ExceptionTableEntry) (name : String), c.exceptionTable.toList = pre ++ x :: suf ∧ (∀ z ∈ pre, covers z pc = false ∨ (z.catchType ≠ 0 ∧ ∃ nm : String, (Cond.classLink (fC (mdO d)) z.catchType nm).before args s = true ∧ va_Nc E nm s)) ∧ covers x pc = true ∧ x.catchType ≠ 0 ∧ (Cond.classLink (fC (mdO d)) x.catchType name).before args s = true ∧ (Cond.castable E name).before args s = true ∧ x.handlerPc = t)
def pAt (d : pD) (p : Program) (l : Launch) (s : State) (m : MethodId) (args : Array Value) (meth : Method) (c : Code) (G : gT) (ad0 : Nat → Nat) (M0 : pM) (A : Nat → Prop) (ad : Nat → Nat) (M : pM) (L : List (Nat × Value)) (bc bs : Nat) (H : Heap) (locs : List Loc) (ls : Array Slot) (cells slots : Nat) : Prop :=
  pCtx d p l s m args meth c G ad0 M0 A ∧ pN M0 ≤ pN M ∧ pN M ≤ 1000 ∧ (∀ k, (k < pN M0 ∨ pN M ≤ k) → ad k = ad0 k) ∧ cells + bc ≤ (mdM d).cells ∧ slots + bs ≤ (mdM d).slots ∧ va_P G.1 vwCl (pws G.2.1 ad M) H ∧ va_D A (pws G.2.1 ad M) ∧ va_S A s.heap H locs ∧ lv_has ls (mdL d) (trL ad L)
/-- THE BODY from here on does what it should -/
def WPs (d : pD) (Qr : Option Value → pM → Prop) (Qx : String → pM → Prop) (pc : Nat) (L : List (Nat × Value)) (st : List Value) (M : pM) (bc bs : Nat) : Prop :=
  ∀ (p : Program) (l : Launch) (e : Env) (s : State) (m : MethodId) (args : Array Value) (below : List Frame) (meth : Method) (c : Code) (G : gT) (ad0 : Nat → Nat) (M0 : pM) (A : Nat → Prop) (ad : Nat → Nat) (H : Heap) (locs : List Loc) (ls : Array Slot) (cells slots : Nat),
    pAt d p l s m args meth c G ad0 M0 A ad M L bc bs H locs ls cells slots →
    W p l e (mdM d) s m args below meth c H locs cells slots (vx_MQ below (pQc G ad0 M0 A Qr) (pXC G ad0 M0 A Qx) args s (mdM d).cells (mdM d).slots A) (F0 m pc ls (st.map (tr ad)))
section Rows
variable {d : pD} {Qr : Option Value → pM → Prop} {Qx : String → pM → Prop} {pc : Nat} {L : List (Nat × Value)} {st : List Value} {M : pM} {bc bs : Nat}
/-- fewer locals are known -/
theorem s_loc {L' : List (Nat × Value)} (h : ∀ q ∈ L', q ∈ L) (k : WPs d Qr Qx pc L' st M bc bs) : WPs d Qr Qx pc L st M bc bs := by
  intro p l e s m args below meth c G ad0 M0 A ad H locs ls cells slots X
  obtain ⟨C, h1, h2, h3, h4, h5, hP, hD, hS, hl⟩ := X
  refine k p l e s m args below meth c G ad0 M0 A ad H locs ls cells slots ⟨C, h1, h2, h3, h4, h5, hP, hD, hS, hl.1, hl.2.1, fun q hq => ?_⟩
  obtain ⟨r, hr, rfl⟩ := List.mem_map.mp hq
  exact hl.2.2 _ (List.mem_map.mpr ⟨r, h r hr, rfl⟩)
theorem s_iconst {n : Int} {v : Int32} (hd : decode (mdB d) pc = .ok (.iconst n, 1)) (hv : Int32.ofInt n = v) (k : WPs d Qr Qx (pc + 1) L (.int v :: st) M bc bs) : WPs d Qr Qx pc L st M bc bs := by
  intro p l e s m args below meth c G ad0 M0 A ad H locs ls cells slots X
  exact lv_iconst X.1.1 X.1.2.1 hd hv (k p l e s m args below meth c G ad0 M0 A ad H locs ls cells slots X)
theorem s_bipush {n : Int} {v : Int32} (hd : decode (mdB d) pc = .ok (.bipush n, 2)) (hv : (Int8.ofInt n).toInt32 = v) (k : WPs d Qr Qx (pc + 2) L (.int v :: st) M bc bs) : WPs d Qr Qx pc L st M bc bs := by
  intro p l e s m args below meth c G ad0 M0 A ad H locs ls cells slots X
  exact lv_bipush X.1.1 X.1.2.1 hd hv (k p l e s m args below meth c G ad0 M0 A ad H locs ls cells slots X)
theorem s_sipush {n : Int} {v : Int32} (hd : decode (mdB d) pc = .ok (.sipush n, 3)) (hv : (Int16.ofInt n).toInt32 = v) (k : WPs d Qr Qx (pc + 3) L (.int v :: st) M bc bs) : WPs d Qr Qx pc L st M bc bs := by
  intro p l e s m args below meth c G ad0 M0 A ad H locs ls cells slots X
  exact lv_sipush X.1.1 X.1.2.1 hd hv (k p l e s m args below meth c G ad0 M0 A ad H locs ls cells slots X)
theorem s_lconst {n : Fin 2} {v : Int64} (hd : decode (mdB d) pc = .ok (.lconst n, 1)) (hv : Int64.ofNat (n : Nat) = v) (k : WPs d Qr Qx (pc + 1) L (.long v :: st) M bc bs) : WPs d Qr Qx pc L st M bc bs := by
  intro p l e s m args below meth c G ad0 M0 A ad H locs ls cells slots X
  exact lv_lconst X.1.1 X.1.2.1 hd hv (k p l e s m args below meth c G ad0 M0 A ad H locs ls cells slots X)
theorem s_null (hd : decode (mdB d) pc = .ok (.aconst_null, 1)) (k : WPs d Qr Qx (pc + 1) L (.null :: st) M bc bs) : WPs d Qr Qx pc L st M bc bs := by
  intro p l e s m args below meth c G ad0 M0 A ad H locs ls cells slots X
  exact lv_null X.1.1 X.1.2.1 hd (k p l e s m args below meth c G ad0 M0 A ad H locs ls cells slots X)
theorem s_iadd {x y : Int32} (hd : decode (mdB d) pc = .ok (.iadd, 1)) (k : WPs d Qr Qx (pc + 1) L (.int (x + y) :: st) M bc bs) : WPs d Qr Qx pc L (.int y :: .int x :: st) M bc bs := by
  intro p l e s m args below meth c G ad0 M0 A ad H locs ls cells slots X
  exact lv_iadd X.1.1 X.1.2.1 hd (k p l e s m args below meth c G ad0 M0 A ad H locs ls cells slots X)
theorem s_isub {x y : Int32} (hd : decode (mdB d) pc = .ok (.isub, 1)) (k : WPs d Qr Qx (pc + 1) L (.int (x - y) :: st) M bc bs) : WPs d Qr Qx pc L (.int y :: .int x :: st) M bc bs := by
  intro p l e s m args below meth c G ad0 M0 A ad H locs ls cells slots X
  exact lv_isub X.1.1 X.1.2.1 hd (k p l e s m args below meth c G ad0 M0 A ad H locs ls cells slots X)
theorem s_imul {x y : Int32} (hd : decode (mdB d) pc = .ok (.imul, 1)) (k : WPs d Qr Qx (pc + 1) L (.int (x * y) :: st) M bc bs) : WPs d Qr Qx pc L (.int y :: .int x :: st) M bc bs := by
  intro p l e s m args below meth c G ad0 M0 A ad H locs ls cells slots X
  exact lv_imul X.1.1 X.1.2.1 hd (k p l e s m args below meth c G ad0 M0 A ad H locs ls cells slots X)
theorem s_iand {x y : Int32} (hd : decode (mdB d) pc = .ok (.iand, 1)) (k : WPs d Qr Qx (pc + 1) L (.int (x &&& y) :: st) M bc bs) : WPs d Qr Qx pc L (.int y :: .int x :: st) M bc bs := by
  intro p l e s m args below meth c G ad0 M0 A ad H locs ls cells slots X
  exact lv_iand X.1.1 X.1.2.1 hd (k p l e s m args below meth c G ad0 M0 A ad H locs ls cells slots X)
theorem s_ior {x y : Int32} (hd : decode (mdB d) pc = .ok (.ior, 1)) (k : WPs d Qr Qx (pc + 1) L (.int (x ||| y) :: st) M bc bs) : WPs d Qr Qx pc L (.int y :: .int x :: st) M bc bs := by
  intro p l e s m args below meth c G ad0 M0 A ad H locs ls cells slots X
  exact lv_ior X.1.1 X.1.2.1 hd (k p l e s m args below meth c G ad0 M0 A ad H locs ls cells slots X)
theorem s_ishl {x y : Int32} (hd : decode (mdB d) pc = .ok (.ishl, 1)) (k : WPs d Qr Qx (pc + 1) L (.int (x <<< (y &&& 31)) :: st) M bc bs) : WPs d Qr Qx pc L (.int y :: .int x :: st) M bc bs := by
  intro p l e s m args below meth c G ad0 M0 A ad H locs ls cells slots X
  exact lv_ishl X.1.1 X.1.2.1 hd (k p l e s m args below meth c G ad0 M0 A ad H locs ls cells slots X)
theorem s_ishr {x y : Int32} (hd : decode (mdB d) pc = .ok (.ishr, 1)) (k : WPs d Qr Qx (pc + 1) L (.int (x >>> (y &&& 31)) :: st) M bc bs) : WPs d Qr Qx pc L (.int y :: .int x :: st) M bc bs := by
  intro p l e s m args below meth c G ad0 M0 A ad H locs ls cells slots X
  exact lv_ishr X.1.1 X.1.2.1 hd (k p l e s m args below meth c G ad0 M0 A ad H locs ls cells slots X)
theorem s_irem {x y : Int32} (hd : decode (mdB d) pc = .ok (.irem, 1)) (hne : ¬ y = 0) (k : WPs d Qr Qx (pc + 1) L (.int (x - x / y * y) :: st) M bc bs) : WPs d Qr Qx pc L (.int y :: .int x :: st) M bc bs := by
  intro p l e s m args below meth c G ad0 M0 A ad H locs ls cells slots X
  exact lv_irem X.1.1 X.1.2.1 hd hne (k p l e s m args below meth c G ad0 M0 A ad H locs ls cells slots X)
theorem s_ineg {x : Int32} (hd : decode (mdB d) pc = .ok (.ineg, 1)) (k : WPs d Qr Qx (pc + 1) L (.int (-x) :: st) M bc bs) : WPs d Qr Qx pc L (.int x :: st) M bc bs := by
  intro p l e s m args below meth c G ad0 M0 A ad H locs ls cells slots X
  exact lv_ineg X.1.1 X.1.2.1 hd (k p l e s m args below meth c G ad0 M0 A ad H locs ls cells slots X)
theorem s_ladd {x y : Int64} (hd : decode (mdB d) pc = .ok (.ladd, 1)) (k : WPs d Qr Qx (pc + 1) L (.long (x + y) :: st) M bc bs) : WPs d Qr Qx pc L (.long y :: .long x :: st) M bc bs := by
  intro p l e s m args below meth c G ad0 M0 A ad H locs ls cells slots X
  exact lv_ladd X.1.1 X.1.2.1 hd (k p l e s m args below meth c G ad0 M0 A ad H locs ls cells slots X)
theorem s_lsub {x y : Int64} (hd : decode (mdB d) pc = .ok (.lsub, 1)) (k : WPs d Qr Qx (pc + 1) L (.long (x - y) :: st) M bc bs) : WPs d Qr Qx pc L (.long y :: .long x :: st) M bc bs := by
  intro p l e s m args below meth c G ad0 M0 A ad H locs ls cells slots X
  exact lv_lsub X.1.1 X.1.2.1 hd (k p l e s m args below meth c G ad0 M0 A ad H locs ls cells slots X)
theorem s_lmul {x y : Int64} (hd : decode (mdB d) pc = .ok (.lmul, 1)) (k : WPs d Qr Qx (pc + 1) L (.long (x * y) :: st) M bc bs) : WPs d Qr Qx pc L (.long y :: .long x :: st) M bc bs := by
  intro p l e s m args below meth c G ad0 M0 A ad H locs ls cells slots X
  exact lv_lmul X.1.1 X.1.2.1 hd (k p l e s m args below meth c G ad0 M0 A ad H locs ls cells slots X)
theorem s_lcmp {x y : Int64} (hd : decode (mdB d) pc = .ok (.lcmp, 1)) (k : WPs d Qr Qx (pc + 1) L (.int (lg_cmp x y) :: st) M bc bs) : WPs d Qr Qx pc L (.long y :: .long x :: st) M bc bs := by
  intro p l e s m args below meth c G ad0 M0 A ad H locs ls cells slots X
  exact W.lcmp X.1.1 X.1.2.1 hd (k p l e s m args below meth c G ad0 M0 A ad H locs ls cells slots X)
theorem s_i2l {x : Int32} (hd : decode (mdB d) pc = .ok (.i2l, 1)) (k : WPs d Qr Qx (pc + 1) L (.long x.toInt64 :: st) M bc bs) : WPs d Qr Qx pc L (.int x :: st) M bc bs := by
  intro p l e s m args below meth c G ad0 M0 A ad H locs ls cells slots X
  exact lv_i2l X.1.1 X.1.2.1 hd rfl (k p l e s m args below meth c G ad0 M0 A ad H locs ls cells slots X)
theorem s_dup {v : Value} (hd : decode (mdB d) pc = .ok (.dup, 1)) (hc : v.category = 1) (k : WPs d Qr Qx (pc + 1) L (v :: v :: st) M bc bs) : WPs d Qr Qx pc L (v :: st) M bc bs := by
  intro p l e s m args below meth c G ad0 M0 A ad H locs ls cells slots X
  exact lv_dup X.1.1 X.1.2.1 hd ((tr_cat _ _).trans hc) (k p l e s m args below meth c G ad0 M0 A ad H locs ls cells slots X)
theorem s_pop {v : Value} (hd : decode (mdB d) pc = .ok (.pop, 1)) (hc : v.category = 1) (k : WPs d Qr Qx (pc + 1) L (st) M bc bs) : WPs d Qr Qx pc L (v :: st) M bc bs := by
  intro p l e s m args below meth c G ad0 M0 A ad H locs ls cells slots X
  exact lv_pop X.1.1 X.1.2.1 hd ((tr_cat _ _).trans hc) (k p l e s m args below meth c G ad0 M0 A ad H locs ls cells slots X)
theorem s_dup2 {v w : Value} (hd : decode (mdB d) pc = .ok (.dup2, 1)) (hc : v.category = 1) (hc2 : w.category = 1) (k : WPs d Qr Qx (pc + 1) L (v :: w :: v :: w :: st) M bc bs) : WPs d Qr Qx pc L (v :: w :: st) M bc bs := by
  intro p l e s m args below meth c G ad0 M0 A ad H locs ls cells slots X
  exact lv_dup2_11 X.1.1 X.1.2.1 hd ((tr_cat _ _).trans hc) ((tr_cat _ _).trans hc2) (k p l e s m args below meth c G ad0 M0 A ad H locs ls cells slots X)
theorem s_iload_n {k0 : Fin 4} {x : Int32} (hd : decode (mdB d) pc = .ok (.iload_n k0, 1)) (hl : lget (k0 : Nat) L = some (.int x)) (k : WPs d Qr Qx (pc + 1) L (.int x :: st) M bc bs) : WPs d Qr Qx pc L st M bc bs := by
  intro p l e s m args below meth c G ad0 M0 A ad H locs ls cells slots X
  exact lv_iload_n X.1.1 X.1.2.1 hd rfl (lget_at X.2.2.2.2.2.2.2.2.2 hl) (k p l e s m args below meth c G ad0 M0 A ad H locs ls cells slots X)
theorem s_iload {i : Nat} {x : Int32} (hd : decode (mdB d) pc = .ok (.iload i, 2)) (hl : lget i L = some (.int x)) (k : WPs d Qr Qx (pc + 2) L (.int x :: st) M bc bs) : WPs d Qr Qx pc L st M bc bs := by
  intro p l e s m args below meth c G ad0 M0 A ad H locs ls cells slots X
  exact lv_iload X.1.1 X.1.2.1 hd (lget_at X.2.2.2.2.2.2.2.2.2 hl) (k p l e s m args below meth c G ad0 M0 A ad H locs ls cells slots X)
theorem s_lload_n {k0 : Fin 4} {x : Int64} (hd : decode (mdB d) pc = .ok (.lload_n k0, 1)) (hl : lget (k0 : Nat) L = some (.long x)) (k : WPs d Qr Qx (pc + 1) L (.long x :: st) M bc bs) : WPs d Qr Qx pc L st M bc bs := by
  intro p l e s m args below meth c G ad0 M0 A ad H locs ls cells slots X
  exact lv_lload_n X.1.1 X.1.2.1 hd rfl (lget_at X.2.2.2.2.2.2.2.2.2 hl) (k p l e s m args below meth c G ad0 M0 A ad H locs ls cells slots X)
theorem s_lload {i : Nat} {x : Int64} (hd : decode (mdB d) pc = .ok (.lload i, 2)) (hl : lget i L = some (.long x)) (k : WPs d Qr Qx (pc + 2) L (.long x :: st) M bc bs) : WPs d Qr Qx pc L st M bc bs := by
  intro p l e s m args below meth c G ad0 M0 A ad H locs ls cells slots X
  exact lv_lload X.1.1 X.1.2.1 hd (lget_at X.2.2.2.2.2.2.2.2.2 hl) (k p l e s m args below meth c G ad0 M0 A ad H locs ls cells slots X)
theorem s_aload_n {k0 : Fin 4} {x : Nat} (hd : decode (mdB d) pc = .ok (.aload_n k0, 1)) (hl : lget (k0 : Nat) L = some (.ref x)) (k : WPs d Qr Qx (pc + 1) L (.ref x :: st) M bc bs) : WPs d Qr Qx pc L st M bc bs := by
  intro p l e s m args below meth c G ad0 M0 A ad H locs ls cells slots X
  exact lv_aload_n X.1.1 X.1.2.1 hd rfl (lget_at X.2.2.2.2.2.2.2.2.2 hl) (k p l e s m args below meth c G ad0 M0 A ad H locs ls cells slots X)
theorem s_aload {i : Nat} {x : Nat} (hd : decode (mdB d) pc = .ok (.aload i, 2)) (hl : lget i L = some (.ref x)) (k : WPs d Qr Qx (pc + 2) L (.ref x :: st) M bc bs) : WPs d Qr Qx pc L st M bc bs := by
  intro p l e s m args below meth c G ad0 M0 A ad H locs ls cells slots X
  exact lv_aload X.1.1 X.1.2.1 hd (lget_at X.2.2.2.2.2.2.2.2.2 hl) (k p l e s m args below meth c G ad0 M0 A ad H locs ls cells slots X)
theorem s_aload_nN {k0 : Fin 4} (hd : decode (mdB d) pc = .ok (.aload_n k0, 1)) (hl : lget (k0 : Nat) L = some (.null)) (k : WPs d Qr Qx (pc + 1) L (.null :: st) M bc bs) : WPs d Qr Qx pc L st M bc bs := by
  intro p l e s m args below meth c G ad0 M0 A ad H locs ls cells slots X
  exact lv_aload_nN X.1.1 X.1.2.1 hd rfl (lget_at X.2.2.2.2.2.2.2.2.2 hl) (k p l e s m args below meth c G ad0 M0 A ad H locs ls cells slots X)
theorem s_aloadN {i : Nat} (hd : decode (mdB d) pc = .ok (.aload i, 2)) (hl : lget i L = some (.null)) (k : WPs d Qr Qx (pc + 2) L (.null :: st) M bc bs) : WPs d Qr Qx pc L st M bc bs := by
  intro p l e s m args below meth c G ad0 M0 A ad H locs ls cells slots X
  exact lv_aloadN X.1.1 X.1.2.1 hd (lget_at X.2.2.2.2.2.2.2.2.2 hl) (k p l e s m args below meth c G ad0 M0 A ad H locs ls cells slots X)
theorem s_istore_n {k0 : Fin 4} {x : Int32} (hd : decode (mdB d) pc = .ok (.istore_n k0, 1)) (hn : (k0 : Nat) < mdL d) (k : WPs d Qr Qx (pc + 1) (lset (k0 : Nat) (.int x) L) st M bc bs) : WPs d Qr Qx pc L (.int x :: st) M bc bs := by
  intro p l e s m args below meth c G ad0 M0 A ad H locs ls cells slots X
  obtain ⟨C, h1, h2, h3, h4, h5, hP, hD, hS, hl⟩ := X
  exact lv_istore_n C.1 C.2.1 hd rfl hl hn (lset_tr ad (k0 : Nat) (.int x) L) (fun ls' hl' => k p l e s m args below meth c G ad0 M0 A ad H locs ls' cells slots ⟨C, h1, h2, h3, h4, h5, hP, hD, hS, hl'⟩)
theorem s_istore {i : Nat} {x : Int32} (hd : decode (mdB d) pc = .ok (.istore i, 2)) (hn : i < mdL d) (k : WPs d Qr Qx (pc + 2) (lset i (.int x) L) st M bc bs) : WPs d Qr Qx pc L (.int x :: st) M bc bs := by
  intro p l e s m args below meth c G ad0 M0 A ad H locs ls cells slots X
  obtain ⟨C, h1, h2, h3, h4, h5, hP, hD, hS, hl⟩ := X
  exact lv_istore C.1 C.2.1 hd hl hn (lset_tr ad i (.int x) L) (fun ls' hl' => k p l e s m args below meth c G ad0 M0 A ad H locs ls' cells slots ⟨C, h1, h2, h3, h4, h5, hP, hD, hS, hl'⟩)
theorem s_astore_n {k0 : Fin 4} {x : Nat} (hd : decode (mdB d) pc = .ok (.astore_n k0, 1)) (hn : (k0 : Nat) < mdL d) (k : WPs d Qr Qx (pc + 1) (lset (k0 : Nat) (.ref x) L) st M bc bs) : WPs d Qr Qx pc L (.ref x :: st) M bc bs := by
  intro p l e s m args below meth c G ad0 M0 A ad H locs ls cells slots X
  obtain ⟨C, h1, h2, h3, h4, h5, hP, hD, hS, hl⟩ := X
  exact lv_astore_n C.1 C.2.1 hd rfl hl hn (lset_tr ad (k0 : Nat) (.ref x) L) (fun ls' hl' => k p l e s m args below meth c G ad0 M0 A ad H locs ls' cells slots ⟨C, h1, h2, h3, h4, h5, hP, hD, hS, hl'⟩)
theorem s_astore {i : Nat} {x : Nat} (hd : decode (mdB d) pc = .ok (.astore i, 2)) (hn : i < mdL d) (k : WPs d Qr Qx (pc + 2) (lset i (.ref x) L) st M bc bs) : WPs d Qr Qx pc L (.ref x :: st) M bc bs := by
  intro p l e s m args below meth c G ad0 M0 A ad H locs ls cells slots X
  obtain ⟨C, h1, h2, h3, h4, h5, hP, hD, hS, hl⟩ := X
  exact lv_astore C.1 C.2.1 hd hl hn (lset_tr ad i (.ref x) L) (fun ls' hl' => k p l e s m args below meth c G ad0 M0 A ad H locs ls' cells slots ⟨C, h1, h2, h3, h4, h5, hP, hD, hS, hl'⟩)
theorem s_astore_nN {k0 : Fin 4} (hd : decode (mdB d) pc = .ok (.astore_n k0, 1)) (hn : (k0 : Nat) < mdL d) (k : WPs d Qr Qx (pc + 1) (lset (k0 : Nat) (.null) L) st M bc bs) : WPs d Qr Qx pc L (.null :: st) M bc bs := by
  intro p l e s m args below meth c G ad0 M0 A ad H locs ls cells slots X
  obtain ⟨C, h1, h2, h3, h4, h5, hP, hD, hS, hl⟩ := X
  exact lv_astore_nN C.1 C.2.1 hd rfl hl hn (lset_tr ad (k0 : Nat) (.null) L) (fun ls' hl' => k p l e s m args below meth c G ad0 M0 A ad H locs ls' cells slots ⟨C, h1, h2, h3, h4, h5, hP, hD, hS, hl'⟩)
theorem s_astoreN {i : Nat} (hd : decode (mdB d) pc = .ok (.astore i, 2)) (hn : i < mdL d) (k : WPs d Qr Qx (pc + 2) (lset i (.null) L) st M bc bs) : WPs d Qr Qx pc L (.null :: st) M bc bs := by
  intro p l e s m args below meth c G ad0 M0 A ad H locs ls cells slots X
  obtain ⟨C, h1, h2, h3, h4, h5, hP, hD, hS, hl⟩ := X
  exact lv_astoreN C.1 C.2.1 hd hl hn (lset_tr ad i (.null) L) (fun ls' hl' => k p l e s m args below meth c G ad0 M0 A ad H locs ls' cells slots ⟨C, h1, h2, h3, h4, h5, hP, hD, hS, hl'⟩)
theorem s_lstore_n {k0 : Fin 4} {x : Int64} (hd : decode (mdB d) pc = .ok (.lstore_n k0, 1)) (hn : (k0 : Nat) + 1 < mdL d) (k : WPs d Qr Qx (pc + 1) (lsetL (k0 : Nat) (.long x) L) st M bc bs) : WPs d Qr Qx pc L (.long x :: st) M bc bs := by
  intro p l e s m args below meth c G ad0 M0 A ad H locs ls cells slots X
  obtain ⟨C, h1, h2, h3, h4, h5, hP, hD, hS, hl⟩ := X
  exact lv_lstore_n C.1 C.2.1 hd rfl hl hn (lsetL_tr ad (k0 : Nat) (.long x) L) (fun ls' hl' => k p l e s m args below meth c G ad0 M0 A ad H locs ls' cells slots ⟨C, h1, h2, h3, h4, h5, hP, hD, hS, hl'⟩)
theorem s_lstore {i : Nat} {x : Int64} (hd : decode (mdB d) pc = .ok (.lstore i, 2)) (hn : i + 1 < mdL d) (k : WPs d Qr Qx (pc + 2) (lsetL i (.long x) L) st M bc bs) : WPs d Qr Qx pc L (.long x :: st) M bc bs := by
  intro p l e s m args below meth c G ad0 M0 A ad H locs ls cells slots X
  obtain ⟨C, h1, h2, h3, h4, h5, hP, hD, hS, hl⟩ := X
  exact lv_lstore C.1 C.2.1 hd hl hn (lsetL_tr ad i (.long x) L) (fun ls' hl' => k p l e s m args below meth c G ad0 M0 A ad H locs ls' cells slots ⟨C, h1, h2, h3, h4, h5, hP, hD, hS, hl'⟩)
theorem s_iinc {i : Nat} {n : Int} {x v : Int32} (hd : decode (mdB d) pc = .ok (.iinc i n, 3)) (hg : lget i L = some (.int x)) (hv : x + Int32.ofInt n = v) (hn : i < mdL d) (k : WPs d Qr Qx (pc + 3) (lset i (.int v) L) st M bc bs) : WPs d Qr Qx pc L st M bc bs := by
  intro p l e s m args below meth c G ad0 M0 A ad H locs ls cells slots X
  obtain ⟨C, h1, h2, h3, h4, h5, hP, hD, hS, hl⟩ := X
  obtain ⟨j, hj⟩ := List.getElem?_of_mem (trL_mem (ad := ad) (lget_mem hg))
  exact lv_iinc C.1 C.2.1 hd hl (k := j) hj hv hn (lset_tr ad i (.int v) L) (fun ls' hl' => k p l e s m args below meth c G ad0 M0 A ad H locs ls' cells slots ⟨C, h1, h2, h3, h4, h5, hP, hD, hS, hl'⟩)
theorem s_if_eq {x : Int32} {off : Int} {tgt : Nat} (hd : decode (mdB d) pc = .ok (.ifCond .eq off, 3)) (ht : (pc : Int) + off = (tgt : Int)) (kt : x = 0 → WPs d Qr Qx tgt L st M bc bs) (kf : ¬ (x = 0) → WPs d Qr Qx (pc + 3) L st M bc bs) : WPs d Qr Qx pc L (.int x :: st) M bc bs := by
  intro p l e s m args below meth c G ad0 M0 A ad H locs ls cells slots X
  exact lv_if_eq X.1.1 X.1.2.1 hd ht (fun z => kt z p l e s m args below meth c G ad0 M0 A ad H locs ls cells slots X) (fun z => kf z p l e s m args below meth c G ad0 M0 A ad H locs ls cells slots X)
theorem s_icmp_eq {x y : Int32} {off : Int} {tgt : Nat} (hd : decode (mdB d) pc = .ok (.if_icmp .eq off, 3)) (ht : (pc : Int) + off = (tgt : Int)) (kt : x = y → WPs d Qr Qx tgt L st M bc bs) (kf : ¬ (x = y) → WPs d Qr Qx (pc + 3) L st M bc bs) : WPs d Qr Qx pc L (.int y :: .int x :: st) M bc bs := by
  intro p l e s m args below meth c G ad0 M0 A ad H locs ls cells slots X
  exact lv_icmp_eq X.1.1 X.1.2.1 hd ht (fun z => kt z p l e s m args below meth c G ad0 M0 A ad H locs ls cells slots X) (fun z => kf z p l e s m args below meth c G ad0 M0 A ad H locs ls cells slots X)
theorem s_if_ne {x : Int32} {off : Int} {tgt : Nat} (hd : decode (mdB d) pc = .ok (.ifCond .ne off, 3)) (ht : (pc : Int) + off = (tgt : Int)) (kt : ¬ x = 0 → WPs d Qr Qx tgt L st M bc bs) (kf : x = 0 → WPs d Qr Qx (pc + 3) L st M bc bs) : WPs d Qr Qx pc L (.int x :: st) M bc bs := by
  intro p l e s m args below meth c G ad0 M0 A ad H locs ls cells slots X
  exact lv_if_ne X.1.1 X.1.2.1 hd ht (fun z => kt z p l e s m args below meth c G ad0 M0 A ad H locs ls cells slots X) (fun z => kf z p l e s m args below meth c G ad0 M0 A ad H locs ls cells slots X)
theorem s_icmp_ne {x y : Int32} {off : Int} {tgt : Nat} (hd : decode (mdB d) pc = .ok (.if_icmp .ne off, 3)) (ht : (pc : Int) + off = (tgt : Int)) (kt : ¬ x = y → WPs d Qr Qx tgt L st M bc bs) (kf : x = y → WPs d Qr Qx (pc + 3) L st M bc bs) : WPs d Qr Qx pc L (.int y :: .int x :: st) M bc bs := by
  intro p l e s m args below meth c G ad0 M0 A ad H locs ls cells slots X
  exact lv_icmp_ne X.1.1 X.1.2.1 hd ht (fun z => kt z p l e s m args below meth c G ad0 M0 A ad H locs ls cells slots X) (fun z => kf z p l e s m args below meth c G ad0 M0 A ad H locs ls cells slots X)
theorem s_if_lt {x : Int32} {off : Int} {tgt : Nat} (hd : decode (mdB d) pc = .ok (.ifCond .lt off, 3)) (ht : (pc : Int) + off = (tgt : Int)) (kt : x < 0 → WPs d Qr Qx tgt L st M bc bs) (kf : ¬ (x < 0) → WPs d Qr Qx (pc + 3) L st M bc bs) : WPs d Qr Qx pc L (.int x :: st) M bc bs := by
  intro p l e s m args below meth c G ad0 M0 A ad H locs ls cells slots X
  exact lv_if_lt X.1.1 X.1.2.1 hd ht (fun z => kt z p l e s m args below meth c G ad0 M0 A ad H locs ls cells slots X) (fun z => kf z p l e s m args below meth c G ad0 M0 A ad H locs ls cells slots X)
theorem s_icmp_lt {x y : Int32} {off : Int} {tgt : Nat} (hd : decode (mdB d) pc = .ok (.if_icmp .lt off, 3)) (ht : (pc : Int) + off = (tgt : Int)) (kt : x < y → WPs d Qr Qx tgt L st M bc bs) (kf : ¬ (x < y) → WPs d Qr Qx (pc + 3) L st M bc bs) : WPs d Qr Qx pc L (.int y :: .int x :: st) M bc bs := by
  intro p l e s m args below meth c G ad0 M0 A ad H locs ls cells slots X
  exact lv_icmp_lt X.1.1 X.1.2.1 hd ht (fun z => kt z p l e s m args below meth c G ad0 M0 A ad H locs ls cells slots X) (fun z => kf z p l e s m args below meth c G ad0 M0 A ad H locs ls cells slots X)
theorem s_if_ge {x : Int32} {off : Int} {tgt : Nat} (hd : decode (mdB d) pc = .ok (.ifCond .ge off, 3)) (ht : (pc : Int) + off = (tgt : Int)) (kt : 0 ≤ x → WPs d Qr Qx tgt L st M bc bs) (kf : ¬ (0 ≤ x) → WPs d Qr Qx (pc + 3) L st M bc bs) : WPs d Qr Qx pc L (.int x :: st) M bc bs := by
  intro p l e s m args below meth c G ad0 M0 A ad H locs ls cells slots X
  exact lv_if_ge X.1.1 X.1.2.1 hd ht (fun z => kt z p l e s m args below meth c G ad0 M0 A ad H locs ls cells slots X) (fun z => kf z p l e s m args below meth c G ad0 M0 A ad H locs ls cells slots X)
theorem s_icmp_ge {x y : Int32} {off : Int} {tgt : Nat} (hd : decode (mdB d) pc = .ok (.if_icmp .ge off, 3)) (ht : (pc : Int) + off = (tgt : Int)) (kt : y ≤ x → WPs d Qr Qx tgt L st M bc bs) (kf : ¬ (y ≤ x) → WPs d Qr Qx (pc + 3) L st M bc bs) : WPs d Qr Qx pc L (.int y :: .int x :: st) M bc bs := by
  intro p l e s m args below meth c G ad0 M0 A ad H locs ls cells slots X
  exact lv_icmp_ge X.1.1 X.1.2.1 hd ht (fun z => kt z p l e s m args below meth c G ad0 M0 A ad H locs ls cells slots X) (fun z => kf z p l e s m args below meth c G ad0 M0 A ad H locs ls cells slots X)
theorem s_if_gt {x : Int32} {off : Int} {tgt : Nat} (hd : decode (mdB d) pc = .ok (.ifCond .gt off, 3)) (ht : (pc : Int) + off = (tgt : Int)) (kt : 0 < x → WPs d Qr Qx tgt L st M bc bs) (kf : ¬ (0 < x) → WPs d Qr Qx (pc + 3) L st M bc bs) : WPs d Qr Qx pc L (.int x :: st) M bc bs := by
  intro p l e s m args below meth c G ad0 M0 A ad H locs ls cells slots X
  exact lv_if_gt X.1.1 X.1.2.1 hd ht (fun z => kt z p l e s m args below meth c G ad0 M0 A ad H locs ls cells slots X) (fun z => kf z p l e s m args below meth c G ad0 M0 A ad H locs ls cells slots X)
theorem s_icmp_gt {x y : Int32} {off : Int} {tgt : Nat} (hd : decode (mdB d) pc = .ok (.if_icmp .gt off, 3)) (ht : (pc : Int) + off = (tgt : Int)) (kt : y < x → WPs d Qr Qx tgt L st M bc bs) (kf : ¬ (y < x) → WPs d Qr Qx (pc + 3) L st M bc bs) : WPs d Qr Qx pc L (.int y :: .int x :: st) M bc bs := by
  intro p l e s m args below meth c G ad0 M0 A ad H locs ls cells slots X
  exact lv_icmp_gt X.1.1 X.1.2.1 hd ht (fun z => kt z p l e s m args below meth c G ad0 M0 A ad H locs ls cells slots X) (fun z => kf z p l e s m args below meth c G ad0 M0 A ad H locs ls cells slots X)
theorem s_if_le {x : Int32} {off : Int} {tgt : Nat} (hd : decode (mdB d) pc = .ok (.ifCond .le off, 3)) (ht : (pc : Int) + off = (tgt : Int)) (kt : x ≤ 0 → WPs d Qr Qx tgt L st M bc bs) (kf : ¬ (x ≤ 0) → WPs d Qr Qx (pc + 3) L st M bc bs) : WPs d Qr Qx pc L (.int x :: st) M bc bs := by
  intro p l e s m args below meth c G ad0 M0 A ad H locs ls cells slots X
  exact lv_if_le X.1.1 X.1.2.1 hd ht (fun z => kt z p l e s m args below meth c G ad0 M0 A ad H locs ls cells slots X) (fun z => kf z p l e s m args below meth c G ad0 M0 A ad H locs ls cells slots X)
theorem s_icmp_le {x y : Int32} {off : Int} {tgt : Nat} (hd : decode (mdB d) pc = .ok (.if_icmp .le off, 3)) (ht : (pc : Int) + off = (tgt : Int)) (kt : x ≤ y → WPs d Qr Qx tgt L st M bc bs) (kf : ¬ (x ≤ y) → WPs d Qr Qx (pc + 3) L st M bc bs) : WPs d Qr Qx pc L (.int y :: .int x :: st) M bc bs := by
  intro p l e s m args below meth c G ad0 M0 A ad H locs ls cells slots X
  exact lv_icmp_le X.1.1 X.1.2.1 hd ht (fun z => kt z p l e s m args below meth c G ad0 M0 A ad H locs ls cells slots X) (fun z => kf z p l e s m args below meth c G ad0 M0 A ad H locs ls cells slots X)
theorem s_ifnull {x : Nat} {off : Int} (hd : decode (mdB d) pc = .ok (.ifnull off, 3)) (k : WPs d Qr Qx (pc + 3) L st M bc bs) : WPs d Qr Qx pc L (.ref x :: st) M bc bs := by
  intro p l e s m args below meth c G ad0 M0 A ad H locs ls cells slots X
  exact lv_ifnull X.1.1 X.1.2.1 hd (k p l e s m args below meth c G ad0 M0 A ad H locs ls cells slots X)
theorem s_ifnullN {off : Int} {tgt : Nat} (hd : decode (mdB d) pc = .ok (.ifnull off, 3)) (ht : (pc : Int) + off = (tgt : Int)) (k : WPs d Qr Qx (tgt) L st M bc bs) : WPs d Qr Qx pc L (.null :: st) M bc bs := by
  intro p l e s m args below meth c G ad0 M0 A ad H locs ls cells slots X
  exact lv_ifnullN X.1.1 X.1.2.1 hd ht (k p l e s m args below meth c G ad0 M0 A ad H locs ls cells slots X)
theorem s_ifnonnull {x : Nat} {off : Int} {tgt : Nat} (hd : decode (mdB d) pc = .ok (.ifnonnull off, 3)) (ht : (pc : Int) + off = (tgt : Int)) (k : WPs d Qr Qx (tgt) L st M bc bs) : WPs d Qr Qx pc L (.ref x :: st) M bc bs := by
  intro p l e s m args below meth c G ad0 M0 A ad H locs ls cells slots X
  exact lv_ifnonnull X.1.1 X.1.2.1 hd ht (k p l e s m args below meth c G ad0 M0 A ad H locs ls cells slots X)
theorem s_ifnonnullN {off : Int} (hd : decode (mdB d) pc = .ok (.ifnonnull off, 3)) (k : WPs d Qr Qx (pc + 3) L st M bc bs) : WPs d Qr Qx pc L (.null :: st) M bc bs := by
  intro p l e s m args below meth c G ad0 M0 A ad H locs ls cells slots X
  exact lv_ifnonnullN X.1.1 X.1.2.1 hd (k p l e s m args below meth c G ad0 M0 A ad H locs ls cells slots X)
theorem s_goto {off : Int} {tgt : Nat} (hd : decode (mdB d) pc = .ok (.goto off, 3)) (ht : (pc : Int) + off = (tgt : Int)) (k : WPs d Qr Qx tgt L st M bc bs) : WPs d Qr Qx pc L st M bc bs := by
  intro p l e s m args below meth c G ad0 M0 A ad H locs ls cells slots X
  exact lv_goto X.1.1 X.1.2.1 hd ht (k p l e s m args below meth c G ad0 M0 A ad H locs ls cells slots X)
theorem s_tabO {dflt lo hi : Int} {offs : Array Int} {len : Nat} {x : Int32} {tgt : Nat} (hd : decode (mdB d) pc = .ok (.tableswitch dflt lo hi offs, len)) (h : x.toInt < lo ∨ hi < x.toInt) (ht : (pc : Int) + dflt = (tgt : Int)) (k : WPs d Qr Qx tgt L st M bc bs) : WPs d Qr Qx pc L (.int x :: st) M bc bs := by
  intro p l e s m args below meth c G ad0 M0 A ad H locs ls cells slots X
  exact lv_tableOut X.1.1 X.1.2.1 hd h ht (k p l e s m args below meth c G ad0 M0 A ad H locs ls cells slots X)
theorem s_tabI {dflt lo hi : Int} {offs : Array Int} {len : Nat} {x : Int32} {off : Int} {tgt : Nat} (hd : decode (mdB d) pc = .ok (.tableswitch dflt lo hi offs, len)) (h1 : ¬ x.toInt < lo) (h2 : ¬ hi < x.toInt) (ho : offs[(x.toInt - lo).toNat]? = some off) (ht : (pc : Int) + off = (tgt : Int)) (k : WPs d Qr Qx tgt L st M bc bs) : WPs d Qr Qx pc L (.int x :: st) M bc bs := by
  intro p l e s m args below meth c G ad0 M0 A ad H locs ls cells slots X
  exact lv_tableIn X.1.1 X.1.2.1 hd h1 h2 ho ht (k p l e s m args below meth c G ad0 M0 A ad H locs ls cells slots X)
theorem s_look {dflt : Int} {ps : Array (Int × Int)} {len : Nat} {x : Int32} {off : Int} {tgt : Nat} (hd : decode (mdB d) pc = .ok (.lookupswitch dflt ps, len)) (hp : (ps.toList.zip (ps.toList.drop 1)).all (fun (a, next) => a.1 < next.1) = true) (ho : Op.lookupswitch.offset ps.toList dflt x.toInt = off) (ht : (pc : Int) + off = (tgt : Int)) (k : WPs d Qr Qx tgt L st M bc bs) : WPs d Qr Qx pc L (.int x :: st) M bc bs := by
  intro p l e s m args below meth c G ad0 M0 A ad H locs ls cells slots X
  exact lv_lookup X.1.1 X.1.2.1 hd hp ho ht (k p l e s m args below meth c G ad0 M0 A ad H locs ls cells slots X)
end Rows
/-- what the tables say of a field's link, of a method, of a call -/
def fldP (own idx ci j nest : Nat) : Prop := ci < 8 ∧ j < fN ci ∧ (nest = 0 → Cond.fieldLink (fC own) idx (fC ci) (fX ci j).2.1 (fX ci j).2.2.1 ∈ TBg) ∧ (¬ nest = 0 → Cond.fieldLinkNest (fC own) idx (fC ci) (fX ci j).2.1 (fX ci j).2.2.1 "Raidhall" ∈ xW)
def pdP (d : pD) : Prop := mdW d = .code (mdY d) (mdB d) (mdL d) (mdR d) ∧ mdW d ∈ TBg ∧ Cond.initialized (mdY d).cls ∈ TBg ∧ plainName (mdY d).cls = true ∧ ((mdY d).cls ≠ "java/lang/invoke/MethodHandle" ∧ (mdY d).cls ≠ "java/lang/invoke/VarHandle" ∧ (parseMethodDescriptor (mdY d).desc).map (fun z => z.parameters.length) = some (mdA d)) ∧ (mdY d).cls = fC (mdO d)
def iv0 (own idx : Nat) (d : pD) : Prop := pdP d ∧ own = mdO d ∧ Cond.methodLink (fC own) idx (mdY d) ∈ TBg ∧ Cond.static (mdY d) ∈ TBg
def iv1 (own idx : Nat) (d : pD) : Prop := pdP d ∧ Cond.methodLinkNest (fC own) idx (mdY d) "Raidhall" ∈ xW ∧ Cond.static (mdY d) ∈ TBg
def iv2 (own idx : Nat) (d : pD) : Prop := pdP d ∧ mdO d < 8 ∧ Cond.methodLink (fC own) idx (mdY d) ∈ TBg ∧ Cond.instanceMethod (mdY d) ∈ TBg ∧ Cond.selects (fC (mdO d)) (mdY d) (mdY d) ∈ TBg
def iv3 (own idx : Nat) (d : pD) : Prop := pdP d ∧ (mdY d).name = "<init>" ∧ mdR d = none ∧ Cond.methodLink (fC own) idx (mdY d) ∈ TBg ∧ Cond.instanceMethod (mdY d) ∈ TBg
def iv4 (own idx : Nat) (d : pD) : Prop := pdP d ∧ (mdY d).name = "<init>" ∧ mdR d = none ∧ Cond.methodLinkNest (fC own) idx (mdY d) "Raidhall" ∈ xW ∧ Cond.instanceMethod (mdY d) ∈ TBg
/-- there is room for the callee -/
def rmP (d d' : pD) : Prop := (mdM d').frames + 1 ≤ (mdM d).frames ∧ 8 + (mdL d' + 11) + (mdM d').locals ≤ (mdM d).locals
