/-! the world behind the constructors: what lies where -/
def K0 (h : Nat) : Nat := if h = 0 then 7 else if h = 1 then 1 else if h = 2 then 11 else if h = 3 ∨ h = 16 then 4 else if h = 4 ∨ h = 10 ∨ h = 17 ∨ h = 23 then 6 else if 29 ≤ h ∧ h < 389 ∧ (h - 29) % 6 = 0 then 2 else if h = 389 then 5 else if h = 391 then 3 else if h = 398 then 0 else 9
def L0 (h : Nat) : Nat := if h = 2 then 60 else if h < 29 then 10 else if h < 389 then (if (h - 29) % 6 ≤ 3 then 10 else 2) else if h = 390 then 60 else if h < 402 then 8 else 24
def isSide (h : Nat) : Prop := h = 4 ∨ h = 10 ∨ h = 17 ∨ h = 23
def isMats (h : Nat) : Prop := h = 3 ∨ h = 16
def isEv (h : Nat) : Prop := 29 ≤ h ∧ h < 389 ∧ (h - 29) % 6 = 0
def R0 (h j : Nat) : Option Nat :=
  if h = 0 then (if j = 0 then some 1 else if j = 1 then some 389 else if j = 2 then some 391 else if j = 3 then some 398 else none)
  else if h = 1 then (if j = 0 then some 2 else if j = 1 then some 3 else if j = 2 then some 16 else none)
  else if h = 2 then (if j < 60 then some (29 + 6 * j) else none)
  else if h = 3 ∨ h = 16 then (if j = 0 then some (h + 1) else if j = 1 then some (h + 7) else none)
  else if h = 4 ∨ h = 10 ∨ h = 17 ∨ h = 23 then (if j < 5 then some (h + 1 + j) else none)
  else if 29 ≤ h ∧ h < 389 ∧ (h - 29) % 6 = 0 then (if j < 5 then some (h + 1 + j) else none)
  else if h = 389 then (if j = 0 then some 390 else none)
  else if h = 391 then (if j < 6 then some (392 + j) else none)
  else if h = 398 then (if j < 6 then some (399 + j) else none)
  else none
def T0 (J : Nat → Nat → Int64) : pT := (R0, K0, L0, 405, J)
def objP (h ci : Nat) : Prop := h < 405 ∧ K0 h = ci
def arrP (a N : Nat) : Prop := a < 405 ∧ K0 a = 9 ∧ L0 a = N
theorem sd_o {h : Nat} (q : isSide h) : objP h 6 := by rcases q with rfl | rfl | rfl | rfl <;> (unfold objP; decide +kernel)
theorem sd_r {h : Nat} (q : isSide h) (j : Nat) (hj : j < 5) : R0 h j = some (h + 1 + j) := by
  rcases q with rfl | rfl | rfl | rfl <;> simp [R0, hj]
theorem sd_a {h : Nat} (q : isSide h) (j : Nat) (hj : j < 5) : arrP (h + 1 + j) 10 := by
  have : ∀ j, j < 5 → (arrP (4 + 1 + j) 10 ∧ arrP (10 + 1 + j) 10) ∧ arrP (17 + 1 + j) 10 ∧ arrP (23 + 1 + j) 10 := by
    unfold arrP
    decide +kernel
  have h1 := this j hj
  rcases q with rfl | rfl | rfl | rfl
  · exact h1.1.1
  · exact h1.1.2
  · exact h1.2.1
  · exact h1.2.2
theorem mt_o {h : Nat} (q : isMats h) : objP h 4 := by rcases q with rfl | rfl <;> (unfold objP; decide +kernel)
theorem mt_r0 {h : Nat} (q : isMats h) : R0 h 0 = some (h + 1) := by rcases q with rfl | rfl <;> rfl
theorem mt_r1 {h : Nat} (q : isMats h) : R0 h 1 = some (h + 7) := by rcases q with rfl | rfl <;> rfl
theorem mt_s0 {h : Nat} (q : isMats h) : isSide (h + 1) := by rcases q with rfl | rfl <;> simp [isSide]
theorem mt_s1 {h : Nat} (q : isMats h) : isSide (h + 7) := by rcases q with rfl | rfl <;> simp [isSide]
theorem ev_o {h : Nat} (q : isEv h) : objP h 2 := by
  obtain ⟨h1, h2, h3⟩ := q
  refine ⟨by omega, ?_⟩
  unfold K0
  rw [if_neg (by omega), if_neg (by omega), if_neg (by omega), if_neg (by omega), if_neg (by omega), if_pos ⟨h1, h2, h3⟩]
theorem ev_r {h : Nat} (q : isEv h) (j : Nat) (hj : j < 5) : R0 h j = some (h + 1 + j) := by
  obtain ⟨h1, h2, h3⟩ := q
  unfold R0
  rw [if_neg (by omega), if_neg (by omega), if_neg (by omega), if_neg (by omega), if_neg (by omega), if_pos ⟨h1, h2, h3⟩, if_pos hj]
theorem ev_k {h : Nat} (q : isEv h) (j : Nat) (hj : j < 5) : h + 1 + j < 405 ∧ K0 (h + 1 + j) = 9 := by
  obtain ⟨h1, h2, h3⟩ := q
  refine ⟨by omega, ?_⟩
  unfold K0
  rw [if_neg (by omega), if_neg (by omega), if_neg (by omega), if_neg (by omega), if_neg (by omega), if_neg (by omega), if_neg (by omega), if_neg (by omega), if_neg (by omega)]
theorem ev_a {h : Nat} (q : isEv h) (j : Nat) (hj : j < 3) : arrP (h + 1 + j) 10 := by
  obtain ⟨e1, e2⟩ := ev_k q j (by omega)
  obtain ⟨h1, h2, h3⟩ := q
  refine ⟨e1, e2, ?_⟩
  unfold L0
  rw [if_neg (by omega), if_neg (by omega), if_pos (by omega), if_pos (by omega)]
theorem ev_b {h : Nat} (q : isEv h) (j : Nat) (hj : j = 3 ∨ j = 4) : arrP (h + 1 + j) 2 := by
  obtain ⟨e1, e2⟩ := ev_k q j (by omega)
  obtain ⟨h1, h2, h3⟩ := q
  refine ⟨e1, e2, ?_⟩
  unfold L0
  rw [if_neg (by omega), if_neg (by omega), if_pos (by omega), if_neg (by omega)]
theorem ev_of {k : Nat} (h : k < 60) : isEv (29 + 6 * k) := ⟨by omega, by omega, by omega⟩
theorem ev_at {k : Nat} (h : k < 60) : R0 2 k = some (29 + 6 * k) := by simp [R0, h]
def bI (b : Bool) : Int32 := if b then 1 else 0
theorem bI_01 (b : Bool) : bI b = 0 ∨ bI b = 1 := by cases b <;> simp [bI]
theorem bI_f {b : Bool} (h : bI b = 0) : b = false := by cases b <;> simp_all [bI]
theorem bI_t {b : Bool} (h : ¬ bI b = 0) : b = true := by cases b <;> simp_all [bI]
theorem vp_of {i : Int32} {n : Nat} (h : ¬ (i < 0 ∨ n ≤ i.toNatClampNeg)) : vp_in i n := h
/-- a contract in the world as it is behind the constructors -/
def CTc (J : Nat → Nat → Int64) (d : pD) (as : List Value) (V : Nat → Nat → Int32) (Qr : Option Value → (Nat → Nat → Int32) → Prop) (Qx : String → (Nat → Nat → Int32) → Prop) : Prop :=
  CT d as (T0 J, V) (fun v M => M.1 = T0 J ∧ Qr v M.2) (fun E M => M.1 = T0 J ∧ Qx E M.2)
abbrev WPc (J : Nat → Nat → Int64) (d : pD) (Qr : Option Value → (Nat → Nat → Int32) → Prop) (Qx : String → (Nat → Nat → Int32) → Prop) (pc : Nat) (L : List (Nat × Value)) (st : List Value) (V : Nat → Nat → Int32) (bc bs : Nat) : Prop :=
  WPs d (fun v M => M.1 = T0 J ∧ Qr v M.2) (fun E M => M.1 = T0 J ∧ Qx E M.2) pc L st (T0 J, V) bc bs
theorem CTc_mono {J : Nat → Nat → Int64} {d : pD} {as : List Value} {V : Nat → Nat → Int32} {Qr Qr' : Option Value → (Nat → Nat → Int32) → Prop} {Qx Qx' : String → (Nat → Nat → Int32) → Prop} (h : CTc J d as V Qr Qx) (hr : ∀ v V', Qr v V' → Qr' v V') (hx : ∀ E V', Qx E V' → Qx' E V') : CTc J d as V Qr' Qx' :=
  ct_mono h (fun v M' q => ⟨q.1, hr v M'.2 q.2⟩) (fun E M' q => ⟨q.1, hx E M'.2 q.2⟩)
theorem CTc_nx {J : Nat → Nat → Int64} {d : pD} {as : List Value} {V : Nat → Nat → Int32} {Qr Qr' : Option Value → (Nat → Nat → Int32) → Prop} {Qx' : String → (Nat → Nat → Int32) → Prop} (h : CTc J d as V Qr (fun _ _ => False)) (hr : ∀ v V', Qr v V' → Qr' v V') : CTc J d as V Qr' Qx' :=
  CTc_mono h hr (fun _ _ q => q.elim)
theorem rOK_same {L : List (Nat × Value)} {st : List Value} {n : Nat} : rOK L st n n := fun k _ => Nat.lt_or_ge k n
theorem strong {P : Nat → Prop} (h : ∀ n, (∀ m, m < n → P m) → P n) : ∀ n, P n := fun n => Nat.strongRecOn n h
section TRows
variable {J : Nat → Nat → Int64} {d : pD} {Qr : Option Value → (Nat → Nat → Int32) → Prop} {Qx : String → (Nat → Nat → Int32) → Prop} {pc idx : Nat} {L L' : List (Nat × Value)} {st : List Value} {V : Nat → Nat → Int32} {bc bs : Nat}
theorem t_loc (ks : List Nat) (h : ks.filterMap (fun k => L[k]?) = L') (k : WPc J d Qr Qx pc L' st V bc bs) : WPc J d Qr Qx pc L st V bc bs := by
  refine s_loc (fun q hq => ?_) k
  subst h
  obtain ⟨i, -, hi⟩ := List.mem_filterMap.mp hq
  exact List.mem_of_getElem? hi
theorem t_getI {ci j nest h : Nat} (hf : fldP (mdO d) idx ci j nest) (hd : decode (mdB d) pc = .ok (.getfield idx, 3)) (ho : objP h ci) (ht : isRT (fT ci j) = false) (k : WPc J d Qr Qx (pc + 3) L (.int (V h j) :: st) V bc bs) : WPc J d Qr Qx pc L (.ref h :: st) V bc bs := s_getI hf hd ho.1 ho.2 ht k
theorem t_getR {ci j nest h r : Nat} (hf : fldP (mdO d) idx ci j nest) (hd : decode (mdB d) pc = .ok (.getfield idx, 3)) (ho : objP h ci) (ht : isRT (fT ci j) = true) (hr : R0 h j = some r) (k : WPc J d Qr Qx (pc + 3) L (.ref r :: st) V bc bs) : WPc J d Qr Qx pc L (.ref h :: st) V bc bs := s_getR hf hd ho.1 ho.2 ht hr k
theorem t_putI {ci j nest h : Nat} {x : Int32} (hf : fldP (mdO d) idx ci j nest) (hd : decode (mdB d) pc = .ok (.putfield idx, 3)) (ho : objP h ci) (ht : fT ci j = .int ∨ (fT ci j = .boolean ∧ (x = 0 ∨ x = 1))) (k : WPc J d Qr Qx (pc + 3) L st (up2 V h j x) bc bs) : WPc J d Qr Qx pc L (.int x :: .ref h :: st) V bc bs := s_putI hf hd ho.1 ho.2 ht k
theorem t_iald {a N : Nat} {i : Int32} (hd : decode (mdB d) pc = .ok (.iaload, 1)) (ha : arrP a N) (hi : vp_in i N) (k : WPc J d Qr Qx (pc + 1) L (.int (V a i.toNatClampNeg) :: st) V bc bs) : WPc J d Qr Qx pc L (.int i :: .ref a :: st) V bc bs := s_iald hd ha.1 ha.2.1 (by rw [show pL (T0 J, V) a = N from ha.2.2]; exact hi) k
theorem t_iast {a N : Nat} {i x : Int32} (hd : decode (mdB d) pc = .ok (.iastore, 1)) (ha : arrP a N) (hi : vp_in i N) (k : WPc J d Qr Qx (pc + 1) L st (up2 V a i.toNatClampNeg x) bc bs) : WPc J d Qr Qx pc L (.int x :: .int i :: .ref a :: st) V bc bs := s_iast hd ha.1 ha.2.1 (by rw [show pL (T0 J, V) a = N from ha.2.2]; exact hi) k
theorem t_aald {i : Int32} (hd : decode (mdB d) pc = .ok (.aaload, 1)) (hi : vp_in i 60) (k : WPc J d Qr Qx (pc + 1) L (.ref (29 + 6 * i.toNatClampNeg) :: st) V bc bs) : WPc J d Qr Qx pc L (.int i :: .ref 2 :: st) V bc bs := by
  have hl : i.toNatClampNeg < 60 := by
    rcases Nat.lt_or_ge i.toNatClampNeg 60 with h | h
    · exact h
    · exact (hi (Or.inr h)).elim
  exact s_aald hd (by show 2 < 405; decide) rfl hi (ev_at hl) k
theorem vp_lt {i : Int32} {n : Nat} (h : vp_in i n) : i.toNatClampNeg < n := by
  rcases Nat.lt_or_ge i.toNatClampNeg n with q | q
  · exact q
  · exact (h (Or.inr q)).elim
theorem t_istore_n {k0 : Fin 4} {x : Int32} (hd : decode (mdB d) pc = .ok (.istore_n k0, 1)) (hn : (k0 : Nat) < mdL d) (hL : lset (k0 : Nat) (.int x) L = L') (k : WPc J d Qr Qx (pc + 1) L' st V bc bs) : WPc J d Qr Qx pc L (.int x :: st) V bc bs := by subst hL; exact s_istore_n hd hn k
theorem t_istore {i : Nat} {x : Int32} (hd : decode (mdB d) pc = .ok (.istore i, 2)) (hn : i < mdL d) (hL : lset i (.int x) L = L') (k : WPc J d Qr Qx (pc + 2) L' st V bc bs) : WPc J d Qr Qx pc L (.int x :: st) V bc bs := by subst hL; exact s_istore hd hn k
theorem t_astore_n {k0 : Fin 4} {x : Nat} (hd : decode (mdB d) pc = .ok (.astore_n k0, 1)) (hn : (k0 : Nat) < mdL d) (hL : lset (k0 : Nat) (.ref x) L = L') (k : WPc J d Qr Qx (pc + 1) L' st V bc bs) : WPc J d Qr Qx pc L (.ref x :: st) V bc bs := by subst hL; exact s_astore_n hd hn k
theorem t_astore {i : Nat} {x : Nat} (hd : decode (mdB d) pc = .ok (.astore i, 2)) (hn : i < mdL d) (hL : lset i (.ref x) L = L') (k : WPc J d Qr Qx (pc + 2) L' st V bc bs) : WPc J d Qr Qx pc L (.ref x :: st) V bc bs := by subst hL; exact s_astore hd hn k
theorem t_astore_nN {k0 : Fin 4} (hd : decode (mdB d) pc = .ok (.astore_n k0, 1)) (hn : (k0 : Nat) < mdL d) (hL : lset (k0 : Nat) .null L = L') (k : WPc J d Qr Qx (pc + 1) L' st V bc bs) : WPc J d Qr Qx pc L (.null :: st) V bc bs := by subst hL; exact s_astore_nN hd hn k
theorem t_astoreN {i : Nat} (hd : decode (mdB d) pc = .ok (.astore i, 2)) (hn : i < mdL d) (hL : lset i .null L = L') (k : WPc J d Qr Qx (pc + 2) L' st V bc bs) : WPc J d Qr Qx pc L (.null :: st) V bc bs := by subst hL; exact s_astoreN hd hn k
theorem t_lstore_n {k0 : Fin 4} {x : Int64} (hd : decode (mdB d) pc = .ok (.lstore_n k0, 1)) (hn : (k0 : Nat) + 1 < mdL d) (hL : lsetL (k0 : Nat) (.long x) L = L') (k : WPc J d Qr Qx (pc + 1) L' st V bc bs) : WPc J d Qr Qx pc L (.long x :: st) V bc bs := by subst hL; exact s_lstore_n hd hn k
theorem t_lstore {i : Nat} {x : Int64} (hd : decode (mdB d) pc = .ok (.lstore i, 2)) (hn : i + 1 < mdL d) (hL : lsetL i (.long x) L = L') (k : WPc J d Qr Qx (pc + 2) L' st V bc bs) : WPc J d Qr Qx pc L (.long x :: st) V bc bs := by subst hL; exact s_lstore hd hn k
theorem t_iinc {i : Nat} {n : Int} {x v : Int32} (hd : decode (mdB d) pc = .ok (.iinc i n, 3)) (hg : lget i L = some (.int x)) (hv : x + Int32.ofInt n = v) (hn : i < mdL d) (hL : lset i (.int v) L = L') (k : WPc J d Qr Qx (pc + 3) L' st V bc bs) : WPc J d Qr Qx pc L st V bc bs := by subst hL; exact s_iinc hd hg hv hn k
variable {d' : pD} {As : List Value} {Qr' : Option Value → (Nat → Nat → Int32) → Prop}
theorem t_go (hx : mdX d pc = fun _ => some none) (kk : ∀ v V', Qr' v V' → WPc J d Qr Qx (pc + 3) L (v.toList ++ st) V' (bc - (mdM d').cells) (bs - (mdM d').slots)) : pGo d d' (fun v M => M.1 = T0 J ∧ Qr v M.2) (fun E M => M.1 = T0 J ∧ Qx E M.2) pc L st (T0 J, V) bc bs (fun v M => M.1 = T0 J ∧ Qr' v M.2) (fun E M => M.1 = T0 J ∧ Qx E M.2) := by
  refine ⟨fun v M' hv => ?_, fun E M' hE => Or.inl ⟨by rw [hx], hE⟩⟩
  obtain ⟨T', V'⟩ := M'
  obtain ⟨h1, h2⟩ := hv
  dsimp only at h1
  subst h1
  exact ⟨rOK_same, kk v V' h2⟩
theorem t_cS (hi : iv0 (mdO d) idx d') (hd : decode (mdB d) pc = .ok (.invokestatic idx, 3)) (hrm : rmP d d') (hn : As.length = mdA d') (hst : (st.map fun v => v.category).sum ≤ 8) (hb : (mdM d').cells ≤ bc) (hs : (mdM d').slots ≤ bs) (hx : mdX d pc = fun _ => some none) (hM : CTc J d' As V Qr' Qx) (kk : ∀ v V', Qr' v V' → WPc J d Qr Qx (pc + 3) L (v.toList ++ st) V' (bc - (mdM d').cells) (bs - (mdM d').slots)) : WPc J d Qr Qx pc L (As.reverse ++ st) V bc bs := s_callS hi hd hrm hn hst hb hs hM (t_go hx kk)
theorem t_cN (hi : iv1 (mdO d) idx d') (hd : decode (mdB d) pc = .ok (.invokestatic idx, 3)) (hrm : rmP d d') (hn : As.length = mdA d') (hst : (st.map fun v => v.category).sum ≤ 8) (hb : (mdM d').cells ≤ bc) (hs : (mdM d').slots ≤ bs) (hx : mdX d pc = fun _ => some none) (hM : CTc J d' As V Qr' Qx) (kk : ∀ v V', Qr' v V' → WPc J d Qr Qx (pc + 3) L (v.toList ++ st) V' (bc - (mdM d').cells) (bs - (mdM d').slots)) : WPc J d Qr Qx pc L (As.reverse ++ st) V bc bs := s_callN hi hd hrm hn hst hb hs hM (t_go hx kk)
theorem t_cV {h : Nat} (hi : iv2 (mdO d) idx d') (hd : decode (mdB d) pc = .ok (.invokevirtual idx, 3)) (hrm : rmP d d') (hn : As.length = mdA d') (hst : (st.map fun v => v.category).sum ≤ 8) (hb : (mdM d').cells ≤ bc) (hs : (mdM d').slots ≤ bs) (hx : mdX d pc = fun _ => some none) (ho : objP h (mdO d')) (hM : CTc J d' (.ref h :: As) V Qr' Qx) (kk : ∀ v V', Qr' v V' → WPc J d Qr Qx (pc + 3) L (v.toList ++ st) V' (bc - (mdM d').cells) (bs - (mdM d').slots)) : WPc J d Qr Qx pc L (As.reverse ++ .ref h :: st) V bc bs := s_callV hi hd hrm hn hst hb hs ho.1 ho.2 hM (t_go hx kk)
theorem ctc_of {M : pM} (hp : pdP d) (hx : ∀ pc E, mdX d pc E = some none) (hl : (lg_sl As).length ≤ mdL d) (k : WPc J d Qr Qx 0 (lv_args 0 As) [] V (mdM d).cells (mdM d).slots) : CTc J d As V Qr Qx := ct_of hp hx hl k
end TRows
