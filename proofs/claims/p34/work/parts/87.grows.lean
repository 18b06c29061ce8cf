/-! the law's own methods: rows -/
/-- from every memory that is such, with room for so many calls, the body comes to an end that is such -/
def QW {σ : Type} (P : σ → pM → Prop) (R : Int32 → σ → Prop) : Option Value → pM → Prop := fun v B => ∃ x s, v = some (.int x) ∧ R x s ∧ P s B
def WG {σ : Type} (d : pD) (P : σ → pM → Prop) (R : Int32 → σ → Prop) (pc : Nat) (L : List (Nat × Value)) (st : List Value) (s : σ) (nb : Nat) : Prop := ∀ B, P s B → WPs d (QW P R) NXl pc L st B (5 * nb) (30 * nb)
section GRows
variable {σ : Type} {d d' : pD} {P : σ → pM → Prop} {R : Int32 → σ → Prop} {pc idx : Nat} {L L' : List (Nat × Value)} {st As : List Value} {s s' : σ} {nb : Nat}
theorem g_bud {n' : Nat} (h : n' ≤ nb) (k : WG d P R pc L st s n') : WG d P R pc L st s nb := fun B hB => s_bud (by omega) (by omega) (k B hB)
theorem g_loc {L' : List (Nat × Value)} (h : ∀ q ∈ L', q ∈ L) (k : WG d P R pc L' st s nb) : WG d P R pc L st s nb := fun B hB => s_loc h (k B hB)
theorem g_iconst {n : Int} {v : Int32} (hd : decode (mdB d) pc = .ok (.iconst n, 1)) (hv : Int32.ofInt n = v) (k : WG d P R (pc + 1) L (.int v :: st) s nb) : WG d P R pc L st s nb := fun B hB => s_iconst hd hv (k B hB)
theorem g_bipush {n : Int} {v : Int32} (hd : decode (mdB d) pc = .ok (.bipush n, 2)) (hv : (Int8.ofInt n).toInt32 = v) (k : WG d P R (pc + 2) L (.int v :: st) s nb) : WG d P R pc L st s nb := fun B hB => s_bipush hd hv (k B hB)
theorem g_sipush {n : Int} {v : Int32} (hd : decode (mdB d) pc = .ok (.sipush n, 3)) (hv : (Int16.ofInt n).toInt32 = v) (k : WG d P R (pc + 3) L (.int v :: st) s nb) : WG d P R pc L st s nb := fun B hB => s_sipush hd hv (k B hB)
theorem g_ldc {v : Int32} (h : Cond.constant (fC (mdO d)) idx v ∈ TBg) (hd : decode (mdB d) pc = .ok (.ldc idx, 2)) (k : WG d P R (pc + 2) L (.int v :: st) s nb) : WG d P R pc L st s nb := fun B hB => s_ldc h hd (k B hB)
theorem g_iadd {x y : Int32} (hd : decode (mdB d) pc = .ok (.iadd, 1)) (k : WG d P R (pc + 1) L (.int (x + y) :: st) s nb) : WG d P R pc L (.int y :: .int x :: st) s nb := fun B hB => s_iadd hd (k B hB)
theorem g_isub {x y : Int32} (hd : decode (mdB d) pc = .ok (.isub, 1)) (k : WG d P R (pc + 1) L (.int (x - y) :: st) s nb) : WG d P R pc L (.int y :: .int x :: st) s nb := fun B hB => s_isub hd (k B hB)
theorem g_imul {x y : Int32} (hd : decode (mdB d) pc = .ok (.imul, 1)) (k : WG d P R (pc + 1) L (.int (x * y) :: st) s nb) : WG d P R pc L (.int y :: .int x :: st) s nb := fun B hB => s_imul hd (k B hB)
theorem g_idiv {x y : Int32} (hd : decode (mdB d) pc = .ok (.idiv, 1)) (hne : ¬ y = 0) (k : WG d P R (pc + 1) L (.int (x / y) :: st) s nb) : WG d P R pc L (.int y :: .int x :: st) s nb := fun B hB => s_idiv hd hne (k B hB)
theorem g_irem {x y : Int32} (hd : decode (mdB d) pc = .ok (.irem, 1)) (hne : ¬ y = 0) (k : WG d P R (pc + 1) L (.int (x - x / y * y) :: st) s nb) : WG d P R pc L (.int y :: .int x :: st) s nb := fun B hB => s_irem hd hne (k B hB)
theorem g_iand {x y : Int32} (hd : decode (mdB d) pc = .ok (.iand, 1)) (k : WG d P R (pc + 1) L (.int (x &&& y) :: st) s nb) : WG d P R pc L (.int y :: .int x :: st) s nb := fun B hB => s_iand hd (k B hB)
theorem g_ior {x y : Int32} (hd : decode (mdB d) pc = .ok (.ior, 1)) (k : WG d P R (pc + 1) L (.int (x ||| y) :: st) s nb) : WG d P R pc L (.int y :: .int x :: st) s nb := fun B hB => s_ior hd (k B hB)
theorem g_ishl {x y : Int32} (hd : decode (mdB d) pc = .ok (.ishl, 1)) (k : WG d P R (pc + 1) L (.int (x <<< (y &&& 31)) :: st) s nb) : WG d P R pc L (.int y :: .int x :: st) s nb := fun B hB => s_ishl hd (k B hB)
theorem g_ishr {x y : Int32} (hd : decode (mdB d) pc = .ok (.ishr, 1)) (k : WG d P R (pc + 1) L (.int (x >>> (y &&& 31)) :: st) s nb) : WG d P R pc L (.int y :: .int x :: st) s nb := fun B hB => s_ishr hd (k B hB)
theorem g_dup2 {v w : Value} (hd : decode (mdB d) pc = .ok (.dup2, 1)) (hc : v.category = 1) (hc2 : w.category = 1) (k : WG d P R (pc + 1) L (v :: w :: v :: w :: st) s nb) : WG d P R pc L (v :: w :: st) s nb := fun B hB => s_dup2 hd hc hc2 (k B hB)
theorem g_iload {i : Nat} {x : Int32} (hd : decode (mdB d) pc = .ok (.iload i, 2)) (hl : lget i L = some (.int x)) (k : WG d P R (pc + 2) L (.int x :: st) s nb) : WG d P R pc L st s nb := fun B hB => s_iload hd hl (k B hB)
theorem g_iload_n {k0 : Fin 4} {x : Int32} (hd : decode (mdB d) pc = .ok (.iload_n k0, 1)) (hl : lget (k0 : Nat) L = some (.int x)) (k : WG d P R (pc + 1) L (.int x :: st) s nb) : WG d P R pc L st s nb := fun B hB => s_iload_n hd hl (k B hB)
theorem g_aload {i : Nat} {x : Nat} (hd : decode (mdB d) pc = .ok (.aload i, 2)) (hl : lget i L = some (.ref x)) (k : WG d P R (pc + 2) L (.ref x :: st) s nb) : WG d P R pc L st s nb := fun B hB => s_aload hd hl (k B hB)
theorem g_aload_n {k0 : Fin 4} {x : Nat} (hd : decode (mdB d) pc = .ok (.aload_n k0, 1)) (hl : lget (k0 : Nat) L = some (.ref x)) (k : WG d P R (pc + 1) L (.ref x :: st) s nb) : WG d P R pc L st s nb := fun B hB => s_aload_n hd hl (k B hB)
theorem g_istore {i : Nat} {x : Int32} (hd : decode (mdB d) pc = .ok (.istore i, 2)) (hn : i < mdL d) (k : WG d P R (pc + 2) (lset i (.int x) L) st s nb) : WG d P R pc L (.int x :: st) s nb := fun B hB => s_istore hd hn (k B hB)
theorem g_istore_n {k0 : Fin 4} {x : Int32} (hd : decode (mdB d) pc = .ok (.istore_n k0, 1)) (hn : (k0 : Nat) < mdL d) (k : WG d P R (pc + 1) (lset (k0 : Nat) (.int x) L) st s nb) : WG d P R pc L (.int x :: st) s nb := fun B hB => s_istore_n hd hn (k B hB)
theorem g_iinc {i : Nat} {n : Int} {x v : Int32} (hd : decode (mdB d) pc = .ok (.iinc i n, 3)) (hg : lget i L = some (.int x)) (hv : x + Int32.ofInt n = v) (hn : i < mdL d) (k : WG d P R (pc + 3) (lset i (.int v) L) st s nb) : WG d P R pc L st s nb := fun B hB => s_iinc hd hg hv hn (k B hB)
theorem g_goto {off : Int} {tgt : Nat} (hd : decode (mdB d) pc = .ok (.goto off, 3)) (ht : (pc : Int) + off = (tgt : Int)) (k : WG d P R tgt L st s nb) : WG d P R pc L st s nb := fun B hB => s_goto hd ht (k B hB)
theorem g_if_eq {x : Int32} {off : Int} {tgt : Nat} (hd : decode (mdB d) pc = .ok (.ifCond .eq off, 3)) (ht : (pc : Int) + off = (tgt : Int)) (kt : x = 0 → WG d P R tgt L st s nb) (kf : ¬ (x = 0) → WG d P R (pc + 3) L st s nb) : WG d P R pc L (.int x :: st) s nb := fun B hB => s_if_eq hd ht (fun z => kt z B hB) (fun z => kf z B hB)
theorem g_if_ne {x : Int32} {off : Int} {tgt : Nat} (hd : decode (mdB d) pc = .ok (.ifCond .ne off, 3)) (ht : (pc : Int) + off = (tgt : Int)) (kt : ¬ x = 0 → WG d P R tgt L st s nb) (kf : x = 0 → WG d P R (pc + 3) L st s nb) : WG d P R pc L (.int x :: st) s nb := fun B hB => s_if_ne hd ht (fun z => kt z B hB) (fun z => kf z B hB)
theorem g_if_lt {x : Int32} {off : Int} {tgt : Nat} (hd : decode (mdB d) pc = .ok (.ifCond .lt off, 3)) (ht : (pc : Int) + off = (tgt : Int)) (kt : x < 0 → WG d P R tgt L st s nb) (kf : ¬ (x < 0) → WG d P R (pc + 3) L st s nb) : WG d P R pc L (.int x :: st) s nb := fun B hB => s_if_lt hd ht (fun z => kt z B hB) (fun z => kf z B hB)
theorem g_if_ge {x : Int32} {off : Int} {tgt : Nat} (hd : decode (mdB d) pc = .ok (.ifCond .ge off, 3)) (ht : (pc : Int) + off = (tgt : Int)) (kt : 0 ≤ x → WG d P R tgt L st s nb) (kf : ¬ (0 ≤ x) → WG d P R (pc + 3) L st s nb) : WG d P R pc L (.int x :: st) s nb := fun B hB => s_if_ge hd ht (fun z => kt z B hB) (fun z => kf z B hB)
theorem g_if_gt {x : Int32} {off : Int} {tgt : Nat} (hd : decode (mdB d) pc = .ok (.ifCond .gt off, 3)) (ht : (pc : Int) + off = (tgt : Int)) (kt : 0 < x → WG d P R tgt L st s nb) (kf : ¬ (0 < x) → WG d P R (pc + 3) L st s nb) : WG d P R pc L (.int x :: st) s nb := fun B hB => s_if_gt hd ht (fun z => kt z B hB) (fun z => kf z B hB)
theorem g_if_le {x : Int32} {off : Int} {tgt : Nat} (hd : decode (mdB d) pc = .ok (.ifCond .le off, 3)) (ht : (pc : Int) + off = (tgt : Int)) (kt : x ≤ 0 → WG d P R tgt L st s nb) (kf : ¬ (x ≤ 0) → WG d P R (pc + 3) L st s nb) : WG d P R pc L (.int x :: st) s nb := fun B hB => s_if_le hd ht (fun z => kt z B hB) (fun z => kf z B hB)
theorem g_icmp_eq {x y : Int32} {off : Int} {tgt : Nat} (hd : decode (mdB d) pc = .ok (.if_icmp .eq off, 3)) (ht : (pc : Int) + off = (tgt : Int)) (kt : x = y → WG d P R tgt L st s nb) (kf : ¬ (x = y) → WG d P R (pc + 3) L st s nb) : WG d P R pc L (.int y :: .int x :: st) s nb := fun B hB => s_icmp_eq hd ht (fun z => kt z B hB) (fun z => kf z B hB)
theorem g_icmp_ne {x y : Int32} {off : Int} {tgt : Nat} (hd : decode (mdB d) pc = .ok (.if_icmp .ne off, 3)) (ht : (pc : Int) + off = (tgt : Int)) (kt : ¬ x = y → WG d P R tgt L st s nb) (kf : x = y → WG d P R (pc + 3) L st s nb) : WG d P R pc L (.int y :: .int x :: st) s nb := fun B hB => s_icmp_ne hd ht (fun z => kt z B hB) (fun z => kf z B hB)
theorem g_icmp_lt {x y : Int32} {off : Int} {tgt : Nat} (hd : decode (mdB d) pc = .ok (.if_icmp .lt off, 3)) (ht : (pc : Int) + off = (tgt : Int)) (kt : x < y → WG d P R tgt L st s nb) (kf : ¬ (x < y) → WG d P R (pc + 3) L st s nb) : WG d P R pc L (.int y :: .int x :: st) s nb := fun B hB => s_icmp_lt hd ht (fun z => kt z B hB) (fun z => kf z B hB)
theorem g_icmp_ge {x y : Int32} {off : Int} {tgt : Nat} (hd : decode (mdB d) pc = .ok (.if_icmp .ge off, 3)) (ht : (pc : Int) + off = (tgt : Int)) (kt : y ≤ x → WG d P R tgt L st s nb) (kf : ¬ (y ≤ x) → WG d P R (pc + 3) L st s nb) : WG d P R pc L (.int y :: .int x :: st) s nb := fun B hB => s_icmp_ge hd ht (fun z => kt z B hB) (fun z => kf z B hB)
theorem g_icmp_gt {x y : Int32} {off : Int} {tgt : Nat} (hd : decode (mdB d) pc = .ok (.if_icmp .gt off, 3)) (ht : (pc : Int) + off = (tgt : Int)) (kt : y < x → WG d P R tgt L st s nb) (kf : ¬ (y < x) → WG d P R (pc + 3) L st s nb) : WG d P R pc L (.int y :: .int x :: st) s nb := fun B hB => s_icmp_gt hd ht (fun z => kt z B hB) (fun z => kf z B hB)
theorem g_icmp_le {x y : Int32} {off : Int} {tgt : Nat} (hd : decode (mdB d) pc = .ok (.if_icmp .le off, 3)) (ht : (pc : Int) + off = (tgt : Int)) (kt : x ≤ y → WG d P R tgt L st s nb) (kf : ¬ (x ≤ y) → WG d P R (pc + 3) L st s nb) : WG d P R pc L (.int y :: .int x :: st) s nb := fun B hB => s_icmp_le hd ht (fun z => kt z B hB) (fun z => kf z B hB)
theorem gt_loc (ks : List Nat) (h : ks.filterMap (fun k => L[k]?) = L') (k : WG d P R pc L' st s nb) : WG d P R pc L st s nb := by
  refine g_loc (fun q hq => ?_) k
  subst h
  obtain ⟨i, -, hi⟩ := List.mem_filterMap.mp hq
  exact List.mem_of_getElem? hi
theorem gt_istore_n {k0 : Fin 4} {x : Int32} (hd : decode (mdB d) pc = .ok (.istore_n k0, 1)) (hn : (k0 : Nat) < mdL d) (hL : lset (k0 : Nat) (.int x) L = L') (k : WG d P R (pc + 1) L' st s nb) : WG d P R pc L (.int x :: st) s nb := by subst hL; exact g_istore_n hd hn k
theorem gt_istore {i : Nat} {x : Int32} (hd : decode (mdB d) pc = .ok (.istore i, 2)) (hn : i < mdL d) (hL : lset i (.int x) L = L') (k : WG d P R (pc + 2) L' st s nb) : WG d P R pc L (.int x :: st) s nb := by subst hL; exact g_istore hd hn k
theorem gt_iinc {i : Nat} {m : Int} {x v : Int32} (hd : decode (mdB d) pc = .ok (.iinc i m, 3)) (hg : lget i L = some (.int x)) (hv : x + Int32.ofInt m = v) (hn : i < mdL d) (hL : lset i (.int v) L = L') (k : WG d P R (pc + 3) L' st s nb) : WG d P R pc L st s nb := by subst hL; exact g_iinc hd hg hv hn k
theorem g_iret {x : Int32} (hd : decode (mdB d) pc = .ok (.ireturn, 1)) (hr : mdR d = some .int ∨ (mdR d = some .boolean ∧ (x = 0 ∨ x = 1))) (q : R x s) : WG d P R pc L [.int x] s nb := fun _ hB => s_iret hd hr ⟨x, s, rfl, q, hB⟩
/-- what a predicate gives of a hall at b, and what it takes back -/
def useH (P : σ → pM → Prop) (s : σ) (b : Nat) (q : HS) : Prop := ∀ B, P s B → hallT B b ∧ refsOK B ∧ pN B ≤ 1000 ∧ clH (wn B b) q
def nextH (P : σ → pM → Prop) (s s' : σ) (b : Nat) (q' : HS) : Prop := ∀ B B', P s B → keepW B B' b → clH (wn B' b) q' → P s' B'
theorem g_does {b : Nat} {q q' : HS} {k : Nat} {x : Int32} (hu : useH P s b q) (hx : nextH P s s' b q') (ho : mdO d = 9) (hc : ∀ B, hallT B b → refsOK B → pN B ≤ 1000 → clH (wn B b) q → CT mL_does As B (dvR B b k x q') NXl) (hd : decode (mdB d) pc = .ok (.invokestatic 127, 3)) (hrm : rmP d mL_does) (hn : As.length = 7) (hst : (st.map fun v => v.category).sum ≤ 8) (hb : 1 ≤ nb) (kk : WG d P R (pc + 3) L (.int (dv k x) :: st) s' (nb - 1)) : WG d P R pc L (As.reverse ++ st) s nb := by
  intro B hB
  obtain ⟨u1, u2, u3, u4⟩ := hu B hB
  refine s_callSW (idx := 127) pLw_does ho (by rw [ho]; exact iw_9_127.1) iw_9_127.2 hd hrm hn hst (show 5 ≤ 5 * nb by omega) (show 30 ≤ 30 * nb by omega) (hc B u1 u2 u3 u4) (fun v M' hv => ?_) (fun _ _ z => z)
  obtain ⟨rfl, hk, hq⟩ := hv
  refine ⟨rOK_k hk, s_bud (bc' := 5 * (nb - 1)) (bs' := 30 * (nb - 1)) ?_ ?_ (kk M' (hx B M' hB hk hq))⟩
  · show 5 * (nb - 1) ≤ 5 * nb - 5
    omega
  · show 30 * (nb - 1) ≤ 30 * nb - 30
    omega
/-- a call of the class itself that tells, and cannot throw -/
theorem g_view {b : Nat} {q q' : HS} {As9 : List Value} {k : Nat} {x : Int32} {xs : List (Nat × String)} (hu : useH P s b q) (hx : nextH P s s' b q') (hi : iv2 (mdO d) idx d') (h7 : mdO d' = 7) (hc : OpB d' As9 xs q k x q') (hk0 : k = 0) (hX : mdX d pc = fun _ => some none) (hd : decode (mdB d) pc = .ok (.invokevirtual idx, 3)) (hrm : rmP d d') (hn : As9.length = mdA d') (hst : (st.map fun v => v.category).sum ≤ 8) (hc5 : (mdM d').cells ≤ 5) (hs30 : (mdM d').slots ≤ 30) (hb : 1 ≤ nb) (kk : WG d P R (pc + 3) L (.int x :: st) s' (nb - 1)) : WG d P R pc L (As9.reverse ++ .ref b :: st) s nb := by
  intro B hB
  obtain ⟨u1, u2, u3, u4⟩ := hu B hB
  refine s_callV hi hd hrm hn hst (by omega) (by omega) (hall_lt u1) (by rw [hall_k u1, h7]) (hc B b u1 u2 u3 u4) ⟨fun v M' hv => ?_, fun E M' hE => (hE.1 hk0).elim⟩
  obtain ⟨-, rfl, hk, hq⟩ := hv
  exact ⟨rOK_k hk, s_bud (bc' := 5 * (nb - 1)) (bs' := 30 * (nb - 1)) (by omega) (by omega) (kk M' (hx B M' hB hk hq))⟩
end GRows
/-- a number below another, out of any -/
def lowF (v n : Int32) : Int32 := (v &&& 2147483647) - (v &&& 2147483647) / n * n
theorem k_7 : Cond.constant (fC 9) 7 2147483647 ∈ TBg := TBg_of (w := Cond.constant (fC 9) 7 2147483647) (i := 316) (by decide +kernel) (by decide +kernel)
theorem low_ct {v n : Int32} (hn : ¬ n = 0) (B : pM) : CT mL_low [.int v, .int n] B (fun r B' => r = some (.int (lowF v n)) ∧ B' = B) NXl := by
  refine ct_of pL_low (fun _ _ => rfl) (show 2 ≤ 2 by decide) ?_
  exact s_iload_n (x := v) dL_low_0 rfl (s_ldc k_7 dL_low_1 (s_iand dL_low_3 (s_iload_n (x := n) dL_low_4 rfl (s_irem dL_low_5 hn (s_iret dL_low_6 (Or.inl rfl) ⟨rfl, rfl⟩)))))
theorem g_low {σ : Type} {d : pD} {P : σ → pM → Prop} {R : Int32 → σ → Prop} {pc : Nat} {L : List (Nat × Value)} {st : List Value} {s : σ} {m : Nat} {v n : Int32} (ho : mdO d = 9) (hX : mdX d pc = fun _ => some none) (hd : decode (mdB d) pc = .ok (.invokestatic 124, 3)) (hrm : rmP d mL_low) (hst : (st.map fun v => v.category).sum ≤ 8) (hn : ¬ n = 0) (kk : WG d P R (pc + 3) L (.int (lowF v n) :: st) s m) : WG d P R pc L (.int n :: .int v :: st) s m := by
  intro B hB
  refine s_callS (As := [.int v, .int n]) (st := st) (by rw [ho]; exact iv_9_124) hd hrm rfl hst (Nat.zero_le _) (Nat.zero_le _) (low_ct hn B) ⟨fun r M' hv => ?_, fun E M' hE => hE.elim⟩
  obtain ⟨rfl, rfl⟩ := hv
  exact ⟨rOK_same, kk M' hB⟩
theorem cell_ct {k : Int32} (h0 : 0 ≤ k.toInt) (B : pM) : CT mL_cell [.ref 1150, .int k] B (fun r B' => (∃ x, r = some (.int x)) ∧ B' = B) NXl := by
  refine ct_of pL_cell (fun _ _ => rfl) (show 2 ≤ 2 by decide) ?_
  refine s_iload_n (x := k) dL_cell_0 rfl (s_aload_n (x := 1150) dL_cell_1 rfl ?_)
  refine s_scr (off := 9) (tgt := 12) dL_cell_2 dL_cell_3 rfl dL_cell_6 dL_cell_7 dL_cell_8 rfl rfl h0 ?_ (fun x => s_goto (tgt := 27) dL_cell_9 rfl (s_iret dL_cell_27 (Or.inl rfl) ⟨⟨_, rfl⟩, rfl⟩))
  exact s_sipush (v := 7919) dL_cell_12 rfl (s_iload_n (x := k) dL_cell_15 rfl (s_sipush (v := 1709) dL_cell_16 rfl (s_iadd dL_cell_19 (s_imul dL_cell_20 (s_iload_n (x := k) dL_cell_21 rfl (s_sipush (v := 4231) dL_cell_22 rfl (s_iadd dL_cell_25 (s_imul dL_cell_26 (s_iret dL_cell_27 (Or.inl rfl) ⟨⟨_, rfl⟩, rfl⟩)))))))))

