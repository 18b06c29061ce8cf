/-! the law's cases -/
def Ln (i : Nat) : List (Nat × Value) := [(4, .int (nI i)), (3, .ref 427), (2, .ref 405), (1, .ref 0), (0, .ref 1150)]
section LC
variable {p : Program} {l : Launch} {e : Env} {s : State} {m : MethodId} {args : Array Value} {below : List Frame} {meth : Method} {c : Code} {G : gT} {ad0 : Nat → Nat} {M0 : pM} {A : Nat → Prop} {Z : State → Prop} {N : Nat} {xs : Nat → Int32}
theorem nI_ofI (k : Nat) : Int32.ofInt (k : Int) = nI k := rfl
theorem q_arg {i j pc : Nat} {L : List (Nat × Value)} {st : List Value} {M : pM} {bc bs : Nat} {d : pD} (F : SC N xs s G A) (hi : i + 6 ≤ N) (hN : N ≤ 3072) (hj : j < 6) (d0 : decode (mdB d) pc = .ok (.aload_n 0, 1)) (d1 : decode (mdB d) (pc + 1) = .ok (.iload 4, 2)) (d2 : decode (mdB d) (pc + 3) = .ok (.iconst (j : Int), 1)) (d3 : decode (mdB d) (pc + 4) = .ok (.iadd, 1)) (d4 : decode (mdB d) (pc + 5) = .ok (.iaload, 1)) (h0 : lget 0 L = some (.ref 1150)) (h4 : lget 4 L = some (.int (nI i)))
    (k : WLs p l e s m args below meth c G ad0 M0 A Z d (pc + 6) L (.int (xs (i + j)) :: st) M bc bs) : WLs p l e s m args below meth c G ad0 M0 A Z d pc L st M bc bs := by
  refine q_aload_n (x := 1150) d0 h0 (q_iload (x := nI i) d1 h4 (q_iconst (v := nI j) d2 rfl (q_iadd d3 ?_)))
  rw [nI_add]
  refine q_sld F (vp_in_nI (show i + j < N by omega) (by omega)) d4 ?_
  rw [ccl (by omega)]
  exact k
theorem q_ist {i pc : Nat} {x : Int32} {L L' : List (Nat × Value)} {st : List Value} {M : pM} {bc bs : Nat} {d : pD} (hd : decode (mdB d) pc = .ok (.istore i, 2)) (hn : i < mdL d) (hL : lset i (.int x) L = L') (k : WLs p l e s m args below meth c G ad0 M0 A Z d (pc + 2) L' st M bc bs) : WLs p l e s m args below meth c G ad0 M0 A Z d pc L (.int x :: st) M bc bs := by
  subst hL
  exact q_istore hd hn k
/-- the code is compared -/
theorem law_tail {t0 k : Nat} {o : Int} {L : List (Nat × Value)} {J : Nat → Nat → Int64} {V : Mem} {bc bs : Nat} (d0 : decode code t0 = .ok (.aload_n 2, 1)) (d1 : decode code (t0 + 1) = .ok (.invokevirtual 120, 3)) (d2 : decode code (t0 + 4) = .ok (.iload 5, 2)) (d3 : decode code (t0 + 6) = .ok (.if_icmp .eq 5, 3)) (d4 : decode code (t0 + 11) = .ok (.iload 5, 2)) (d5 : decode code (t0 + 13) = .ok (.ifCond .ne o, 3)) {te : Nat} (hte : ((t0 + 13 : Nat) : Int) + o = (te : Int))
    (h2 : lget 2 L = some (.ref 405)) (h5 : lget 5 L = some (.int (nI k))) (hk : k ≤ 3) (hth : V 405 0 = nI k) (K : WLs p l e s m args below meth c G ad0 M0 A Z mL_law te L [] (T0 J, V) bc bs) (K2 : k = 0 → WLs p l e s m args below meth c G ad0 M0 A Z mL_law (t0 + 16) L [] (T0 J, V) bc bs) : WLs p l e s m args below meth c G ad0 M0 A Z mL_law t0 L [] (T0 J, V) bc bs := by
  have hC : CTc J mX8_thrown [.ref 405] V (fun r V' => r = some (.int (nI k)) ∧ V' = V) NX := v_X8_thrown (by unfold F_X8_thrown; rw [hth]; exact ⟨rfl, rfl⟩)
  refine q_aload_n (x := 405) d0 h2 (q_callV (h := 405) (As := []) (st := []) iv_9_120 d1 (by unfold rmP; decide) rfl (show 0 ≤ 8 by decide) (Nat.zero_le _) (Nat.zero_le _) (show 405 < 428 by decide) rfl hC (fun v M' hv => ?_) (fun E M' z => z.2.elim))
  obtain ⟨T', V'⟩ := M'
  obtain ⟨hT, rfl, hV⟩ := hv
  dsimp only at hT hV
  subst hT
  subst hV
  refine ⟨rOK_same, q_iload (x := nI k) d2 h5 (q_icmp_eq (tgt := t0 + 11) d3 (by omega) (fun _ => q_iload (x := nI k) d4 h5 (q_if_ne (tgt := te) d5 (by omega) (fun _ => K) (fun z0 => K2 ?_))) (fun z0 => (z0 rfl).elim))⟩
  rcases (show k = 0 ∨ k = 1 ∨ k = 2 ∨ k = 3 by omega) with rfl | rfl | rfl | rfl
  · rfl
  · exact absurd z0 (by decide)
  · exact absurd z0 (by decide)
  · exact absurd z0 (by decide)
/-- .. and the answer -/
theorem law_same {t1 : Nat} {z : Int32} {L : List (Nat × Value)} {J : Nat → Nat → Int64} {V : Mem} {bc bs : Nat} (d0 : decode code t1 = .ok (.aload_n 3, 1)) (d1 : decode code (t1 + 1) = .ok (.iconst 0, 1)) (d2 : decode code (t1 + 2) = .ok (.laload, 1)) (d3 : decode code (t1 + 3) = .ok (.iload 6, 2)) (d4 : decode code (t1 + 5) = .ok (.i2l, 1)) (d5 : decode code (t1 + 6) = .ok (.lcmp, 1)) (d6 : decode code (t1 + 7) = .ok (.ifCond .eq 5, 3))
    (h3 : lget 3 L = some (.ref 427)) (h6 : lget 6 L = some (.int z)) (hJ : J 427 0 = z.toInt64) (K : WLs p l e s m args below meth c G ad0 M0 A Z mL_law (t1 + 12) L [] (T0 J, V) bc bs) : WLs p l e s m args below meth c G ad0 M0 A Z mL_law t1 L [] (T0 J, V) bc bs := by
  refine q_aload_n (x := 427) d0 h3 (q_iconst (v := 0) d1 rfl (q_lald (h := 427) d2 (show 427 < 428 by decide) rfl vp01 ?_))
  show WLs p l e s m args below meth c G ad0 M0 A Z mL_law (t1 + 2 + 1) L [.long (J 427 0)] (T0 J, V) bc bs
  rw [hJ]
  refine q_iload (x := z) d3 h6 (q_i2l d4 (q_lcmp d5 (q_if_eq (tgt := t1 + 12) d6 (by omega) (fun _ => K) (fun z0 => (z0 ?_).elim))))
  simp [lg_cmp]
end LC
