section LP
variable {p : Program} {l : Launch} {e : Env} {s : State} {m : MethodId} {args : Array Value} {below : List Frame} {meth : Method} {c : Code} {G : gT} {ad0 : Nat → Nat} {M0 : pM} {A : Nat → Prop} {Z : State → Prop} {N : Nat} {xs : Nat → Int32}
theorem and31 (x : Int32) : ∃ k, k < 32 ∧ x &&& 31 = nI k := by
  refine ⟨(x &&& 31).toBitVec.toNat, ?_, ?_⟩
  · rw [Int32.toBitVec_and, BitVec.toNat_and]
    exact Nat.lt_of_le_of_lt Nat.and_le_right (by decide)
  · apply Int32.toBitVec_inj.mp
    show (x &&& 31).toBitVec = BitVec.ofNat 32 (x &&& 31).toBitVec.toNat
    exact BitVec.eq_of_toNat_eq (by rw [BitVec.toNat_ofNat, Nat.mod_eq_of_lt (BitVec.isLt _)])
theorem lim_gt {N i : Nat} (hN : N ≤ 3072) (hi : i < 100000) (h : ¬ (nI N - 6 < nI i)) : i + 6 ≤ N := by
  by_cases h6 : 6 ≤ N
  · rw [show (6 : Int32) = nI 6 from rfl, nI_sub h6, clt (by omega) (by omega)] at h
    omega
  · refine (h ?_).elim
    rw [i_lt, nI_toInt (by omega)]
    rcases (show N = 0 ∨ N = 1 ∨ N = 2 ∨ N = 3 ∨ N = 4 ∨ N = 5 by omega) with rfl | rfl | rfl | rfl | rfl | rfl
    · rw [show (nI 0 - 6 : Int32).toInt = -6 by decide]; omega
    · rw [show (nI 1 - 6 : Int32).toInt = -5 by decide]; omega
    · rw [show (nI 2 - 6 : Int32).toInt = -4 by decide]; omega
    · rw [show (nI 3 - 6 : Int32).toInt = -3 by decide]; omega
    · rw [show (nI 4 - 6 : Int32).toInt = -2 by decide]; omega
    · rw [show (nI 5 - 6 : Int32).toInt = -1 by decide]; omega
theorem law_case {i B m9 bc bs : Nat} {J : Nat → Nat → Int64} {V : Mem} {q : LSt} (F : SC N xs s G A) (hi : i + 6 ≤ N) (hN : N ≤ 3072) (I : clS V q) (R : rfS V q) (hB : bddL q.2.2.1 B) (hB9 : B ≤ 1000000000) (hbc : 10 * m9 + 10 ≤ bc) (hbs : 60 * m9 + 60 ≤ bs) (K : ∀ (J' : Nat → Nat → Int64) (V' : Mem) (q' : LSt) (bc' bs' : Nat), clS V' q' → rfS V' q' → bddL q'.2.2.1 (B + 400000) → 10 * m9 ≤ bc' → 60 * m9 ≤ bs' → WLs p l e s m args below meth c G ad0 M0 A Z mL_law 2129 (Ln i) [] (T0 J', V') bc' bs') : ∀ k, k < 32 → WLs p l e s m args below meth c G ad0 M0 A Z mL_law 40 (Ln i) [.int (nI k)] (T0 J, V) bc bs
  | 0, _ => q_tabI (off := 140) (tgt := 180) dL_law_40 (by decide) (by decide) (by decide) rfl (cs_begin F hi hN I R hB hB9 hbc hbs K)
  | 1, _ => q_tabI (off := 220) (tgt := 260) dL_law_40 (by decide) (by decide) (by decide) rfl (cs_raid F hi hN I R hB hB9 hbc hbs K)
  | 2, _ => q_tabI (off := 276) (tgt := 316) dL_law_40 (by decide) (by decide) (by decide) rfl (cs_step F hi hN I R hB hB9 hbc hbs K)
  | 3, _ => q_tabI (off := 356) (tgt := 396) dL_law_40 (by decide) (by decide) (by decide) rfl (cs_card F hi hN I R hB hB9 hbc hbs K)
  | 4, _ => q_tabI (off := 436) (tgt := 476) dL_law_40 (by decide) (by decide) (by decide) rfl (cs_change F hi hN I R hB hB9 hbc hbs K)
  | 5, _ => q_tabI (off := 516) (tgt := 556) dL_law_40 (by decide) (by decide) (by decide) rfl (cs_review F hi hN I R hB hB9 hbc hbs K)
  | 6, _ => q_tabI (off := 620) (tgt := 660) dL_law_40 (by decide) (by decide) (by decide) rfl (cs_wouldFall F hi hN I R hB hB9 hbc hbs K)
  | 7, _ => q_tabI (off := 712) (tgt := 752) dL_law_40 (by decide) (by decide) (by decide) rfl (cs_takeBack F hi hN I R hB hB9 hbc hbs K)
  | 8, _ => q_tabI (off := 768) (tgt := 808) dL_law_40 (by decide) (by decide) (by decide) rfl (cs_enter F hi hN I R hB hB9 hbc hbs K)
  | 9, _ => q_tabI (off := 812) (tgt := 852) dL_law_40 (by decide) (by decide) (by decide) rfl (cs_type F hi hN I R hB hB9 hbc hbs K)
  | 10, _ => q_tabI (off := 868) (tgt := 908) dL_law_40 (by decide) (by decide) (by decide) rfl (cs_clear F hi hN I R hB hB9 hbc hbs K)
  | 11, _ => q_tabI (off := 881) (tgt := 921) dL_law_40 (by decide) (by decide) (by decide) rfl (cs_fault F hi hN I R hB hB9 hbc hbs K)
  | 12, _ => q_tabI (off := 894) (tgt := 934) dL_law_40 (by decide) (by decide) (by decide) rfl (cs_run F hi hN I R hB hB9 hbc hbs K)
  | 13, _ => q_tabI (off := 938) (tgt := 978) dL_law_40 (by decide) (by decide) (by decide) rfl (cs_player F hi hN I R hB hB9 hbc hbs K)
  | 14, _ => q_tabI (off := 1006) (tgt := 1046) dL_law_40 (by decide) (by decide) (by decide) rfl (cs_out F hi hN I R hB hB9 hbc hbs K)
  | 15, _ => q_tabI (off := 1074) (tgt := 1114) dL_law_40 (by decide) (by decide) (by decide) rfl (cs_next F hi hN I R hB hB9 hbc hbs K)
  | 16, _ => q_tabI (off := 1130) (tgt := 1170) dL_law_40 (by decide) (by decide) (by decide) rfl (cs_points F hi hN I R hB hB9 hbc hbs K)
  | 17, _ => q_tabI (off := 1186) (tgt := 1226) dL_law_40 (by decide) (by decide) (by decide) rfl (cs_match F hi hN I R hB hB9 hbc hbs K)
  | 18, _ => q_tabI (off := 1242) (tgt := 1282) dL_law_40 (by decide) (by decide) (by decide) rfl (cs_hasReview F hi hN I R hB hB9 hbc hbs K)
  | 19, _ => q_tabI (off := 1305) (tgt := 1345) dL_law_40 (by decide) (by decide) (by decide) rfl (cs_matAfter F hi hN I R hB hB9 hbc hbs K)
  | 20, _ => q_tabI (off := 1373) (tgt := 1413) dL_law_40 (by decide) (by decide) (by decide) rfl (cs_matAnew F hi hN I R hB hB9 hbc hbs K)
  | 21, _ => q_tabI (off := 1441) (tgt := 1481) dL_law_40 (by decide) (by decide) (by decide) rfl (cs_pointsAfter F hi hN I R hB hB9 hbc hbs K)
  | 22, _ => q_tabI (off := 1509) (tgt := 1549) dL_law_40 (by decide) (by decide) (by decide) rfl (cs_raidPoints F hi hN I R hB hB9 hbc hbs K)
  | 23, _ => q_tabI (off := 1577) (tgt := 1617) dL_law_40 (by decide) (by decide) (by decide) rfl (cs_club F hi hN I R hB hB9 hbc hbs K)
  | 24, _ => q_tabI (off := 1645) (tgt := 1685) dL_law_40 (by decide) (by decide) (by decide) rfl (cs_right F hi hN I R hB hB9 hbc hbs K)
  | 25, _ => q_tabI (off := 1713) (tgt := 1753) dL_law_40 (by decide) (by decide) (by decide) rfl (cs_call F hi hN I R hB hB9 hbc hbs K)
  | 26, _ => q_tabI (off := 1769) (tgt := 1809) dL_law_40 (by decide) (by decide) (by decide) rfl (cs_bid F hi hN I R hB hB9 hbc hbs K)
  | 27, _ => q_tabI (off := 1837) (tgt := 1877) dL_law_40 (by decide) (by decide) (by decide) rfl (cs_hammer F hi hN I R hB hB9 hbc hbs K)
  | 28, _ => q_tabI (off := 1881) (tgt := 1921) dL_law_40 (by decide) (by decide) (by decide) rfl (cs_answer F hi hN I R hB hB9 hbc hbs K)
  | 29, _ => q_tabI (off := 1953) (tgt := 1993) dL_law_40 (by decide) (by decide) (by decide) rfl (cs_lot F hi hN I R hB hB9 hbc hbs K)
  | 30, _ => q_tabI (off := 2021) (tgt := 2061) dL_law_40 (by decide) (by decide) (by decide) rfl (cs_squad F hi hN I R hB hB9 hbc hbs K)
  | 31, _ => q_tabO (tgt := 2129) dL_law_40 (Or.inr (by decide)) rfl (K J V q bc bs I R (bddL_m hB) (by omega) (by omega))
  | n + 32, h => absurd h (by omega)
theorem law_loop (F : SC N xs s G A) (hN : N ≤ 3072) (E : ∀ (L : List (Nat × Value)) (M : pM) (bc bs : Nat), WLs p l e s m args below meth c G ad0 M0 A Z mL_law 2136 L [.int 1] M bc bs) : ∀ m9 i B, i < 90000 → N < i + 6 + 6 * m9 → B + 400000 * m9 ≤ 1000000000 → ∀ (J : Nat → Nat → Int64) (V : Mem) (q : LSt) (bc bs : Nat), clS V q → rfS V q → bddL q.2.2.1 B → 10 * m9 ≤ bc → 60 * m9 ≤ bs → WLs p l e s m args below meth c G ad0 M0 A Z mL_law 23 (Ln i) [] (T0 J, V) bc bs
  | 0, i, B, h9, hm, hB9, J, V, q, bc, bs, I, R, hB, hbc, hbs => q_iload (x := nI i) dL_law_23 rfl (q_aload_n (x := 1150) dL_law_25 rfl (q_slen F dL_law_26 (q_bipush (v := 6) dL_law_27 rfl (q_isub dL_law_29 (q_icmp_gt (tgt := 2135) dL_law_30 rfl (fun _ => q_iconst (v := 1) dL_law_2135 rfl (E _ _ _ _)) (fun z => (by have := lim_gt hN (by omega) z; omega)))))))
  | m9 + 1, i, B, h9, hm, hB9, J, V, q, bc, bs, I, R, hB, hbc, hbs => by
    refine q_iload (x := nI i) dL_law_23 rfl (q_aload_n (x := 1150) dL_law_25 rfl (q_slen F dL_law_26 (q_bipush (v := 6) dL_law_27 rfl (q_isub dL_law_29 (q_icmp_gt (tgt := 2135) dL_law_30 rfl (fun _ => q_iconst (v := 1) dL_law_2135 rfl (E _ _ _ _)) (fun z => ?_))))))
    have hi := lim_gt hN (by omega) z
    refine q_aload_n (x := 1150) dL_law_33 rfl (q_iload (x := nI i) dL_law_34 rfl (q_sld F (vp_in_nI (show i < N by omega) (by omega)) dL_law_36 ?_))
    rw [ccl (by omega)]
    refine q_bipush (v := 31) dL_law_37 rfl (q_iand dL_law_39 ?_)
    obtain ⟨k, hk, ek⟩ := and31 (xs i)
    rw [ek]
    exact law_case (m9 := m9) F hi hN I R hB (by omega) (by omega) (by omega) (fun J' V' q' bc' bs' I' R' hB' h1 h2 => q_iinc (x := nI i) (v := nI (i + 6)) dL_law_2129 rfl (Int32.ofNat_add i 6).symm (by decide) (q_goto (tgt := 23) dL_law_2132 rfl (law_loop F hN E m9 (i + 6) (B + 400000) (by omega) (by omega) (by omega) J' V' q' bc' bs' I' R' hB' h1 h2))) k hk
end LP
