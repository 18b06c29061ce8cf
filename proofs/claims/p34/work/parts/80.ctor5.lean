def rE (R : Nat → Nat → Option Nat) (i : Nat) : Nat → Nat → Option Nat := fun a b => if a = 1 ∨ ((3 ≤ a ∧ a < 29 + 6 * i) ∨ (a = 2 ∧ b < i)) then R0 a b else R a b
theorem rE_s (R : Nat → Nat → Option Nat) {i : Nat} (hi : i < 60) : up2 (rF (rE R i) (29 + 6 * i) (29 + 6 * i + 1) (29 + 6 * i + 6)) 2 i (some (29 + 6 * i)) = rE R (i + 1) := by
  funext a b
  by_cases e : a = 2 ∧ b = i
  · rw [e.1, e.2, up2_same]
    unfold rE
    rw [if_pos (by omega), ev_at hi]
  · rw [up2_ne _ _ (by omega)]
    by_cases e2 : 29 + 6 * i ≤ a ∧ a < 29 + 6 * i + 6
    · rw [rF_in (by omega)]
      unfold rE
      rw [if_pos (by omega)]
    · rw [rF_off (by omega)]
      unfold rE
      by_cases e3 : a = 1 ∨ ((3 ≤ a ∧ a < 29 + 6 * i) ∨ (a = 2 ∧ b < i))
      · rw [if_pos e3, if_pos (by omega)]
      · rw [if_neg e3, if_neg (by omega)]
theorem l_ev {Qr : Option Value → pM → Prop} {Qx : String → pM → Prop} {R : Nat → Nat → Option Nat} {V : Nat → Nat → Int32} (fin : okM (rE R 60) 389 V → Qr none (Mx (rE R 60) 389 V)) : ∀ m i, i + m = 60 → ∀ bc bs, 6 * m ≤ bc → 44 * m ≤ bs → okM (rE R i) (29 + 6 * i) V → WPs mX1_init Qr Qx 37 [(1, .int (nI i)), (0, .ref 1)] [] (Mx (rE R i) (29 + 6 * i) V) bc bs
  | 0, i, e, bc, bs, hb, hs, q => by
    have e' : i = 60 := by omega
    subst e'
    exact s_iload_n (x := nI 60) dX1_init_37 rfl (s_bipush (v := 60) dX1_init_38 rfl (s_icmp_ge (tgt := 62) dX1_init_40 rfl (fun _ => s_vret dX1_init_62 rfl (fin q)) (fun c => (c ((i_le _ _).mpr (Int.le_refl _))).elim)))
  | m + 1, i, e, bc, bs, hb, hs, q => by
    have hi : i < 60 := by omega
    have c1 : ¬ (60 : Int32) ≤ nI i := by rw [show (60 : Int32) = nI 60 from rfl, cle (by omega) (by omega)]; omega
    have hev : isEv (29 + 6 * i) := ev_of hi
    have hK : K0 (29 + 6 * i) = 2 := (ev_o hev).2
    have hL : ∀ r ∈ [((1 : Nat), Value.int (nI i)), (0, .ref 1)], ∀ k, r.2 = Value.ref k → k < 29 := by
      intro r hr k hk9
      simp only [List.mem_cons, List.not_mem_nil, or_false] at hr
      rcases hr with rfl | rfl
      · cases hk9
      · cases hk9
        decide
    have hS : ∀ v ∈ [Value.int (nI i), .ref 2], ∀ k, v = Value.ref k → k < 29 := by
      intro v hv k hk9
      simp only [List.mem_cons, List.not_mem_nil, or_false] at hv
      rcases hv with rfl | rfl
      · cases hk9
      · cases hk9
        decide
    refine s_iload_n (x := nI i) dX1_init_37 rfl (s_bipush (v := 60) dX1_init_38 rfl (s_icmp_ge (tgt := 62) dX1_init_40 rfl (fun c => (c1 c).elim) (fun _ => s_aload_n (x := 1) dX1_init_43 rfl (s_getR (r := 2) fl_1_11 dX1_init_44 (show 1 < 29 + 6 * i by omega) rfl rfl (show rE R i 1 0 = some 2 by unfold rE; rw [if_pos (by omega)]; rfl) (s_iload_n (x := nI i) dX1_init_47 rfl (s_newL (m0 := L0 (29 + 6 * i)) nw_1_9 dX1_init_48 (hR_of q) (show 29 + 6 * i < 1000 by omega) (rOK_in (fun r hr k hk9 => Nat.lt_of_lt_of_le (hL r hr k hk9) (Nat.le_add_right _ _)) (fun v hv k hk9 => Nat.lt_of_lt_of_le (hS v hv k hk9) (Nat.le_add_right _ _))) (by omega) (show 10 ≤ bs by omega) ?_))))))
    rw [Mx_new q hK rfl]
    refine s_dup dX1_init_51 rfl (s_callIN (h := 29 + 6 * i) (As := []) (st := [.ref (29 + 6 * i), .int (nI i), .ref 2]) iv_1_27 dX1_init_52 (by unfold rmP; decide) rfl (show 3 ≤ 8 by decide) (show 5 ≤ bc - 1 by omega) (show 34 ≤ bs - 10 by omega) (ci_2 hev (okM_le q (by omega)) (q.1 _ (Nat.le_refl _))) (c_go rfl (rOK_in (fun r hr k hk9 => ?_) (fun v hv k hk9 => ?_)) (fun q2 => s_aast (i := nI i) (r := 29 + 6 * i) (h := 2) dX1_init_55 (show 2 < 29 + 6 * i + 6 by omega) rfl (show vp_in (nI i) 60 from vp_in_nI hi (by omega)) (show 29 + 6 * i < 29 + 6 * i + 6 by omega) hK ?_)))
    · exact Nat.lt_of_lt_of_le (hL r hr k hk9) (by omega)
    · rcases List.mem_cons.mp hv with e9 | e9
      · subst e9
        cases hk9
        exact Nat.lt_succ_self _
      · exact Nat.lt_of_lt_of_le (hS v e9 k hk9) (by omega)
    · rw [ccl (by omega)]
      show WPs mX1_init Qr Qx (55 + 1) _ _ (Mx (up2 (rF (rE R i) (29 + 6 * i) (29 + 6 * i + 1) (29 + 6 * i + 6)) 2 i (some (29 + 6 * i))) (29 + 6 * i + 6) V) _ _
      have q3 := okM_put (j := i) (h := 2) (t := 29 + 6 * i) q2 (by omega) (by omega)
      rw [rE_s R hi] at q3 ⊢
      exact s_iinc (x := nI i) dX1_init_56 rfl (nI_s i) (by decide) (s_goto (tgt := 37) dX1_init_59 rfl (l_ev fin m (i + 1) (by omega) _ _ (show 6 * m ≤ bc - 1 - 5 by omega) (show 44 * m ≤ bs - 10 - 34 by omega) q3))
theorem ci_1 {R : Nat → Nat → Option Nat} {V : Nat → Nat → Int32} (q : okM R 2 V) (hR : R 1 = fun _ => none) : CI mX1_init 1 2 389 R V V := by
  have e60 : rE R 60 = rF R 1 2 389 := by
    funext a b
    unfold rE rF
    by_cases e : a = 1 ∨ ((3 ≤ a ∧ a < 29 + 6 * 60) ∨ (a = 2 ∧ b < 60))
    · rw [if_pos e, if_pos (by omega)]
    · rw [if_neg e]
      by_cases e2 : a = 2
      · rw [if_pos (by omega), e2, q.1 2 (Nat.le_refl _)]
        have e3 : ¬ b < 60 := by omega
        simp [R0, e3]
      · rw [if_neg (by omega)]
  unfold CI
  refine ct_of pX1_init (fun _ _ => rfl) (by decide) (s_aload_n (x := 1) dX1_init_0 rfl (s_objInit (d := mX1_init) (h := 1) (TBg_of (w := Cond.methodLink RX1 3 Lib.objectInit) (i := 62) (by decide +kernel) (by decide +kernel)) oi_2 oi_3 dX1_init_1 (by decide) (by decide) (by decide) ?_))
  refine s_aload_n (x := 1) dX1_init_4 rfl (s_bipush (v := 60) dX1_init_5 rfl (s_newE (N := 60) dX1_init_7 nw_1_9.2.1 (by decide) (by decide) (by decide) (hR_of q) (show 2 < 1000 by decide) (rOK_in (fun r hr k hk9 => ?_) (fun v hv k hk9 => ?_)) (by decide) (by decide) ?_))
  · have hr : r ∈ [((0 : Nat), Value.ref 1)] := hr
    rw [List.mem_singleton] at hr
    subst hr
    cases hk9
    exact (show 1 < 2 by decide)
  · rw [List.mem_singleton] at hv
    subst hv
    cases hk9
    exact (show 1 < 2 by decide)
  rw [Mx_new (k := 11) (m := 60) q rfl rfl]
  refine s_putR (r := 2) fl_1_11 dX1_init_10 (show 1 < 3 by decide) rfl rfl rfl ?_
  have q1 : okM (up2 R 1 0 (some 2)) 3 V := okM_put (okM_le q (by omega)) (by omega) (by omega)
  show WPs mX1_init _ _ 13 [(0, .ref 1)] [] (Mx (up2 R 1 0 (some 2)) 3 V) 386 2884
  refine c_obj (d' := mX4_init) (j := 1) (n' := 16) (Or.inr iv_1_19) q1 (by omega) (by omega) rfl rfl (by omega) dX1_init_13 dX1_init_14 nw_1_17 dX1_init_17 dX1_init_18 dX1_init_21 (by unfold rmP; decide) rfl (by decide) (by decide) rfl fl_1_20 rfl rfl (ci_4 mt_3 (okM_le q1 (by omega)) (q1.1 _ (Nat.le_refl _))) (fun q2 => ?_)
  refine c_obj (d' := mX4_init) (j := 2) (n' := 29) (Or.inr iv_1_19) q2 (by omega) (by omega) rfl rfl (by omega) dX1_init_24 dX1_init_25 nw_1_17 dX1_init_28 dX1_init_29 dX1_init_32 (by unfold rmP; decide) rfl (by decide) (by decide) rfl fl_1_24 rfl rfl (ci_4 mt_16 (okM_le q2 (by omega)) (q2.1 _ (Nat.le_refl _))) (fun q3 => ?_)
  have e0 : up2 (rF (up2 (rF (up2 R 1 0 (some 2)) 3 4 16) 1 1 (some 3)) 16 17 29) 1 2 (some 16) = rE R 0 := by
    funext a b
    by_cases e1 : a = 1
    · subst e1
      unfold rE
      rw [if_pos (Or.inl rfl)]
      by_cases e2 : b = 2
      · subst e2
        rw [up2_same]
        rfl
      · rw [up2_ne _ _ (Or.inr e2), rF_off (by omega)]
        by_cases e3 : b = 1
        · subst e3
          rw [up2_same]
          rfl
        · rw [up2_ne _ _ (Or.inr e3), rF_off (by omega)]
          by_cases e4 : b = 0
          · subst e4
            rw [up2_same]
            rfl
          · rw [up2_ne _ _ (Or.inr e4), hR]
            simp [R0, e2, e3, e4]
    · rw [up2_off _ _ _ e1]
      unfold rE
      by_cases e2 : 16 ≤ a ∧ a < 29
      · rw [rF_in (by omega), if_pos (by omega)]
      · rw [rF_off (by omega), up2_off _ _ _ e1]
        by_cases e3 : 3 ≤ a ∧ a < 16
        · rw [rF_in (by omega), if_pos (by omega)]
        · rw [rF_off (by omega), up2_off _ _ _ e1, if_neg (by omega)]
  rw [e0] at q3 ⊢
  refine s_iconst (v := 0) dX1_init_35 rfl (s_istore_n dX1_init_36 (by decide) ?_)
  exact l_ev (fun q4 => ⟨rfl, by rw [← e60], by rw [← e60]; exact q4⟩) 60 0 rfl _ _ (by decide) (by decide) q3
