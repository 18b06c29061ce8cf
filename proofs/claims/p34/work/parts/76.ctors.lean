theorem oi_2 : Cond.instanceMethod Lib.objectInit ∈ TBg := TBg_of (w := Cond.instanceMethod Lib.objectInit) (i := 55) (by decide +kernel) (by decide +kernel)
theorem oi_3 : Cond.code Lib.objectInit ⟨#[0xb1]⟩ 1 none ∈ TBg := TBg_of (w := Cond.code Lib.objectInit ⟨#[0xb1]⟩ 1 none) (i := 56) (by decide +kernel) (by decide +kernel)
theorem ac_I : Cond.arrayClass .int ∈ TBg := TBg_of (w := Cond.arrayClass .int) (i := 110) (by decide +kernel) (by decide +kernel)
theorem nw_9_15 : newP 9 15 7 := ⟨by decide, TBg_of (w := Cond.classLink RL 15 RX7) (i := 49) (by decide +kernel) (by decide +kernel), TBg_of (w := Cond.instantiable RX7 4) (i := 50) (by decide +kernel) (by decide +kernel), TBg_of (w := Cond.initialized RX7) (i := 30) (by decide +kernel) (by decide +kernel)⟩
theorem nw_7_9 : newP 7 9 1 := ⟨by decide, TBg_of (w := Cond.classLink RX7 9 RX1) (i := 57) (by decide +kernel) (by decide +kernel), TBg_of (w := Cond.instantiable RX1 11) (i := 58) (by decide +kernel) (by decide +kernel), TBg_of (w := Cond.initialized RX1) (i := 31) (by decide +kernel) (by decide +kernel)⟩
theorem nw_1_9 : newP 1 9 2 := ⟨by decide, TBg_of (w := Cond.classLink RX1 9 RX2) (i := 63) (by decide +kernel) (by decide +kernel), TBg_of (w := Cond.instantiable RX2 10) (i := 125) (by decide +kernel) (by decide +kernel), TBg_of (w := Cond.initialized RX2) (i := 34) (by decide +kernel) (by decide +kernel)⟩
theorem nw_1_17 : newP 1 17 4 := ⟨by decide, TBg_of (w := Cond.classLink RX1 17 RX4) (i := 65) (by decide +kernel) (by decide +kernel), TBg_of (w := Cond.instantiable RX4 4) (i := 66) (by decide +kernel) (by decide +kernel), TBg_of (w := Cond.initialized RX4) (i := 32) (by decide +kernel) (by decide +kernel)⟩
theorem nw_4_9 : newP 4 9 6 := ⟨by decide, TBg_of (w := Cond.classLink RX4 9 RX6) (i := 71) (by decide +kernel) (by decide +kernel), TBg_of (w := Cond.instantiable RX6 9) (i := 72) (by decide +kernel) (by decide +kernel), TBg_of (w := Cond.initialized RX6) (i := 33) (by decide +kernel) (by decide +kernel)⟩
theorem nw_7_16 : newP 7 16 5 := ⟨by decide, TBg_of (w := Cond.classLink RX7 16 RX5) (i := 201) (by decide +kernel) (by decide +kernel), TBg_of (w := Cond.instantiable RX5 6) (i := 202) (by decide +kernel) (by decide +kernel), TBg_of (w := Cond.initialized RX5) (i := 35) (by decide +kernel) (by decide +kernel)⟩
theorem nw_7_23 : newP 7 23 3 := ⟨by decide, TBg_of (w := Cond.classLink RX7 23 RX3) (i := 229) (by decide +kernel) (by decide +kernel), TBg_of (w := Cond.instantiable RX3 6) (i := 230) (by decide +kernel) (by decide +kernel), TBg_of (w := Cond.initialized RX3) (i := 36) (by decide +kernel) (by decide +kernel)⟩
theorem nw_7_30 : newP 7 30 0 := ⟨by decide, TBg_of (w := Cond.classLink RX7 30 RX0) (i := 254) (by decide +kernel) (by decide +kernel), TBg_of (w := Cond.instantiable RX0 11) (i := 255) (by decide +kernel) (by decide +kernel), TBg_of (w := Cond.initialized RX0) (i := 37) (by decide +kernel) (by decide +kernel)⟩
theorem ci_3 {R : Nat → Nat → Option Nat} {V : Nat → Nat → Int32} (q : okM R 392 V) (hR : R 391 = fun _ => none) : CI mX3_init 391 392 398 R V V := by
  unfold CI
  refine ct_of pX3_init (fun _ _ => rfl) (by decide) (s_aload_n (x := 391) dX3_init_0 rfl (s_objInit (d := mX3_init) (h := 391) (TBg_of (w := Cond.methodLink RX3 3 Lib.objectInit) (i := 234) (by decide +kernel) (by decide +kernel)) oi_2 oi_3 dX3_init_1 (by decide) (by decide) (by decide) ?_))
  refine c_arr (p1 := 7) (d := mX3_init) (N := 8) (x := 8) (j := 0) (idx := 9) 9 q (by omega) (by omega) rfl rfl rfl (fun h0 h1 h2 h3 => s_newI dX3_init_7 ac_I (by decide) (by decide) (by decide) h1 h0 h2 (by decide) (by decide) h3) dX3_init_4 (s_bipush dX3_init_5 (v := 8) rfl) fl_3_9 dX3_init_9 rfl rfl (fun q1 => ?_)
  refine c_arr (p1 := 15) (d := mX3_init) (N := 8) (x := 8) (j := 1) (idx := 15) 9 q1 (by omega) (by omega) rfl rfl rfl (fun h0 h1 h2 h3 => s_newI dX3_init_15 ac_I (by decide) (by decide) (by decide) h1 h0 h2 (by decide) (by decide) h3) dX3_init_12 (s_bipush dX3_init_13 (v := 8) rfl) fl_3_15 dX3_init_17 rfl rfl (fun q2 => ?_)
  refine c_arr (p1 := 23) (d := mX3_init) (N := 8) (x := 8) (j := 2) (idx := 18) 9 q2 (by omega) (by omega) rfl rfl rfl (fun h0 h1 h2 h3 => s_newI dX3_init_23 ac_I (by decide) (by decide) (by decide) h1 h0 h2 (by decide) (by decide) h3) dX3_init_20 (s_bipush dX3_init_21 (v := 8) rfl) fl_3_18 dX3_init_25 rfl rfl (fun q3 => ?_)
  refine c_arr (p1 := 31) (d := mX3_init) (N := 8) (x := 8) (j := 3) (idx := 21) 9 q3 (by omega) (by omega) rfl rfl rfl (fun h0 h1 h2 h3 => s_newI dX3_init_31 ac_I (by decide) (by decide) (by decide) h1 h0 h2 (by decide) (by decide) h3) dX3_init_28 (s_bipush dX3_init_29 (v := 8) rfl) fl_3_21 dX3_init_33 rfl rfl (fun q4 => ?_)
  refine c_arr (p1 := 39) (d := mX3_init) (N := 8) (x := 8) (j := 4) (idx := 24) 9 q4 (by omega) (by omega) rfl rfl rfl (fun h0 h1 h2 h3 => s_newI dX3_init_39 ac_I (by decide) (by decide) (by decide) h1 h0 h2 (by decide) (by decide) h3) dX3_init_36 (s_bipush dX3_init_37 (v := 8) rfl) fl_3_24 dX3_init_41 rfl rfl (fun q5 => ?_)
  refine c_arr (p1 := 47) (d := mX3_init) (N := 8) (x := 8) (j := 5) (idx := 27) 9 q5 (by omega) (by omega) rfl rfl rfl (fun h0 h1 h2 h3 => s_newI dX3_init_47 ac_I (by decide) (by decide) (by decide) h1 h0 h2 (by decide) (by decide) h3) dX3_init_44 (s_bipush dX3_init_45 (v := 8) rfl) fl_3_27 dX3_init_49 rfl rfl (fun q6 => ?_)
  have e : ups R 391 [(5, 397), (4, 396), (3, 395), (2, 394), (1, 393), (0, 392)] = rF R 391 392 398 := ups_eq hR q.1 (fun i h1 h2 => R0_none (by omega)) (find_j (by decide +kernel) (by decide +kernel) (fun j hj => by simp [R0]; omega))
  have e2 : ups R 391 [(5, 397), (4, 396), (3, 395), (2, 394), (1, 393), (0, 392)] = _ := rfl
  rw [e2] at e
  exact s_vret dX3_init_52 rfl ⟨rfl, by rw [← e]; rfl, by rw [← e]; exact q6⟩
theorem ci_5 {R : Nat → Nat → Option Nat} {V : Nat → Nat → Int32} (q : okM R 390 V) (hR : R 389 = fun _ => none) : CI mX5_init 389 390 391 R V V := by
  unfold CI
  refine ct_of pX5_init (fun _ _ => rfl) (by decide) (s_aload_n (x := 389) dX5_init_0 rfl (s_objInit (d := mX5_init) (h := 389) (TBg_of (w := Cond.methodLink RX5 3 Lib.objectInit) (i := 206) (by decide +kernel) (by decide +kernel)) oi_2 oi_3 dX5_init_1 (by decide) (by decide) (by decide) ?_))
  refine c_arr (p1 := 7) (d := mX5_init) (N := 60) (x := 60) (j := 0) (idx := 9) 9 q (by omega) (by omega) rfl rfl rfl (fun h0 h1 h2 h3 => s_newI dX5_init_7 ac_I (by decide) (by decide) (by decide) h1 h0 h2 (by decide) (by decide) h3) dX5_init_4 (s_bipush dX5_init_5 (v := 60) rfl) fl_5_9 dX5_init_9 rfl rfl (fun q1 => ?_)
  have e : ups R 389 [(0, 390)] = rF R 389 390 391 := ups_eq hR q.1 (fun i h1 h2 => R0_none (by omega)) (find_j (by decide +kernel) (by decide +kernel) (fun j hj => by simp [R0]; omega))
  have e2 : ups R 389 [(0, 390)] = _ := rfl
  rw [e2] at e
  exact s_vret dX5_init_12 rfl ⟨rfl, by rw [← e]; rfl, by rw [← e]; exact q1⟩
theorem sd_k9 {h : Nat} (q : isSide h) (j : Nat) (hj : j < 5) : K0 (h + 1 + j) = 9 ∧ L0 (h + 1 + j) = 10 := (sd_a q j hj).2
theorem ci_6 {h : Nat} {R : Nat → Nat → Option Nat} {V : Nat → Nat → Int32} (hh : isSide h) (q : okM R (h + 1) V) (hR : R h = fun _ => none) : CI mX6_init h (h + 1) (h + 6) R V V := by
  have hb : h + 6 ≤ 29 := by rcases hh with rfl | rfl | rfl | rfl <;> decide
  unfold CI
  refine ct_of pX6_init (fun _ _ => rfl) (Nat.le_refl 1) (s_aload_n (x := h) dX6_init_0 rfl (s_objInit (d := mX6_init) (h := h) (TBg_of (w := Cond.methodLink RX6 3 Lib.objectInit) (i := 76) (by decide +kernel) (by decide +kernel)) oi_2 oi_3 dX6_init_1 (by decide) (by decide) (by decide) ?_))
  refine c_arr (p1 := 7) (d := mX6_init) (N := 10) (x := 10) (j := 0) (idx := 9) 9 q (by omega) (by omega) (sd_o hh).2 (sd_k9 hh 0 (by decide)).1 (sd_k9 hh 0 (by decide)).2 (fun h0 h1 h2 h3 => s_newI dX6_init_7 ac_I (by decide) (by decide) (by decide) h1 h0 h2 (by decide) (by decide) h3) dX6_init_4 (s_bipush dX6_init_5 (v := 10) rfl) fl_6_9 dX6_init_9 rfl rfl (fun q1 => ?_)
  refine c_arr (p1 := 15) (d := mX6_init) (N := 10) (x := 10) (j := 1) (idx := 15) 9 q1 (by omega) (by omega) (sd_o hh).2 (sd_k9 hh 1 (by decide)).1 (sd_k9 hh 1 (by decide)).2 (fun h0 h1 h2 h3 => s_newI dX6_init_15 ac_I (by decide) (by decide) (by decide) h1 h0 h2 (by decide) (by decide) h3) dX6_init_12 (s_bipush dX6_init_13 (v := 10) rfl) fl_6_15 dX6_init_17 rfl rfl (fun q2 => ?_)
  refine c_arr (p1 := 23) (d := mX6_init) (N := 10) (x := 10) (j := 2) (idx := 18) 9 q2 (by omega) (by omega) (sd_o hh).2 (sd_k9 hh 2 (by decide)).1 (sd_k9 hh 2 (by decide)).2 (fun h0 h1 h2 h3 => s_newI dX6_init_23 ac_I (by decide) (by decide) (by decide) h1 h0 h2 (by decide) (by decide) h3) dX6_init_20 (s_bipush dX6_init_21 (v := 10) rfl) fl_6_18 dX6_init_25 rfl rfl (fun q3 => ?_)
  refine c_arr (p1 := 31) (d := mX6_init) (N := 10) (x := 10) (j := 3) (idx := 21) 9 q3 (by omega) (by omega) (sd_o hh).2 (sd_k9 hh 3 (by decide)).1 (sd_k9 hh 3 (by decide)).2 (fun h0 h1 h2 h3 => s_newI dX6_init_31 ac_I (by decide) (by decide) (by decide) h1 h0 h2 (by decide) (by decide) h3) dX6_init_28 (s_bipush dX6_init_29 (v := 10) rfl) fl_6_21 dX6_init_33 rfl rfl (fun q4 => ?_)
  refine c_arr (p1 := 39) (d := mX6_init) (N := 10) (x := 10) (j := 4) (idx := 24) 9 q4 (by omega) (by omega) (sd_o hh).2 (sd_k9 hh 4 (by decide)).1 (sd_k9 hh 4 (by decide)).2 (fun h0 h1 h2 h3 => s_newI dX6_init_39 ac_I (by decide) (by decide) (by decide) h1 h0 h2 (by decide) (by decide) h3) dX6_init_36 (s_bipush dX6_init_37 (v := 10) rfl) fl_6_24 dX6_init_41 rfl rfl (fun q5 => ?_)
  have e : ups R h [(4, h + 1 + 4), (3, h + 1 + 3), (2, h + 1 + 2), (1, h + 1 + 1), (0, h + 1 + 0)] = rF R h (h + 1) (h + 6) := by
    refine ups_eq hR q.1 (fun i h1 h2 => R0_none (by rcases hh with rfl | rfl | rfl | rfl <;> omega)) (fun j => ?_)
    rcases Nat.lt_or_ge j 5 with hj | hj
    · have z : j = 0 ∨ j = 1 ∨ j = 2 ∨ j = 3 ∨ j = 4 := by omega
      rcases z with rfl | rfl | rfl | rfl | rfl
      · exact sd_r hh 0 (by decide)
      · exact sd_r hh 1 (by decide)
      · exact sd_r hh 2 (by decide)
      · exact sd_r hh 3 (by decide)
      · exact sd_r hh 4 (by decide)
    · have z1 : R0 h j = none := by rcases hh with rfl | rfl | rfl | rfl <;> (simp [R0]; omega)
      rw [z1, List.find?_eq_none.mpr (fun r hr z => ?_)]
      · rfl
      · have := eq_of_beq z
        simp only [List.mem_cons, List.not_mem_nil, or_false] at hr
        rcases hr with rfl | rfl | rfl | rfl | rfl <;> (dsimp only at this; omega)
  have e2 : ups R h [(4, h + 1 + 4), (3, h + 1 + 3), (2, h + 1 + 2), (1, h + 1 + 1), (0, h + 1 + 0)] = _ := rfl
  rw [e2] at e
  exact s_vret dX6_init_44 rfl ⟨rfl, by rw [← e]; rfl, by rw [← e]; exact q5⟩
theorem ev_k9 {h : Nat} (q : isEv h) (j : Nat) (hj : j < 5) : K0 (h + 1 + j) = 9 ∧ L0 (h + 1 + j) = if j < 3 then 10 else 2 := by
  by_cases e : j < 3
  · rw [if_pos e]
    exact (ev_a q j e).2
  · rw [if_neg e]
    exact (ev_b q j (by omega)).2
theorem ci_2 {h : Nat} {R : Nat → Nat → Option Nat} {V : Nat → Nat → Int32} (hh : isEv h) (q : okM R (h + 1) V) (hR : R h = fun _ => none) : CI mX2_init h (h + 1) (h + 6) R V V := by
  have hb : h + 6 ≤ 389 := by obtain ⟨z1, z2, z3⟩ := hh; omega
  unfold CI
  refine ct_of pX2_init (fun _ _ => rfl) (Nat.le_refl 1) (s_aload_n (x := h) dX2_init_0 rfl (s_objInit (d := mX2_init) (h := h) (TBg_of (w := Cond.methodLink RX2 3 Lib.objectInit) (i := 129) (by decide +kernel) (by decide +kernel)) oi_2 oi_3 dX2_init_1 (by decide) (by decide) (by decide) ?_))
  refine c_arr (p1 := 7) (d := mX2_init) (N := 10) (x := 10) (j := 0) (idx := 9) 9 q (by omega) (by omega) (ev_o hh).2 (ev_k9 hh 0 (by decide)).1 (ev_k9 hh 0 (by decide)).2 (fun h0 h1 h2 h3 => s_newI dX2_init_7 ac_I (by decide) (by decide) (by decide) h1 h0 h2 (by decide) (by decide) h3) dX2_init_4 (s_bipush dX2_init_5 (v := 10) rfl) fl_2_9 dX2_init_9 rfl rfl (fun q1 => ?_)
  refine c_arr (p1 := 15) (d := mX2_init) (N := 10) (x := 10) (j := 1) (idx := 15) 9 q1 (by omega) (by omega) (ev_o hh).2 (ev_k9 hh 1 (by decide)).1 (ev_k9 hh 1 (by decide)).2 (fun h0 h1 h2 h3 => s_newI dX2_init_15 ac_I (by decide) (by decide) (by decide) h1 h0 h2 (by decide) (by decide) h3) dX2_init_12 (s_bipush dX2_init_13 (v := 10) rfl) fl_2_15 dX2_init_17 rfl rfl (fun q2 => ?_)
  refine c_arr (p1 := 23) (d := mX2_init) (N := 10) (x := 10) (j := 2) (idx := 18) 9 q2 (by omega) (by omega) (ev_o hh).2 (ev_k9 hh 2 (by decide)).1 (ev_k9 hh 2 (by decide)).2 (fun h0 h1 h2 h3 => s_newI dX2_init_23 ac_I (by decide) (by decide) (by decide) h1 h0 h2 (by decide) (by decide) h3) dX2_init_20 (s_bipush dX2_init_21 (v := 10) rfl) fl_2_18 dX2_init_25 rfl rfl (fun q3 => ?_)
  refine c_arr (p1 := 30) (d := mX2_init) (N := 2) (x := 2) (j := 3) (idx := 21) 9 q3 (by omega) (by omega) (ev_o hh).2 (ev_k9 hh 3 (by decide)).1 (ev_k9 hh 3 (by decide)).2 (fun h0 h1 h2 h3 => s_newI dX2_init_30 ac_I (by decide) (by decide) (by decide) h1 h0 h2 (by decide) (by decide) h3) dX2_init_28 (s_iconst dX2_init_29 (v := 2) rfl) fl_2_21 dX2_init_32 rfl rfl (fun q4 => ?_)
  refine c_arr (p1 := 37) (d := mX2_init) (N := 2) (x := 2) (j := 4) (idx := 24) 9 q4 (by omega) (by omega) (ev_o hh).2 (ev_k9 hh 4 (by decide)).1 (ev_k9 hh 4 (by decide)).2 (fun h0 h1 h2 h3 => s_newI dX2_init_37 ac_I (by decide) (by decide) (by decide) h1 h0 h2 (by decide) (by decide) h3) dX2_init_35 (s_iconst dX2_init_36 (v := 2) rfl) fl_2_24 dX2_init_39 rfl rfl (fun q5 => ?_)
  have e : ups R h [(4, h + 1 + 4), (3, h + 1 + 3), (2, h + 1 + 2), (1, h + 1 + 1), (0, h + 1 + 0)] = rF R h (h + 1) (h + 6) := by
    refine ups_eq hR q.1 (fun i h1 h2 => R0_none (by obtain ⟨z1, z2, z3⟩ := hh; omega)) (fun j => ?_)
    rcases Nat.lt_or_ge j 5 with hj | hj
    · have z : j = 0 ∨ j = 1 ∨ j = 2 ∨ j = 3 ∨ j = 4 := by omega
      rcases z with rfl | rfl | rfl | rfl | rfl
      · exact ev_r hh 0 (by decide)
      · exact ev_r hh 1 (by decide)
      · exact ev_r hh 2 (by decide)
      · exact ev_r hh 3 (by decide)
      · exact ev_r hh 4 (by decide)
    · have z1 : R0 h j = none := by obtain ⟨z1, z2, z3⟩ := hh; unfold R0; rw [if_neg (by omega), if_neg (by omega), if_neg (by omega), if_neg (by omega), if_neg (by omega), if_pos ⟨z1, z2, z3⟩, if_neg (by omega)]
      rw [z1, List.find?_eq_none.mpr (fun r hr z => ?_)]
      · rfl
      · have := eq_of_beq z
        simp only [List.mem_cons, List.not_mem_nil, or_false] at hr
        rcases hr with rfl | rfl | rfl | rfl | rfl <;> (dsimp only at this; omega)
  have e2 : ups R h [(4, h + 1 + 4), (3, h + 1 + 3), (2, h + 1 + 2), (1, h + 1 + 1), (0, h + 1 + 0)] = _ := rfl
  rw [e2] at e
  exact s_vret dX2_init_42 rfl ⟨rfl, by rw [← e]; rfl, by rw [← e]; exact q5⟩
