abbrev mL_begin : pD := (yL_begin, cL_begin, 6, some .int, 9, { frames := 8, cells := 4, slots := 24, locals := 134 }, 5, Cond.codeWith yL_begin cL_begin 6 (some .int) [(0, 12, 15, 13), (0, 12, 19, 15), (0, 12, 23, 17)], hX 12 [(0, 12, 15, 13), (0, 12, 19, 15), (0, 12, 23, 17)])
theorem pL_begin : pdW mL_begin [(0, 12, 15, 13), (0, 12, 19, 15), (0, 12, 23, 17)] := ⟨rfl, TBg_of (w := Cond.codeWith yL_begin cL_begin 6 (some .int) [(0, 12, 15, 13), (0, 12, 19, 15), (0, 12, 23, 17)]) (i := 467) (by decide +kernel) (by decide +kernel), TBg_of (w := Cond.initialized yL_begin.cls) (i := 71) (by decide +kernel) (by decide +kernel), by decide +kernel, ⟨by decide +kernel, by decide +kernel, by decide +kernel⟩, rfl⟩
theorem w_begin {J : Nat → Nat → Int64} {V : Mem} {k : Nat} {P : Mem → Prop} (p1 p2 p3 : Int32) (x : Int32) (hC : CTc J mX7_begin [.ref 0, .int p1, .int p2, .int p3] V (fun r V' => k = 0 ∧ r = some (.int (x)) ∧ P V') (fun X V' => k ≠ 0 ∧ (k, X) ∈ xs3 ∧ P V')) : CT mL_begin [.ref 0, .int p1, .int p2, .int p3, .ref 427] (T0 J, V) (WQ k (x) P) (fun _ _ => False) := by
  refine ctw_of (e0 := 12) pL_begin rfl rfl (by unfold hhOK; decide) (by decide) (show 5 ≤ 6 by decide) ?_
  refine s_aload (x := 427) dL_begin_0 rfl (s_iconst (v := 0) dL_begin_2 rfl (s_aload_n (x := 0) dL_begin_3 rfl (s_iload_n (x := p1) dL_begin_4 rfl (s_iload_n (x := p2) dL_begin_5 rfl (s_iload_n (x := p3) dL_begin_6 rfl (s_callV (h := 0) (As := [.int p1, .int p2, .int p3]) (st := [.int 0, .ref 427]) iv_9_7 dL_begin_7 (by unfold rmP; decide) rfl (show 2 ≤ 8 by decide) (by decide) (by decide) (show 0 < 428 by decide) rfl hC ⟨fun v M' hv => ?_, fun E M' hE => ?_⟩))))))
  · obtain ⟨T', V'⟩ := M'
    obtain ⟨hT, hk, rfl, hP⟩ := hv
    dsimp only at hT hP
    subst hT
    refine ⟨rOK_same, ?_⟩
    refine s_i2l (x := x) dL_begin_10 (s_last (h := 427) (i := 0) dL_begin_11 (show 427 < 428 by decide) rfl vp01 ?_)
    rw [show (0 : Int32).toNatClampNeg = 0 from rfl, up2_J]
    exact s_goto (tgt := 27) dL_begin_12 rfl (s_iconst (v := nI k) dL_begin_27 (by rw [hk]; rfl) (s_iret dL_begin_28 (Or.inl rfl) ⟨rfl, by omega, _, rfl, hP, fun _ => up2_same J 427 0 _⟩))
  · obtain ⟨T', V'⟩ := M'
    obtain ⟨hT, hk, hm, hP⟩ := hE
    dsimp only at hT hP
    subst hT
    refine Or.inr ?_
    simp only [xs3, List.mem_cons, Prod.mk.injEq, List.not_mem_nil, or_false] at hm
    rcases hm with ⟨rfl, rfl⟩ | ⟨rfl, rfl⟩ | ⟨rfl, rfl⟩
    · exact ⟨15, by decide +kernel, rOK_same, Or.inr ⟨5, dL_begin_15, by decide, s_iconst (v := nI 1) dL_begin_17 rfl (s_iret dL_begin_18 (Or.inl rfl) ⟨rfl, by omega, _, rfl, hP, fun z => (hk z).elim⟩)⟩⟩
    · exact ⟨19, by decide +kernel, rOK_same, Or.inr ⟨5, dL_begin_19, by decide, s_iconst (v := nI 2) dL_begin_21 rfl (s_iret dL_begin_22 (Or.inl rfl) ⟨rfl, by omega, _, rfl, hP, fun z => (hk z).elim⟩)⟩⟩
    · exact ⟨23, by decide +kernel, rOK_same, Or.inr ⟨5, dL_begin_23, by decide, s_iconst (v := nI 3) dL_begin_25 rfl (s_iret dL_begin_26 (Or.inl rfl) ⟨rfl, by omega, _, rfl, hP, fun z => (hk z).elim⟩)⟩⟩
abbrev mL_raid : pD := (yL_raid, cL_raid, 4, some .int, 9, { frames := 8, cells := 2, slots := 12, locals := 132 }, 3, Cond.codeWith yL_raid cL_raid 4 (some .int) [(0, 9, 12, 13), (0, 9, 15, 17)], hX 9 [(0, 9, 12, 13), (0, 9, 15, 17)])
theorem pL_raid : pdW mL_raid [(0, 9, 12, 13), (0, 9, 15, 17)] := ⟨rfl, TBg_of (w := Cond.codeWith yL_raid cL_raid 4 (some .int) [(0, 9, 12, 13), (0, 9, 15, 17)]) (i := 602) (by decide +kernel) (by decide +kernel), TBg_of (w := Cond.initialized yL_raid.cls) (i := 71) (by decide +kernel) (by decide +kernel), by decide +kernel, ⟨by decide +kernel, by decide +kernel, by decide +kernel⟩, rfl⟩
theorem w_raid {J : Nat → Nat → Int64} {V : Mem} {k : Nat} {P : Mem → Prop} (p1 : Int32) (x : Int32) (hC : CTc J mX7_raid [.ref 0, .int p1] V (fun r V' => k = 0 ∧ r = some (.int (x)) ∧ P V') (fun X V' => k ≠ 0 ∧ (k, X) ∈ xsB ∧ P V')) : CT mL_raid [.ref 0, .int p1, .ref 427] (T0 J, V) (WQ k (x) P) (fun _ _ => False) := by
  refine ctw_of (e0 := 9) pL_raid rfl rfl (by unfold hhOK; decide) (by decide) (show 3 ≤ 4 by decide) ?_
  refine s_aload_n (x := 427) dL_raid_0 rfl (s_iconst (v := 0) dL_raid_1 rfl (s_aload_n (x := 0) dL_raid_2 rfl (s_iload_n (x := p1) dL_raid_3 rfl (s_callV (h := 0) (As := [.int p1]) (st := [.int 0, .ref 427]) iv_9_19 dL_raid_4 (by unfold rmP; decide) rfl (show 2 ≤ 8 by decide) (by decide) (by decide) (show 0 < 428 by decide) rfl hC ⟨fun v M' hv => ?_, fun E M' hE => ?_⟩))))
  · obtain ⟨T', V'⟩ := M'
    obtain ⟨hT, hk, rfl, hP⟩ := hv
    dsimp only at hT hP
    subst hT
    refine ⟨rOK_same, ?_⟩
    refine s_i2l (x := x) dL_raid_7 (s_last (h := 427) (i := 0) dL_raid_8 (show 427 < 428 by decide) rfl vp01 ?_)
    rw [show (0 : Int32).toNatClampNeg = 0 from rfl, up2_J]
    exact s_goto (tgt := 18) dL_raid_9 rfl (s_iconst (v := nI k) dL_raid_18 (by rw [hk]; rfl) (s_iret dL_raid_19 (Or.inl rfl) ⟨rfl, by omega, _, rfl, hP, fun _ => up2_same J 427 0 _⟩))
  · obtain ⟨T', V'⟩ := M'
    obtain ⟨hT, hk, hm, hP⟩ := hE
    dsimp only at hT hP
    subst hT
    refine Or.inr ?_
    simp only [xsB, List.mem_cons, Prod.mk.injEq, List.not_mem_nil, or_false] at hm
    rcases hm with ⟨rfl, rfl⟩ | ⟨rfl, rfl⟩
    · exact ⟨12, by decide +kernel, rOK_same, Or.inl ⟨3, dL_raid_12, by decide, s_iconst (v := nI 1) dL_raid_13 rfl (s_iret dL_raid_14 (Or.inl rfl) ⟨rfl, by omega, _, rfl, hP, fun z => (hk z).elim⟩)⟩⟩
    · exact ⟨15, by decide +kernel, rOK_same, Or.inl ⟨3, dL_raid_15, by decide, s_iconst (v := nI 2) dL_raid_16 rfl (s_iret dL_raid_17 (Or.inl rfl) ⟨rfl, by omega, _, rfl, hP, fun z => (hk z).elim⟩)⟩⟩
abbrev mL_step : pD := (yL_step, cL_step, 6, some .int, 9, { frames := 8, cells := 2, slots := 12, locals := 165 }, 5, Cond.codeWith yL_step cL_step 6 (some .int) [(0, 12, 15, 15), (0, 12, 19, 17)], hX 12 [(0, 12, 15, 15), (0, 12, 19, 17)])
theorem pL_step : pdW mL_step [(0, 12, 15, 15), (0, 12, 19, 17)] := ⟨rfl, TBg_of (w := Cond.codeWith yL_step cL_step 6 (some .int) [(0, 12, 15, 15), (0, 12, 19, 17)]) (i := 648) (by decide +kernel) (by decide +kernel), TBg_of (w := Cond.initialized yL_step.cls) (i := 71) (by decide +kernel) (by decide +kernel), by decide +kernel, ⟨by decide +kernel, by decide +kernel, by decide +kernel⟩, rfl⟩
theorem w_step {J : Nat → Nat → Int64} {V : Mem} {k : Nat} {P : Mem → Prop} (p1 p2 p3 : Int32) (x : Int32) (hC : CTc J mX7_step [.ref 0, .int p1, .int p2, .int p3] V (fun r V' => k = 0 ∧ r = some (.int (x)) ∧ P V') (fun X V' => k ≠ 0 ∧ (k, X) ∈ xsC ∧ P V')) : CT mL_step [.ref 0, .int p1, .int p2, .int p3, .ref 427] (T0 J, V) (WQ k (x) P) (fun _ _ => False) := by
  refine ctw_of (e0 := 12) pL_step rfl rfl (by unfold hhOK; decide) (by decide) (show 5 ≤ 6 by decide) ?_
  refine s_aload (x := 427) dL_step_0 rfl (s_iconst (v := 0) dL_step_2 rfl (s_aload_n (x := 0) dL_step_3 rfl (s_iload_n (x := p1) dL_step_4 rfl (s_iload_n (x := p2) dL_step_5 rfl (s_iload_n (x := p3) dL_step_6 rfl (s_callV (h := 0) (As := [.int p1, .int p2, .int p3]) (st := [.int 0, .ref 427]) iv_9_23 dL_step_7 (by unfold rmP; decide) rfl (show 2 ≤ 8 by decide) (by decide) (by decide) (show 0 < 428 by decide) rfl hC ⟨fun v M' hv => ?_, fun E M' hE => ?_⟩))))))
  · obtain ⟨T', V'⟩ := M'
    obtain ⟨hT, hk, rfl, hP⟩ := hv
    dsimp only at hT hP
    subst hT
    refine ⟨rOK_same, ?_⟩
    refine s_i2l (x := x) dL_step_10 (s_last (h := 427) (i := 0) dL_step_11 (show 427 < 428 by decide) rfl vp01 ?_)
    rw [show (0 : Int32).toNatClampNeg = 0 from rfl, up2_J]
    exact s_goto (tgt := 23) dL_step_12 rfl (s_iconst (v := nI k) dL_step_23 (by rw [hk]; rfl) (s_iret dL_step_24 (Or.inl rfl) ⟨rfl, by omega, _, rfl, hP, fun _ => up2_same J 427 0 _⟩))
  · obtain ⟨T', V'⟩ := M'
    obtain ⟨hT, hk, hm, hP⟩ := hE
    dsimp only at hT hP
    subst hT
    refine Or.inr ?_
    simp only [xsC, List.mem_cons, Prod.mk.injEq, List.not_mem_nil, or_false] at hm
    rcases hm with ⟨rfl, rfl⟩ | ⟨rfl, rfl⟩
    · exact ⟨15, by decide +kernel, rOK_same, Or.inr ⟨5, dL_step_15, by decide, s_iconst (v := nI 1) dL_step_17 rfl (s_iret dL_step_18 (Or.inl rfl) ⟨rfl, by omega, _, rfl, hP, fun z => (hk z).elim⟩)⟩⟩
    · exact ⟨19, by decide +kernel, rOK_same, Or.inr ⟨5, dL_step_19, by decide, s_iconst (v := nI 2) dL_step_21 rfl (s_iret dL_step_22 (Or.inl rfl) ⟨rfl, by omega, _, rfl, hP, fun z => (hk z).elim⟩)⟩⟩
abbrev mL_card : pD := (yL_card, cL_card, 6, some .int, 9, { frames := 8, cells := 4, slots := 24, locals := 164 }, 5, Cond.codeWith yL_card cL_card 6 (some .int) [(0, 12, 15, 13), (0, 12, 19, 15), (0, 12, 23, 17)], hX 12 [(0, 12, 15, 13), (0, 12, 19, 15), (0, 12, 23, 17)])
theorem pL_card : pdW mL_card [(0, 12, 15, 13), (0, 12, 19, 15), (0, 12, 23, 17)] := ⟨rfl, TBg_of (w := Cond.codeWith yL_card cL_card 6 (some .int) [(0, 12, 15, 13), (0, 12, 19, 15), (0, 12, 23, 17)]) (i := 809) (by decide +kernel) (by decide +kernel), TBg_of (w := Cond.initialized yL_card.cls) (i := 71) (by decide +kernel) (by decide +kernel), by decide +kernel, ⟨by decide +kernel, by decide +kernel, by decide +kernel⟩, rfl⟩
theorem w_card {J : Nat → Nat → Int64} {V : Mem} {k : Nat} {P : Mem → Prop} (p1 p2 p3 : Int32) (x : Int32) (hC : CTc J mX7_card [.ref 0, .int p1, .int p2, .int p3] V (fun r V' => k = 0 ∧ r = some (.int (x)) ∧ P V') (fun X V' => k ≠ 0 ∧ (k, X) ∈ xs3 ∧ P V')) : CT mL_card [.ref 0, .int p1, .int p2, .int p3, .ref 427] (T0 J, V) (WQ k (x) P) (fun _ _ => False) := by
  refine ctw_of (e0 := 12) pL_card rfl rfl (by unfold hhOK; decide) (by decide) (show 5 ≤ 6 by decide) ?_
  refine s_aload (x := 427) dL_card_0 rfl (s_iconst (v := 0) dL_card_2 rfl (s_aload_n (x := 0) dL_card_3 rfl (s_iload_n (x := p1) dL_card_4 rfl (s_iload_n (x := p2) dL_card_5 rfl (s_iload_n (x := p3) dL_card_6 rfl (s_callV (h := 0) (As := [.int p1, .int p2, .int p3]) (st := [.int 0, .ref 427]) iv_9_26 dL_card_7 (by unfold rmP; decide) rfl (show 2 ≤ 8 by decide) (by decide) (by decide) (show 0 < 428 by decide) rfl hC ⟨fun v M' hv => ?_, fun E M' hE => ?_⟩))))))
  · obtain ⟨T', V'⟩ := M'
    obtain ⟨hT, hk, rfl, hP⟩ := hv
    dsimp only at hT hP
    subst hT
    refine ⟨rOK_same, ?_⟩
    refine s_i2l (x := x) dL_card_10 (s_last (h := 427) (i := 0) dL_card_11 (show 427 < 428 by decide) rfl vp01 ?_)
    rw [show (0 : Int32).toNatClampNeg = 0 from rfl, up2_J]
    exact s_goto (tgt := 27) dL_card_12 rfl (s_iconst (v := nI k) dL_card_27 (by rw [hk]; rfl) (s_iret dL_card_28 (Or.inl rfl) ⟨rfl, by omega, _, rfl, hP, fun _ => up2_same J 427 0 _⟩))
  · obtain ⟨T', V'⟩ := M'
    obtain ⟨hT, hk, hm, hP⟩ := hE
    dsimp only at hT hP
    subst hT
    refine Or.inr ?_
    simp only [xs3, List.mem_cons, Prod.mk.injEq, List.not_mem_nil, or_false] at hm
    rcases hm with ⟨rfl, rfl⟩ | ⟨rfl, rfl⟩ | ⟨rfl, rfl⟩
    · exact ⟨15, by decide +kernel, rOK_same, Or.inr ⟨5, dL_card_15, by decide, s_iconst (v := nI 1) dL_card_17 rfl (s_iret dL_card_18 (Or.inl rfl) ⟨rfl, by omega, _, rfl, hP, fun z => (hk z).elim⟩)⟩⟩
    · exact ⟨19, by decide +kernel, rOK_same, Or.inr ⟨5, dL_card_19, by decide, s_iconst (v := nI 2) dL_card_21 rfl (s_iret dL_card_22 (Or.inl rfl) ⟨rfl, by omega, _, rfl, hP, fun z => (hk z).elim⟩)⟩⟩
    · exact ⟨23, by decide +kernel, rOK_same, Or.inr ⟨5, dL_card_23, by decide, s_iconst (v := nI 3) dL_card_25 rfl (s_iret dL_card_26 (Or.inl rfl) ⟨rfl, by omega, _, rfl, hP, fun z => (hk z).elim⟩)⟩⟩
abbrev mL_change : pD := (yL_change, cL_change, 6, some .int, 9, { frames := 8, cells := 4, slots := 24, locals := 163 }, 5, Cond.codeWith yL_change cL_change 6 (some .int) [(0, 12, 15, 13), (0, 12, 19, 17)], hX 12 [(0, 12, 15, 13), (0, 12, 19, 17)])
theorem pL_change : pdW mL_change [(0, 12, 15, 13), (0, 12, 19, 17)] := ⟨rfl, TBg_of (w := Cond.codeWith yL_change cL_change 6 (some .int) [(0, 12, 15, 13), (0, 12, 19, 17)]) (i := 831) (by decide +kernel) (by decide +kernel), TBg_of (w := Cond.initialized yL_change.cls) (i := 71) (by decide +kernel) (by decide +kernel), by decide +kernel, ⟨by decide +kernel, by decide +kernel, by decide +kernel⟩, rfl⟩
theorem w_change {J : Nat → Nat → Int64} {V : Mem} {k : Nat} {P : Mem → Prop} (p1 p2 p3 : Int32) (x : Int32) (hC : CTc J mX7_change [.ref 0, .int p1, .int p2, .int p3] V (fun r V' => k = 0 ∧ r = some (.int (x)) ∧ P V') (fun X V' => k ≠ 0 ∧ (k, X) ∈ xsB ∧ P V')) : CT mL_change [.ref 0, .int p1, .int p2, .int p3, .ref 427] (T0 J, V) (WQ k (x) P) (fun _ _ => False) := by
  refine ctw_of (e0 := 12) pL_change rfl rfl (by unfold hhOK; decide) (by decide) (show 5 ≤ 6 by decide) ?_
  refine s_aload (x := 427) dL_change_0 rfl (s_iconst (v := 0) dL_change_2 rfl (s_aload_n (x := 0) dL_change_3 rfl (s_iload_n (x := p1) dL_change_4 rfl (s_iload_n (x := p2) dL_change_5 rfl (s_iload_n (x := p3) dL_change_6 rfl (s_callV (h := 0) (As := [.int p1, .int p2, .int p3]) (st := [.int 0, .ref 427]) iv_9_29 dL_change_7 (by unfold rmP; decide) rfl (show 2 ≤ 8 by decide) (by decide) (by decide) (show 0 < 428 by decide) rfl hC ⟨fun v M' hv => ?_, fun E M' hE => ?_⟩))))))
  · obtain ⟨T', V'⟩ := M'
    obtain ⟨hT, hk, rfl, hP⟩ := hv
    dsimp only at hT hP
    subst hT
    refine ⟨rOK_same, ?_⟩
    refine s_i2l (x := x) dL_change_10 (s_last (h := 427) (i := 0) dL_change_11 (show 427 < 428 by decide) rfl vp01 ?_)
    rw [show (0 : Int32).toNatClampNeg = 0 from rfl, up2_J]
    exact s_goto (tgt := 23) dL_change_12 rfl (s_iconst (v := nI k) dL_change_23 (by rw [hk]; rfl) (s_iret dL_change_24 (Or.inl rfl) ⟨rfl, by omega, _, rfl, hP, fun _ => up2_same J 427 0 _⟩))
  · obtain ⟨T', V'⟩ := M'
    obtain ⟨hT, hk, hm, hP⟩ := hE
    dsimp only at hT hP
    subst hT
    refine Or.inr ?_
    simp only [xsB, List.mem_cons, Prod.mk.injEq, List.not_mem_nil, or_false] at hm
    rcases hm with ⟨rfl, rfl⟩ | ⟨rfl, rfl⟩
    · exact ⟨15, by decide +kernel, rOK_same, Or.inr ⟨5, dL_change_15, by decide, s_iconst (v := nI 1) dL_change_17 rfl (s_iret dL_change_18 (Or.inl rfl) ⟨rfl, by omega, _, rfl, hP, fun z => (hk z).elim⟩)⟩⟩
    · exact ⟨19, by decide +kernel, rOK_same, Or.inr ⟨5, dL_change_19, by decide, s_iconst (v := nI 2) dL_change_21 rfl (s_iret dL_change_22 (Or.inl rfl) ⟨rfl, by omega, _, rfl, hP, fun z => (hk z).elim⟩)⟩⟩
abbrev mL_review : pD := (yL_review, cL_review, 8, some .int, 9, { frames := 8, cells := 5, slots := 30, locals := 192 }, 7, Cond.codeWith yL_review cL_review 8 (some .int) [(0, 16, 19, 13), (0, 16, 23, 15), (0, 16, 27, 17)], hX 16 [(0, 16, 19, 13), (0, 16, 23, 15), (0, 16, 27, 17)])
theorem pL_review : pdW mL_review [(0, 16, 19, 13), (0, 16, 23, 15), (0, 16, 27, 17)] := ⟨rfl, TBg_of (w := Cond.codeWith yL_review cL_review 8 (some .int) [(0, 16, 19, 13), (0, 16, 23, 15), (0, 16, 27, 17)]) (i := 854) (by decide +kernel) (by decide +kernel), TBg_of (w := Cond.initialized yL_review.cls) (i := 71) (by decide +kernel) (by decide +kernel), by decide +kernel, ⟨by decide +kernel, by decide +kernel, by decide +kernel⟩, rfl⟩
theorem w_review {J : Nat → Nat → Int64} {V : Mem} {k : Nat} {P : Mem → Prop} (p1 p2 p3 p4 p5 : Int32) (x : Int32) (hC : CTc J mX7_review [.ref 0, .int p1, .int p2, .int p3, .int p4, .int p5] V (fun r V' => k = 0 ∧ r = some (.int (x)) ∧ P V') (fun X V' => k ≠ 0 ∧ (k, X) ∈ xs3 ∧ P V')) : CT mL_review [.ref 0, .int p1, .int p2, .int p3, .int p4, .int p5, .ref 427] (T0 J, V) (WQ k (x) P) (fun _ _ => False) := by
  refine ctw_of (e0 := 16) pL_review rfl rfl (by unfold hhOK; decide) (by decide) (show 7 ≤ 8 by decide) ?_
  refine s_aload (x := 427) dL_review_0 rfl (s_iconst (v := 0) dL_review_2 rfl (s_aload_n (x := 0) dL_review_3 rfl (s_iload_n (x := p1) dL_review_4 rfl (s_iload_n (x := p2) dL_review_5 rfl (s_iload_n (x := p3) dL_review_6 rfl (s_iload (x := p4) dL_review_7 rfl (s_iload (x := p5) dL_review_9 rfl (s_callV (h := 0) (As := [.int p1, .int p2, .int p3, .int p4, .int p5]) (st := [.int 0, .ref 427]) iv_9_32 dL_review_11 (by unfold rmP; decide) rfl (show 2 ≤ 8 by decide) (by decide) (by decide) (show 0 < 428 by decide) rfl hC ⟨fun v M' hv => ?_, fun E M' hE => ?_⟩))))))))
  · obtain ⟨T', V'⟩ := M'
    obtain ⟨hT, hk, rfl, hP⟩ := hv
    dsimp only at hT hP
    subst hT
    refine ⟨rOK_same, ?_⟩
    refine s_i2l (x := x) dL_review_14 (s_last (h := 427) (i := 0) dL_review_15 (show 427 < 428 by decide) rfl vp01 ?_)
    rw [show (0 : Int32).toNatClampNeg = 0 from rfl, up2_J]
    exact s_goto (tgt := 31) dL_review_16 rfl (s_iconst (v := nI k) dL_review_31 (by rw [hk]; rfl) (s_iret dL_review_32 (Or.inl rfl) ⟨rfl, by omega, _, rfl, hP, fun _ => up2_same J 427 0 _⟩))
  · obtain ⟨T', V'⟩ := M'
    obtain ⟨hT, hk, hm, hP⟩ := hE
    dsimp only at hT hP
    subst hT
    refine Or.inr ?_
    simp only [xs3, List.mem_cons, Prod.mk.injEq, List.not_mem_nil, or_false] at hm
    rcases hm with ⟨rfl, rfl⟩ | ⟨rfl, rfl⟩ | ⟨rfl, rfl⟩
    · exact ⟨19, by decide +kernel, rOK_same, Or.inr ⟨7, dL_review_19, by decide, s_iconst (v := nI 1) dL_review_21 rfl (s_iret dL_review_22 (Or.inl rfl) ⟨rfl, by omega, _, rfl, hP, fun z => (hk z).elim⟩)⟩⟩
    · exact ⟨23, by decide +kernel, rOK_same, Or.inr ⟨7, dL_review_23, by decide, s_iconst (v := nI 2) dL_review_25 rfl (s_iret dL_review_26 (Or.inl rfl) ⟨rfl, by omega, _, rfl, hP, fun z => (hk z).elim⟩)⟩⟩
    · exact ⟨27, by decide +kernel, rOK_same, Or.inr ⟨7, dL_review_27, by decide, s_iconst (v := nI 3) dL_review_29 rfl (s_iret dL_review_30 (Or.inl rfl) ⟨rfl, by omega, _, rfl, hP, fun z => (hk z).elim⟩)⟩⟩
abbrev mL_wouldFall : pD := (yL_wouldFall, cL_wouldFall, 7, some .int, 9, { frames := 8, cells := 2, slots := 12, locals := 191 }, 6, Cond.codeWith yL_wouldFall cL_wouldFall 7 (some .int) [(0, 14, 17, 13), (0, 14, 21, 15)], hX 14 [(0, 14, 17, 13), (0, 14, 21, 15)])
theorem pL_wouldFall : pdW mL_wouldFall [(0, 14, 17, 13), (0, 14, 21, 15)] := ⟨rfl, TBg_of (w := Cond.codeWith yL_wouldFall cL_wouldFall 7 (some .int) [(0, 14, 17, 13), (0, 14, 21, 15)]) (i := 916) (by decide +kernel) (by decide +kernel), TBg_of (w := Cond.initialized yL_wouldFall.cls) (i := 71) (by decide +kernel) (by decide +kernel), by decide +kernel, ⟨by decide +kernel, by decide +kernel, by decide +kernel⟩, rfl⟩
theorem w_wouldFall {J : Nat → Nat → Int64} {V : Mem} {k : Nat} {P : Mem → Prop} (p1 p2 p3 p4 : Int32) (x : Int32) (hC : CTc J mX7_wouldFall [.ref 0, .int p1, .int p2, .int p3, .int p4] V (fun r V' => k = 0 ∧ r = some (.int (x)) ∧ P V') (fun X V' => k ≠ 0 ∧ (k, X) ∈ xsD ∧ P V')) : CT mL_wouldFall [.ref 0, .int p1, .int p2, .int p3, .int p4, .ref 427] (T0 J, V) (WQ k (x) P) (fun _ _ => False) := by
  refine ctw_of (e0 := 14) pL_wouldFall rfl rfl (by unfold hhOK; decide) (by decide) (show 6 ≤ 7 by decide) ?_
  refine s_aload (x := 427) dL_wouldFall_0 rfl (s_iconst (v := 0) dL_wouldFall_2 rfl (s_aload_n (x := 0) dL_wouldFall_3 rfl (s_iload_n (x := p1) dL_wouldFall_4 rfl (s_iload_n (x := p2) dL_wouldFall_5 rfl (s_iload_n (x := p3) dL_wouldFall_6 rfl (s_iload (x := p4) dL_wouldFall_7 rfl (s_callV (h := 0) (As := [.int p1, .int p2, .int p3, .int p4]) (st := [.int 0, .ref 427]) iv_9_36 dL_wouldFall_9 (by unfold rmP; decide) rfl (show 2 ≤ 8 by decide) (by decide) (by decide) (show 0 < 428 by decide) rfl hC ⟨fun v M' hv => ?_, fun E M' hE => ?_⟩)))))))
  · obtain ⟨T', V'⟩ := M'
    obtain ⟨hT, hk, rfl, hP⟩ := hv
    dsimp only at hT hP
    subst hT
    refine ⟨rOK_same, ?_⟩
    refine s_i2l (x := x) dL_wouldFall_12 (s_last (h := 427) (i := 0) dL_wouldFall_13 (show 427 < 428 by decide) rfl vp01 ?_)
    rw [show (0 : Int32).toNatClampNeg = 0 from rfl, up2_J]
    exact s_goto (tgt := 25) dL_wouldFall_14 rfl (s_iconst (v := nI k) dL_wouldFall_25 (by rw [hk]; rfl) (s_iret dL_wouldFall_26 (Or.inl rfl) ⟨rfl, by omega, _, rfl, hP, fun _ => up2_same J 427 0 _⟩))
  · obtain ⟨T', V'⟩ := M'
    obtain ⟨hT, hk, hm, hP⟩ := hE
    dsimp only at hT hP
    subst hT
    refine Or.inr ?_
    simp only [xsD, List.mem_cons, Prod.mk.injEq, List.not_mem_nil, or_false] at hm
    rcases hm with ⟨rfl, rfl⟩ | ⟨rfl, rfl⟩
    · exact ⟨17, by decide +kernel, rOK_same, Or.inr ⟨6, dL_wouldFall_17, by decide, s_iconst (v := nI 1) dL_wouldFall_19 rfl (s_iret dL_wouldFall_20 (Or.inl rfl) ⟨rfl, by omega, _, rfl, hP, fun z => (hk z).elim⟩)⟩⟩
    · exact ⟨21, by decide +kernel, rOK_same, Or.inr ⟨6, dL_wouldFall_21, by decide, s_iconst (v := nI 2) dL_wouldFall_23 rfl (s_iret dL_wouldFall_24 (Or.inl rfl) ⟨rfl, by omega, _, rfl, hP, fun z => (hk z).elim⟩)⟩⟩
abbrev mL_takeBack : pD := (yL_takeBack, cL_takeBack, 4, some .int, 9, { frames := 8, cells := 1, slots := 6, locals := 181 }, 3, Cond.codeWith yL_takeBack cL_takeBack 4 (some .int) [(0, 9, 12, 13)], hX 9 [(0, 9, 12, 13)])
theorem pL_takeBack : pdW mL_takeBack [(0, 9, 12, 13)] := ⟨rfl, TBg_of (w := Cond.codeWith yL_takeBack cL_takeBack 4 (some .int) [(0, 9, 12, 13)]) (i := 923) (by decide +kernel) (by decide +kernel), TBg_of (w := Cond.initialized yL_takeBack.cls) (i := 71) (by decide +kernel) (by decide +kernel), by decide +kernel, ⟨by decide +kernel, by decide +kernel, by decide +kernel⟩, rfl⟩
theorem w_takeBack {J : Nat → Nat → Int64} {V : Mem} {k : Nat} {P : Mem → Prop} (p1 : Int32) (x : Int32) (hC : CTc J mX7_takeBack [.ref 0, .int p1] V (fun r V' => k = 0 ∧ r = some (.int (x)) ∧ P V') (fun X V' => k ≠ 0 ∧ (k, X) ∈ xsE ∧ P V')) : CT mL_takeBack [.ref 0, .int p1, .ref 427] (T0 J, V) (WQ k (x) P) (fun _ _ => False) := by
  refine ctw_of (e0 := 9) pL_takeBack rfl rfl (by unfold hhOK; decide) (by decide) (show 3 ≤ 4 by decide) ?_
  refine s_aload_n (x := 427) dL_takeBack_0 rfl (s_iconst (v := 0) dL_takeBack_1 rfl (s_aload_n (x := 0) dL_takeBack_2 rfl (s_iload_n (x := p1) dL_takeBack_3 rfl (s_callV (h := 0) (As := [.int p1]) (st := [.int 0, .ref 427]) iv_9_40 dL_takeBack_4 (by unfold rmP; decide) rfl (show 2 ≤ 8 by decide) (by decide) (by decide) (show 0 < 428 by decide) rfl hC ⟨fun v M' hv => ?_, fun E M' hE => ?_⟩))))
  · obtain ⟨T', V'⟩ := M'
    obtain ⟨hT, hk, rfl, hP⟩ := hv
    dsimp only at hT hP
    subst hT
    refine ⟨rOK_same, ?_⟩
    refine s_i2l (x := x) dL_takeBack_7 (s_last (h := 427) (i := 0) dL_takeBack_8 (show 427 < 428 by decide) rfl vp01 ?_)
    rw [show (0 : Int32).toNatClampNeg = 0 from rfl, up2_J]
    exact s_goto (tgt := 15) dL_takeBack_9 rfl (s_iconst (v := nI k) dL_takeBack_15 (by rw [hk]; rfl) (s_iret dL_takeBack_16 (Or.inl rfl) ⟨rfl, by omega, _, rfl, hP, fun _ => up2_same J 427 0 _⟩))
  · obtain ⟨T', V'⟩ := M'
    obtain ⟨hT, hk, hm, hP⟩ := hE
    dsimp only at hT hP
    subst hT
    refine Or.inr ?_
    simp only [xsE, List.mem_cons, Prod.mk.injEq, List.not_mem_nil, or_false] at hm
    obtain ⟨rfl, rfl⟩ := hm
    exact ⟨12, by decide +kernel, rOK_same, Or.inl ⟨3, dL_takeBack_12, by decide, s_iconst (v := nI 1) dL_takeBack_13 rfl (s_iret dL_takeBack_14 (Or.inl rfl) ⟨rfl, by omega, _, rfl, hP, fun z => (hk z).elim⟩)⟩⟩
abbrev mL_enter : pD := (yL_enter, cL_enter, 3, some .int, 9, { frames := 8, cells := 1, slots := 6, locals := 131 }, 2, Cond.codeWith yL_enter cL_enter 3 (some .int) [(0, 8, 11, 17)], hX 8 [(0, 8, 11, 17)])
theorem pL_enter : pdW mL_enter [(0, 8, 11, 17)] := ⟨rfl, TBg_of (w := Cond.codeWith yL_enter cL_enter 3 (some .int) [(0, 8, 11, 17)]) (i := 938) (by decide +kernel) (by decide +kernel), TBg_of (w := Cond.initialized yL_enter.cls) (i := 71) (by decide +kernel) (by decide +kernel), by decide +kernel, ⟨by decide +kernel, by decide +kernel, by decide +kernel⟩, rfl⟩
theorem w_enter {J : Nat → Nat → Int64} {V : Mem} {k : Nat} {P : Mem → Prop}  (x : Int32) (hC : CTc J mX7_enter [.ref 0] V (fun r V' => k = 0 ∧ r = some (.int (x)) ∧ P V') (fun X V' => k ≠ 0 ∧ (k, X) ∈ xsF ∧ P V')) : CT mL_enter [.ref 0, .ref 427] (T0 J, V) (WQ k (x) P) (fun _ _ => False) := by
  refine ctw_of (e0 := 8) pL_enter rfl rfl (by unfold hhOK; decide) (by decide) (show 2 ≤ 3 by decide) ?_
  refine s_aload_n (x := 427) dL_enter_0 rfl (s_iconst (v := 0) dL_enter_1 rfl (s_aload_n (x := 0) dL_enter_2 rfl (s_callV (h := 0) (As := []) (st := [.int 0, .ref 427]) iv_9_43 dL_enter_3 (by unfold rmP; decide) rfl (show 2 ≤ 8 by decide) (by decide) (by decide) (show 0 < 428 by decide) rfl hC ⟨fun v M' hv => ?_, fun E M' hE => ?_⟩)))
  · obtain ⟨T', V'⟩ := M'
    obtain ⟨hT, hk, rfl, hP⟩ := hv
    dsimp only at hT hP
    subst hT
    refine ⟨rOK_same, ?_⟩
    refine s_i2l (x := x) dL_enter_6 (s_last (h := 427) (i := 0) dL_enter_7 (show 427 < 428 by decide) rfl vp01 ?_)
    rw [show (0 : Int32).toNatClampNeg = 0 from rfl, up2_J]
    exact s_goto (tgt := 14) dL_enter_8 rfl (s_iconst (v := nI k) dL_enter_14 (by rw [hk]; rfl) (s_iret dL_enter_15 (Or.inl rfl) ⟨rfl, by omega, _, rfl, hP, fun _ => up2_same J 427 0 _⟩))
  · obtain ⟨T', V'⟩ := M'
    obtain ⟨hT, hk, hm, hP⟩ := hE
    dsimp only at hT hP
    subst hT
    refine Or.inr ?_
    simp only [xsF, List.mem_cons, Prod.mk.injEq, List.not_mem_nil, or_false] at hm
    obtain ⟨rfl, rfl⟩ := hm
    exact ⟨11, by decide +kernel, rOK_same, Or.inl ⟨2, dL_enter_11, by decide, s_iconst (v := nI 1) dL_enter_12 rfl (s_iret dL_enter_13 (Or.inl rfl) ⟨rfl, by omega, _, rfl, hP, fun z => (hk z).elim⟩)⟩⟩
abbrev mL_type : pD := (yL_type, cL_type, 4, some .int, 9, { frames := 8, cells := 2, slots := 12, locals := 131 }, 3, Cond.codeWith yL_type cL_type 4 (some .int) [(0, 9, 12, 15), (0, 9, 15, 17)], hX 9 [(0, 9, 12, 15), (0, 9, 15, 17)])
theorem pL_type : pdW mL_type [(0, 9, 12, 15), (0, 9, 15, 17)] := ⟨rfl, TBg_of (w := Cond.codeWith yL_type cL_type 4 (some .int) [(0, 9, 12, 15), (0, 9, 15, 17)]) (i := 969) (by decide +kernel) (by decide +kernel), TBg_of (w := Cond.initialized yL_type.cls) (i := 71) (by decide +kernel) (by decide +kernel), by decide +kernel, ⟨by decide +kernel, by decide +kernel, by decide +kernel⟩, rfl⟩
theorem w_type {J : Nat → Nat → Int64} {V : Mem} {k : Nat} {P : Mem → Prop} (p1 : Int32) (x : Int32) (hC : CTc J mX7_type [.ref 0, .int p1] V (fun r V' => k = 0 ∧ r = some (.int (x)) ∧ P V') (fun X V' => k ≠ 0 ∧ (k, X) ∈ xsC ∧ P V')) : CT mL_type [.ref 0, .int p1, .ref 427] (T0 J, V) (WQ k (x) P) (fun _ _ => False) := by
  refine ctw_of (e0 := 9) pL_type rfl rfl (by unfold hhOK; decide) (by decide) (show 3 ≤ 4 by decide) ?_
  refine s_aload_n (x := 427) dL_type_0 rfl (s_iconst (v := 0) dL_type_1 rfl (s_aload_n (x := 0) dL_type_2 rfl (s_iload_n (x := p1) dL_type_3 rfl (s_callV (h := 0) (As := [.int p1]) (st := [.int 0, .ref 427]) iv_9_47 dL_type_4 (by unfold rmP; decide) rfl (show 2 ≤ 8 by decide) (by decide) (by decide) (show 0 < 428 by decide) rfl hC ⟨fun v M' hv => ?_, fun E M' hE => ?_⟩))))
  · obtain ⟨T', V'⟩ := M'
    obtain ⟨hT, hk, rfl, hP⟩ := hv
    dsimp only at hT hP
    subst hT
    refine ⟨rOK_same, ?_⟩
    refine s_i2l (x := x) dL_type_7 (s_last (h := 427) (i := 0) dL_type_8 (show 427 < 428 by decide) rfl vp01 ?_)
    rw [show (0 : Int32).toNatClampNeg = 0 from rfl, up2_J]
    exact s_goto (tgt := 18) dL_type_9 rfl (s_iconst (v := nI k) dL_type_18 (by rw [hk]; rfl) (s_iret dL_type_19 (Or.inl rfl) ⟨rfl, by omega, _, rfl, hP, fun _ => up2_same J 427 0 _⟩))
  · obtain ⟨T', V'⟩ := M'
    obtain ⟨hT, hk, hm, hP⟩ := hE
    dsimp only at hT hP
    subst hT
    refine Or.inr ?_
    simp only [xsC, List.mem_cons, Prod.mk.injEq, List.not_mem_nil, or_false] at hm
    rcases hm with ⟨rfl, rfl⟩ | ⟨rfl, rfl⟩
    · exact ⟨12, by decide +kernel, rOK_same, Or.inl ⟨3, dL_type_12, by decide, s_iconst (v := nI 1) dL_type_13 rfl (s_iret dL_type_14 (Or.inl rfl) ⟨rfl, by omega, _, rfl, hP, fun z => (hk z).elim⟩)⟩⟩
    · exact ⟨15, by decide +kernel, rOK_same, Or.inl ⟨3, dL_type_15, by decide, s_iconst (v := nI 2) dL_type_16 rfl (s_iret dL_type_17 (Or.inl rfl) ⟨rfl, by omega, _, rfl, hP, fun z => (hk z).elim⟩)⟩⟩
abbrev mL_run : pD := (yL_run, cL_run, 3, some .int, 9, { frames := 11, cells := 1, slots := 6, locals := 272 }, 2, Cond.codeWith yL_run cL_run 3 (some .int) [(0, 8, 11, 17)], hX 8 [(0, 8, 11, 17)])
theorem pL_run : pdW mL_run [(0, 8, 11, 17)] := ⟨rfl, TBg_of (w := Cond.codeWith yL_run cL_run 3 (some .int) [(0, 8, 11, 17)]) (i := 984) (by decide +kernel) (by decide +kernel), TBg_of (w := Cond.initialized yL_run.cls) (i := 71) (by decide +kernel) (by decide +kernel), by decide +kernel, ⟨by decide +kernel, by decide +kernel, by decide +kernel⟩, rfl⟩
theorem w_run {J : Nat → Nat → Int64} {V : Mem} {k : Nat} {P : Mem → Prop}  (x : Int32) (hC : CTc J mX7_run [.ref 0] V (fun r V' => k = 0 ∧ r = some (.int (x)) ∧ P V') (fun X V' => k ≠ 0 ∧ (k, X) ∈ xsF ∧ P V')) : CT mL_run [.ref 0, .ref 427] (T0 J, V) (WQ k (x) P) (fun _ _ => False) := by
  refine ctw_of (e0 := 8) pL_run rfl rfl (by unfold hhOK; decide) (by decide) (show 2 ≤ 3 by decide) ?_
  refine s_aload_n (x := 427) dL_run_0 rfl (s_iconst (v := 0) dL_run_1 rfl (s_aload_n (x := 0) dL_run_2 rfl (s_callV (h := 0) (As := []) (st := [.int 0, .ref 427]) iv_9_50 dL_run_3 (by unfold rmP; decide) rfl (show 2 ≤ 8 by decide) (by decide) (by decide) (show 0 < 428 by decide) rfl hC ⟨fun v M' hv => ?_, fun E M' hE => ?_⟩)))
  · obtain ⟨T', V'⟩ := M'
    obtain ⟨hT, hk, rfl, hP⟩ := hv
    dsimp only at hT hP
    subst hT
    refine ⟨rOK_same, ?_⟩
    refine s_i2l (x := x) dL_run_6 (s_last (h := 427) (i := 0) dL_run_7 (show 427 < 428 by decide) rfl vp01 ?_)
    rw [show (0 : Int32).toNatClampNeg = 0 from rfl, up2_J]
    exact s_goto (tgt := 14) dL_run_8 rfl (s_iconst (v := nI k) dL_run_14 (by rw [hk]; rfl) (s_iret dL_run_15 (Or.inl rfl) ⟨rfl, by omega, _, rfl, hP, fun _ => up2_same J 427 0 _⟩))
  · obtain ⟨T', V'⟩ := M'
    obtain ⟨hT, hk, hm, hP⟩ := hE
    dsimp only at hT hP
    subst hT
    refine Or.inr ?_
    simp only [xsF, List.mem_cons, Prod.mk.injEq, List.not_mem_nil, or_false] at hm
    obtain ⟨rfl, rfl⟩ := hm
    exact ⟨11, by decide +kernel, rOK_same, Or.inl ⟨2, dL_run_11, by decide, s_iconst (v := nI 1) dL_run_12 rfl (s_iret dL_run_13 (Or.inl rfl) ⟨rfl, by omega, _, rfl, hP, fun z => (hk z).elim⟩)⟩⟩
abbrev mL_player : pD := (yL_player, cL_player, 5, some .int, 9, { frames := 8, cells := 3, slots := 18, locals := 133 }, 4, Cond.codeWith yL_player cL_player 5 (some .int) [(0, 10, 13, 13), (0, 10, 17, 17)], hX 10 [(0, 10, 13, 13), (0, 10, 17, 17)])
theorem pL_player : pdW mL_player [(0, 10, 13, 13), (0, 10, 17, 17)] := ⟨rfl, TBg_of (w := Cond.codeWith yL_player cL_player 5 (some .int) [(0, 10, 13, 13), (0, 10, 17, 17)]) (i := 997) (by decide +kernel) (by decide +kernel), TBg_of (w := Cond.initialized yL_player.cls) (i := 71) (by decide +kernel) (by decide +kernel), by decide +kernel, ⟨by decide +kernel, by decide +kernel, by decide +kernel⟩, rfl⟩
theorem w_player {J : Nat → Nat → Int64} {V : Mem} {k : Nat} {P : Mem → Prop} (p1 p2 : Int32) (x : Int32) (hC : CTc J mX7_player [.ref 0, .int p1, .int p2] V (fun r V' => k = 0 ∧ r = some (.int (x)) ∧ P V') (fun X V' => k ≠ 0 ∧ (k, X) ∈ xsB ∧ P V')) : CT mL_player [.ref 0, .int p1, .int p2, .ref 427] (T0 J, V) (WQ k (x) P) (fun _ _ => False) := by
  refine ctw_of (e0 := 10) pL_player rfl rfl (by unfold hhOK; decide) (by decide) (show 4 ≤ 5 by decide) ?_
  refine s_aload_n (x := 427) dL_player_0 rfl (s_iconst (v := 0) dL_player_1 rfl (s_aload_n (x := 0) dL_player_2 rfl (s_iload_n (x := p1) dL_player_3 rfl (s_iload_n (x := p2) dL_player_4 rfl (s_callV (h := 0) (As := [.int p1, .int p2]) (st := [.int 0, .ref 427]) iv_9_53 dL_player_5 (by unfold rmP; decide) rfl (show 2 ≤ 8 by decide) (by decide) (by decide) (show 0 < 428 by decide) rfl hC ⟨fun v M' hv => ?_, fun E M' hE => ?_⟩)))))
  · obtain ⟨T', V'⟩ := M'
    obtain ⟨hT, hk, rfl, hP⟩ := hv
    dsimp only at hT hP
    subst hT
    refine ⟨rOK_same, ?_⟩
    refine s_i2l (x := x) dL_player_8 (s_last (h := 427) (i := 0) dL_player_9 (show 427 < 428 by decide) rfl vp01 ?_)
    rw [show (0 : Int32).toNatClampNeg = 0 from rfl, up2_J]
    exact s_goto (tgt := 21) dL_player_10 rfl (s_iconst (v := nI k) dL_player_21 (by rw [hk]; rfl) (s_iret dL_player_22 (Or.inl rfl) ⟨rfl, by omega, _, rfl, hP, fun _ => up2_same J 427 0 _⟩))
  · obtain ⟨T', V'⟩ := M'
    obtain ⟨hT, hk, hm, hP⟩ := hE
    dsimp only at hT hP
    subst hT
    refine Or.inr ?_
    simp only [xsB, List.mem_cons, Prod.mk.injEq, List.not_mem_nil, or_false] at hm
    rcases hm with ⟨rfl, rfl⟩ | ⟨rfl, rfl⟩
    · exact ⟨13, by decide +kernel, rOK_same, Or.inr ⟨4, dL_player_13, by decide, s_iconst (v := nI 1) dL_player_15 rfl (s_iret dL_player_16 (Or.inl rfl) ⟨rfl, by omega, _, rfl, hP, fun z => (hk z).elim⟩)⟩⟩
    · exact ⟨17, by decide +kernel, rOK_same, Or.inr ⟨4, dL_player_17, by decide, s_iconst (v := nI 2) dL_player_19 rfl (s_iret dL_player_20 (Or.inl rfl) ⟨rfl, by omega, _, rfl, hP, fun z => (hk z).elim⟩)⟩⟩
abbrev mL_out : pD := (yL_out, cL_out, 5, some .int, 9, { frames := 8, cells := 3, slots := 18, locals := 133 }, 4, Cond.codeWith yL_out cL_out 5 (some .int) [(0, 10, 13, 13), (0, 10, 17, 17)], hX 10 [(0, 10, 13, 13), (0, 10, 17, 17)])
theorem pL_out : pdW mL_out [(0, 10, 13, 13), (0, 10, 17, 17)] := ⟨rfl, TBg_of (w := Cond.codeWith yL_out cL_out 5 (some .int) [(0, 10, 13, 13), (0, 10, 17, 17)]) (i := 1009) (by decide +kernel) (by decide +kernel), TBg_of (w := Cond.initialized yL_out.cls) (i := 71) (by decide +kernel) (by decide +kernel), by decide +kernel, ⟨by decide +kernel, by decide +kernel, by decide +kernel⟩, rfl⟩
theorem w_out {J : Nat → Nat → Int64} {V : Mem} {k : Nat} {P : Mem → Prop} (p1 p2 : Int32) (x : Int32) (hC : CTc J mX7_out [.ref 0, .int p1, .int p2] V (fun r V' => k = 0 ∧ r = some (.int (x)) ∧ P V') (fun X V' => k ≠ 0 ∧ (k, X) ∈ xsB ∧ P V')) : CT mL_out [.ref 0, .int p1, .int p2, .ref 427] (T0 J, V) (WQ k (x) P) (fun _ _ => False) := by
  refine ctw_of (e0 := 10) pL_out rfl rfl (by unfold hhOK; decide) (by decide) (show 4 ≤ 5 by decide) ?_
  refine s_aload_n (x := 427) dL_out_0 rfl (s_iconst (v := 0) dL_out_1 rfl (s_aload_n (x := 0) dL_out_2 rfl (s_iload_n (x := p1) dL_out_3 rfl (s_iload_n (x := p2) dL_out_4 rfl (s_callV (h := 0) (As := [.int p1, .int p2]) (st := [.int 0, .ref 427]) iv_9_57 dL_out_5 (by unfold rmP; decide) rfl (show 2 ≤ 8 by decide) (by decide) (by decide) (show 0 < 428 by decide) rfl hC ⟨fun v M' hv => ?_, fun E M' hE => ?_⟩)))))
  · obtain ⟨T', V'⟩ := M'
    obtain ⟨hT, hk, rfl, hP⟩ := hv
    dsimp only at hT hP
    subst hT
    refine ⟨rOK_same, ?_⟩
    refine s_i2l (x := x) dL_out_8 (s_last (h := 427) (i := 0) dL_out_9 (show 427 < 428 by decide) rfl vp01 ?_)
    rw [show (0 : Int32).toNatClampNeg = 0 from rfl, up2_J]
    exact s_goto (tgt := 21) dL_out_10 rfl (s_iconst (v := nI k) dL_out_21 (by rw [hk]; rfl) (s_iret dL_out_22 (Or.inl rfl) ⟨rfl, by omega, _, rfl, hP, fun _ => up2_same J 427 0 _⟩))
  · obtain ⟨T', V'⟩ := M'
    obtain ⟨hT, hk, hm, hP⟩ := hE
    dsimp only at hT hP
    subst hT
    refine Or.inr ?_
    simp only [xsB, List.mem_cons, Prod.mk.injEq, List.not_mem_nil, or_false] at hm
    rcases hm with ⟨rfl, rfl⟩ | ⟨rfl, rfl⟩
    · exact ⟨13, by decide +kernel, rOK_same, Or.inr ⟨4, dL_out_13, by decide, s_iconst (v := nI 1) dL_out_15 rfl (s_iret dL_out_16 (Or.inl rfl) ⟨rfl, by omega, _, rfl, hP, fun z => (hk z).elim⟩)⟩⟩
    · exact ⟨17, by decide +kernel, rOK_same, Or.inr ⟨4, dL_out_17, by decide, s_iconst (v := nI 2) dL_out_19 rfl (s_iret dL_out_20 (Or.inl rfl) ⟨rfl, by omega, _, rfl, hP, fun z => (hk z).elim⟩)⟩⟩
abbrev mL_next : pD := (yL_next, cL_next, 4, some .int, 9, { frames := 8, cells := 2, slots := 12, locals := 132 }, 3, Cond.codeWith yL_next cL_next 4 (some .int) [(0, 9, 12, 13), (0, 9, 15, 17)], hX 9 [(0, 9, 12, 13), (0, 9, 15, 17)])
theorem pL_next : pdW mL_next [(0, 9, 12, 13), (0, 9, 15, 17)] := ⟨rfl, TBg_of (w := Cond.codeWith yL_next cL_next 4 (some .int) [(0, 9, 12, 13), (0, 9, 15, 17)]) (i := 1023) (by decide +kernel) (by decide +kernel), TBg_of (w := Cond.initialized yL_next.cls) (i := 71) (by decide +kernel) (by decide +kernel), by decide +kernel, ⟨by decide +kernel, by decide +kernel, by decide +kernel⟩, rfl⟩
theorem w_next {J : Nat → Nat → Int64} {V : Mem} {k : Nat} {P : Mem → Prop} (p1 : Int32) (x : Int32) (hC : CTc J mX7_next [.ref 0, .int p1] V (fun r V' => k = 0 ∧ r = some (.int (x)) ∧ P V') (fun X V' => k ≠ 0 ∧ (k, X) ∈ xsB ∧ P V')) : CT mL_next [.ref 0, .int p1, .ref 427] (T0 J, V) (WQ k (x) P) (fun _ _ => False) := by
  refine ctw_of (e0 := 9) pL_next rfl rfl (by unfold hhOK; decide) (by decide) (show 3 ≤ 4 by decide) ?_
  refine s_aload_n (x := 427) dL_next_0 rfl (s_iconst (v := 0) dL_next_1 rfl (s_aload_n (x := 0) dL_next_2 rfl (s_iload_n (x := p1) dL_next_3 rfl (s_callV (h := 0) (As := [.int p1]) (st := [.int 0, .ref 427]) iv_9_60 dL_next_4 (by unfold rmP; decide) rfl (show 2 ≤ 8 by decide) (by decide) (by decide) (show 0 < 428 by decide) rfl hC ⟨fun v M' hv => ?_, fun E M' hE => ?_⟩))))
  · obtain ⟨T', V'⟩ := M'
    obtain ⟨hT, hk, rfl, hP⟩ := hv
    dsimp only at hT hP
    subst hT
    refine ⟨rOK_same, ?_⟩
    refine s_i2l (x := x) dL_next_7 (s_last (h := 427) (i := 0) dL_next_8 (show 427 < 428 by decide) rfl vp01 ?_)
    rw [show (0 : Int32).toNatClampNeg = 0 from rfl, up2_J]
    exact s_goto (tgt := 18) dL_next_9 rfl (s_iconst (v := nI k) dL_next_18 (by rw [hk]; rfl) (s_iret dL_next_19 (Or.inl rfl) ⟨rfl, by omega, _, rfl, hP, fun _ => up2_same J 427 0 _⟩))
  · obtain ⟨T', V'⟩ := M'
    obtain ⟨hT, hk, hm, hP⟩ := hE
    dsimp only at hT hP
    subst hT
    refine Or.inr ?_
    simp only [xsB, List.mem_cons, Prod.mk.injEq, List.not_mem_nil, or_false] at hm
    rcases hm with ⟨rfl, rfl⟩ | ⟨rfl, rfl⟩
    · exact ⟨12, by decide +kernel, rOK_same, Or.inl ⟨3, dL_next_12, by decide, s_iconst (v := nI 1) dL_next_13 rfl (s_iret dL_next_14 (Or.inl rfl) ⟨rfl, by omega, _, rfl, hP, fun z => (hk z).elim⟩)⟩⟩
    · exact ⟨15, by decide +kernel, rOK_same, Or.inl ⟨3, dL_next_15, by decide, s_iconst (v := nI 2) dL_next_16 rfl (s_iret dL_next_17 (Or.inl rfl) ⟨rfl, by omega, _, rfl, hP, fun z => (hk z).elim⟩)⟩⟩
abbrev mL_points : pD := (yL_points, cL_points, 4, some .int, 9, { frames := 8, cells := 2, slots := 12, locals := 132 }, 3, Cond.codeWith yL_points cL_points 4 (some .int) [(0, 9, 12, 13), (0, 9, 15, 17)], hX 9 [(0, 9, 12, 13), (0, 9, 15, 17)])
theorem pL_points : pdW mL_points [(0, 9, 12, 13), (0, 9, 15, 17)] := ⟨rfl, TBg_of (w := Cond.codeWith yL_points cL_points 4 (some .int) [(0, 9, 12, 13), (0, 9, 15, 17)]) (i := 1030) (by decide +kernel) (by decide +kernel), TBg_of (w := Cond.initialized yL_points.cls) (i := 71) (by decide +kernel) (by decide +kernel), by decide +kernel, ⟨by decide +kernel, by decide +kernel, by decide +kernel⟩, rfl⟩
theorem w_points {J : Nat → Nat → Int64} {V : Mem} {k : Nat} {P : Mem → Prop} (p1 : Int32) (x : Int32) (hC : CTc J mX7_points [.ref 0, .int p1] V (fun r V' => k = 0 ∧ r = some (.int (x)) ∧ P V') (fun X V' => k ≠ 0 ∧ (k, X) ∈ xsB ∧ P V')) : CT mL_points [.ref 0, .int p1, .ref 427] (T0 J, V) (WQ k (x) P) (fun _ _ => False) := by
  refine ctw_of (e0 := 9) pL_points rfl rfl (by unfold hhOK; decide) (by decide) (show 3 ≤ 4 by decide) ?_
  refine s_aload_n (x := 427) dL_points_0 rfl (s_iconst (v := 0) dL_points_1 rfl (s_aload_n (x := 0) dL_points_2 rfl (s_iload_n (x := p1) dL_points_3 rfl (s_callV (h := 0) (As := [.int p1]) (st := [.int 0, .ref 427]) iv_9_63 dL_points_4 (by unfold rmP; decide) rfl (show 2 ≤ 8 by decide) (by decide) (by decide) (show 0 < 428 by decide) rfl hC ⟨fun v M' hv => ?_, fun E M' hE => ?_⟩))))
  · obtain ⟨T', V'⟩ := M'
    obtain ⟨hT, hk, rfl, hP⟩ := hv
    dsimp only at hT hP
    subst hT
    refine ⟨rOK_same, ?_⟩
    refine s_i2l (x := x) dL_points_7 (s_last (h := 427) (i := 0) dL_points_8 (show 427 < 428 by decide) rfl vp01 ?_)
    rw [show (0 : Int32).toNatClampNeg = 0 from rfl, up2_J]
    exact s_goto (tgt := 18) dL_points_9 rfl (s_iconst (v := nI k) dL_points_18 (by rw [hk]; rfl) (s_iret dL_points_19 (Or.inl rfl) ⟨rfl, by omega, _, rfl, hP, fun _ => up2_same J 427 0 _⟩))
  · obtain ⟨T', V'⟩ := M'
    obtain ⟨hT, hk, hm, hP⟩ := hE
    dsimp only at hT hP
    subst hT
    refine Or.inr ?_
    simp only [xsB, List.mem_cons, Prod.mk.injEq, List.not_mem_nil, or_false] at hm
    rcases hm with ⟨rfl, rfl⟩ | ⟨rfl, rfl⟩
    · exact ⟨12, by decide +kernel, rOK_same, Or.inl ⟨3, dL_points_12, by decide, s_iconst (v := nI 1) dL_points_13 rfl (s_iret dL_points_14 (Or.inl rfl) ⟨rfl, by omega, _, rfl, hP, fun z => (hk z).elim⟩)⟩⟩
    · exact ⟨15, by decide +kernel, rOK_same, Or.inl ⟨3, dL_points_15, by decide, s_iconst (v := nI 2) dL_points_16 rfl (s_iret dL_points_17 (Or.inl rfl) ⟨rfl, by omega, _, rfl, hP, fun z => (hk z).elim⟩)⟩⟩
abbrev mL_match : pD := (yL_match, cL_match, 4, some .int, 9, { frames := 8, cells := 2, slots := 12, locals := 131 }, 3, Cond.codeWith yL_match cL_match 4 (some .int) [(0, 9, 12, 15), (0, 9, 15, 17)], hX 9 [(0, 9, 12, 15), (0, 9, 15, 17)])
theorem pL_match : pdW mL_match [(0, 9, 12, 15), (0, 9, 15, 17)] := ⟨rfl, TBg_of (w := Cond.codeWith yL_match cL_match 4 (some .int) [(0, 9, 12, 15), (0, 9, 15, 17)]) (i := 1037) (by decide +kernel) (by decide +kernel), TBg_of (w := Cond.initialized yL_match.cls) (i := 71) (by decide +kernel) (by decide +kernel), by decide +kernel, ⟨by decide +kernel, by decide +kernel, by decide +kernel⟩, rfl⟩
theorem w_match {J : Nat → Nat → Int64} {V : Mem} {k : Nat} {P : Mem → Prop} (p1 : Int32) (x : Int32) (hC : CTc J mX7_match [.ref 0, .int p1] V (fun r V' => k = 0 ∧ r = some (.int (x)) ∧ P V') (fun X V' => k ≠ 0 ∧ (k, X) ∈ xsC ∧ P V')) : CT mL_match [.ref 0, .int p1, .ref 427] (T0 J, V) (WQ k (x) P) (fun _ _ => False) := by
  refine ctw_of (e0 := 9) pL_match rfl rfl (by unfold hhOK; decide) (by decide) (show 3 ≤ 4 by decide) ?_
  refine s_aload_n (x := 427) dL_match_0 rfl (s_iconst (v := 0) dL_match_1 rfl (s_aload_n (x := 0) dL_match_2 rfl (s_iload_n (x := p1) dL_match_3 rfl (s_callV (h := 0) (As := [.int p1]) (st := [.int 0, .ref 427]) iv_9_66 dL_match_4 (by unfold rmP; decide) rfl (show 2 ≤ 8 by decide) (by decide) (by decide) (show 0 < 428 by decide) rfl hC ⟨fun v M' hv => ?_, fun E M' hE => ?_⟩))))
  · obtain ⟨T', V'⟩ := M'
    obtain ⟨hT, hk, rfl, hP⟩ := hv
    dsimp only at hT hP
    subst hT
    refine ⟨rOK_same, ?_⟩
    refine s_i2l (x := x) dL_match_7 (s_last (h := 427) (i := 0) dL_match_8 (show 427 < 428 by decide) rfl vp01 ?_)
    rw [show (0 : Int32).toNatClampNeg = 0 from rfl, up2_J]
    exact s_goto (tgt := 18) dL_match_9 rfl (s_iconst (v := nI k) dL_match_18 (by rw [hk]; rfl) (s_iret dL_match_19 (Or.inl rfl) ⟨rfl, by omega, _, rfl, hP, fun _ => up2_same J 427 0 _⟩))
  · obtain ⟨T', V'⟩ := M'
    obtain ⟨hT, hk, hm, hP⟩ := hE
    dsimp only at hT hP
    subst hT
    refine Or.inr ?_
    simp only [xsC, List.mem_cons, Prod.mk.injEq, List.not_mem_nil, or_false] at hm
    rcases hm with ⟨rfl, rfl⟩ | ⟨rfl, rfl⟩
    · exact ⟨12, by decide +kernel, rOK_same, Or.inl ⟨3, dL_match_12, by decide, s_iconst (v := nI 1) dL_match_13 rfl (s_iret dL_match_14 (Or.inl rfl) ⟨rfl, by omega, _, rfl, hP, fun z => (hk z).elim⟩)⟩⟩
    · exact ⟨15, by decide +kernel, rOK_same, Or.inl ⟨3, dL_match_15, by decide, s_iconst (v := nI 2) dL_match_16 rfl (s_iret dL_match_17 (Or.inl rfl) ⟨rfl, by omega, _, rfl, hP, fun z => (hk z).elim⟩)⟩⟩
abbrev mL_hasReview : pD := (yL_hasReview, cL_hasReview, 4, some .int, 9, { frames := 8, cells := 2, slots := 12, locals := 132 }, 3, Cond.codeWith yL_hasReview cL_hasReview 4 (some .int) [(0, 16, 19, 13), (0, 16, 22, 17)], hX 16 [(0, 16, 19, 13), (0, 16, 22, 17)])
theorem pL_hasReview : pdW mL_hasReview [(0, 16, 19, 13), (0, 16, 22, 17)] := ⟨rfl, TBg_of (w := Cond.codeWith yL_hasReview cL_hasReview 4 (some .int) [(0, 16, 19, 13), (0, 16, 22, 17)]) (i := 1051) (by decide +kernel) (by decide +kernel), TBg_of (w := Cond.initialized yL_hasReview.cls) (i := 71) (by decide +kernel) (by decide +kernel), by decide +kernel, ⟨by decide +kernel, by decide +kernel, by decide +kernel⟩, rfl⟩
theorem w_hasReview {J : Nat → Nat → Int64} {V : Mem} {k : Nat} {P : Mem → Prop} (p1 : Int32) (b : Bool) (hC : CTc J mX7_hasReview [.ref 0, .int p1] V (fun r V' => k = 0 ∧ r = some (.int (bI b)) ∧ P V') (fun X V' => k ≠ 0 ∧ (k, X) ∈ xsB ∧ P V')) : CT mL_hasReview [.ref 0, .int p1, .ref 427] (T0 J, V) (WQ k (bI b) P) (fun _ _ => False) := by
  refine ctw_of (e0 := 16) pL_hasReview rfl rfl (by unfold hhOK; decide) (by decide) (show 3 ≤ 4 by decide) ?_
  refine s_aload_n (x := 427) dL_hasReview_0 rfl (s_iconst (v := 0) dL_hasReview_1 rfl (s_aload_n (x := 0) dL_hasReview_2 rfl (s_iload_n (x := p1) dL_hasReview_3 rfl (s_callV (h := 0) (As := [.int p1]) (st := [.int 0, .ref 427]) iv_9_69 dL_hasReview_4 (by unfold rmP; decide) rfl (show 2 ≤ 8 by decide) (by decide) (by decide) (show 0 < 428 by decide) rfl hC ⟨fun v M' hv => ?_, fun E M' hE => ?_⟩))))
  · obtain ⟨T', V'⟩ := M'
    obtain ⟨hT, hk, rfl, hP⟩ := hv
    dsimp only at hT hP
    subst hT
    refine ⟨rOK_same, ?_⟩
    refine s_if_eq (x := bI b) (tgt := 14) dL_hasReview_7 rfl (fun c => s_lconst (v := 0) dL_hasReview_14 rfl ?_) (fun c => s_lconst (v := 1) dL_hasReview_10 rfl (s_goto (tgt := 15) dL_hasReview_11 rfl ?_))
    · rw [bI_f c] at hC ⊢
      refine s_last (h := 427) (i := 0) dL_hasReview_15 (show 427 < 428 by decide) rfl vp01 ?_
      rw [show (0 : Int32).toNatClampNeg = 0 from rfl, up2_J]
      exact s_goto (tgt := 25) dL_hasReview_16 rfl (s_iconst (v := nI k) dL_hasReview_25 (by rw [hk]; rfl) (s_iret dL_hasReview_26 (Or.inl rfl) ⟨rfl, by omega, _, rfl, hP, fun _ => up2_same J 427 0 _⟩))
    · rw [bI_t c] at hC ⊢
      refine s_last (h := 427) (i := 0) dL_hasReview_15 (show 427 < 428 by decide) rfl vp01 ?_
      rw [show (0 : Int32).toNatClampNeg = 0 from rfl, up2_J]
      exact s_goto (tgt := 25) dL_hasReview_16 rfl (s_iconst (v := nI k) dL_hasReview_25 (by rw [hk]; rfl) (s_iret dL_hasReview_26 (Or.inl rfl) ⟨rfl, by omega, _, rfl, hP, fun _ => up2_same J 427 0 _⟩))
  · obtain ⟨T', V'⟩ := M'
    obtain ⟨hT, hk, hm, hP⟩ := hE
    dsimp only at hT hP
    subst hT
    refine Or.inr ?_
    simp only [xsB, List.mem_cons, Prod.mk.injEq, List.not_mem_nil, or_false] at hm
    rcases hm with ⟨rfl, rfl⟩ | ⟨rfl, rfl⟩
    · exact ⟨19, by decide +kernel, rOK_same, Or.inl ⟨3, dL_hasReview_19, by decide, s_iconst (v := nI 1) dL_hasReview_20 rfl (s_iret dL_hasReview_21 (Or.inl rfl) ⟨rfl, by omega, _, rfl, hP, fun z => (hk z).elim⟩)⟩⟩
    · exact ⟨22, by decide +kernel, rOK_same, Or.inl ⟨3, dL_hasReview_22, by decide, s_iconst (v := nI 2) dL_hasReview_23 rfl (s_iret dL_hasReview_24 (Or.inl rfl) ⟨rfl, by omega, _, rfl, hP, fun z => (hk z).elim⟩)⟩⟩
abbrev mL_matAfter : pD := (yL_matAfter, cL_matAfter, 5, some .int, 9, { frames := 8, cells := 2, slots := 12, locals := 133 }, 4, Cond.codeWith yL_matAfter cL_matAfter 5 (some .int) [(0, 10, 13, 13)], hX 10 [(0, 10, 13, 13)])
theorem pL_matAfter : pdW mL_matAfter [(0, 10, 13, 13)] := ⟨rfl, TBg_of (w := Cond.codeWith yL_matAfter cL_matAfter 5 (some .int) [(0, 10, 13, 13)]) (i := 1058) (by decide +kernel) (by decide +kernel), TBg_of (w := Cond.initialized yL_matAfter.cls) (i := 71) (by decide +kernel) (by decide +kernel), by decide +kernel, ⟨by decide +kernel, by decide +kernel, by decide +kernel⟩, rfl⟩
theorem w_matAfter {J : Nat → Nat → Int64} {V : Mem} {k : Nat} {P : Mem → Prop} (p1 p2 : Int32) (x : Int32) (hC : CTc J mX7_matAfter [.ref 0, .int p1, .int p2] V (fun r V' => k = 0 ∧ r = some (.int (x)) ∧ P V') (fun X V' => k ≠ 0 ∧ (k, X) ∈ xsE ∧ P V')) : CT mL_matAfter [.ref 0, .int p1, .int p2, .ref 427] (T0 J, V) (WQ k (x) P) (fun _ _ => False) := by
  refine ctw_of (e0 := 10) pL_matAfter rfl rfl (by unfold hhOK; decide) (by decide) (show 4 ≤ 5 by decide) ?_
  refine s_aload_n (x := 427) dL_matAfter_0 rfl (s_iconst (v := 0) dL_matAfter_1 rfl (s_aload_n (x := 0) dL_matAfter_2 rfl (s_iload_n (x := p1) dL_matAfter_3 rfl (s_iload_n (x := p2) dL_matAfter_4 rfl (s_callV (h := 0) (As := [.int p1, .int p2]) (st := [.int 0, .ref 427]) iv_9_73 dL_matAfter_5 (by unfold rmP; decide) rfl (show 2 ≤ 8 by decide) (by decide) (by decide) (show 0 < 428 by decide) rfl hC ⟨fun v M' hv => ?_, fun E M' hE => ?_⟩)))))
  · obtain ⟨T', V'⟩ := M'
    obtain ⟨hT, hk, rfl, hP⟩ := hv
    dsimp only at hT hP
    subst hT
    refine ⟨rOK_same, ?_⟩
    refine s_i2l (x := x) dL_matAfter_8 (s_last (h := 427) (i := 0) dL_matAfter_9 (show 427 < 428 by decide) rfl vp01 ?_)
    rw [show (0 : Int32).toNatClampNeg = 0 from rfl, up2_J]
    exact s_goto (tgt := 17) dL_matAfter_10 rfl (s_iconst (v := nI k) dL_matAfter_17 (by rw [hk]; rfl) (s_iret dL_matAfter_18 (Or.inl rfl) ⟨rfl, by omega, _, rfl, hP, fun _ => up2_same J 427 0 _⟩))
  · obtain ⟨T', V'⟩ := M'
    obtain ⟨hT, hk, hm, hP⟩ := hE
    dsimp only at hT hP
    subst hT
    refine Or.inr ?_
    simp only [xsE, List.mem_cons, Prod.mk.injEq, List.not_mem_nil, or_false] at hm
    obtain ⟨rfl, rfl⟩ := hm
    exact ⟨13, by decide +kernel, rOK_same, Or.inr ⟨4, dL_matAfter_13, by decide, s_iconst (v := nI 1) dL_matAfter_15 rfl (s_iret dL_matAfter_16 (Or.inl rfl) ⟨rfl, by omega, _, rfl, hP, fun z => (hk z).elim⟩)⟩⟩
abbrev mL_matAnew : pD := (yL_matAnew, cL_matAnew, 5, some .int, 9, { frames := 8, cells := 2, slots := 12, locals := 183 }, 4, Cond.codeWith yL_matAnew cL_matAnew 5 (some .int) [(0, 10, 13, 13)], hX 10 [(0, 10, 13, 13)])
theorem pL_matAnew : pdW mL_matAnew [(0, 10, 13, 13)] := ⟨rfl, TBg_of (w := Cond.codeWith yL_matAnew cL_matAnew 5 (some .int) [(0, 10, 13, 13)]) (i := 1077) (by decide +kernel) (by decide +kernel), TBg_of (w := Cond.initialized yL_matAnew.cls) (i := 71) (by decide +kernel) (by decide +kernel), by decide +kernel, ⟨by decide +kernel, by decide +kernel, by decide +kernel⟩, rfl⟩
theorem w_matAnew {J : Nat → Nat → Int64} {V : Mem} {k : Nat} {P : Mem → Prop} (p1 p2 : Int32) (x : Int32) (hC : CTc J mX7_matAnew [.ref 0, .int p1, .int p2] V (fun r V' => k = 0 ∧ r = some (.int (x)) ∧ P V') (fun X V' => k ≠ 0 ∧ (k, X) ∈ xsE ∧ P V')) : CT mL_matAnew [.ref 0, .int p1, .int p2, .ref 427] (T0 J, V) (WQ k (x) P) (fun _ _ => False) := by
  refine ctw_of (e0 := 10) pL_matAnew rfl rfl (by unfold hhOK; decide) (by decide) (show 4 ≤ 5 by decide) ?_
  refine s_aload_n (x := 427) dL_matAnew_0 rfl (s_iconst (v := 0) dL_matAnew_1 rfl (s_aload_n (x := 0) dL_matAnew_2 rfl (s_iload_n (x := p1) dL_matAnew_3 rfl (s_iload_n (x := p2) dL_matAnew_4 rfl (s_callV (h := 0) (As := [.int p1, .int p2]) (st := [.int 0, .ref 427]) iv_9_76 dL_matAnew_5 (by unfold rmP; decide) rfl (show 2 ≤ 8 by decide) (by decide) (by decide) (show 0 < 428 by decide) rfl hC ⟨fun v M' hv => ?_, fun E M' hE => ?_⟩)))))
  · obtain ⟨T', V'⟩ := M'
    obtain ⟨hT, hk, rfl, hP⟩ := hv
    dsimp only at hT hP
    subst hT
    refine ⟨rOK_same, ?_⟩
    refine s_i2l (x := x) dL_matAnew_8 (s_last (h := 427) (i := 0) dL_matAnew_9 (show 427 < 428 by decide) rfl vp01 ?_)
    rw [show (0 : Int32).toNatClampNeg = 0 from rfl, up2_J]
    exact s_goto (tgt := 17) dL_matAnew_10 rfl (s_iconst (v := nI k) dL_matAnew_17 (by rw [hk]; rfl) (s_iret dL_matAnew_18 (Or.inl rfl) ⟨rfl, by omega, _, rfl, hP, fun _ => up2_same J 427 0 _⟩))
  · obtain ⟨T', V'⟩ := M'
    obtain ⟨hT, hk, hm, hP⟩ := hE
    dsimp only at hT hP
    subst hT
    refine Or.inr ?_
    simp only [xsE, List.mem_cons, Prod.mk.injEq, List.not_mem_nil, or_false] at hm
    obtain ⟨rfl, rfl⟩ := hm
    exact ⟨13, by decide +kernel, rOK_same, Or.inr ⟨4, dL_matAnew_13, by decide, s_iconst (v := nI 1) dL_matAnew_15 rfl (s_iret dL_matAnew_16 (Or.inl rfl) ⟨rfl, by omega, _, rfl, hP, fun z => (hk z).elim⟩)⟩⟩
abbrev mL_pointsAfter : pD := (yL_pointsAfter, cL_pointsAfter, 5, some .int, 9, { frames := 8, cells := 2, slots := 12, locals := 133 }, 4, Cond.codeWith yL_pointsAfter cL_pointsAfter 5 (some .int) [(0, 10, 13, 13)], hX 10 [(0, 10, 13, 13)])
theorem pL_pointsAfter : pdW mL_pointsAfter [(0, 10, 13, 13)] := ⟨rfl, TBg_of (w := Cond.codeWith yL_pointsAfter cL_pointsAfter 5 (some .int) [(0, 10, 13, 13)]) (i := 1089) (by decide +kernel) (by decide +kernel), TBg_of (w := Cond.initialized yL_pointsAfter.cls) (i := 71) (by decide +kernel) (by decide +kernel), by decide +kernel, ⟨by decide +kernel, by decide +kernel, by decide +kernel⟩, rfl⟩
theorem w_pointsAfter {J : Nat → Nat → Int64} {V : Mem} {k : Nat} {P : Mem → Prop} (p1 p2 : Int32) (x : Int32) (hC : CTc J mX7_pointsAfter [.ref 0, .int p1, .int p2] V (fun r V' => k = 0 ∧ r = some (.int (x)) ∧ P V') (fun X V' => k ≠ 0 ∧ (k, X) ∈ xsE ∧ P V')) : CT mL_pointsAfter [.ref 0, .int p1, .int p2, .ref 427] (T0 J, V) (WQ k (x) P) (fun _ _ => False) := by
  refine ctw_of (e0 := 10) pL_pointsAfter rfl rfl (by unfold hhOK; decide) (by decide) (show 4 ≤ 5 by decide) ?_
  refine s_aload_n (x := 427) dL_pointsAfter_0 rfl (s_iconst (v := 0) dL_pointsAfter_1 rfl (s_aload_n (x := 0) dL_pointsAfter_2 rfl (s_iload_n (x := p1) dL_pointsAfter_3 rfl (s_iload_n (x := p2) dL_pointsAfter_4 rfl (s_callV (h := 0) (As := [.int p1, .int p2]) (st := [.int 0, .ref 427]) iv_9_79 dL_pointsAfter_5 (by unfold rmP; decide) rfl (show 2 ≤ 8 by decide) (by decide) (by decide) (show 0 < 428 by decide) rfl hC ⟨fun v M' hv => ?_, fun E M' hE => ?_⟩)))))
  · obtain ⟨T', V'⟩ := M'
    obtain ⟨hT, hk, rfl, hP⟩ := hv
    dsimp only at hT hP
    subst hT
    refine ⟨rOK_same, ?_⟩
    refine s_i2l (x := x) dL_pointsAfter_8 (s_last (h := 427) (i := 0) dL_pointsAfter_9 (show 427 < 428 by decide) rfl vp01 ?_)
    rw [show (0 : Int32).toNatClampNeg = 0 from rfl, up2_J]
    exact s_goto (tgt := 17) dL_pointsAfter_10 rfl (s_iconst (v := nI k) dL_pointsAfter_17 (by rw [hk]; rfl) (s_iret dL_pointsAfter_18 (Or.inl rfl) ⟨rfl, by omega, _, rfl, hP, fun _ => up2_same J 427 0 _⟩))
  · obtain ⟨T', V'⟩ := M'
    obtain ⟨hT, hk, hm, hP⟩ := hE
    dsimp only at hT hP
    subst hT
    refine Or.inr ?_
    simp only [xsE, List.mem_cons, Prod.mk.injEq, List.not_mem_nil, or_false] at hm
    obtain ⟨rfl, rfl⟩ := hm
    exact ⟨13, by decide +kernel, rOK_same, Or.inr ⟨4, dL_pointsAfter_13, by decide, s_iconst (v := nI 1) dL_pointsAfter_15 rfl (s_iret dL_pointsAfter_16 (Or.inl rfl) ⟨rfl, by omega, _, rfl, hP, fun z => (hk z).elim⟩)⟩⟩
abbrev mL_raidPoints : pD := (yL_raidPoints, cL_raidPoints, 5, some .int, 9, { frames := 8, cells := 3, slots := 18, locals := 133 }, 4, Cond.codeWith yL_raidPoints cL_raidPoints 5 (some .int) [(0, 10, 13, 13), (0, 10, 17, 17)], hX 10 [(0, 10, 13, 13), (0, 10, 17, 17)])
theorem pL_raidPoints : pdW mL_raidPoints [(0, 10, 13, 13), (0, 10, 17, 17)] := ⟨rfl, TBg_of (w := Cond.codeWith yL_raidPoints cL_raidPoints 5 (some .int) [(0, 10, 13, 13), (0, 10, 17, 17)]) (i := 1104) (by decide +kernel) (by decide +kernel), TBg_of (w := Cond.initialized yL_raidPoints.cls) (i := 71) (by decide +kernel) (by decide +kernel), by decide +kernel, ⟨by decide +kernel, by decide +kernel, by decide +kernel⟩, rfl⟩
theorem w_raidPoints {J : Nat → Nat → Int64} {V : Mem} {k : Nat} {P : Mem → Prop} (p1 p2 : Int32) (x : Int32) (hC : CTc J mX7_raidPoints [.ref 0, .int p1, .int p2] V (fun r V' => k = 0 ∧ r = some (.int (x)) ∧ P V') (fun X V' => k ≠ 0 ∧ (k, X) ∈ xsB ∧ P V')) : CT mL_raidPoints [.ref 0, .int p1, .int p2, .ref 427] (T0 J, V) (WQ k (x) P) (fun _ _ => False) := by
  refine ctw_of (e0 := 10) pL_raidPoints rfl rfl (by unfold hhOK; decide) (by decide) (show 4 ≤ 5 by decide) ?_
  refine s_aload_n (x := 427) dL_raidPoints_0 rfl (s_iconst (v := 0) dL_raidPoints_1 rfl (s_aload_n (x := 0) dL_raidPoints_2 rfl (s_iload_n (x := p1) dL_raidPoints_3 rfl (s_iload_n (x := p2) dL_raidPoints_4 rfl (s_callV (h := 0) (As := [.int p1, .int p2]) (st := [.int 0, .ref 427]) iv_9_82 dL_raidPoints_5 (by unfold rmP; decide) rfl (show 2 ≤ 8 by decide) (by decide) (by decide) (show 0 < 428 by decide) rfl hC ⟨fun v M' hv => ?_, fun E M' hE => ?_⟩)))))
  · obtain ⟨T', V'⟩ := M'
    obtain ⟨hT, hk, rfl, hP⟩ := hv
    dsimp only at hT hP
    subst hT
    refine ⟨rOK_same, ?_⟩
    refine s_i2l (x := x) dL_raidPoints_8 (s_last (h := 427) (i := 0) dL_raidPoints_9 (show 427 < 428 by decide) rfl vp01 ?_)
    rw [show (0 : Int32).toNatClampNeg = 0 from rfl, up2_J]
    exact s_goto (tgt := 21) dL_raidPoints_10 rfl (s_iconst (v := nI k) dL_raidPoints_21 (by rw [hk]; rfl) (s_iret dL_raidPoints_22 (Or.inl rfl) ⟨rfl, by omega, _, rfl, hP, fun _ => up2_same J 427 0 _⟩))
  · obtain ⟨T', V'⟩ := M'
    obtain ⟨hT, hk, hm, hP⟩ := hE
    dsimp only at hT hP
    subst hT
    refine Or.inr ?_
    simp only [xsB, List.mem_cons, Prod.mk.injEq, List.not_mem_nil, or_false] at hm
    rcases hm with ⟨rfl, rfl⟩ | ⟨rfl, rfl⟩
    · exact ⟨13, by decide +kernel, rOK_same, Or.inr ⟨4, dL_raidPoints_13, by decide, s_iconst (v := nI 1) dL_raidPoints_15 rfl (s_iret dL_raidPoints_16 (Or.inl rfl) ⟨rfl, by omega, _, rfl, hP, fun z => (hk z).elim⟩)⟩⟩
    · exact ⟨17, by decide +kernel, rOK_same, Or.inr ⟨4, dL_raidPoints_17, by decide, s_iconst (v := nI 2) dL_raidPoints_19 rfl (s_iret dL_raidPoints_20 (Or.inl rfl) ⟨rfl, by omega, _, rfl, hP, fun z => (hk z).elim⟩)⟩⟩
abbrev mL_club : pD := (yL_club, cL_club, 5, some .int, 9, { frames := 8, cells := 2, slots := 12, locals := 135 }, 4, Cond.codeWith yL_club cL_club 5 (some .int) [(0, 10, 13, 13), (0, 10, 17, 15)], hX 10 [(0, 10, 13, 13), (0, 10, 17, 15)])
theorem pL_club : pdW mL_club [(0, 10, 13, 13), (0, 10, 17, 15)] := ⟨rfl, TBg_of (w := Cond.codeWith yL_club cL_club 5 (some .int) [(0, 10, 13, 13), (0, 10, 17, 15)]) (i := 1115) (by decide +kernel) (by decide +kernel), TBg_of (w := Cond.initialized yL_club.cls) (i := 71) (by decide +kernel) (by decide +kernel), by decide +kernel, ⟨by decide +kernel, by decide +kernel, by decide +kernel⟩, rfl⟩
theorem w_club {J : Nat → Nat → Int64} {V : Mem} {k : Nat} {P : Mem → Prop} (p1 p2 : Int32) (x : Int32) (hC : CTc J mX7_club [.ref 0, .int p1, .int p2] V (fun r V' => k = 0 ∧ r = some (.int (x)) ∧ P V') (fun X V' => k ≠ 0 ∧ (k, X) ∈ xsD ∧ P V')) : CT mL_club [.ref 0, .int p1, .int p2, .ref 427] (T0 J, V) (WQ k (x) P) (fun _ _ => False) := by
  refine ctw_of (e0 := 10) pL_club rfl rfl (by unfold hhOK; decide) (by decide) (show 4 ≤ 5 by decide) ?_
  refine s_aload_n (x := 427) dL_club_0 rfl (s_iconst (v := 0) dL_club_1 rfl (s_aload_n (x := 0) dL_club_2 rfl (s_iload_n (x := p1) dL_club_3 rfl (s_iload_n (x := p2) dL_club_4 rfl (s_callV (h := 0) (As := [.int p1, .int p2]) (st := [.int 0, .ref 427]) iv_9_85 dL_club_5 (by unfold rmP; decide) rfl (show 2 ≤ 8 by decide) (by decide) (by decide) (show 0 < 428 by decide) rfl hC ⟨fun v M' hv => ?_, fun E M' hE => ?_⟩)))))
  · obtain ⟨T', V'⟩ := M'
    obtain ⟨hT, hk, rfl, hP⟩ := hv
    dsimp only at hT hP
    subst hT
    refine ⟨rOK_same, ?_⟩
    refine s_i2l (x := x) dL_club_8 (s_last (h := 427) (i := 0) dL_club_9 (show 427 < 428 by decide) rfl vp01 ?_)
    rw [show (0 : Int32).toNatClampNeg = 0 from rfl, up2_J]
    exact s_goto (tgt := 21) dL_club_10 rfl (s_iconst (v := nI k) dL_club_21 (by rw [hk]; rfl) (s_iret dL_club_22 (Or.inl rfl) ⟨rfl, by omega, _, rfl, hP, fun _ => up2_same J 427 0 _⟩))
  · obtain ⟨T', V'⟩ := M'
    obtain ⟨hT, hk, hm, hP⟩ := hE
    dsimp only at hT hP
    subst hT
    refine Or.inr ?_
    simp only [xsD, List.mem_cons, Prod.mk.injEq, List.not_mem_nil, or_false] at hm
    rcases hm with ⟨rfl, rfl⟩ | ⟨rfl, rfl⟩
    · exact ⟨13, by decide +kernel, rOK_same, Or.inr ⟨4, dL_club_13, by decide, s_iconst (v := nI 1) dL_club_15 rfl (s_iret dL_club_16 (Or.inl rfl) ⟨rfl, by omega, _, rfl, hP, fun z => (hk z).elim⟩)⟩⟩
    · exact ⟨17, by decide +kernel, rOK_same, Or.inr ⟨4, dL_club_17, by decide, s_iconst (v := nI 2) dL_club_19 rfl (s_iret dL_club_20 (Or.inl rfl) ⟨rfl, by omega, _, rfl, hP, fun z => (hk z).elim⟩)⟩⟩
abbrev mL_right : pD := (yL_right, cL_right, 5, some .int, 9, { frames := 8, cells := 3, slots := 18, locals := 133 }, 4, Cond.codeWith yL_right cL_right 5 (some .int) [(0, 10, 13, 13), (0, 10, 17, 17)], hX 10 [(0, 10, 13, 13), (0, 10, 17, 17)])
theorem pL_right : pdW mL_right [(0, 10, 13, 13), (0, 10, 17, 17)] := ⟨rfl, TBg_of (w := Cond.codeWith yL_right cL_right 5 (some .int) [(0, 10, 13, 13), (0, 10, 17, 17)]) (i := 1142) (by decide +kernel) (by decide +kernel), TBg_of (w := Cond.initialized yL_right.cls) (i := 71) (by decide +kernel) (by decide +kernel), by decide +kernel, ⟨by decide +kernel, by decide +kernel, by decide +kernel⟩, rfl⟩
theorem w_right {J : Nat → Nat → Int64} {V : Mem} {k : Nat} {P : Mem → Prop} (p1 p2 : Int32) (x : Int32) (hC : CTc J mX7_right [.ref 0, .int p1, .int p2] V (fun r V' => k = 0 ∧ r = some (.int (x)) ∧ P V') (fun X V' => k ≠ 0 ∧ (k, X) ∈ xsB ∧ P V')) : CT mL_right [.ref 0, .int p1, .int p2, .ref 427] (T0 J, V) (WQ k (x) P) (fun _ _ => False) := by
  refine ctw_of (e0 := 10) pL_right rfl rfl (by unfold hhOK; decide) (by decide) (show 4 ≤ 5 by decide) ?_
  refine s_aload_n (x := 427) dL_right_0 rfl (s_iconst (v := 0) dL_right_1 rfl (s_aload_n (x := 0) dL_right_2 rfl (s_iload_n (x := p1) dL_right_3 rfl (s_iload_n (x := p2) dL_right_4 rfl (s_callV (h := 0) (As := [.int p1, .int p2]) (st := [.int 0, .ref 427]) iv_9_88 dL_right_5 (by unfold rmP; decide) rfl (show 2 ≤ 8 by decide) (by decide) (by decide) (show 0 < 428 by decide) rfl hC ⟨fun v M' hv => ?_, fun E M' hE => ?_⟩)))))
  · obtain ⟨T', V'⟩ := M'
    obtain ⟨hT, hk, rfl, hP⟩ := hv
    dsimp only at hT hP
    subst hT
    refine ⟨rOK_same, ?_⟩
    refine s_i2l (x := x) dL_right_8 (s_last (h := 427) (i := 0) dL_right_9 (show 427 < 428 by decide) rfl vp01 ?_)
    rw [show (0 : Int32).toNatClampNeg = 0 from rfl, up2_J]
    exact s_goto (tgt := 21) dL_right_10 rfl (s_iconst (v := nI k) dL_right_21 (by rw [hk]; rfl) (s_iret dL_right_22 (Or.inl rfl) ⟨rfl, by omega, _, rfl, hP, fun _ => up2_same J 427 0 _⟩))
  · obtain ⟨T', V'⟩ := M'
    obtain ⟨hT, hk, hm, hP⟩ := hE
    dsimp only at hT hP
    subst hT
    refine Or.inr ?_
    simp only [xsB, List.mem_cons, Prod.mk.injEq, List.not_mem_nil, or_false] at hm
    rcases hm with ⟨rfl, rfl⟩ | ⟨rfl, rfl⟩
    · exact ⟨13, by decide +kernel, rOK_same, Or.inr ⟨4, dL_right_13, by decide, s_iconst (v := nI 1) dL_right_15 rfl (s_iret dL_right_16 (Or.inl rfl) ⟨rfl, by omega, _, rfl, hP, fun z => (hk z).elim⟩)⟩⟩
    · exact ⟨17, by decide +kernel, rOK_same, Or.inr ⟨4, dL_right_17, by decide, s_iconst (v := nI 2) dL_right_19 rfl (s_iret dL_right_20 (Or.inl rfl) ⟨rfl, by omega, _, rfl, hP, fun z => (hk z).elim⟩)⟩⟩
abbrev mL_call : pD := (yL_call, cL_call, 4, some .int, 9, { frames := 8, cells := 2, slots := 12, locals := 132 }, 3, Cond.codeWith yL_call cL_call 4 (some .int) [(0, 9, 12, 13), (0, 9, 15, 17)], hX 9 [(0, 9, 12, 13), (0, 9, 15, 17)])
theorem pL_call : pdW mL_call [(0, 9, 12, 13), (0, 9, 15, 17)] := ⟨rfl, TBg_of (w := Cond.codeWith yL_call cL_call 4 (some .int) [(0, 9, 12, 13), (0, 9, 15, 17)]) (i := 1168) (by decide +kernel) (by decide +kernel), TBg_of (w := Cond.initialized yL_call.cls) (i := 71) (by decide +kernel) (by decide +kernel), by decide +kernel, ⟨by decide +kernel, by decide +kernel, by decide +kernel⟩, rfl⟩
theorem w_call {J : Nat → Nat → Int64} {V : Mem} {k : Nat} {P : Mem → Prop} (p1 : Int32) (x : Int32) (hC : CTc J mX7_call [.ref 0, .int p1] V (fun r V' => k = 0 ∧ r = some (.int (x)) ∧ P V') (fun X V' => k ≠ 0 ∧ (k, X) ∈ xsB ∧ P V')) : CT mL_call [.ref 0, .int p1, .ref 427] (T0 J, V) (WQ k (x) P) (fun _ _ => False) := by
  refine ctw_of (e0 := 9) pL_call rfl rfl (by unfold hhOK; decide) (by decide) (show 3 ≤ 4 by decide) ?_
  refine s_aload_n (x := 427) dL_call_0 rfl (s_iconst (v := 0) dL_call_1 rfl (s_aload_n (x := 0) dL_call_2 rfl (s_iload_n (x := p1) dL_call_3 rfl (s_callV (h := 0) (As := [.int p1]) (st := [.int 0, .ref 427]) iv_9_91 dL_call_4 (by unfold rmP; decide) rfl (show 2 ≤ 8 by decide) (by decide) (by decide) (show 0 < 428 by decide) rfl hC ⟨fun v M' hv => ?_, fun E M' hE => ?_⟩))))
  · obtain ⟨T', V'⟩ := M'
    obtain ⟨hT, hk, rfl, hP⟩ := hv
    dsimp only at hT hP
    subst hT
    refine ⟨rOK_same, ?_⟩
    refine s_i2l (x := x) dL_call_7 (s_last (h := 427) (i := 0) dL_call_8 (show 427 < 428 by decide) rfl vp01 ?_)
    rw [show (0 : Int32).toNatClampNeg = 0 from rfl, up2_J]
    exact s_goto (tgt := 18) dL_call_9 rfl (s_iconst (v := nI k) dL_call_18 (by rw [hk]; rfl) (s_iret dL_call_19 (Or.inl rfl) ⟨rfl, by omega, _, rfl, hP, fun _ => up2_same J 427 0 _⟩))
  · obtain ⟨T', V'⟩ := M'
    obtain ⟨hT, hk, hm, hP⟩ := hE
    dsimp only at hT hP
    subst hT
    refine Or.inr ?_
    simp only [xsB, List.mem_cons, Prod.mk.injEq, List.not_mem_nil, or_false] at hm
    rcases hm with ⟨rfl, rfl⟩ | ⟨rfl, rfl⟩
    · exact ⟨12, by decide +kernel, rOK_same, Or.inl ⟨3, dL_call_12, by decide, s_iconst (v := nI 1) dL_call_13 rfl (s_iret dL_call_14 (Or.inl rfl) ⟨rfl, by omega, _, rfl, hP, fun z => (hk z).elim⟩)⟩⟩
    · exact ⟨15, by decide +kernel, rOK_same, Or.inl ⟨3, dL_call_15, by decide, s_iconst (v := nI 2) dL_call_16 rfl (s_iret dL_call_17 (Or.inl rfl) ⟨rfl, by omega, _, rfl, hP, fun z => (hk z).elim⟩)⟩⟩
abbrev mL_bid : pD := (yL_bid, cL_bid, 5, some .int, 9, { frames := 8, cells := 3, slots := 18, locals := 133 }, 4, Cond.codeWith yL_bid cL_bid 5 (some .int) [(0, 10, 13, 13), (0, 10, 17, 15), (0, 10, 21, 17)], hX 10 [(0, 10, 13, 13), (0, 10, 17, 15), (0, 10, 21, 17)])
theorem pL_bid : pdW mL_bid [(0, 10, 13, 13), (0, 10, 17, 15), (0, 10, 21, 17)] := ⟨rfl, TBg_of (w := Cond.codeWith yL_bid cL_bid 5 (some .int) [(0, 10, 13, 13), (0, 10, 17, 15), (0, 10, 21, 17)]) (i := 1186) (by decide +kernel) (by decide +kernel), TBg_of (w := Cond.initialized yL_bid.cls) (i := 71) (by decide +kernel) (by decide +kernel), by decide +kernel, ⟨by decide +kernel, by decide +kernel, by decide +kernel⟩, rfl⟩
theorem w_bid {J : Nat → Nat → Int64} {V : Mem} {k : Nat} {P : Mem → Prop} (p1 p2 : Int32) (x : Int32) (hC : CTc J mX7_bid [.ref 0, .int p1, .int p2] V (fun r V' => k = 0 ∧ r = some (.int (x)) ∧ P V') (fun X V' => k ≠ 0 ∧ (k, X) ∈ xs3 ∧ P V')) : CT mL_bid [.ref 0, .int p1, .int p2, .ref 427] (T0 J, V) (WQ k (x) P) (fun _ _ => False) := by
  refine ctw_of (e0 := 10) pL_bid rfl rfl (by unfold hhOK; decide) (by decide) (show 4 ≤ 5 by decide) ?_
  refine s_aload_n (x := 427) dL_bid_0 rfl (s_iconst (v := 0) dL_bid_1 rfl (s_aload_n (x := 0) dL_bid_2 rfl (s_iload_n (x := p1) dL_bid_3 rfl (s_iload_n (x := p2) dL_bid_4 rfl (s_callV (h := 0) (As := [.int p1, .int p2]) (st := [.int 0, .ref 427]) iv_9_94 dL_bid_5 (by unfold rmP; decide) rfl (show 2 ≤ 8 by decide) (by decide) (by decide) (show 0 < 428 by decide) rfl hC ⟨fun v M' hv => ?_, fun E M' hE => ?_⟩)))))
  · obtain ⟨T', V'⟩ := M'
    obtain ⟨hT, hk, rfl, hP⟩ := hv
    dsimp only at hT hP
    subst hT
    refine ⟨rOK_same, ?_⟩
    refine s_i2l (x := x) dL_bid_8 (s_last (h := 427) (i := 0) dL_bid_9 (show 427 < 428 by decide) rfl vp01 ?_)
    rw [show (0 : Int32).toNatClampNeg = 0 from rfl, up2_J]
    exact s_goto (tgt := 25) dL_bid_10 rfl (s_iconst (v := nI k) dL_bid_25 (by rw [hk]; rfl) (s_iret dL_bid_26 (Or.inl rfl) ⟨rfl, by omega, _, rfl, hP, fun _ => up2_same J 427 0 _⟩))
  · obtain ⟨T', V'⟩ := M'
    obtain ⟨hT, hk, hm, hP⟩ := hE
    dsimp only at hT hP
    subst hT
    refine Or.inr ?_
    simp only [xs3, List.mem_cons, Prod.mk.injEq, List.not_mem_nil, or_false] at hm
    rcases hm with ⟨rfl, rfl⟩ | ⟨rfl, rfl⟩ | ⟨rfl, rfl⟩
    · exact ⟨13, by decide +kernel, rOK_same, Or.inr ⟨4, dL_bid_13, by decide, s_iconst (v := nI 1) dL_bid_15 rfl (s_iret dL_bid_16 (Or.inl rfl) ⟨rfl, by omega, _, rfl, hP, fun z => (hk z).elim⟩)⟩⟩
    · exact ⟨17, by decide +kernel, rOK_same, Or.inr ⟨4, dL_bid_17, by decide, s_iconst (v := nI 2) dL_bid_19 rfl (s_iret dL_bid_20 (Or.inl rfl) ⟨rfl, by omega, _, rfl, hP, fun z => (hk z).elim⟩)⟩⟩
    · exact ⟨21, by decide +kernel, rOK_same, Or.inr ⟨4, dL_bid_21, by decide, s_iconst (v := nI 3) dL_bid_23 rfl (s_iret dL_bid_24 (Or.inl rfl) ⟨rfl, by omega, _, rfl, hP, fun z => (hk z).elim⟩)⟩⟩
abbrev mL_hammer : pD := (yL_hammer, cL_hammer, 3, some .int, 9, { frames := 8, cells := 1, slots := 6, locals := 130 }, 2, Cond.codeWith yL_hammer cL_hammer 3 (some .int) [(0, 8, 11, 17)], hX 8 [(0, 8, 11, 17)])
theorem pL_hammer : pdW mL_hammer [(0, 8, 11, 17)] := ⟨rfl, TBg_of (w := Cond.codeWith yL_hammer cL_hammer 3 (some .int) [(0, 8, 11, 17)]) (i := 1214) (by decide +kernel) (by decide +kernel), TBg_of (w := Cond.initialized yL_hammer.cls) (i := 71) (by decide +kernel) (by decide +kernel), by decide +kernel, ⟨by decide +kernel, by decide +kernel, by decide +kernel⟩, rfl⟩
theorem w_hammer {J : Nat → Nat → Int64} {V : Mem} {k : Nat} {P : Mem → Prop}  (x : Int32) (hC : CTc J mX7_hammer [.ref 0] V (fun r V' => k = 0 ∧ r = some (.int (x)) ∧ P V') (fun X V' => k ≠ 0 ∧ (k, X) ∈ xsF ∧ P V')) : CT mL_hammer [.ref 0, .ref 427] (T0 J, V) (WQ k (x) P) (fun _ _ => False) := by
  refine ctw_of (e0 := 8) pL_hammer rfl rfl (by unfold hhOK; decide) (by decide) (show 2 ≤ 3 by decide) ?_
  refine s_aload_n (x := 427) dL_hammer_0 rfl (s_iconst (v := 0) dL_hammer_1 rfl (s_aload_n (x := 0) dL_hammer_2 rfl (s_callV (h := 0) (As := []) (st := [.int 0, .ref 427]) iv_9_97 dL_hammer_3 (by unfold rmP; decide) rfl (show 2 ≤ 8 by decide) (by decide) (by decide) (show 0 < 428 by decide) rfl hC ⟨fun v M' hv => ?_, fun E M' hE => ?_⟩)))
  · obtain ⟨T', V'⟩ := M'
    obtain ⟨hT, hk, rfl, hP⟩ := hv
    dsimp only at hT hP
    subst hT
    refine ⟨rOK_same, ?_⟩
    refine s_i2l (x := x) dL_hammer_6 (s_last (h := 427) (i := 0) dL_hammer_7 (show 427 < 428 by decide) rfl vp01 ?_)
    rw [show (0 : Int32).toNatClampNeg = 0 from rfl, up2_J]
    exact s_goto (tgt := 14) dL_hammer_8 rfl (s_iconst (v := nI k) dL_hammer_14 (by rw [hk]; rfl) (s_iret dL_hammer_15 (Or.inl rfl) ⟨rfl, by omega, _, rfl, hP, fun _ => up2_same J 427 0 _⟩))
  · obtain ⟨T', V'⟩ := M'
    obtain ⟨hT, hk, hm, hP⟩ := hE
    dsimp only at hT hP
    subst hT
    refine Or.inr ?_
    simp only [xsF, List.mem_cons, Prod.mk.injEq, List.not_mem_nil, or_false] at hm
    obtain ⟨rfl, rfl⟩ := hm
    exact ⟨11, by decide +kernel, rOK_same, Or.inl ⟨2, dL_hammer_11, by decide, s_iconst (v := nI 1) dL_hammer_12 rfl (s_iret dL_hammer_13 (Or.inl rfl) ⟨rfl, by omega, _, rfl, hP, fun z => (hk z).elim⟩)⟩⟩
abbrev mL_answer : pD := (yL_answer, cL_answer, 4, some .int, 9, { frames := 8, cells := 1, slots := 6, locals := 131 }, 3, Cond.codeWith yL_answer cL_answer 4 (some .int) [(0, 9, 12, 17)], hX 9 [(0, 9, 12, 17)])
theorem pL_answer : pdW mL_answer [(0, 9, 12, 17)] := ⟨rfl, TBg_of (w := Cond.codeWith yL_answer cL_answer 4 (some .int) [(0, 9, 12, 17)]) (i := 1230) (by decide +kernel) (by decide +kernel), TBg_of (w := Cond.initialized yL_answer.cls) (i := 71) (by decide +kernel) (by decide +kernel), by decide +kernel, ⟨by decide +kernel, by decide +kernel, by decide +kernel⟩, rfl⟩
theorem w_answer {J : Nat → Nat → Int64} {V : Mem} {k : Nat} {P : Mem → Prop} (t : Bool) (x : Int32) (hC : CTc J mX7_answer [.ref 0, .int (bI t)] V (fun r V' => k = 0 ∧ r = some (.int (x)) ∧ P V') (fun X V' => k ≠ 0 ∧ (k, X) ∈ xsF ∧ P V')) : CT mL_answer [.ref 0, .int (bI t), .ref 427] (T0 J, V) (WQ k (x) P) (fun _ _ => False) := by
  refine ctw_of (e0 := 9) pL_answer rfl rfl (by unfold hhOK; decide) (by decide) (show 3 ≤ 4 by decide) ?_
  refine s_aload_n (x := 427) dL_answer_0 rfl (s_iconst (v := 0) dL_answer_1 rfl (s_aload_n (x := 0) dL_answer_2 rfl (s_iload_n (x := bI t) dL_answer_3 rfl (s_callV (h := 0) (As := [.int (bI t)]) (st := [.int 0, .ref 427]) iv_9_100 dL_answer_4 (by unfold rmP; decide) rfl (show 2 ≤ 8 by decide) (by decide) (by decide) (show 0 < 428 by decide) rfl hC ⟨fun v M' hv => ?_, fun E M' hE => ?_⟩))))
  · obtain ⟨T', V'⟩ := M'
    obtain ⟨hT, hk, rfl, hP⟩ := hv
    dsimp only at hT hP
    subst hT
    refine ⟨rOK_same, ?_⟩
    refine s_i2l (x := x) dL_answer_7 (s_last (h := 427) (i := 0) dL_answer_8 (show 427 < 428 by decide) rfl vp01 ?_)
    rw [show (0 : Int32).toNatClampNeg = 0 from rfl, up2_J]
    exact s_goto (tgt := 15) dL_answer_9 rfl (s_iconst (v := nI k) dL_answer_15 (by rw [hk]; rfl) (s_iret dL_answer_16 (Or.inl rfl) ⟨rfl, by omega, _, rfl, hP, fun _ => up2_same J 427 0 _⟩))
  · obtain ⟨T', V'⟩ := M'
    obtain ⟨hT, hk, hm, hP⟩ := hE
    dsimp only at hT hP
    subst hT
    refine Or.inr ?_
    simp only [xsF, List.mem_cons, Prod.mk.injEq, List.not_mem_nil, or_false] at hm
    obtain ⟨rfl, rfl⟩ := hm
    exact ⟨12, by decide +kernel, rOK_same, Or.inl ⟨3, dL_answer_12, by decide, s_iconst (v := nI 1) dL_answer_13 rfl (s_iret dL_answer_14 (Or.inl rfl) ⟨rfl, by omega, _, rfl, hP, fun z => (hk z).elim⟩)⟩⟩
abbrev mL_lot : pD := (yL_lot, cL_lot, 5, some .int, 9, { frames := 8, cells := 2, slots := 12, locals := 133 }, 4, Cond.codeWith yL_lot cL_lot 5 (some .int) [(0, 10, 13, 13), (0, 10, 17, 15)], hX 10 [(0, 10, 13, 13), (0, 10, 17, 15)])
theorem pL_lot : pdW mL_lot [(0, 10, 13, 13), (0, 10, 17, 15)] := ⟨rfl, TBg_of (w := Cond.codeWith yL_lot cL_lot 5 (some .int) [(0, 10, 13, 13), (0, 10, 17, 15)]) (i := 1245) (by decide +kernel) (by decide +kernel), TBg_of (w := Cond.initialized yL_lot.cls) (i := 71) (by decide +kernel) (by decide +kernel), by decide +kernel, ⟨by decide +kernel, by decide +kernel, by decide +kernel⟩, rfl⟩
theorem w_lot {J : Nat → Nat → Int64} {V : Mem} {k : Nat} {P : Mem → Prop} (p1 p2 : Int32) (x : Int32) (hC : CTc J mX7_lot [.ref 0, .int p1, .int p2] V (fun r V' => k = 0 ∧ r = some (.int (x)) ∧ P V') (fun X V' => k ≠ 0 ∧ (k, X) ∈ xsD ∧ P V')) : CT mL_lot [.ref 0, .int p1, .int p2, .ref 427] (T0 J, V) (WQ k (x) P) (fun _ _ => False) := by
  refine ctw_of (e0 := 10) pL_lot rfl rfl (by unfold hhOK; decide) (by decide) (show 4 ≤ 5 by decide) ?_
  refine s_aload_n (x := 427) dL_lot_0 rfl (s_iconst (v := 0) dL_lot_1 rfl (s_aload_n (x := 0) dL_lot_2 rfl (s_iload_n (x := p1) dL_lot_3 rfl (s_iload_n (x := p2) dL_lot_4 rfl (s_callV (h := 0) (As := [.int p1, .int p2]) (st := [.int 0, .ref 427]) iv_9_104 dL_lot_5 (by unfold rmP; decide) rfl (show 2 ≤ 8 by decide) (by decide) (by decide) (show 0 < 428 by decide) rfl hC ⟨fun v M' hv => ?_, fun E M' hE => ?_⟩)))))
  · obtain ⟨T', V'⟩ := M'
    obtain ⟨hT, hk, rfl, hP⟩ := hv
    dsimp only at hT hP
    subst hT
    refine ⟨rOK_same, ?_⟩
    refine s_i2l (x := x) dL_lot_8 (s_last (h := 427) (i := 0) dL_lot_9 (show 427 < 428 by decide) rfl vp01 ?_)
    rw [show (0 : Int32).toNatClampNeg = 0 from rfl, up2_J]
    exact s_goto (tgt := 21) dL_lot_10 rfl (s_iconst (v := nI k) dL_lot_21 (by rw [hk]; rfl) (s_iret dL_lot_22 (Or.inl rfl) ⟨rfl, by omega, _, rfl, hP, fun _ => up2_same J 427 0 _⟩))
  · obtain ⟨T', V'⟩ := M'
    obtain ⟨hT, hk, hm, hP⟩ := hE
    dsimp only at hT hP
    subst hT
    refine Or.inr ?_
    simp only [xsD, List.mem_cons, Prod.mk.injEq, List.not_mem_nil, or_false] at hm
    rcases hm with ⟨rfl, rfl⟩ | ⟨rfl, rfl⟩
    · exact ⟨13, by decide +kernel, rOK_same, Or.inr ⟨4, dL_lot_13, by decide, s_iconst (v := nI 1) dL_lot_15 rfl (s_iret dL_lot_16 (Or.inl rfl) ⟨rfl, by omega, _, rfl, hP, fun z => (hk z).elim⟩)⟩⟩
    · exact ⟨17, by decide +kernel, rOK_same, Or.inr ⟨4, dL_lot_17, by decide, s_iconst (v := nI 2) dL_lot_19 rfl (s_iret dL_lot_20 (Or.inl rfl) ⟨rfl, by omega, _, rfl, hP, fun z => (hk z).elim⟩)⟩⟩
abbrev mL_squad : pD := (yL_squad, cL_squad, 5, some .int, 9, { frames := 8, cells := 2, slots := 12, locals := 133 }, 4, Cond.codeWith yL_squad cL_squad 5 (some .int) [(0, 10, 13, 13), (0, 10, 17, 15)], hX 10 [(0, 10, 13, 13), (0, 10, 17, 15)])
theorem pL_squad : pdW mL_squad [(0, 10, 13, 13), (0, 10, 17, 15)] := ⟨rfl, TBg_of (w := Cond.codeWith yL_squad cL_squad 5 (some .int) [(0, 10, 13, 13), (0, 10, 17, 15)]) (i := 1257) (by decide +kernel) (by decide +kernel), TBg_of (w := Cond.initialized yL_squad.cls) (i := 71) (by decide +kernel) (by decide +kernel), by decide +kernel, ⟨by decide +kernel, by decide +kernel, by decide +kernel⟩, rfl⟩
theorem w_squad {J : Nat → Nat → Int64} {V : Mem} {k : Nat} {P : Mem → Prop} (p1 p2 : Int32) (x : Int32) (hC : CTc J mX7_squad [.ref 0, .int p1, .int p2] V (fun r V' => k = 0 ∧ r = some (.int (x)) ∧ P V') (fun X V' => k ≠ 0 ∧ (k, X) ∈ xsD ∧ P V')) : CT mL_squad [.ref 0, .int p1, .int p2, .ref 427] (T0 J, V) (WQ k (x) P) (fun _ _ => False) := by
  refine ctw_of (e0 := 10) pL_squad rfl rfl (by unfold hhOK; decide) (by decide) (show 4 ≤ 5 by decide) ?_
  refine s_aload_n (x := 427) dL_squad_0 rfl (s_iconst (v := 0) dL_squad_1 rfl (s_aload_n (x := 0) dL_squad_2 rfl (s_iload_n (x := p1) dL_squad_3 rfl (s_iload_n (x := p2) dL_squad_4 rfl (s_callV (h := 0) (As := [.int p1, .int p2]) (st := [.int 0, .ref 427]) iv_9_107 dL_squad_5 (by unfold rmP; decide) rfl (show 2 ≤ 8 by decide) (by decide) (by decide) (show 0 < 428 by decide) rfl hC ⟨fun v M' hv => ?_, fun E M' hE => ?_⟩)))))
  · obtain ⟨T', V'⟩ := M'
    obtain ⟨hT, hk, rfl, hP⟩ := hv
    dsimp only at hT hP
    subst hT
    refine ⟨rOK_same, ?_⟩
    refine s_i2l (x := x) dL_squad_8 (s_last (h := 427) (i := 0) dL_squad_9 (show 427 < 428 by decide) rfl vp01 ?_)
    rw [show (0 : Int32).toNatClampNeg = 0 from rfl, up2_J]
    exact s_goto (tgt := 21) dL_squad_10 rfl (s_iconst (v := nI k) dL_squad_21 (by rw [hk]; rfl) (s_iret dL_squad_22 (Or.inl rfl) ⟨rfl, by omega, _, rfl, hP, fun _ => up2_same J 427 0 _⟩))
  · obtain ⟨T', V'⟩ := M'
    obtain ⟨hT, hk, hm, hP⟩ := hE
    dsimp only at hT hP
    subst hT
    refine Or.inr ?_
    simp only [xsD, List.mem_cons, Prod.mk.injEq, List.not_mem_nil, or_false] at hm
    rcases hm with ⟨rfl, rfl⟩ | ⟨rfl, rfl⟩
    · exact ⟨13, by decide +kernel, rOK_same, Or.inr ⟨4, dL_squad_13, by decide, s_iconst (v := nI 1) dL_squad_15 rfl (s_iret dL_squad_16 (Or.inl rfl) ⟨rfl, by omega, _, rfl, hP, fun z => (hk z).elim⟩)⟩⟩
    · exact ⟨17, by decide +kernel, rOK_same, Or.inr ⟨4, dL_squad_17, by decide, s_iconst (v := nI 2) dL_squad_19 rfl (s_iret dL_squad_20 (Or.inl rfl) ⟨rfl, by omega, _, rfl, hP, fun z => (hk z).elim⟩)⟩⟩
