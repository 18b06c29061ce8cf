/-! the law's loop -/
theorem rem61 : ∀ m, m < 360 → nI m - nI m / 61 * 61 = nI (m % 61) := by decide +kernel
theorem rem20 : ∀ m, m < 360 → nI m - nI m / 20 * 20 = nI (m % 20) := by decide +kernel
theorem rem7 : ∀ m, m < 360 → nI m - nI m / 7 * 7 = nI (m % 7) := by decide +kernel
theorem rem30 : ∀ m, m < 360 → nI m - nI m / 30 * 30 = nI (m % 30) := by decide +kernel
theorem rem15 : ∀ m, m < 360 → nI m - nI m / 15 * 15 = nI (m % 15) := by decide +kernel
/-- the law's variables -/
abbrev Lk (k : Nat) : List (Nat × Value) := [(0, .ref 1150), (1, .ref 0), (2, .ref 405), (3, .int 1), (4, .int (nI k))]
abbrev Lv (k : Nat) (v : Int32) : List (Nat × Value) := [(0, .ref 1150), (1, .ref 0), (2, .ref 405), (3, .int 1), (4, .int (nI k)), (5, .int v)]
abbrev Lt (k : Nat) (v t : Int32) : List (Nat × Value) := [(6, .int t), (5, .int v), (0, .ref 1150), (1, .ref 0), (2, .ref 405), (3, .int 1), (4, .int (nI k))]
section Loop
variable {p : Program} {l : Launch} {e : Env} {s : State} {m : MethodId} {args : Array Value} {below : List Frame} {meth : Method} {c : Code} {G : gT} {ad0 : Nat → Nat} {M0 : pM} {A : Nat → Prop} {Z : State → Prop}
variable {k z x y bc bs mm : Nat} {v : Int32} {B : pM} {q : HS}
/-- both halls alike -/
theorem st_alike (hk : k < 360) (H : LH B q q z) (G1 : GX mm q) (hm : mm ≤ 1900) (hb : x ≤ bc ∧ y ≤ bs) (hb9 : k % 20 = 19 → x + 3200 ≤ bc ∧ y + 19200 ≤ bs) (K : ∀ B', LH B' q q z → WLs p l e s m args below meth c G ad0 M0 A Z mL_law 116 (Lv k v) [] B' x y) : WLs p l e s m args below meth c G ad0 M0 A Z mL_law 90 (Lv k v) [] B bc bs := by
  refine q_iload (x := nI k) dL_law_90 rfl (q_bipush (v := 20) dL_law_92 rfl (q_irem dL_law_94 (by decide) (q_bipush (v := 19) dL_law_95 rfl ?_)))
  rw [rem20 k hk]
  refine q_icmp_ne (tgt := 116) dL_law_97 rfl (fun _ => q_bud hb.1 hb.2 (K B H)) (fun w => ?_)
  rw [show (19 : Int32) = nI 19 from rfl, ceq (by omega) (by omega)] at w
  obtain ⟨h1, h2⟩ := hb9 w
  refine q_aload_n (x := 0) dL_law_100 rfl (q_aload_n (x := 405) dL_law_101 rfl (q_iload (x := v) dL_law_102 rfl (q_iconst (v := 3) dL_law_104 rfl (q_ishr dL_law_105 (q_sipush (v := 1023) dL_law_106 rfl (q_iand dL_law_109 ?_))))))
  refine q_callS (As := [.ref 0, .ref 405, .int _]) (st := []) iv_9_139 dL_law_110 (by unfold rmP; decide) rfl (show 0 ≤ 8 by decide) (show 3200 ≤ bc by omega) (show 19200 ≤ bs by omega) (alike_ct _ H.1 H.2.1 (GX_H G1 (by omega)) (LH_P2 H)) (fun r B' hr => ?_) (fun E M' z => z)
  obtain ⟨rfl, hP⟩ := hr
  have H' := LH_of2 H hP
  refine ⟨rOK_8 rfl rfl (LH_N H).1 (LH_N H').2, ?_⟩
  exact q_if_eq (tgt := 175) dL_law_113 rfl (fun w => absurd w (by decide)) (fun _ => q_bud (show x ≤ bc - 3200 by omega) (show y ≤ bs - 19200 by omega) (K B' H'))
/-- one hall in order -/
theorem st_order (hk : k < 360) (H : LH B q q z) (G1 : GX mm q) (hm : mm ≤ 1900) (hb : x ≤ bc ∧ y ≤ bs) (hb9 : k % 7 = 3 → x + 3500 ≤ bc ∧ y + 21000 ≤ bs) (K : ∀ B', LH B' q q z → WLs p l e s m args below meth c G ad0 M0 A Z mL_law 132 (Lv k v) [] B' x y) : WLs p l e s m args below meth c G ad0 M0 A Z mL_law 116 (Lv k v) [] B bc bs := by
  refine q_iload (x := nI k) dL_law_116 rfl (q_bipush (v := 7) dL_law_118 rfl (q_irem dL_law_120 (by decide) (q_iconst (v := 3) dL_law_121 rfl ?_)))
  rw [rem7 k hk]
  refine q_icmp_ne (tgt := 132) dL_law_122 rfl (fun _ => q_bud hb.1 hb.2 (K B H)) (fun w => ?_)
  rw [show (3 : Int32) = nI 3 from rfl, ceq (by omega) (by omega)] at w
  obtain ⟨h1, h2⟩ := hb9 w
  refine q_aload_n (x := 0) dL_law_125 rfl ?_
  refine q_callS (As := [.ref 0]) (st := []) iv_9_143 dL_law_126 (by unfold rmP; decide) rfl (show 0 ≤ 8 by decide) (show 3500 ≤ bc by omega) (show 21000 ≤ bs by omega) (ord_ct H.1 G1 hm (LH_P1 H).1) (fun r B' hr => ?_) (fun E M' z => z)
  obtain ⟨rfl, hP⟩ := hr
  have H' := LH_act0 H (GX_H G1 (by omega)) hP
  refine ⟨rOK_8 rfl rfl (LH_N H).1 (LH_N H').2, ?_⟩
  exact q_if_eq (tgt := 175) dL_law_129 rfl (fun w => absurd w (by decide)) (fun _ => q_bud (show x ≤ bc - 3500 by omega) (show y ≤ bs - 21000 by omega) (K B' H'))
/-- one hall fair -/
theorem st_fair (hk : k < 360) (H : LH B q q z) (G1 : GX mm q) (hm : mm ≤ 1900) (hz : z ≤ 30) (hb : x ≤ bc ∧ y ≤ bs) (hb9 : k % 30 = 17 → x + 1250 ≤ bc ∧ y + 7500 ≤ bs) (K : ∀ B' z', (k % 30 = 17 → z' = z + 1) → (k % 30 ≠ 17 → z' = z) → LH B' q q z' → WLs p l e s m args below meth c G ad0 M0 A Z mL_law 149 (Lv k v) [] B' x y) : WLs p l e s m args below meth c G ad0 M0 A Z mL_law 132 (Lv k v) [] B bc bs := by
  refine q_iload (x := nI k) dL_law_132 rfl (q_bipush (v := 30) dL_law_134 rfl (q_irem dL_law_136 (by decide) (q_bipush (v := 17) dL_law_137 rfl ?_)))
  rw [rem30 k hk]
  refine q_icmp_ne (tgt := 149) dL_law_139 rfl (fun w => ?_) (fun w => ?_)
  · rw [show (17 : Int32) = nI 17 from rfl, ceq (by omega) (by omega)] at w
    exact q_bud hb.1 hb.2 (K B z (fun h => absurd h w) (fun _ => rfl) H)
  rw [show (17 : Int32) = nI 17 from rfl, ceq (by omega) (by omega)] at w
  obtain ⟨h1, h2⟩ := hb9 w
  have hN := LH_N H
  have hN2 : pN B ≤ 810 + 2 * z := H.2.2.1
  refine q_aload_n (x := 0) dL_law_142 rfl ?_
  refine q_callS (As := [.ref 0]) (st := []) iv_9_147 dL_law_143 (by unfold rmP; decide) rfl (show 0 ≤ 8 by decide) (show 1250 ≤ bc by omega) (show 7500 ≤ bs by omega) (fair_ct (b' := 405) (q' := q) H.1 (by omega) G1 hm (GX_H G1 (by omega)) (Or.inr (by omega)) (by omega) H.2.2.2.1 H.2.2.2.2) (fun r B' hr => ?_) (fun E M' z => z)
  obtain ⟨rfl, hT, hNN, c0, c1⟩ := hr
  have H' : LH B' q q (z + 1) := ⟨hT 0 H.1, hT 405 H.2.1, by rw [hNN]; omega, c0, c1⟩
  refine ⟨rOK_8 rfl rfl (LH_N H).1 (LH_N H').2, ?_⟩
  exact q_if_eq (tgt := 175) dL_law_146 rfl (fun w => absurd w (by decide)) (fun _ => q_bud (show x ≤ bc - 1250 by omega) (show y ≤ bs - 7500 by omega) (K B' (z + 1) (fun _ => rfl) (fun h => absurd w h) H'))
/-- a review foretold -/
theorem st_fore (hk : k < 360) (H : LH B q q z) (G1 : GX mm q) (hm : mm ≤ 1900) (hb : x ≤ bc ∧ y ≤ bs) (hb9 : k % 15 = 8 → x + 100 ≤ bc ∧ y + 600 ≤ bs) (K : ∀ B' q', GX (mm + 1) q' → LH B' q' q' z → WLs p l e s m args below meth c G ad0 M0 A Z mL_law 171 (Lv k v) [] B' x y) : WLs p l e s m args below meth c G ad0 M0 A Z mL_law 149 (Lv k v) [] B bc bs := by
  refine q_iload (x := nI k) dL_law_149 rfl (q_bipush (v := 15) dL_law_151 rfl (q_irem dL_law_153 (by decide) (q_bipush (v := 8) dL_law_154 rfl ?_)))
  rw [rem15 k hk]
  refine q_icmp_ne (tgt := 171) dL_law_156 rfl (fun _ => q_bud hb.1 hb.2 (K B q (GX_le G1 (by omega)) H)) (fun w => ?_)
  rw [show (8 : Int32) = nI 8 from rfl, ceq (by omega) (by omega)] at w
  obtain ⟨h1, h2⟩ := hb9 w
  refine q_aload_n (x := 0) dL_law_159 rfl (q_aload_n (x := 405) dL_law_160 rfl (q_iload (x := v) dL_law_161 rfl (q_iconst (v := 5) dL_law_163 rfl (q_ishr dL_law_164 ?_))))
  refine q_callS (As := [.ref 0, .ref 405, .int _]) (st := []) iv_9_150 dL_law_165 (by unfold rmP; decide) rfl (show 0 ≤ 8 by decide) (show 100 ≤ bc by omega) (show 600 ≤ bs by omega) (fore_ct _ H.1 H.2.1 G1 hm (LH_P2 H)) (fun r B' hr => ?_) (fun E M' z => z)
  obtain ⟨rfl, a, b, c9, d, e9, hP⟩ := hr
  have H' := LH_of2 H hP
  refine ⟨rOK_8 rfl rfl (LH_N H).1 (LH_N H').2, ?_⟩
  exact q_if_eq (tgt := 175) dL_law_168 rfl (fun w => absurd w (by decide)) (fun _ => q_bud (show x ≤ bc - 100 by omega) (show y ≤ bs - 600 by omega) (K B' _ (GX_op G1 a b c9 d e9 5) H'))
/-- one call on both -/
theorem st_act (hk : k < 360) (H : LH B q q z) (G1 : GX mm q) (hm : mm ≤ 1800) (hb : x + 10 ≤ bc ∧ y + 60 ≤ bs) (K : ∀ v B' q', GX (mm + 1) q' → LH B' q' q' z → WLs p l e s m args below meth c G ad0 M0 A Z mL_law 90 (Lv k v) [] B' x y) : WLs p l e s m args below meth c G ad0 M0 A Z mL_law 29 (Lk k) [] B bc bs := by
  refine q_iload_n (x := 1) dL_law_29 rfl (q_if_eq (tgt := 183) dL_law_30 rfl (fun w => absurd w (by decide)) (fun _ => ?_))
  refine q_aload_n (x := 1150) dL_law_33 rfl (q_iload (x := nI k) dL_law_34 rfl (q_bipush (v := 61) dL_law_36 rfl (q_irem dL_law_38 (by decide) ?_)))
  rw [rem61 k hk]
  refine q_callS (As := [.ref 1150, .int (nI (k % 61))]) (st := []) iv_9_131 dL_law_39 (by unfold rmP; decide) rfl (show 0 ≤ 8 by decide) (Nat.zero_le _) (Nat.zero_le _) (cell_ct (by rw [nI_toInt (by omega)]; omega) B) (fun r B' hr => ?_) (fun E M' z => z)
  obtain ⟨⟨w, rfl⟩, rfl⟩ := hr
  refine ⟨rOK_8 rfl rfl (LH_N H).1 (LH_N H).2, ?_⟩
  refine q_sipush (v := 1997) dL_law_42 rfl (q_iload (x := nI k) dL_law_45 rfl (q_bipush (v := 61) dL_law_47 rfl (q_idiv dL_law_49 (by decide) (q_imul dL_law_50 (q_iadd dL_law_51 (q_istore (x := w + 1997 * (nI k / 61)) dL_law_52 (by decide) ?_))))))
  generalize w + 1997 * (nI k / 61) = v
  obtain ⟨h, a, b, c9, d, e9, hs, hact⟩ := act_ct v
  have GH := GX_H G1 (by omega)
  have G2 : GX (mm + 1) (opN q a b c9 d e9 h) := GX_op G1 a b c9 d e9 h
  refine q_aload_n (x := 0) dL_law_54 rfl (q_iload (x := v) dL_law_55 rfl ?_)
  refine q_callS (As := [.ref 0, .int v]) (st := []) iv_9_135 dL_law_57 (by unfold rmP; decide) rfl (show 0 ≤ 8 by decide) (show 5 ≤ bc - 0 by omega) (show 30 ≤ bs - 0 by omega) (hact H.1 G1 (by omega) (LH_P1 H).1) (fun r B1 hr => ?_) (fun E M' z => z)
  obtain ⟨rfl, hP⟩ := hr
  have H1 := LH_act0 H GH hP
  refine ⟨rOK_8 rfl rfl (LH_N H).1 (LH_N H1).2, ?_⟩
  refine q_istore (x := dW q h a b c9 d e9) dL_law_60 (by decide) (q_loc (L' := Lt k v (dW q h a b c9 d e9)) (fun r hr => hr) ?_)
  have fin : ∀ (B2 : pM) (q' : HS) (bc' bs' : Nat), x ≤ bc' → y ≤ bs' → GX (mm + 1) q' → LH B2 q' q' z → WLs p l e s m args below meth c G ad0 M0 A Z mL_law 80 (Lt k v (dW q h a b c9 d e9)) [] B2 bc' bs' := by
    intro B2 q' bc' bs' u1 u2 u3 u4
    refine q_iconst (v := 1) dL_law_80 rfl (q_goto (tgt := 85) dL_law_81 rfl (q_istore_n (x := 1) dL_law_85 (by decide) (q_iload_n (x := 1) dL_law_86 rfl (q_if_eq (tgt := 175) dL_law_87 rfl (fun w => absurd w (by decide)) (fun _ => ?_)))))
    refine q_bud u1 u2 (q_loc (L' := Lv k v) (fun r hr => ?_) (K v B2 q' u3 u4))
    have hr : r ∈ [(0, Value.ref 1150), (1, .ref 0), (2, .ref 405), (3, .int 1), (4, .int (nI k)), (5, .int v)] := hr
    show r ∈ [(3, Value.int 1), (6, .int (dW q h a b c9 d e9)), (5, .int v), (0, .ref 1150), (1, .ref 0), (2, .ref 405), (4, .int (nI k))]
    simp only [List.mem_cons, List.not_mem_nil, or_false] at hr ⊢
    rcases hr with h | h | h | h | h | h
    · exact Or.inr (Or.inr (Or.inr (Or.inl h)))
    · exact Or.inr (Or.inr (Or.inr (Or.inr (Or.inl h))))
    · exact Or.inr (Or.inr (Or.inr (Or.inr (Or.inr (Or.inl h)))))
    · exact Or.inl h
    · exact Or.inr (Or.inr (Or.inr (Or.inr (Or.inr (Or.inr h)))))
    · exact Or.inr (Or.inr (Or.inl h))
  refine q_iload (x := dW q h a b c9 d e9) dL_law_62 rfl (q_ldc (v := -2100000000) k_77 dL_law_64 (q_icmp_eq (tgt := 80) dL_law_66 rfl (fun w => ?_) (fun _ => ?_)))
  · have hne : opK q a b c9 d e9 h ≠ 0 := by
      intro h0
      refine op_val G1 (by omega) a b c9 d e9 h hs h0 ?_
      have w : dv (opK q a b c9 d e9 h) (opX q a b c9 d e9 h) = -2100000000 := w
      rw [h0] at w
      exact w
    have hq := op_keep (q := q) a b c9 d e9 h hne
    rw [hq] at H1 G2
    exact fin B1 q _ _ (by show x ≤ bc - 0 - 5; omega) (by show y ≤ bs - 0 - 30; omega) G2 H1
  · refine q_aload_n (x := 405) dL_law_69 rfl (q_iload (x := v) dL_law_70 rfl ?_)
    refine q_callS (As := [.ref 405, .int v]) (st := []) iv_9_135 dL_law_72 (by unfold rmP; decide) rfl (show 0 ≤ 8 by decide) (show 5 ≤ bc - 0 - 5 by omega) (show 30 ≤ bs - 0 - 30 by omega) (hact H1.2.1 G1 (by omega) (LH_P1 H1).2) (fun r B2 hr => ?_) (fun E M' z => z)
    obtain ⟨rfl, hP2⟩ := hr
    have H2 := LH_act4 H1 (GX_H G2 (by omega)) hP2
    refine ⟨rOK_8 rfl rfl (LH_N H1).1 (LH_N H2).2, ?_⟩
    refine q_iload (x := dW q h a b c9 d e9) dL_law_75 rfl (q_icmp_ne (tgt := 84) dL_law_77 rfl (fun w => (w rfl).elim) (fun _ => ?_))
    exact fin B2 _ _ _ (by show x ≤ bc - 0 - 5 - 5; omega) (by show y ≤ bs - 0 - 30 - 30; omega) G2 H2
/-- what was spent before the k-th turn, in cells; slots are six times that -/
def spent (k : Nat) : Nat := 10 * k + 3200 * (k / 20) + 3500 * ((k + 3) / 7) + 1250 * ((k + 12) / 30) + 100 * ((k + 6) / 15)
theorem spent_to {k c1 c2 c3 c4 : Nat} (hn1 : (k + 1) / 20 = k / 20 + c1) (hn2 : (k + 1 + 3) / 7 = (k + 3) / 7 + c2) (hn3 : (k + 1 + 12) / 30 = (k + 12) / 30 + c3) (hn4 : (k + 1 + 6) / 15 = (k + 6) / 15 + c4) : spent (k + 1) = spent k + 10 + 3200 * c1 + 3500 * c2 + 1250 * c3 + 100 * c4 := by
  unfold spent
  rw [hn1, hn2, hn3, hn4]
  generalize k / 20 = d1
  omega
theorem spent_le {k : Nat} (hk : k < 360) : spent (k + 1) ≤ 270000 := by
  unfold spent
  omega
theorem c_20 (k : Nat) : ∃ c, (k + 1) / 20 = k / 20 + c ∧ (k % 20 = 19 → c = 1) := by
  by_cases w : k % 20 = 19
  · exact ⟨1, by omega, fun _ => rfl⟩
  · exact ⟨0, by omega, fun h => absurd h w⟩
theorem c_7 (k : Nat) : ∃ c, (k + 1 + 3) / 7 = (k + 3) / 7 + c ∧ (k % 7 = 3 → c = 1) := by
  by_cases w : k % 7 = 3
  · exact ⟨1, by omega, fun _ => rfl⟩
  · exact ⟨0, by omega, fun h => absurd h w⟩
theorem c_30 (k : Nat) : ∃ c, (k + 1 + 12) / 30 = (k + 12) / 30 + c ∧ (k % 30 = 17 → c = 1) := by
  by_cases w : k % 30 = 17
  · exact ⟨1, by omega, fun _ => rfl⟩
  · exact ⟨0, by omega, fun h => absurd h w⟩
theorem c_15 (k : Nat) : ∃ c, (k + 1 + 6) / 15 = (k + 6) / 15 + c ∧ (k % 15 = 8 → c = 1) := by
  by_cases w : k % 15 = 8
  · exact ⟨1, by omega, fun _ => rfl⟩
  · exact ⟨0, by omega, fun h => absurd h w⟩
theorem turn_z {k z' : Nat} (h1 : k % 30 = 17 → z' = (k + 12) / 30 + 1) (h2 : k % 30 ≠ 17 → z' = (k + 12) / 30) : z' = (k + 1 + 12) / 30 := by
  by_cases w : k % 30 = 17
  · rw [h1 w]; clear h1 h2; omega
  · rw [h2 w]; clear h1 h2; omega
theorem turn_go {x c n : Nat} {P : Prop} (h : P → c = 1) (w : P) : x + n ≤ x + n * c ∧ 6 * x + 6 * n ≤ 6 * (x + n * c) := by
  rw [h w]
  omega
theorem turn_le (x c n : Nat) : x ≤ x + n * c ∧ 6 * x ≤ 6 * (x + n * c) := ⟨Nat.le_add_right _ _, Nat.mul_le_mul_left _ (Nat.le_add_right _ _)⟩
theorem turn_ar {k bc bs : Nat} (hk : k < 360) (hb : 274000 ≤ bc + spent k ∧ 6 * 274000 ≤ bs + 6 * spent k) : ∃ c1 c2 c3 c4 F, (k % 20 = 19 → c1 = 1) ∧ (k % 7 = 3 → c2 = 1) ∧ (k % 30 = 17 → c3 = 1) ∧ (k % 15 = 8 → c4 = 1) ∧ (F + 100 * c4 + 1250 * c3 + 3500 * c2 + 3200 * c1 + 10 ≤ bc ∧ 6 * (F + 100 * c4 + 1250 * c3 + 3500 * c2 + 3200 * c1) + 60 ≤ bs) ∧ 274000 ≤ F + spent (k + 1) ∧ 6 * 274000 ≤ 6 * F + 6 * spent (k + 1) := by
  obtain ⟨c1, hn1, hc1⟩ := c_20 k
  obtain ⟨c2, hn2, hc2⟩ := c_7 k
  obtain ⟨c3, hn3, hc3⟩ := c_30 k
  obtain ⟨c4, hn4, hc4⟩ := c_15 k
  have hs := spent_to hn1 hn2 hn3 hn4
  have hle := spent_le hk
  obtain ⟨S0, h0⟩ : ∃ S, spent k = S := ⟨_, rfl⟩
  obtain ⟨S1, h1⟩ : ∃ S, spent (k + 1) = S := ⟨_, rfl⟩
  have hs : S1 = S0 + 10 + 3200 * c1 + 3500 * c2 + 1250 * c3 + 100 * c4 := h1.symm.trans (hs.trans (by rw [h0]))
  have hle : S1 ≤ 270000 := h1 ▸ hle
  have hb1 : 274000 ≤ bc + S0 := h0 ▸ hb.1
  have hb2 : 6 * 274000 ≤ bs + 6 * S0 := h0 ▸ hb.2
  refine ⟨c1, c2, c3, c4, 274000 - S1, hc1, hc2, hc3, hc4, ?_, ?_⟩
  · clear h0 h1 hn1 hn2 hn3 hn4 hc1 hc2 hc3 hc4 hb
    omega
  · rw [h1]
    clear h0 h1 hn1 hn2 hn3 hn4 hc1 hc2 hc3 hc4 hb
    omega
/-- one turn of the law -/
theorem st_turn (hk : k < 360) (H : LH B q q ((k + 12) / 30)) (G1 : GX (2 * k) q) (hb : 274000 ≤ bc + spent k ∧ 6 * 274000 ≤ bs + 6 * spent k) (K : ∀ B' q' bc' bs', LH B' q' q' ((k + 1 + 12) / 30) → GX (2 * (k + 1)) q' → 274000 ≤ bc' + spent (k + 1) → 6 * 274000 ≤ bs' + 6 * spent (k + 1) → WLs p l e s m args below meth c G ad0 M0 A Z mL_law 21 (Lk (k + 1)) [] B' bc' bs') : WLs p l e s m args below meth c G ad0 M0 A Z mL_law 29 (Lk k) [] B bc bs := by
  obtain ⟨c1, c2, c3, c4, F, i1, i2, i3, i4, hF, f1, f2⟩ := turn_ar hk hb
  clear hb
  have h2k : 2 * k + 1 + 1 ≤ 2 * (k + 1) := Nat.le_refl _
  have hm : 2 * k + 1 ≤ 1800 := by clear i1 i2 i3 i4 hF f1 f2; omega
  have hm0 : 2 * k ≤ 1800 := Nat.le_trans (Nat.le_succ _) hm
  have hm9 : 2 * k + 1 ≤ 1900 := Nat.le_trans hm (by decide)
  have hz : (k + 12) / 30 ≤ 30 := by clear i1 i2 i3 i4 hF f1 f2; omega
  refine st_act (x := F + 100 * c4 + 1250 * c3 + 3500 * c2 + 3200 * c1) (y := 6 * (F + 100 * c4 + 1250 * c3 + 3500 * c2 + 3200 * c1)) hk H G1 hm0 hF (fun v B1 q1 G2 H1 => ?_)
  refine st_alike (x := F + 100 * c4 + 1250 * c3 + 3500 * c2) (y := 6 * (F + 100 * c4 + 1250 * c3 + 3500 * c2)) hk H1 G2 hm9 (turn_le _ _ _) (fun w => turn_go i1 w) (fun B2 H2 => ?_)
  refine st_order (x := F + 100 * c4 + 1250 * c3) (y := 6 * (F + 100 * c4 + 1250 * c3)) hk H2 G2 hm9 (turn_le _ _ _) (fun w => turn_go i2 w) (fun B3 H3 => ?_)
  refine st_fair (x := F + 100 * c4) (y := 6 * (F + 100 * c4)) hk H3 G2 hm9 hz (turn_le _ _ _) (fun w => turn_go i3 w) (fun B4 z' hz1 hz2 H4 => ?_)
  have hz' : z' = (k + 1 + 12) / 30 := turn_z hz1 hz2
  subst hz'
  refine st_fore (x := F) (y := 6 * F) hk H4 G2 hm9 (turn_le _ _ _) (fun w => turn_go i4 w) (fun B5 q5 G5 H5 => ?_)
  refine q_iconst (v := 1) dL_law_171 rfl (q_goto (tgt := 176) dL_law_172 rfl (q_istore_n (x := 1) dL_law_176 (by decide) (q_iinc (x := nI k) (v := nI (k + 1)) dL_law_177 rfl (nI_inc k) (by decide) (q_goto (tgt := 21) dL_law_180 rfl (q_loc (L' := Lk (k + 1)) (fun r hr => ?_) (K B5 q5 F (6 * F) H5 (GX_le G5 h2k) f1 f2))))))
  have hr : r ∈ [(0, Value.ref 1150), (1, .ref 0), (2, .ref 405), (3, .int 1), (4, .int (nI (k + 1)))] := hr
  show r ∈ [(4, Value.int (nI (k + 1))), (3, .int 1), (0, .ref 1150), (1, .ref 0), (2, .ref 405), (5, .int v)]
  simp only [List.mem_cons, List.not_mem_nil, or_false] at hr ⊢
  rcases hr with h | h | h | h | h
  · exact Or.inr (Or.inr (Or.inl h))
  · exact Or.inr (Or.inr (Or.inr (Or.inl h)))
  · exact Or.inr (Or.inr (Or.inr (Or.inr (Or.inl h))))
  · exact Or.inr (Or.inl h)
  · exact Or.inl h
/-- after the last turn -/
theorem st_last (H : LH B q q z) (hz : z ≤ 12) (G1 : GX mm q) (hm : mm ≤ 1900) (hb : 7950 ≤ bc ∧ 47700 ≤ bs) (E9 : ∀ (L : List (Nat × Value)) (M : pM) (bc bs : Nat), WLs p l e s m args below meth c G ad0 M0 A Z mL_law 216 L [.int 1] M bc bs) : WLs p l e s m args below meth c G ad0 M0 A Z mL_law 183 (Lk k) [] B bc bs := by
  obtain ⟨hb1, hb2⟩ := hb
  have GH := GX_H G1 (by omega)
  refine q_iload_n (x := 1) dL_law_183 rfl (q_if_eq (tgt := 215) dL_law_184 rfl (fun w => absurd w (by decide)) (fun _ => ?_))
  refine q_aload_n (x := 0) dL_law_187 rfl (q_aload_n (x := 405) dL_law_188 rfl (q_bipush (v := 7) dL_law_189 rfl ?_))
  refine q_callS (As := [.ref 0, .ref 405, .int 7]) (st := []) iv_9_139 dL_law_191 (by unfold rmP; decide) rfl (show 0 ≤ 8 by decide) (show 3200 ≤ bc by omega) (show 19200 ≤ bs by omega) (alike_ct _ H.1 H.2.1 GH (LH_P2 H)) (fun r B1 hr => ?_) (fun E M' z => z)
  obtain ⟨rfl, hP⟩ := hr
  have H1 := LH_of2 H hP
  refine ⟨rOK_8 rfl rfl (LH_N H).1 (LH_N H1).2, ?_⟩
  refine q_if_eq (tgt := 215) dL_law_194 rfl (fun w => absurd w (by decide)) (fun _ => ?_)
  refine q_aload_n (x := 405) dL_law_197 rfl ?_
  refine q_callS (As := [.ref 405]) (st := []) iv_9_143 dL_law_198 (by unfold rmP; decide) rfl (show 0 ≤ 8 by decide) (show 3500 ≤ bc - 3200 by omega) (show 21000 ≤ bs - 19200 by omega) (ord_ct H1.2.1 G1 hm (LH_P1 H1).2) (fun r B2 hr => ?_) (fun E M' z => z)
  obtain ⟨rfl, hP2⟩ := hr
  have H2 := LH_act4 H1 GH hP2
  refine ⟨rOK_8 rfl rfl (LH_N H1).1 (LH_N H2).2, ?_⟩
  refine q_if_eq (tgt := 215) dL_law_201 rfl (fun w => absurd w (by decide)) (fun _ => ?_)
  refine q_aload_n (x := 405) dL_law_204 rfl ?_
  have hN := LH_N H2
  have hN2 : pN B2 ≤ 810 + 2 * z := H2.2.2.1
  refine q_callS (As := [.ref 405]) (st := []) iv_9_147 dL_law_205 (by unfold rmP; decide) rfl (show 0 ≤ 8 by decide) (show 1250 ≤ bc - 3200 - 3500 by omega) (show 7500 ≤ bs - 19200 - 21000 by omega) (fair_ct (b' := 0) (q' := q) H2.2.1 (by omega) G1 hm GH (Or.inl (by omega)) (by omega) H2.2.2.2.2 H2.2.2.2.1) (fun r B3 hr => ?_) (fun E M' z => z)
  obtain ⟨rfl, hT, hNN, c0, c1⟩ := hr
  refine ⟨rOK_8 rfl rfl (LH_N H2).1 (okT_N (hT 0 H2.1)).2, ?_⟩
  exact q_if_eq (tgt := 215) dL_law_208 rfl (fun w => absurd w (by decide)) (fun _ => q_iconst (v := 1) dL_law_211 rfl (q_goto (tgt := 216) dL_law_212 rfl (E9 _ _ _ _)))
/-- all turns -/
theorem law_loop (E9 : ∀ (L : List (Nat × Value)) (M : pM) (bc bs : Nat), WLs p l e s m args below meth c G ad0 M0 A Z mL_law 216 L [.int 1] M bc bs) : ∀ m9 k, k + m9 = 360 → ∀ (B : pM) (q : HS) (bc bs : Nat), LH B q q ((k + 12) / 30) → GX (2 * k) q → 274000 ≤ bc + spent k → 6 * 274000 ≤ bs + 6 * spent k → WLs p l e s m args below meth c G ad0 M0 A Z mL_law 21 (Lk k) [] B bc bs
  | 0, k, hk, B, q, bc, bs, H, G1, h1, h2 => by
    have hk : k = 360 := hk
    subst hk
    have e : spent 360 = 257100 := by clear h1 h2; unfold spent; omega
    rw [e] at h1 h2
    exact q_iload (x := nI 360) dL_law_21 rfl (q_sipush (v := 360) dL_law_23 rfl (q_icmp_ge (tgt := 183) dL_law_26 rfl (fun _ => st_last H (by decide) G1 (by decide) ⟨by omega, by omega⟩ E9) (fun w => (w (by rw [show (360 : Int32) = nI 360 from rfl]; exact (cle (by omega) (by omega)).mpr (Nat.le_refl _))).elim)))
  | m9 + 1, k, hk, B, q, bc, bs, H, G1, h1, h2 => by
    have hk1 : k < 360 := by clear h1 h2; omega
    have hk2 : k + 1 + m9 = 360 := by clear h1 h2; omega
    refine q_iload (x := nI k) dL_law_21 rfl (q_sipush (v := 360) dL_law_23 rfl (q_icmp_ge (tgt := 183) dL_law_26 rfl (fun w => ?_) (fun _ => ?_)))
    · exfalso
      clear h1 h2
      rw [show (360 : Int32) = nI 360 from rfl, cle (by omega) (by omega)] at w
      omega
    · exact st_turn hk1 H G1 ⟨h1, h2⟩ (fun B' q' bc' bs' H' G' h1' h2' => law_loop E9 m9 (k + 1) hk2 B' q' bc' bs' H' G' h1' h2')
end Loop
