/-! the reference: orders, faults, a run -/
theorem tkR_bad {sg : Nat → Int32} {l h : Int32} {c : Nat} : tkR sg l h (c, true) = (c, true) := if_neg (fun z => Bool.noConfusion z.1)
theorem tkR_y {sg : Nat → Int32} {l h : Int32} {c : Nat} (d : inB (sg c) l h = true) : tkR sg l h (c, false) = (c + 1, false) := if_pos ⟨rfl, d⟩
theorem tkR_n {sg : Nat → Int32} {l h : Int32} {c : Nat} (d : inB (sg c) l h = false) : tkR sg l h (c, false) = (c, true) := if_neg (fun z => by rw [d] at z; cases z.2)
def o8 (V : Mem) (n : Nat) (sg : Nat → Int32) (q : Nat × Option (Nat × Int32 × Int32)) (V' : Mem) : Prop := frO V V' ∧ rdS V' n (q.1, q.2.isNone) sg ∧ ∀ i w t, q.2 = some (i, w, t) → V' 405 23 = kI i ∧ V' 405 24 = w ∧ (i ≠ 7 → V' 405 25 = t)
section Po8
variable {J : Nat → Nat → Int64} {V U : Mem} {n c i : Nat} {sg : Nat → Int32} {Q : Mem → Prop} {Qx : String → Mem → Prop} {w : Int32}
theorem b174 (f : frO V U) (h : rdS U n (c, true) sg) (HB : ∀ V', frO V V' → rdS V' n (c, true) sg → Q V') : F_X8_readOrder_174 J U (fun r V' => r = none ∧ Q V') Qx := by
  unfold F_X8_readOrder_174
  refine m_takes h 59 59 (by decide) (fun V' f' h' => ⟨rfl, HB V' (frO_tr f (frT_O f')) ?_⟩)
  rw [tkR_bad] at h'
  exact h'
theorem b171 (s0 : Int32) (f : frO V U) (h : rdS U n (c, true) sg) (HB : ∀ V', frO V V' → rdS V' n (c, true) sg → Q V') : F_X8_readOrder_171 J s0 U (fun r V' => r = none ∧ Q V') Qx := b174 (frO_up f (by omega)) (rdS_fld h (by omega)) HB
theorem b104 (s0 : Int32) (f : frO V U) (h : rdS U n (c, true) sg) (HB : ∀ V', frO V V' → rdS V' n (c, true) sg → Q V') : F_X8_readOrder_104 J s0 U (fun r V' => r = none ∧ Q V') Qx := by
  unfold F_X8_readOrder_104 F_X8_readOrder_167
  have h1 := rdS_fld (x := s0) h (show 25 = 23 ∨ 25 = 24 ∨ 25 = 25 ∨ 25 = 0 by omega)
  exact rd_b (m_isNext h1 48 57 (by decide)) ⟨fun _ => b171 _ (frO_up f (by omega)) h1 HB, fun z => Bool.noConfusion z⟩
theorem bDig (f : frO V U) (h : rdS U n (c, true) sg) (HB : ∀ V', frO V V' → rdS V' n (c, true) sg → Q V') : CTc J mX8_takes [.ref 405, .int 48, .int 57] U (fun r V2 => ∃ r2 : Int32, r = some (.int r2) ∧ CTc J mX8_isNext [.ref 405, .int 48, .int 57] (up2 V2 405 25 r2) (fun r V3 => ∃ b3 : Bool, r = some (.int (bI b3)) ∧ (b3 = false → F_X8_readOrder_104 J (V3 405 25) V3 (fun r V' => r = none ∧ Q V') Qx) ∧ (b3 = true → CTc J mX8_takes [.ref 405, .int 48, .int 57] V3 (fun r V4 => ∃ r4 : Int32, r = some (.int r4) ∧ F_X8_readOrder_104 J ((10 * (V3 405 25)) + r4) V4 (fun r V' => r = none ∧ Q V') Qx) Qx)) Qx) Qx := by
  refine m_takes h 48 57 (by decide) (fun V2 f2 h2 => ?_)
  rw [tkR_bad] at h2
  rw [if_neg (fun z => Bool.noConfusion z.1)]
  have h3 := rdS_fld (x := 0) h2 (show 25 = 23 ∨ 25 = 24 ∨ 25 = 25 ∨ 25 = 0 by omega)
  exact rd_b (m_isNext h3 48 57 (by decide)) ⟨fun _ => b104 _ (frO_up (frO_tr f (frT_O f2)) (by omega)) h3 HB, fun z => Bool.noConfusion z⟩
theorem b32 (s0 : Int32) (f : frO V U) (h : rdS U n (c, true) sg) (HB : ∀ V', frO V V' → rdS V' n (c, true) sg → Q V') : F_X8_readOrder_32 J s0 U (fun r V' => r = none ∧ Q V') Qx := by
  unfold F_X8_readOrder_32
  have h1 := rdS_fld (x := s0) h (show 24 = 23 ∨ 24 = 24 ∨ 24 = 25 ∨ 24 = 0 by omega)
  have h2 := rdS_fld (x := 0) h1 (show 25 = 23 ∨ 25 = 24 ∨ 25 = 25 ∨ 25 = 0 by omega)
  have f2 : frO V (up2 (up2 U 405 24 s0) 405 25 0) := frO_up (frO_up f (by omega)) (by omega)
  refine ⟨fun _ => b174 f2 h2 HB, fun _ => m_takes h2 64 64 (by decide) (fun V1 f3 h3 => ?_)⟩
  rw [tkR_bad] at h3
  exact bDig (frO_tr f2 (frT_O f3)) h3 HB
theorem b20 (f : frO V U) (h : rdS U n (c, true) sg) (HB : ∀ V', frO V V' → rdS V' n (c, true) sg → Q V') : F_X8_readOrder_20 J U (fun r V' => r = none ∧ Q V') Qx := by
  unfold F_X8_readOrder_20
  refine m_takes h 48 57 (by decide) (fun V1 f1 h1 => ?_)
  rw [tkR_bad] at h1
  exact b32 _ (frO_tr f (frT_O f1)) h1 HB
theorem g174 {t : Int32} (f : frO V U) (h : rdS U n (c, false) sg) (v3 : U 405 23 = kI i) (v4 : U 405 24 = w) (v5 : i ≠ 7 → U 405 25 = t) (HT : ∀ V', o8 V n sg (if sg c = 59 then (c + 1, some (i, w, t)) else (c, none)) V' → Q V') : F_X8_readOrder_174 J U (fun r V' => r = none ∧ Q V') Qx := by
  unfold F_X8_readOrder_174
  refine m_takes h 59 59 (by decide) (fun V' f' h' => ⟨rfl, ?_⟩)
  rw [tkR_c] at h'
  by_cases h59 : sg c = 59
  · rw [if_pos h59] at HT
    rw [tkF_y h59] at h'
    refine HT V' ⟨frO_tr f (frT_O f'), h', fun i' w' t' hh => ?_⟩
    have hh := Option.some.inj hh
    cases hh
    exact ⟨(f'.2 23 (by omega) (by omega)).trans v3, (f'.2 24 (by omega) (by omega)).trans v4, fun hn => (f'.2 25 (by omega) (by omega)).trans (v5 hn)⟩
  · rw [if_neg h59] at HT
    rw [tkF_n h59] at h'
    exact HT V' ⟨frO_tr f (frT_O f'), h', fun i w t hh => by cases hh⟩
theorem kI_7 (hi : i < 8) : (kI i = -1) ↔ i = 7 := by
  unfold kI
  by_cases h : i = 7
  · rw [if_pos h]; exact ⟨fun _ => h, fun _ => rfl⟩
  · rw [if_neg h]; exact ⟨fun z => (nI_n1 (by omega) z).elim, fun z => (h z).elim⟩
theorem kI_0 (hi : i < 8) : (kI i = 0) ↔ i = 0 := by
  unfold kI
  by_cases h : i = 7
  · rw [if_pos h, h]; decide
  · rw [if_neg h, nI_0', ceq (by omega) (by omega)]
theorem nm_1 (sg : Nat → Int32) (c : Nat) : nmTo sg c 1 = sg c - 48 := by
  show 10 * 0 + sg (c + 0) - 48 = _
  rw [Int32.mul_zero, Int32.zero_add]; rfl
theorem nm_s (sg : Nat → Int32) (c k : Nat) : nmTo sg c (k + 1) = 10 * nmTo sg c k + (sg (c + k) - 48) := by
  show 10 * nmTo sg c k + sg (c + k) - 48 = _
  rw [Int32.sub_eq_add_neg, Int32.sub_eq_add_neg, Int32.add_assoc]
theorem g32 (hi : i < 8) (f : frO V U) (h : rdS U n (c, false) sg) (v3 : U 405 23 = kI i) (HT : ∀ V', o8 V n sg (tailF sg i w c) V' → Q V') : F_X8_readOrder_32 J w U (fun r V' => r = none ∧ Q V') Qx := by
  have h1 := rdS_fld (x := w) h (show 24 = 23 ∨ 24 = 24 ∨ 24 = 25 ∨ 24 = 0 by omega)
  have h2 := rdS_fld (x := 0) h1 (show 25 = 23 ∨ 25 = 24 ∨ 25 = 25 ∨ 25 = 0 by omega)
  have f2 : frO V (up2 (up2 U 405 24 w) 405 25 0) := frO_up (frO_up f (by omega)) (by omega)
  have w3 : up2 (up2 U 405 24 w) 405 25 0 405 23 = kI i := by rw [up2_ne _ _ (Or.inr (by omega)), up2_ne _ _ (Or.inr (by omega))]; exact v3
  have w4 : up2 (up2 U 405 24 w) 405 25 0 405 24 = w := by rw [up2_ne _ _ (Or.inr (by omega)), up2_same]
  unfold F_X8_readOrder_32
  generalize up2 (up2 U 405 24 w) 405 25 0 = W at h2 f2 w3 w4 ⊢
  unfold tailF at HT
  rw [w3, kI_7 hi]
  refine ⟨fun h7 => ?_, fun h7 => ?_⟩
  · rw [if_pos h7] at HT
    exact g174 f2 h2 w3 w4 (fun hn => (hn h7).elim) HT
  · rw [if_neg h7] at HT
    refine m_takes h2 64 64 (by decide) (fun V1 f3 h3 => ?_)
    rw [tkR_c] at h3
    have f4 := frO_tr f2 (frT_O f3)
    have x3 : V1 405 23 = kI i := (f3.2 23 (by omega) (by omega)).trans w3
    have x4 : V1 405 24 = w := (f3.2 24 (by omega) (by omega)).trans w4
    by_cases h64 : sg c = 64
    · rw [if_pos h64] at HT
      rw [tkF_y h64] at h3
      refine m_takes h3 48 57 (by decide) (fun V2 f5 h5 => ?_)
      have f6 := frO_tr f4 (frT_O f5)
      have y3 : V2 405 23 = kI i := (f5.2 23 (by omega) (by omega)).trans x3
      have y4 : V2 405 24 = w := (f5.2 24 (by omega) (by omega)).trans x4
      cases d1 : digB (sg (c + 1)) with
      | false =>
        have hk : nmK sg (c + 1) = 0 := by unfold nmK; rw [if_pos d1]
        rw [if_pos hk] at HT
        rw [tkR_n d1] at h5
        have h6 := rdS_fld (x := if (false = false ∧ inB (sg (c + 1)) 48 57 = true) then sg (c + 1) - 48 else 0) h5 (show 25 = 23 ∨ 25 = 24 ∨ 25 = 25 ∨ 25 = 0 by omega)
        exact rd_b (m_isNext h6 48 57 (by decide)) ⟨fun _ => b104 _ (frO_up f6 (by omega)) h6 (fun V' fv hv => HT V' ⟨fv, hv, fun i w t hh => by cases hh⟩), fun z => Bool.noConfusion z⟩
      | true =>
        rw [tkR_y d1] at h5
        rw [if_pos ⟨rfl, d1⟩]
        have hk0 : nmK sg (c + 1) ≠ 0 := by unfold nmK; rw [if_neg (by rw [d1]; decide)]; split; omega; split <;> omega
        rw [if_neg hk0] at HT
        have h6 := rdS_fld (x := sg (c + 1) - 48) h5 (show 25 = 23 ∨ 25 = 24 ∨ 25 = 25 ∨ 25 = 0 by omega)
        have f7 : frO V (up2 V2 405 25 (sg (c + 1) - 48)) := frO_up f6 (by omega)
        have z3 : up2 V2 405 25 (sg (c + 1) - 48) 405 23 = kI i := (up2_ne _ _ (Or.inr (by omega))).trans y3
        have z4 : up2 V2 405 25 (sg (c + 1) - 48) 405 24 = w := (up2_ne _ _ (Or.inr (by omega))).trans y4
        have z5 : up2 V2 405 25 (sg (c + 1) - 48) 405 25 = sg (c + 1) - 48 := up2_same _ _ _ _
        generalize up2 V2 405 25 (sg (c + 1) - 48) = V3 at h6 f7 z3 z4 z5 ⊢
        have e1 : nmTo sg (c + 1) 1 = sg (c + 1) - 48 := nm_1 _ _
        refine rd_b (m_isNext h6 48 57 (by decide)) ⟨fun d2 => ?_, fun d2 => ?_⟩
        · have d2 : digB (sg (c + 1 + 1)) = false := d2
          have hk : nmK sg (c + 1) = 1 := by unfold nmK; rw [if_neg (by rw [d1]; decide), if_pos d2]
          rw [hk, e1] at HT
          unfold F_X8_readOrder_104 F_X8_readOrder_167 F_X8_readOrder_171
          have h8 := rdS_fld (x := V3 405 25) h6 (show 25 = 23 ∨ 25 = 24 ∨ 25 = 25 ∨ 25 = 0 by omega)
          refine rd_b (m_isNext h8 48 57 (by decide)) ⟨fun _ => ?_, fun z => ?_⟩
          · rw [up2_same]
            have h9 := rdS_fld (x := V3 405 25) h8 (show 25 = 23 ∨ 25 = 24 ∨ 25 = 25 ∨ 25 = 0 by omega)
            exact g174 (t := sg (c + 1) - 48) (frO_up (frO_up f7 (by omega)) (by omega)) h9 (by rw [up2_ne _ _ (Or.inr (by omega)), up2_ne _ _ (Or.inr (by omega))]; exact z3) (by rw [up2_ne _ _ (Or.inr (by omega)), up2_ne _ _ (Or.inr (by omega))]; exact z4) (fun _ => by rw [up2_same]; exact z5) HT
          · have z : digB (sg (c + 1 + 1)) = true := z
            rw [d2] at z; cases z
        · have d2 : digB (sg (c + 1 + 1)) = true := d2
          refine m_takes h6 48 57 (by decide) (fun V4 f8 h8 => ?_)
          rw [tkR_y d2] at h8
          rw [if_pos ⟨rfl, d2⟩, z5]
          have f9 := frO_tr f7 (frT_O f8)
          have e2 : nmTo sg (c + 1) 2 = 10 * (sg (c + 1) - 48) + (sg (c + 1 + 1) - 48) := by rw [nm_s, e1]
          unfold F_X8_readOrder_104 F_X8_readOrder_167 F_X8_readOrder_171
          rw [← e2]
          have h10 := rdS_fld (x := nmTo sg (c + 1) 2) h8 (show 25 = 23 ∨ 25 = 24 ∨ 25 = 25 ∨ 25 = 0 by omega)
          have f10 : frO V (up2 V4 405 25 (nmTo sg (c + 1) 2)) := frO_up f9 (by omega)
          have a3 : up2 V4 405 25 (nmTo sg (c + 1) 2) 405 23 = kI i := (up2_ne _ _ (Or.inr (by omega))).trans ((f8.2 23 (by omega) (by omega)).trans z3)
          have a4 : up2 V4 405 25 (nmTo sg (c + 1) 2) 405 24 = w := (up2_ne _ _ (Or.inr (by omega))).trans ((f8.2 24 (by omega) (by omega)).trans z4)
          have a5 : up2 V4 405 25 (nmTo sg (c + 1) 2) 405 25 = nmTo sg (c + 1) 2 := up2_same _ _ _ _
          generalize up2 V4 405 25 (nmTo sg (c + 1) 2) = V5 at h10 f10 a3 a4 a5 ⊢
          refine rd_b (m_isNext h10 48 57 (by decide)) ⟨fun d3 => ?_, fun d3 => ?_⟩
          · have d3 : digB (sg (c + 1 + 2)) = false := d3
            have hk : nmK sg (c + 1) = 2 := by unfold nmK; rw [if_neg (by rw [d1]; decide), if_neg (by rw [d2]; decide), if_pos d3]
            rw [hk] at HT
            have h11 := rdS_fld (x := V5 405 25) h10 (show 25 = 23 ∨ 25 = 24 ∨ 25 = 25 ∨ 25 = 0 by omega)
            exact g174 (t := nmTo sg (c + 1) 2) (frO_up f10 (by omega)) h11 ((up2_ne _ _ (Or.inr (by omega))).trans a3) ((up2_ne _ _ (Or.inr (by omega))).trans a4) (fun _ => by rw [up2_same]; exact a5) HT
          · have d3 : digB (sg (c + 1 + 2)) = true := d3
            have hk : nmK sg (c + 1) = 3 := by unfold nmK; rw [if_neg (by rw [d1]; decide), if_neg (by rw [d2]; decide), if_neg (by rw [d3]; decide)]
            rw [hk] at HT
            obtain ⟨q1, q2, q3, q4, q5, q6, q7⟩ := id h10
            have q2 : V5 405 21 = nI (c + 1 + 2) := q2
            have q5 : c + 1 + 2 ≤ n := q5
            have e21 : V5 405 21 - 2 = nI (c + 1) := by
              rw [q2]
              exact nI_sub (a := c + 1 + 2) (b := 2) (by omega)
            rw [e21, q2, ccl (n := c + 1) (by omega), q6 (c + 1) (by omega), show (1 : Int32) = nI 1 from rfl, cle (by omega) (by omega)]
            refine ⟨fun y => by omega, fun _ => ⟨vp_in_nI (by omega) (by decide), rd_b (k8_in J _ 48 57 V5) ⟨fun y => ?_, fun _ => ?_⟩⟩⟩
            · have y : digB (sg (c + 1)) = false := y
              rw [d1] at y; cases y
            · refine m_takes h10 48 57 (by decide) (fun V6 f11 h11 => ?_)
              rw [tkR_y d3] at h11
              rw [if_pos ⟨rfl, d3⟩, a5]
              have e3 : nmTo sg (c + 1) 3 = 10 * nmTo sg (c + 1) 2 + (sg (c + 1 + 2) - 48) := nm_s _ _ _
              rw [← e3]
              have h12 := rdS_fld (x := nmTo sg (c + 1) 3) h11 (show 25 = 23 ∨ 25 = 24 ∨ 25 = 25 ∨ 25 = 0 by omega)
              exact g174 (t := nmTo sg (c + 1) 3) (frO_up (frO_tr f10 (frT_O f11)) (by omega)) h12 ((up2_ne _ _ (Or.inr (by omega))).trans ((f11.2 23 (by omega) (by omega)).trans a3)) ((up2_ne _ _ (Or.inr (by omega))).trans ((f11.2 24 (by omega) (by omega)).trans a4)) (fun _ => up2_same _ _ _ _) HT
    · rw [if_neg h64] at HT
      rw [tkF_n h64] at h3
      exact bDig f4 h3 (fun V' fv hv => HT V' ⟨fv, hv, fun i w t hh => by cases hh⟩)
theorem wzk_8 (sg : Nat → Int32) (a : Nat) : (wzk sg a).2 < 8 := by
  unfold wzk
  repeat' split
  all_goals (show (_ : Nat) < 8; omega)
theorem m_readOrder {a : Nat} (h : rdS V n (a, false) sg) (ha : a < n) (H : ∀ V', o8 V n sg (ordF sg a) V' → Q V') : CTc J mX8_readOrder [.ref 405] V (fun r V' => r = none ∧ Q V') Qx := by
  have h8 := wzk_8 sg a
  unfold ordF at H
  rw [wz_eq] at H
  refine v_X8_readOrder (m_readWord h ha (fun V1 f1 h1 v3 => ?_))
  generalize wzk sg a = zz at h1 v3 H h8
  obtain ⟨⟨b, bad⟩, i⟩ := zz
  rw [v3, kI_7 h8, kI_0 h8]
  cases bad with
  | true =>
    have HB : ∀ V', frO V V' → rdS V' n (b, true) sg → Q V' := fun V' fv hv => H V' ⟨fv, hv, fun i w t hh => by cases hh⟩
    exact ⟨fun _ => b20 f1 h1 HB, fun _ => ⟨fun _ => b32 _ f1 h1 HB, fun _ => b20 f1 h1 HB⟩⟩
  | false =>
    have L20 : (i = 7 ∨ i = 0) → F_X8_readOrder_20 J V1 (fun r V' => r = none ∧ Q V') Qx := by
      intro hi
      have H2 : ∀ V', o8 V n sg (if i = 7 ∨ i = 0 then (if digB (sg b) = true then tailF sg i (sg b - 48) (b + 1) else (b, none)) else tailF sg i (-1) b) V' → Q V' := H
      rw [if_pos hi] at H2
      unfold F_X8_readOrder_20
      refine m_takes h1 48 57 (by decide) (fun V2 f2 h2 => ?_)
      have f3 := frO_tr f1 (frT_O f2)
      have w3 : V2 405 23 = kI i := (f2.2 23 (by omega) (by omega)).trans v3
      cases d : digB (sg b) with
      | true =>
        rw [if_pos d] at H2
        rw [tkR_y d] at h2
        rw [if_pos ⟨rfl, d⟩]
        exact g32 h8 f3 h2 w3 H2
      | false =>
        rw [if_neg (by rw [d]; decide)] at H2
        rw [tkR_n d] at h2
        exact b32 _ f3 h2 (fun V' fv hv => H2 V' ⟨fv, hv, fun i w t hh => by cases hh⟩)
    refine ⟨fun h7 => L20 (Or.inl h7), fun h7 => ⟨fun h0 => ?_, fun h0 => L20 (Or.inr h0)⟩⟩
    have H2 : ∀ V', o8 V n sg (if i = 7 ∨ i = 0 then (if digB (sg b) = true then tailF sg i (sg b - 48) (b + 1) else (b, none)) else tailF sg i (-1) b) V' → Q V' := H
    have h7' : ¬ i = 7 := h7
    have h0' : ¬ i = 0 := h0
    rw [if_neg (by omega)] at H2
    exact g32 h8 f1 h1 v3 H2
end Po8
