/-! purses and squads follow from lots; the league adds up -/
theorem rem100 : ∀ m, m < 300 → nI m - nI m / 100 * 100 = nI (m % 100) := by decide +kernel
theorem div100 : ∀ m, m < 300 → nI m / 100 = nI (m / 100) := by decide +kernel
theorem nI_addN (a b : Nat) : nI a + nI b = nI (a + b) := (Int32.ofNat_add a b).symm
theorem v8 {c : Nat} (hc : c < 8) : vp_in (nI c) 8 := vp_in_nI hc (by decide)
section Fair
variable {m n0 : Nat} {q : HS} {R : Int32 → Mem → Prop} {X X0 : Mem}
/-- the arrays over the first lots -/
def arI (u : Au) (n0 l : Nat) (X X0 : Mem) : Prop := (∀ c, c < 8 → X n0 c = nI (sumW (spW u c) l) ∧ X (n0 + 1) c = nI (sumW (ctW u c) l + 100 * sumW (foW u c) l)) ∧ ∀ i, i ≠ n0 → i ≠ n0 + 1 → X i = X0 i
theorem fair_cl {c k : Nat} (hc : c < 8) (hk : k < 7) : opK q (nI c) (nI k) 0 0 0 23 = 0 ∧ opX q (nI c) (nI k) 0 0 0 23 = lgV q.2.2 c k := by
  refine ⟨?_, ?_⟩
  · show twoK (isIx (nI c) 8) (isIx (nI k) 7) = 0
    rw [ix_t (by omega) hc, ix_t (by omega) hk]
    rfl
  · show lgV q.2.2 (nI c).toNatClampNeg (nI k).toNatClampNeg = _
    rw [ccl (by omega), ccl (by omega)]
theorem fair_sq {c k : Nat} (hc : c < 8) (hk : k < 3) : opK q (nI c) (nI k) 0 0 0 30 = 0 ∧ opX q (nI c) (nI k) 0 0 0 30 = q.2.1 (10 * k + c) := by
  refine ⟨?_, ?_⟩
  · show twoK (isIx (nI c) 8) (isIx (nI k) 3) = 0
    rw [ix_t (by omega) hc, ix_t (by omega) hk]
    rfl
  · show q.2.1 (10 * (nI k).toNatClampNeg + (nI c).toNatClampNeg) = _
    rw [ccl (by omega), ccl (by omega)]
theorem fair_lot {l : Nat} (hl : l < 24) : (opK q (nI l) 0 0 0 0 29 = 0 ∧ opX q (nI l) 0 0 0 0 29 = q.2.1 (30 + l)) ∧ (opK q (nI l) 1 0 0 0 29 = 0 ∧ opX q (nI l) 1 0 0 0 29 = q.2.1 (60 + l)) := by
  refine ⟨⟨?_, ?_⟩, ?_, ?_⟩
  · show twoK (isIx (nI l) 24) (isIx 0 4) = 0
    rw [ix_t (by omega) hl]
    rfl
  · show lotV q.2.1 (nI l).toNatClampNeg 0 = _
    rw [ccl (by omega)]
    rfl
  · show twoK (isIx (nI l) 24) (isIx 1 4) = 0
    rw [ix_t (by omega) hl]
    rfl
  · show lotV q.2.1 (nI l).toNatClampNeg 1 = _
    rw [ccl (by omega)]
    rfl
theorem fair_2 (G : GX m q) (hm : m ≤ 1900) (hX : arI q.2.1 n0 24 X X0) (hR : R 1 X) {n : Nat} (hn : 130 ≤ n) : lF_isFair_126 q n0 1 0 0 0 0 X n R := by
  obtain ⟨hL, hgr⟩ := G.2.2.2.2.1
  have hmt := G.2.2.2.2.2.2
  have hC := G.2.2.2.2.2.1.2.1
  refine ⟨fun k x1 x4 x5 x6 x7 X' => X' = X ∧ x1 = 1 ∧ ∃ c, c ≤ 8 ∧ x4 = nI (sumL q.2.2 4 c) ∧ x5 = nI (sumL q.2.2 5 c) ∧ x6 = nI (orR q.2.2 c) ∧ x7 = nI c ∧ 15 * (8 - c) + 10 ≤ k, ⟨n, Nat.le_refl _, rfl, rfl, 0, by omega, rfl, rfl, rfl, rfl, by omega⟩, ?_⟩
  rintro m9 x1 x4 x5 x6 x7 X' ⟨rfl, rfl, c, hc, rfl, rfl, rfl, rfl, hb⟩
  refine ⟨by omega, fun z => ?_, fun z => ?_⟩
  · have hc8 : c = 8 := lpE (n := 8) (by omega) hc z
    subst hc8
    exact ⟨fun y => absurd y (by decide), fun _ => ⟨fun y => (y (by rw [hL])).elim, fun _ => ⟨fun y => (y (by rw [orR_8]; rfl)).elim, fun _ => hR⟩⟩⟩
  · have c8 : c < 8 := lpL (n := 8) (by omega) hc z
    obtain ⟨⟨s1, s2⟩, ⟨t1, t2⟩, f1, f2⟩ := hC c c8
    obtain ⟨a1, a2⟩ := hX.1 c c8
    obtain ⟨p1, p2⟩ := fair_sq (q := q) (k := 0) c8 (by omega)
    obtain ⟨p3, p4⟩ := fair_sq (q := q) (k := 1) c8 (by omega)
    obtain ⟨p5, p6⟩ := fair_sq (q := q) (k := 2) c8 (by omega)
    have p2 : opX q (nI c) 0 0 0 0 30 = nI (1000 - sumW (spW q.2.1 c) 24) := p2.trans (by rw [← s2]; exact congrArg q.2.1 (by omega))
    have p4 : opX q (nI c) 1 0 0 0 30 = nI (sumW (ctW q.2.1 c) 24) := p4.trans (by rw [← t2])
    have p6 : opX q (nI c) 2 0 0 0 30 = nI (sumW (foW q.2.1 c) 24) := p6.trans (by rw [← f2])
    have ec : (nI c).toNatClampNeg = c := ccl (by omega)
    have hv := v8 c8
    refine ⟨fun y => absurd y (by decide), fun _ => ?_⟩
    rw [ec, a1, a2, rem100 _ (by omega), div100 _ (by omega), p2, p4, p6, show (sumW (ctW q.2.1 c) 24 + 100 * sumW (foW q.2.1 c) 24) % 100 = sumW (ctW q.2.1 c) 24 by omega, show (sumW (ctW q.2.1 c) 24 + 100 * sumW (foW q.2.1 c) 24) / 100 = sumW (foW q.2.1 c) 24 by omega]
    refine ⟨p1, hv, fun y => (y (nI_sub (a := 1000) s1).symm).elim, fun _ => ⟨p1, fun y => ?_, fun _ => ⟨p3, hv, fun y => (y rfl).elim, fun _ => ⟨p5, hv, fun y => (y rfl).elim, fun _ => ⟨hv, fun y => ?_, fun _ => ⟨hv, fun y => ?_, fun _ => ?_⟩⟩⟩⟩⟩⟩
    · exfalso
      rw [show (0 : Int32) = nI 0 from rfl, clt (by omega) (by omega)] at y
      omega
    · exfalso
      rw [show (6 : Int32) = nI 6 from rfl, clt (by omega) (by omega)] at y
      omega
    · exfalso
      rw [show (2 : Int32) = nI 2 from rfl, clt (by omega) (by omega)] at y
      omega
    · obtain ⟨k0, v0⟩ := fair_cl (q := q) (k := 0) c8 (by omega)
      obtain ⟨k1, v1⟩ := fair_cl (q := q) (k := 1) c8 (by omega)
      obtain ⟨k2, v2⟩ := fair_cl (q := q) (k := 2) c8 (by omega)
      obtain ⟨k3, v3⟩ := fair_cl (q := q) (k := 3) c8 (by omega)
      obtain ⟨k4, v4⟩ := fair_cl (q := q) (k := 4) c8 (by omega)
      obtain ⟨k5, v5⟩ := fair_cl (q := q) (k := 5) c8 (by omega)
      obtain ⟨k6, v6⟩ := fair_cl (q := q) (k := 6) c8 (by omega)
      have v0 : opX q (nI c) 0 0 0 0 23 = nI (q.2.2 (6 * c)) := v0
      have v1 : opX q (nI c) 1 0 0 0 23 = nI (q.2.2 (6 * c + 1)) := v1
      have v2 : opX q (nI c) 2 0 0 0 23 = nI (q.2.2 (6 * c + 2)) := v2
      have v3 : opX q (nI c) 3 0 0 0 23 = nI (q.2.2 (6 * c + 3)) := v3
      have v4 : opX q (nI c) 4 0 0 0 23 = nI (q.2.2 (6 * c + 4)) := v4
      have v5 : opX q (nI c) 5 0 0 0 23 = nI (q.2.2 (6 * c + 5)) := v5
      have v6 : opX q (nI c) 6 0 0 0 23 = nI (rnk q.2.2 c) := v6
      obtain ⟨g1, g2, g3⟩ := hgr c c8
      have g0 := hmt c c8
      have hrk := rnk_lt (g := q.2.2) c8
      have hor := orR_lt (g := q.2.2) c (by omega)
      refine ⟨by omega, k4, k5, k6, fun y => absurd y (by decide), fun _ => ⟨k1, k2, k0, fun y => ?_, fun _ => ⟨k3, k0, fun y => ?_, fun _ => ⟨k3, k1, k2, fun y => ?_, fun _ => ⟨Nat.zero_le _, m9 - 15, by omega, by omega, rfl, rfl, c + 1, by omega, ?_, ?_, ?_, nI_inc c, by omega⟩⟩⟩⟩⟩
      · exfalso
        rw [v0, v1, v2, nI_addN, clt (by omega) (by omega)] at y
        omega
      · exfalso
        rw [v0, v3, show (5 : Int32) = nI 5 from rfl, nI_mul, clt (by omega) (by omega)] at y
        omega
      · exfalso
        rw [v1, v2, v3, show (5 : Int32) = nI 5 from rfl, show (3 : Int32) = nI 3 from rfl, nI_mul, nI_mul, nI_addN, clt (by omega) (by omega)] at y
        omega
      · rw [v4, nI_addN]; rfl
      · rw [v5, nI_addN]; rfl
      · rw [v6]; exact or_bit2 _ (by omega) _ (by omega)
theorem fair_F (G : GX m q) (hm : m ≤ 1900) (h0 : ∀ c, c < 8 → X0 n0 c = 0 ∧ X0 (n0 + 1) c = 0) (hR : ∀ X, (∀ i, i ≠ n0 → i ≠ n0 + 1 → X i = X0 i) → R 1 X) : lF_isFair q n0 X0 248 R := by
  have hLs := G.2.2.2.2.2.1.1
  refine ⟨Nat.zero_le _, fun k x1 x4 X => x1 = 1 ∧ ∃ l, l ≤ 24 ∧ x4 = nI l ∧ arI q.2.1 n0 l X X0 ∧ 3 * (24 - l) + 135 ≤ k, ⟨248, by omega, rfl, 0, by omega, rfl, ⟨fun c hc => ?_, fun _ _ _ => rfl⟩, by omega⟩, ?_⟩
  · obtain ⟨a, b⟩ := h0 c hc
    exact ⟨a, b⟩
  rintro m9 x1 x4 X ⟨rfl, l, hl, rfl, hX, hb⟩
  refine ⟨by omega, fun z => ?_, fun z => ?_⟩
  · have hl24 : l = 24 := lpE (n := 24) (by omega) hl z
    subst hl24
    exact fair_2 G hm hX (hR X hX.2) (by omega)
  · have l24 : l < 24 := lpL (n := 24) (by omega) hl z
    obtain ⟨⟨k0, v0⟩, k1, v1⟩ := fair_lot (q := q) l24
    rw [v0]
    refine ⟨k0, fun y => absurd y (by decide), fun _ => ?_⟩
    rcases hLs l l24 with ⟨e1, e2⟩ | ⟨c, p, hc, hp, e1, e2⟩
    · rw [e1]
      have same : arI q.2.1 n0 (l + 1) X X0 := by
        refine ⟨fun d hd => ?_, hX.2⟩
        obtain ⟨a1, a2⟩ := hX.1 d hd
        have b1 : spW q.2.1 d l = 0 := by unfold spW; rw [e1, if_neg (nI_m1 (by omega))]
        have b2 : ctW q.2.1 d l = 0 := by unfold ctW; rw [e1, if_neg (nI_m1 (by omega))]
        have b3 : foW q.2.1 d l = 0 := by unfold foW; rw [e1, if_neg (fun y => nI_m1 (by omega) y.1)]
        refine ⟨a1.trans (congrArg nI ?_), a2.trans (congrArg nI ?_)⟩
        · show _ = sumW (spW q.2.1 d) l + spW q.2.1 d l
          omega
        · show _ = (sumW (ctW q.2.1 d) l + ctW q.2.1 d l) + 100 * (sumW (foW q.2.1 d) l + foW q.2.1 d l)
          omega
      refine ⟨fun y => absurd y (by decide), fun _ => ⟨by omega, k1, fun y => ?_, fun _ => ⟨Nat.zero_le _, fun y => absurd rfl y, fun _ => ⟨by omega, fun _ => ⟨Nat.zero_le _, m9 - 3, by omega, by omega, rfl, l + 1, by omega, nI_inc l, same, by omega⟩, fun y => absurd (by decide) y⟩⟩⟩⟩
      rw [v1, e2] at y
      exact absurd y (by decide)
    · rw [e1]
      have nn : ∀ k : Nat, k < 2000 → (0 : Int32) ≤ nI k := fun k hk => by
        rw [show (0 : Int32) = nI 0 from rfl, cle (by omega) (by omega)]; omega
      have ec : (nI c).toNatClampNeg = c := ccl (by omega)
      have hv := v8 hc
      have upd : ∀ (f : Nat), f = (if l % 4 = 0 then 1 else 0) → ∀ y : Int32, y = nI (1 + 100 * f) → arI q.2.1 n0 (l + 1) (up2 (up2 X n0 c (X n0 c + nI p)) (n0 + 1) c (up2 X n0 c (X n0 c + nI p) (n0 + 1) c + y)) X0 := by
        intro f hf y hy
        refine ⟨fun d hd => ?_, fun i h1 h2 => ?_⟩
        · obtain ⟨a1, a2⟩ := hX.1 d hd
          have n1 : n0 ≠ n0 + 1 := by omega
          have n2 : n0 + 1 ≠ n0 := by omega
          rw [up2_off _ _ _ n1, up2_row, up2_row, up2_off _ _ _ n2]
          by_cases e : d = c
          · subst e
            have b1 : spW q.2.1 d l = p := by unfold spW; rw [e1, if_pos rfl, e2]; exact ccl (by omega)
            have b2 : ctW q.2.1 d l = 1 := by unfold ctW; rw [e1, if_pos rfl]
            have b3 : foW q.2.1 d l = f := by
              unfold foW
              rw [e1, hf]
              by_cases w : l % 4 = 0
              · rw [if_pos ⟨rfl, w⟩, if_pos w]
              · rw [if_neg (fun x => w x.2), if_neg w]
            rw [if_pos rfl, if_pos rfl, a1, a2, hy, nI_addN, nI_addN]
            refine ⟨congrArg nI ?_, congrArg nI ?_⟩
            · show _ = sumW (spW q.2.1 d) l + spW q.2.1 d l
              omega
            · show _ = (sumW (ctW q.2.1 d) l + ctW q.2.1 d l) + 100 * (sumW (foW q.2.1 d) l + foW q.2.1 d l)
              omega
          · have hcd : ¬ nI c = nI d := by rw [ceq (by omega) (by omega)]; omega
            have b1 : spW q.2.1 d l = 0 := by unfold spW; rw [e1, if_neg hcd]
            have b2 : ctW q.2.1 d l = 0 := by unfold ctW; rw [e1, if_neg hcd]
            have b3 : foW q.2.1 d l = 0 := by unfold foW; rw [e1, if_neg (fun y => hcd y.1)]
            rw [if_neg e, if_neg e]
            refine ⟨a1.trans (congrArg nI ?_), a2.trans (congrArg nI ?_)⟩
            · show _ = sumW (spW q.2.1 d) l + spW q.2.1 d l
              omega
            · show _ = (sumW (ctW q.2.1 d) l + ctW q.2.1 d l) + 100 * (sumW (foW q.2.1 d) l + foW q.2.1 d l)
              omega
        · rw [up2_off _ _ _ h2, up2_off _ _ _ h1]
          exact hX.2 i h1 h2
      refine ⟨fun _ => ⟨by omega, k1, fun _ => ⟨Nat.zero_le _, fun y => absurd rfl y, fun _ => ⟨by omega, fun y => ?_, fun _ => ?_⟩⟩, fun y => ?_⟩, fun y => (y (nn c (by omega))).elim⟩
      · exfalso
        rw [show (0 : Int32) = nI 0 from rfl, clt (by omega) (by omega)] at y
        omega
      · rw [rem4 l l24, v1, e2, ec]
        refine ⟨hv, k1, hv, hv, fun y => ?_, fun y => ?_⟩
        · have w : ¬ l % 4 = 0 := by rw [show (0 : Int32) = nI 0 from rfl, ceq (by omega) (by omega)] at y; exact y
          refine ⟨Nat.zero_le _, hv, Nat.zero_le _, m9 - 3, by omega, by omega, rfl, l + 1, by omega, nI_inc l, ?_, by omega⟩
          rw [ec]
          exact upd 0 (by rw [if_neg w]) 1 rfl
        · have w : l % 4 = 0 := by rw [show (0 : Int32) = nI 0 from rfl, ceq (by omega) (by omega)] at y; exact y
          refine ⟨Nat.zero_le _, hv, Nat.zero_le _, m9 - 3, by omega, by omega, rfl, l + 1, by omega, nI_inc l, ?_, by omega⟩
          rw [ec]
          exact upd 1 (by rw [if_pos w]) 101 rfl
      · exfalso
        rw [v1, e2] at y
        exact y (nn p (by omega))
end Fair
