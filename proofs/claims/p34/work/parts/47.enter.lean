/-! entering a match, the class -/
theorem clL_off {V V' : Mem} {g : Lg} (q : clL V g) (f : ∀ x, 392 ≤ x → x < 398 → V' x = V x) : clL V' g := by
  intro c j hc hj
  rw [f _ (by omega) (by omega)]
  exact q c j hc hj
theorem clA_off {V V' : Mem} {u : Au} (q : clA V u) (f : ∀ x, 398 ≤ x → x < 405 → V' x = V x) : clA V' u := by
  obtain ⟨q1, q2, q3, q4⟩ := q
  unfold clA
  rw [f 398 (by omega) (by omega)]
  refine ⟨fun i j hi hj => ?_, q2, q3, q4⟩
  rw [f _ (by omega) (by omega)]
  exact q1 i j hi hj
section En
variable {J : Nat → Nat → Int64} {V : Mem} {s : Ms} {E : Evs} {g : Lg}
def entK (s : Ms) (E : Evs) : Nat := if s 0 = 1 ∧ s 1 = 0 ∧ s 5 ≤ nowF s E 108 then 0 else 1
def entN (s : Ms) (E : Evs) : St := if entK s E = 0 then (closeS s, E) else (s, E)
def entG (s : Ms) (E : Evs) (g : Lg) : Lg := if entK s E = 0 then noteG (noteG g (s 3) (nowF s E 104) (nowF s E 105)) (s 4) (nowF s E 105) (nowF s E 104) else g
def entV (s : Ms) (E : Evs) : Int32 := noteV (s 3) (nowF s E 104) (s 4) (nowF s E 105)
theorem h_enter (c : clM V s E) (G : Gd s E) (q : clL V g) : CR J mX7_enter [.ref 0] V 1 397 xsF (entK s E) (entV s E) (fun V' => clX V' (entN s E) ∧ GdX (entN s E) ∧ clL V' (entG s E g)) := by
  obtain ⟨wf, hb, hr, hck⟩ := Gd_run G
  have g2 := G.2.2.1
  unfold CR
  refine v_X7_enter (rd_b (k1_isOver c G) (nd_st _ (fun h => ?_) (fun h => ?_)))
  · have h := of_decide_eq_true h
    have hk : entK s E = 0 := by unfold entK; rw [if_pos h]
    have m := c.2.2.2 h.1
    obtain ⟨h8, h4, -⟩ := G.2.2.2.2.2.2.2.1 h.1
    have b4 := hb 104 (by omega)
    have b5 := hb 105 (by omega)
    refine rd_i (k1_clubOf c 0 (by omega)) (rd_i (pointsOf m 0 (by omega)) (rd_i (k1_clubOf c 1 (by omega)) (rd_i (pointsOf m 1 (by omega)) ?_)))
    refine CTc_nx (k3_note q (s 3) (nowF s E 104) (s 4) (nowF s E 105) h8 h4 (by omega) (by omega)) (fun v V1 z => ⟨_, z.1, ?_⟩)
    obtain ⟨-, f1, q1⟩ := z
    have c1 := clM_off c g2 (V' := V1) (fun x hx => f1 x (by omega))
    refine wr_use (k1_close c1 h.2.1) (fun V2 f2 c2 => ⟨hk, rfl, offF_tr (offF_weak f1 (by omega)) (offF_weak f2 (by omega)), ?_⟩)
    unfold entN entG GdX
    rw [hk, if_pos rfl, if_pos rfl]
    exact ⟨c2, Gd_close G h.2.1, clL_off q1 (fun x h1 h2 => f2 x (by omega))⟩
  · have h := of_decide_eq_false h
    have hk : entK s E = 1 := by unfold entK; rw [if_neg h]
    unfold entN entG GdX
    rw [hk]
    exact ⟨show (1 : Nat) ≠ 0 by decide, show ((1 : Nat), xIS) ∈ xsF by simp [xsF], offF_rf _ _ _, c, G, q⟩
theorem bddL_ent (G : Gd s E) {B : Nat} (q : bddL g B) : bddL (entG s E g) (B + 200000 + 200000) := by
  obtain ⟨wf, hb, hr, hck⟩ := Gd_run G
  have b4 := hb 104 (by omega)
  have b5 := hb 105 (by omega)
  unfold entG
  split
  · exact bddL_note (bddL_note q b4 b5 (by omega)) b5 b4 (by omega)
  · intro k hk
    have := q k hk
    omega
end En
