/-! the launch's facts -/
def tmS (i : Nat) : Term := .string (strO i) (strI i)
theorem lw_sr : ∀ k, k < 11 → Cond.stringRef (strO k) (strI k) (strT k) ∈ lw_tbl
  | 0, _ => List.mem_of_getElem? (i := 852) (by decide +kernel)
  | 1, _ => List.mem_of_getElem? (i := 853) (by decide +kernel)
  | 2, _ => List.mem_of_getElem? (i := 854) (by decide +kernel)
  | 3, _ => List.mem_of_getElem? (i := 855) (by decide +kernel)
  | 4, _ => List.mem_of_getElem? (i := 856) (by decide +kernel)
  | 5, _ => List.mem_of_getElem? (i := 857) (by decide +kernel)
  | 6, _ => List.mem_of_getElem? (i := 858) (by decide +kernel)
  | 7, _ => List.mem_of_getElem? (i := 859) (by decide +kernel)
  | 8, _ => List.mem_of_getElem? (i := 374) (by decide +kernel)
  | 9, _ => List.mem_of_getElem? (i := 416) (by decide +kernel)
  | 10, _ => List.mem_of_getElem? (i := 439) (by decide +kernel)
  | n + 11, h => absurd h (by omega)
def hv_all : List Cond := flatC (Jvm.Cond.and given_1 narrow_1)
theorem hv_ex : ∀ i, i < 11 → Cond.exactly (tmS i) "java/lang/String" ∈ hv_all := by decide +kernel
theorem hv_co : ∀ i, i < 11 → Cond.eq (.field (tmS i) "java/lang/String" "coder" "B") (.int 0) ∈ hv_all := by decide +kernel
theorem hv_ar : ∀ i, i < 11 → Cond.arrayOf (.field (tmS i) "java/lang/String" "value" "[B") .byte ∈ hv_all := by decide +kernel
theorem hv_le : ∀ i, i < 11 → Cond.eq (.length (.field (tmS i) "java/lang/String" "value" "[B")) (.int (Int32.ofNat (lenS.getD i 0))) ∈ hv_all := by decide +kernel
theorem hv_el : ∀ i, i < 11 → ∀ j, j < lenS.getD i 0 → Cond.eq (.elem (.field (tmS i) "java/lang/String" "value" "[B") (.int (Int32.ofNat j))) (.int ((bytS.getD i []).getD j 0)) ∈ hv_all := by decide +kernel
theorem hv_ne : ∀ i, i < 11 → ∀ j, j < 11 → i < j → Cond.not (Cond.eq (tmS i) (tmS j)) ∈ hv_all ∨ Cond.not (Cond.eq (tmS j) (tmS i)) ∈ hv_all := by decide +kernel
theorem hv_len : ∀ i, i < 11 → lenS.getD i 0 < 2 ^ 31 := by decide +kernel
theorem nwI : ∀ ci, ci < 8 → Cond.instantiable (fC ci) (fN ci) ∈ TBg := ci8 nw_7_30.2.2.1 nw_7_9.2.2.1 nw_1_9.2.2.1 nw_7_23.2.2.1 nw_1_17.2.2.1 nw_7_16.2.2.1 nw_4_9.2.2.1 nw_9_15.2.2.1
theorem whole_start {p : Program} {e : Env} {s : State} {m : MethodId} {below : List Frame} {meth : Method} {c : Code} (l : Launch) (hflags : l.flags = flags0) {b L : Nat} {xs : Nat → Int32} (hL : L ≤ 260) (C0 : lw_At p s m meth c b L xs) : W p l e room_1 s m #[Value.ref b] below meth c s.heap [] 0 0 (lw_Z below #[Value.ref b] s) (entryFrame m ([Value.ref b] : List Value).toArray 7) := by
  obtain ⟨hx, hb, hr, hml, hown, hts, hX, hbl, hlocks, hgv⟩ := C0
  have hs : ∀ w ∈ hv_all, w.before #[Value.ref b] s = true := flat_of_before _ hgv
  have hA : ∀ q : Nat, s.heap.size ≤ q → (fun q : Nat => s.heap.size ≤ q) q := fun _ h => h
  have hA0 : ∀ a : Nat, a < s.heap.size → ¬ (fun q : Nat => s.heap.size ≤ q) a := fun a h => Nat.not_le.mpr h
  have hTB : ∀ w ∈ TBg, w.before #[Value.ref b] s = true := fun w hw => hts w (List.mem_filter.mp hw).1
  have htr : l.stackTraces = false := by
    unfold Launch.stackTraces
    rw [hflags]
    decide +kernel
  have kn : ∀ ci : Nat, ∃ q : ClassId × (Nat → Nat), ci < 8 → u_Kn s (fC ci) (fX ci) (fN ci) q.1 q.2 := by
    intro ci
    by_cases h : ci < 8
    · obtain ⟨cC, iS, h1⟩ := u_known (ws := TBg) hTB (ulay ci h) (hTB _ (nwI ci h))
      exact ⟨(cC, iS), fun _ => h1⟩
    · exact ⟨(0, fun _ => 0), fun z => absurd z h⟩
  obtain ⟨D, hD⟩ := Classical.axiomOfChoice kn
  obtain ⟨cI, k1, m1, i1, i2, i3⟩ := Cond.arrayClass_spec (hTB _ ac_I)
  have hao : (Cond.arrayOver (.object RX2)).before #[Value.ref b] s = true := hts _ (List.mem_of_getElem? (i := 64) (by decide +kernel))
  obtain ⟨m4, cE, k4, e1, e2, e3, e4, e5⟩ := Cond.arrayOver_spec hao
  obtain ⟨adK, adV, hSS, hE⟩ := vk_Sof (tm := tmS) (N := 11) (len := lenS) (byt := bytS) (A := fun q : Nat => s.heap.size ≤ q) hv_len (fun i hi => hs _ (hv_ex i hi)) (fun i hi => hs _ (hv_co i hi)) (fun i hi => hs _ (hv_ar i hi)) (fun i hi => hs _ (hv_le i hi)) (fun i hi j hj => hs _ (hv_el i hi j hj)) (fun i j hi hj hij => by
    rcases Nat.lt_or_ge i j with h | h
    · rcases hv_ne i hi j hj h with z | z
      · exact Or.inl (hs _ z)
      · exact Or.inr (hs _ z)
    · rcases hv_ne j hj i hi (by omega) with z | z
      · exact Or.inr (hs _ z)
      · exact Or.inl (hs _ z)) hA0
  have hini : ∀ w ∈ lw_tbl, w.before #[Value.ref b] s = true := hts
  obtain ⟨g3, g3a, g3b, g3d⟩ : ∃ g3 : Nat → Nat, (∀ k, k < 11 → g3 k = adK k) ∧ (∀ k, k < 11 → g3 (100 + k) = adV k) ∧ g3 150 = b := by
    refine ⟨fun k => if k = 150 then b else if 100 ≤ k then adV (k - 100) else adK k, fun k hk => ?_, fun k hk => ?_, rfl⟩
    · dsimp only
      rw [if_neg (by omega), if_neg (by omega)]
    · dsimp only
      rw [if_neg (by omega), if_pos (by omega), Nat.add_sub_cancel_left]
  obtain ⟨cA, cA9, cA11⟩ : ∃ cA : Nat → ClassId, cA 9 = cI ∧ cA 11 = cE := ⟨fun k => if k = 9 then cI else cE, rfl, rfl⟩
  have hK : va_K (fun k => (D k).1, fun k => (D k).2) vwCl (gtys cA) s := by
    refine ⟨fun ci q hq => ?_, fun k q hk => ?_⟩
    · have hc : ci < 8 := (List.getElem?_eq_some_iff.mp hq).1
      rw [vwCl_at ci hc] at hq
      cases hq
      exact hD ci hc
    · match k, hk with
      | 0, hk =>
        cases hk
        dsimp only
        rw [cA9]
        exact ⟨fun n z => ⟨fun k h => (by cases h), k1, i2, m1, i3⟩, i1⟩
      | 1, hk =>
        cases hk
        dsimp only
        rw [cA11]
        exact ⟨fun n z => ⟨fun k h => (by cases h), k4, e3, m4, e4⟩, k4, m4, e3, e4, e1, e5⟩
      | k + 2, hk => exact absurd (List.getElem?_eq_some_iff.mp hk).1 (by simp [gtys])
  have hGU : GU ((fun k => (D k).1, fun k => (D k).2), cA, g3) (fun q : Nat => s.heap.size ≤ q) s s.heap := by
    refine ⟨fun w hw => va_Nw.of (xW_onT w hw) (hts w (List.mem_filter.mp hw).1), fun q hq => ?_, va_AO.of hao, ?_, ?_, adV, fun k hk => ?_, ⟨fun i hi => ?_, fun i j hi hj h => ?_⟩, ⟨L, xs, hL, ?_, ?_⟩⟩
    · simp only [xNc, List.mem_cons, List.not_mem_nil, or_false] at hq
      rcases hq with rfl | rfl | rfl
      · exact va_Nc.of (hs _ (by decide +kernel))
      · exact va_Nc.of (hs _ (by decide +kernel))
      · exact va_Nc.of (hs _ (by decide +kernel))
    · exact vx_Zqof (hts _ (List.mem_of_getElem? (i := 360) (by decide +kernel))) (hts _ (List.mem_of_getElem? (i := 38) (by decide +kernel))) (hs _ (by decide +kernel)) hA0
    · exact vx_Zqof (hts _ (List.mem_of_getElem? (i := 362) (by decide +kernel))) (hts _ (List.mem_of_getElem? (i := 38) (by decide +kernel))) (hs _ (by decide +kernel)) hA0
    · show vk_R (strO k) (strI k) (strT k) (g3 k) s
      rw [g3a k hk]
      exact vk_R.of (hts _ (lw_sr k hk)) (hE k hk)
    · have h0 := hSS.1 i hi
      rw [← g3a i hi] at h0
      exact h0
    · have h : g3 i = g3 j := h
      rw [g3a i hi, g3a j hj] at h
      exact hSS.2 i j hi hj h
    · show va_X (g3 150) L xs s s.heap
      rw [g3d]
      exact hX
    · show ¬ s.heap.size ≤ g3 150
      rw [g3d]
      exact Nat.not_le.mpr hbl
  obtain ⟨ad0, ad0h⟩ : ∃ ad0 : Nat → Nat, ∀ k, ad0 (1000 + k) = g3 k := ⟨fun k => g3 (k - 1000), fun k => by dsimp only; rw [Nat.add_sub_cancel_left]⟩
  have hl := lv_entry ([.ref b]) (n := 7) (Nat.le_of_ble_eq_true rfl)
  rw [lg_entry_eq]
  generalize (lg_sl ([.ref b]) ++ List.replicate (7 - (lg_sl ([.ref b])).length) Slot.unset).toArray = ls at hl ⊢
  have hl : lv_has ls 7 [(0, .ref b)] := hl
  have hb0 : ad0 1150 = b := (ad0h 150).trans g3d
  refine law_start (M0 := Mx RN 0 Vz) (fun L M bc bs => q_end dL_law_216) ad0 s.heap [] ls 0 0 ⟨⟨hx, hb, hr, hml, hown, fun w hw => ?_, hK, hlocks, fun h => ?_, hGU, fun k _ => ad0h k, htr, hA, fun pc E h => (by cases h), fun pc E t h => (by cases h)⟩, Nat.le_refl _, Nat.zero_le _, fun _ _ => rfl, by decide, by decide, fun k q h => ?_, ⟨fun i j p q h => ?_, fun k q h => ?_⟩, va_S.rf, ?_⟩
  · rcases List.mem_cons.mp hw with rfl | hw
    · exact hts _ (List.mem_of_getElem? (i := 29) (by decide +kernel))
    · exact hTB w hw
  · exact absurd h (by decide +kernel)
  · exact absurd h (by simp [pws, pN, Mx])
  · exact absurd h (by simp [pws, pN, Mx])
  · exact absurd h (by simp [pws, pN, Mx])
  · show lv_has ls 7 [(0, .ref (ad0 1150))]
    rw [hb0]
    exact hl
