/-! the reference: an event follows, all of them -/
def mdN (V : Mem) (E : Evs) (n : Nat) : Prop := ∀ k, k < n → ∀ a, a < 2 → V 417 (2 * k + a) = nI (bits (runE E (k + 1)) a) ∧ V 418 (2 * k + a) = nI (runE E (k + 1) (104 + a))
theorem s120 {k : Nat} (h : k < 120) : vp_in (nI k) 120 := vp_in_nI h (by decide)
theorem i2 (n k : Nat) : 2 * nI n + nI k = nI (2 * n + k) := by rw [show (2 : Int32) = nI 2 from rfl, nI_mul, nI_add]
def noP (V V' : Mem) (n : Nat) (σ : Sg) : Prop := (∀ a, a < 2 → V' 417 (2 * n + a) = nI (bits σ a) ∧ V' 418 (2 * n + a) = nI (σ (104 + a))) ∧ ∀ j, j ≠ 2 * n → j ≠ 2 * n + 1 → V' 417 j = V 417 j ∧ V' 418 j = V 418 j
def plP (V V' : Mem) (n : Nat) (σ : Sg) : Prop := offF V V' 416 3 ∧ sOK V' σ ∧ noP V V' n σ
section Md5
variable {J : Nat → Nat → Int64} {V : Mem} {σ : Sg} {n : Nat} {e : Ev}
theorem m_notes (q : sOK V σ) (w : wfM σ) (hn : n < 60) : WR J mX8_notes [.ref 405, .int (nI n)] V 417 2 (fun V' => noP V V' n σ) := by
  refine v_X8_notes _ ?_
  unfold F_X8_notes F_X8_notes_2
  refine ⟨fun m x2 V' => ∃ b, b ≤ 2 ∧ m = 2 - b ∧ x2 = nI b ∧ offF V V' 417 2 ∧ (∀ a, a < b → V' 417 (2 * n + a) = nI (bits σ a) ∧ V' 418 (2 * n + a) = nI (σ (104 + a))) ∧ ∀ j, j ≠ 2 * n → j ≠ 2 * n + 1 → V' 417 j = V 417 j ∧ V' 418 j = V 418 j, ⟨2, 0, by omega, rfl, rfl, offF_rf _ _ _, fun a ha => by omega, fun j _ _ => ⟨rfl, rfl⟩⟩, ?_⟩
  rintro m x2 V' ⟨b, hb, hm, rfl, hf, h1, h2⟩
  unfold B_X8_notes_2
  refine ⟨fun c => ?_, fun c => ?_⟩
  · have hb2 := lpE (n := 2) (by omega) hb c
    subst hb2
    exact ⟨rfl, hf, h1, h2⟩
  · have hbl := lpL (n := 2) (by omega) hb c
    have q' : sOK V' σ := sOK_off q (hf 416 (by omega))
    unfold F_X8_notes_12
    refine ⟨fun m' x2 x3 x4 V'' => ∃ i, i ≤ 10 ∧ m' = 10 - i ∧ x2 = nI b ∧ x3 = nI (bitsTo σ b i) ∧ x4 = nI i ∧ V' = V'', ⟨10, 0, by omega, rfl, rfl, rfl, rfl, rfl⟩, ?_⟩
    rintro m' x2 x3 x4 V'' ⟨i, hi, hm', rfl, rfl, rfl, rfl⟩
    unfold B_X8_notes_12 F_X8_notes_39
    refine ⟨fun c2 => ?_, fun c2 => ?_⟩
    · have hi2 := lpE (n := 10) (by omega) hi c2
      subst hi2
      rw [i2, i104, ccl (n := 2 * n + b) (by omega), ccl (n := 104 + b) (by omega)]
      have e1 : up2 V' 417 (2 * n + b) (nI (bitsTo σ b 10)) 416 (104 + b) = nI (σ (104 + b)) := by
        rw [up2_off _ _ _ (by omega)]; exact q' _ (by omega)
      rw [e1]
      refine ⟨s120 (by omega), s110 (by omega), s120 (by omega), 2 - (b + 1), by omega, b + 1, by omega, rfl, nI_1 b, offF_up (offF_up hf (by omega)) (by omega), fun a ha => ?_, fun j hj1 hj2 => ?_⟩
      · by_cases hab : a = b
        · subst hab
          refine ⟨?_, ?_⟩
          · rw [up2_off _ _ _ (by omega), up2_same]; rfl
          · rw [up2_same]
        · obtain ⟨g1, g2⟩ := h1 a (by omega)
          refine ⟨?_, ?_⟩
          · rw [up2_off _ _ _ (by omega), up2_ne _ _ (Or.inr (by omega))]; exact g1
          · rw [up2_ne _ _ (Or.inr (by omega)), up2_off _ _ _ (by omega)]; exact g2
      · obtain ⟨g1, g2⟩ := h2 j hj1 hj2
        refine ⟨?_, ?_⟩
        · rw [up2_off _ _ _ (by omega), up2_ne _ _ (Or.inr (by omega))]; exact g1
        · rw [up2_ne _ _ (Or.inr (by omega)), up2_off _ _ _ (by omega)]; exact g2
    · have hil := lpL (n := 10) (by omega) hi c2
      have hst := (wfM_at w hbl).1 i hil
      refine rd_b (m_is q' b i 0 (by omega) (by omega) (by omega)) ⟨fun z => ⟨10 - (i + 1), by omega, i + 1, by omega, rfl, rfl, ?_, nI_1 i, rfl⟩, fun z => ⟨10 - (i + 1), by omega, i + 1, by omega, rfl, rfl, ?_, nI_1 i, rfl⟩⟩
      · rw [bitsTo_n (of_decide_eq_false z)]
        exact Int32.or_zero
      · exact bitsTo_y hil (of_decide_eq_true z)
theorem notesOf {V1 : Mem} {Q : Mem → Prop} {Qx : String → Mem → Prop} (f : offF V V1 416 1) (q : sOK V1 σ) (w : wfM σ) (hn : n < 60) (k : ∀ V', plP V V' n σ → Q V') : CTc J mX8_notes [.ref 405, .int (nI n)] V1 (fun r V' => r = none ∧ Q V') Qx :=
  wr_use (m_notes q w hn) (fun V' f' h => k V' ⟨fun x hx => (f' x (by omega)).trans (f x (by omega)), sOK_off q (f' 416 (by omega)), h.1, fun j h1 h2 => by rw [← f 417 (by omega), ← f 418 (by omega)]; exact h.2 j h1 h2⟩)
theorem m_follows (q : sOK V σ) (w : wfM σ) (b : bdd σ 200000) (hr : σ 109 < 100) (ev : mdE V n e) (hn : n < 60) (he : evR e) (l : Nat) (hl : V 405 5 = nI l) (hl2 : l < 1000000) (hclk : e 0 = 0 → σ 108 < l) :
    CTc J mX8_follows [.ref 405, .int (nI n)] V (fun r V' => r = some (.int (bI (standB σ e))) ∧ plP V V' n (if standB σ e = true then playF σ e else σ)) NX := by
  have he' := he
  obtain ⟨e0, ew, e1, e2, e3, e4, e5⟩ := he
  have ht := turnF_lt σ
  have h10 := ew.1
  have wst : wfM (if standB σ e = true then playF σ e else σ) := by
    split
    · next h => exact wfM_play w he' (standB_t.mp h)
    · exact w
  refine v_X8_follows _ ?_
  unfold F_X8_follows
  rw [ccl (n := n) (by omega), ev.1, nI_0', ceq (by omega) (by omega), show (1 : Int32) = nI 1 from rfl, ceq (by omega) (by omega)]
  refine ⟨s60 hn, fun c0 => ⟨s60 hn, fun c1 => ⟨s60 hn, s60 hn, s60 hn, ?_⟩, fun c1 => ⟨s60 hn, s60 hn, s60 hn, ?_⟩⟩, fun c0 => ⟨s60 hn, ?_⟩⟩
  · -- a change
    have c2 : e 0 = 2 := by omega
    have v9 : V 409 n = nI (e 1) := by have := ev.2.1; rw [if_neg c0] at this; exact this
    have hB : standB σ e = decide (σ (10 * e 1 + e 2) = 0 ∧ σ (10 * e 1 + e 3) = 1 ∧ σ (102 + e 1) < 5) := by
      unfold standB; rw [if_neg c1, if_pos c2]
    have vA := (ev.2.2.1 c0).1
    have vB := (ev.2.2.1 c0).2
    rw [v9, vA, vB]
    refine rd_b (m_canChange q w (e 1) (e 2) (e 3) e1 e2 e3) ?_
    rw [← hB]
    refine ⟨fun z => ?_, fun z => ?_⟩
    · rw [z] at wst ⊢
      exact notesOf (offF_rf _ _ _) q w hn (fun V' h => ⟨rfl, h⟩)
    · rw [z] at wst ⊢
      rw [if_pos rfl] at wst ⊢
      rw [v9, vA, i10, ccl (n := 10 * e 1 + e 2) (by omega)]
      have q1 : sOK (up2 V 416 (10 * e 1 + e 2) (nI 1)) (up1 σ (10 * e 1 + e 2) 1) := sOK_up q
      have o1 : ∀ x, x ≠ 416 → up2 V 416 (10 * e 1 + e 2) (nI 1) x = V x := fun x hx => up2_off _ _ _ hx
      generalize up2 V 416 (10 * e 1 + e 2) (nI 1) = V1 at q1 o1 ⊢
      rw [o1 409 (by omega), v9, o1 411 (by omega), vB, i10, ccl (n := 10 * e 1 + e 3) (by omega)]
      have q2 : sOK (up2 V1 416 (10 * e 1 + e 3) (nI 0)) (up1 (up1 σ (10 * e 1 + e 2) 1) (10 * e 1 + e 3) 0) := sOK_up q1
      have o2 : ∀ x, x ≠ 416 → up2 V1 416 (10 * e 1 + e 3) (nI 0) x = V x := fun x hx => (up2_off _ _ _ hx).trans (o1 x hx)
      generalize up2 V1 416 (10 * e 1 + e 3) (nI 0) = V2 at q2 o2 ⊢
      rw [o2 409 (by omega), v9, i102, ccl (n := 102 + e 1) (by omega)]
      have e9 : V2 416 (102 + e 1) + nI 1 = nI (σ (102 + e 1) + 1) := by
        rw [q2 (102 + e 1) (by omega), up1_off _ _ (by omega), up1_off _ _ (by omega)]
        exact nI_1 _
      rw [e9]
      have hp : playF σ e = sgSwap σ (e 1) (e 2) (e 3) := by unfold playF; rw [if_neg c1, if_pos c2]
      refine ⟨s60 hn, s60 hn, s110 (by omega), s60 hn, s60 hn, s110 (by omega), s60 hn, s110 (by omega), s110 (by omega), notesOf (σ := playF σ e) (fun x hx => (up2_off _ _ _ (by omega)).trans (o2 x (by omega))) ?_ wst hn (fun V' h => ⟨rfl, h⟩)⟩
      rw [hp]
      exact sOK_up q2
  · -- a card
    have v9 : V 409 n = nI (e 1) := by have := ev.2.1; rw [if_neg c0] at this; exact this
    have hB : standB σ e = decide (σ (10 * e 1 + e 2) = 0 ∧ (colF (σ (40 + 10 * e 1 + e 2)) (e 3) = 0 ∨ cnt σ (e 1) 3 4 < 3)) := by
      unfold standB; rw [if_pos c1]
    have vA := (ev.2.2.1 c0).1
    have vB := (ev.2.2.1 c0).2
    rw [v9, vA, vB]
    refine rd_b (m_canCard q w (e 1) (e 2) (e 3) e1 e2 (e4 c1)) ?_
    rw [← hB]
    refine ⟨fun z => ?_, fun z => ?_⟩
    · rw [z] at wst ⊢
      exact notesOf (offF_rf _ _ _) q w hn (fun V' h => ⟨rfl, h⟩)
    · have hz := z
      rw [hB] at hz
      rw [z] at wst ⊢
      rw [if_pos rfl] at wst ⊢
      have hp : playF σ e = cardF σ (e 1) (e 2) (e 3) := by unfold playF; rw [if_pos c1]
      rw [v9, vA, vB]
      refine ⟨s60 hn, s60 hn, s60 hn, wr_use (m_givesCard q w (e 1) (e 2) (e 3) e1 e2 (e4 c1) (of_decide_eq_true hz).1) (fun V1 f1 q1 => notesOf (σ := playF σ e) f1 (by rw [hp]; exact q1) wst hn (fun V' h => ⟨rfl, h⟩))⟩
  · -- a raid
    have v9 : V 409 n = nI (e 2) := by have := ev.2.1; rw [if_pos c0] at this; exact this
    have hB : standB σ e = (decide (σ (10 * turnF σ + e 2) = 0) && stTo σ e (e 4)) := by
      unfold standB; rw [if_neg (by omega), if_neg (by omega)]
    rw [v9]
    refine rd_b (m_canRaid q w hr (bdd_mono b (by omega)) l (e 2) hl hl2 e2) ?_
    rw [decide_eq_true (hclk c0), Bool.true_and]
    unfold F_X8_follows_24
    refine ⟨fun m x2 x3 V' => ∃ k, k ≤ e 4 ∧ m = e 4 - k ∧ x2 = bI (decide (σ (10 * turnF σ + e 2) = 0) && stTo σ e k) ∧ x3 = nI k ∧ V = V', ⟨e 4, 0, by omega, by omega, by rw [show stTo σ e 0 = true from rfl, Bool.and_true], rfl, rfl⟩, ?_⟩
    rintro m x2 x3 V' ⟨k, hk, hm, rfl, rfl, rfl⟩
    unfold B_X8_follows_24 F_X8_follows_51 F_X8_follows_52
    rw [ccl (n := n) (by omega), ev.2.2.2.1]
    have st1 : stTo σ e (k + 1) = (stTo σ e k && canB σ e k (e (10 + k)) (e (30 + k)) (e (50 + k))) := rfl
    refine ⟨s60 hn, fun c => ?_, fun c => ?_⟩
    · have hke := lpE (by omega) hk c
      subst hke
      rw [← hB, bI_0]
      refine ⟨fun z => ?_, fun z => ?_⟩
      · rw [z] at wst ⊢
        exact notesOf (offF_rf _ _ _) q w hn (fun V' h => ⟨Or.inl rfl, rfl, h⟩)
      · have z : standB σ e = true := by cases y : standB σ e <;> simp_all
        have hz := z
        rw [hB, Bool.and_eq_true, decide_eq_true_eq, stTo_t] at hz
        rw [z] at wst ⊢
        rw [if_pos rfl] at wst ⊢
        have hp : playF σ e = raidF σ e := by unfold playF; rw [if_neg (by omega), if_neg (by omega)]
        exact wr_use (m_endsRaid q w b hr ev hn ew c0 (e5 c0).1 e2 hz.1 hz.2) (fun V1 f1 q1 => notesOf (σ := playF σ e) f1 (by rw [hp]; exact q1) wst hn (fun V' h => ⟨Or.inr rfl, rfl, h⟩))
    · have hkl := lpL (by omega) hk c
      rw [bI_0]
      refine ⟨fun z => ⟨e 4 - (k + 1), by omega, k + 1, by omega, rfl, ?_, nI_1 k, rfl⟩, fun z => ?_⟩
      · rw [st1, ← Bool.and_assoc, z]; rfl
      · have z : (decide (σ (10 * turnF σ + e 2) = 0) && stTo σ e k) = true := by cases y : (decide (σ (10 * turnF σ + e 2) = 0) && stTo σ e k) <;> simp_all
        obtain ⟨w1, w2, w3, w4⟩ := ew.2 k hkl
        have hen : ∀ j, j < k → e (10 + j) < 3 := by
          intro j hj
          have := (e5 c0).2 j (by omega)
          omega
        obtain ⟨r1, r2, r3⟩ := ev.2.2.2.2 k hkl
        refine rd_b (m_canStep (e := e) q w hr hn k (e (10 + k)) (e (30 + k)) (e (50 + k)) (by omega) (fun j hj => ?_) r1 r2 r3 w1 w2 w3 (fun h3 j hj => by have := hen j hj; omega) (by omega)) ⟨fun y => ⟨e 4 - (k + 1), by omega, k + 1, by omega, rfl, ?_, nI_1 k, rfl⟩, fun y => ⟨e 4 - (k + 1), by omega, k + 1, by omega, rfl, ?_, nI_1 k, rfl⟩⟩
        · obtain ⟨u1, u2, u3, u4⟩ := ew.2 j (by omega)
          have rj := ev.2.2.2.2 j (by omega)
          exact ⟨rj.1, rj.2.1, u1, u2, u3⟩
        · rw [st1, ← Bool.and_assoc, z, y]; rfl
        · rw [st1, ← Bool.and_assoc, z, y]; rfl
end Md5
section Md6
variable {J : Nat → Nat → Int64} {V : Mem} {E : Evs}
theorem m_ended (n r : Nat) (h3 : V 405 3 = nI r) (h7 : V 405 7 = nI n) (hr : r ≤ 1) (hn : n < 1000) (hrn : r ≤ n) : RD J mX8_ended [.ref 405] V (nI (n - r)) := by
  refine v_X8_ended ?_
  unfold F_X8_ended
  rw [h3, h7, nI_0', ceq (by omega) (by omega)]
  refine ⟨fun z => ?_, fun z => ?_⟩
  · rw [z]; exact ⟨rfl, rfl⟩
  · rw [nI_p1 (by omega), show r = 1 by omega]; exact ⟨rfl, rfl⟩
theorem m_plays (n r N : Nat) (h3 : V 405 3 = nI r) (h7 : V 405 7 = nI n) (hr : r ≤ 1) (h60 : n ≤ 60) (hrn : r ≤ n) (hN : N = n - r) (l : Nat) (hl : V 405 5 = nI l) (hl2 : l < 1000000) (ev : ∀ k, k < N → mdE V k (E k)) (he : ∀ k, k < N → evR (E k)) (hc : ∀ k, k < N → E k 0 = 0 → clkTo E k < l) :
    CTc J mX8_plays [.ref 405] V (fun r V' => r = some (.int (fI (fallF E N))) ∧ offF V V' 416 3 ∧ (fallF E N = none → sOK V' (runE E N) ∧ mdN V' E N)) NX := by
  subst hN
  refine v_X8_plays (wr_use m_starts (fun V1 f1 q1 => ?_))
  unfold F_X8_plays_6
  refine ⟨fun m x1 V' => ∃ k, k ≤ n - r ∧ m = n - r - k ∧ x1 = nI k ∧ offF V V' 416 3 ∧ fallF E k = none ∧ sOK V' (runE E k) ∧ mdN V' E k, ⟨n - r, 0, by omega, by omega, rfl, offF_weak f1 (by omega), rfl, q1, fun k hk => by omega⟩, ?_⟩
  rintro m x1 V' ⟨k, hk, hm, rfl, hf, hno, qk, nk⟩
  unfold B_X8_plays_6
  refine rd_i (m_ended n r (by rw [hf 405 (by omega)]; exact h3) (by rw [hf 405 (by omega)]; exact h7) hr (by omega) hrn) ⟨fun c => ?_, fun c => ?_⟩
  · have h2 := lpE (by omega) hk c
    rw [← h2, hno]
    exact ⟨rfl, hf, fun _ => ⟨qk, nk⟩⟩
  · have h1 := lpL (by omega) hk c
    have ok : okTo E k := fun j hj => ⟨he j (by omega), fallF_none.mp hno j hj⟩
    obtain ⟨w, bd, r9, r8⟩ := run_ok ok
    have evk : mdE V' k (E k) := mdE_off (ev k h1) (fun x h1 h2 => hf x (by omega))
    refine CTc_nx (m_follows qk w (bdd_mono bd (by omega)) (by omega) evk (by omega) (he k h1) l (by rw [hf 405 (by omega)]; exact hl) hl2 (fun z => by rw [r8]; exact hc k h1 z)) (fun v V2 hv => ⟨standB (runE E k) (E k), hv.1, fun z => ?_, fun z => ?_⟩)
    · obtain ⟨p1, p2, p3, p4⟩ := hv.2
      rw [z] at p2 p3
      rw [if_pos rfl] at p2 p3
      refine ⟨n - r - (k + 1), by omega, k + 1, by omega, rfl, nI_1 k, offF_tr hf p1, fallF_step_y hno z, p2, fun j hj a ha => ?_⟩
      by_cases hjk : j = k
      · subst hjk
        exact p3 a ha
      · obtain ⟨g1, g2⟩ := p4 (2 * j + a) (by omega) (by omega)
        rw [g1, g2]
        exact nk j (by omega) a ha
    · have hs := fallF_step_n hno z
      have hs2 := fallF_s hs (n - r - (k + 1))
      rw [show k + 1 + (n - r - (k + 1)) = n - r by omega] at hs2
      rw [hs2]
      exact ⟨rfl, offF_tr hf hv.2.1, fun y => by cases y⟩
end Md6
