/-! what can stand, the class -/
def canP (σ : Sg) (e : Ev) (c x w t : Nat) : Prop := (x = 6 → t = 300) ∧ (x = 0 → σ (10 * (1 - turnF σ) + (w - 1)) = 0) ∧ (x < 3 → hasTo e x w c = false)
def canB (σ : Sg) (e : Ev) (c x w t : Nat) : Bool := (if x = 6 then decide (t = 300) else true) && (if x = 0 then decide (σ (10 * (1 - turnF σ) + (w - 1)) = 0) else true) && (if x < 3 then !hasTo e x w c else true)
theorem canB_t {σ : Sg} {e : Ev} {c x w t : Nat} : canB σ e c x w t = true ↔ canP σ e c x w t := by
  unfold canB canP
  by_cases h6 : x = 6
  · simp [h6]
  · by_cases h0 : x = 0
    · simp [h0]
    · by_cases h3 : x < 3
      · simp [h6, h0, h3]
      · simp [h6, h0, h3]
def stTo (σ : Sg) (e : Ev) : Nat → Bool
  | 0 => true
  | n + 1 => stTo σ e n && canB σ e n (e (10 + n)) (e (30 + n)) (e (50 + n))
theorem stTo_t {σ : Sg} {e : Ev} : ∀ {n}, stTo σ e n = true ↔ ∀ k, k < n → canSt σ e k
  | 0 => by simp [stTo]
  | n + 1 => by
    unfold stTo
    rw [Bool.and_eq_true, stTo_t, canB_t]
    refine ⟨fun ⟨h1, h2⟩ k hk => ?_, fun h => ⟨fun k hk => h k (by omega), h n (by omega)⟩⟩
    by_cases hkn : k = n
    · subst hkn; exact h2
    · exact h1 k (by omega)
def standB (σ : Sg) (e : Ev) : Bool :=
  if e 0 = 1 then decide (σ (10 * e 1 + e 2) = 0 ∧ (colF (σ (40 + 10 * e 1 + e 2)) (e 3) = 0 ∨ cnt σ (e 1) 3 4 < 3))
  else if e 0 = 2 then decide (σ (10 * e 1 + e 2) = 0 ∧ σ (10 * e 1 + e 3) = 1 ∧ σ (102 + e 1) < 5)
  else decide (σ (10 * turnF σ + e 2) = 0) && stTo σ e (e 4)
theorem standB_t {σ : Sg} {e : Ev} : standB σ e = true ↔ standsF σ e := by
  unfold standB standsF
  split
  · exact decide_eq_true_iff
  · split
    · exact decide_eq_true_iff
    · rw [Bool.and_eq_true, decide_eq_true_eq, stTo_t]
section MatT
variable {J : Nat → Nat → Int64} {V : Mem} {q h : Nat} {σ : Sg} {e : Ev}
theorem k4_mayStep (hq : isMats q) (hh : isEv h) (m : mtOK V q σ) (w : wfM σ) (hr : σ 109 < 100) (ev : evOK V h e) (hw : evW e) (c x wh t : Nat) (hc : c ≤ e 4) (hx : x ≤ 6) (hwh : wh ≤ 10) (h0 : x = 0 → 1 ≤ wh) (ht3 : t ≤ 300) : RD J mX4_mayStep [.ref q, .ref h, .int (nI c), .int (nI x), .int (wI wh), .int (nI t)] V (bI (canB σ e c x wh t)) := by
  have ht := turnF_lt σ
  have hbt : 1 - turnF σ < 2 := by omega
  refine v_X4_mayStep q h _ _ _ _ hq hh ?_
  have L53 : x ≠ 6 → x < 3 → (x = 0 → σ (10 * (1 - turnF σ) + (wh - 1)) = 0) → F_X4_mayStep_53 J q h (nI c) (nI x) (wI wh) (nI t) V (fun r V' => r = some (.int (bI (canB σ e c x wh t))) ∧ V' = V) NX := by
    intro h6 h3 hs
    unfold F_X4_mayStep_53
    have hb : canB σ e c x wh t = !hasTo e x wh c := by
      unfold canB
      rw [if_neg h6, if_pos h3]
      by_cases hx0 : x = 0
      · rw [if_pos hx0, decide_eq_true (hs hx0)]; rfl
      · rw [if_neg hx0]; rfl
    rw [hb]
    refine rd_b (k2_hasAmongFirst hh ev hw c x wh hc hx hwh) ⟨fun z => ⟨by rw [z]; rfl, rfl⟩, fun z => ⟨by rw [z]; rfl, rfl⟩⟩
  unfold F_X4_mayStep
  rw [show (6 : Int32) = nI 6 from rfl, ceq (by omega) (by omega), show (0 : Int32) = nI 0 from rfl, ceq (by omega) (by omega), show (300 : Int32) = nI 300 from rfl, ceq (by omega) (by omega)]
  refine ⟨fun c6 => rd_b (k7_isEnd J _ V) ?_, fun c6 => ?_⟩
  · rw [show (3 : Int32) = nI 3 from rfl, decide_eq_true_eq, decide_eq_false_iff_not, cle (by omega) (by omega)]
    refine ⟨fun c3 => ⟨fun c0 => L53 c6 (by omega) (fun z => (c0 z).elim), fun c0 => rd_i (k4_turn hq m hr) ?_⟩, fun c3 => ?_⟩
    · rw [nI_other _ ht]
      refine k4_sideAt hq _ hbt (rd_b (k6_isOn (sOf_s hq hbt) (mt_sd m hbt).1 (wfM_at w hbt).1 _) ?_)
      have hwh1 := h0 c0
      have hwI : wI wh = nI (wh - 1) := by
        obtain ⟨z, hz⟩ : ∃ z, wh = z + 1 := ⟨wh - 1, by omega⟩
        rw [hz, wI_s]; rfl
      have e1 : isIx (wI wh) 10 = true := by rw [hwI]; exact isIx_nI (by omega) (by omega)
      have e2 : (wI wh).toNatClampNeg = wh - 1 := by rw [hwI]; exact ccl (by omega)
      rw [e1, e2, Bool.true_and, decide_eq_true_eq, decide_eq_false_iff_not]
      refine ⟨fun z => L53 c6 (by omega) (fun _ => z), fun z => ⟨?_, rfl⟩⟩
      have hb : canB σ e c x wh t = false := by
        unfold canB
        rw [if_neg c6, if_pos c0, decide_eq_false z]; rfl
      rw [hb]; rfl
    · have hb : canB σ e c x wh t = true := by
        unfold canB
        rw [if_neg c6, if_neg (by omega), if_neg (by omega)]; rfl
      rw [hb]; exact ⟨rfl, rfl⟩
  · refine ⟨fun z => ?_, fun z => ?_⟩
    · have hb : canB σ e c x wh t = false := by
        unfold canB
        rw [if_pos c6, decide_eq_false z]; rfl
      rw [hb]; exact ⟨rfl, rfl⟩
    · have hb : canB σ e c x wh t = true := by
        unfold canB
        rw [if_pos c6, decide_eq_true z, if_neg (by omega), if_neg (by omega)]; rfl
      rw [hb]; exact ⟨rfl, rfl⟩
theorem k4_mayStandAsRaid (hq : isMats q) (hh : isEv h) (m : mtOK V q σ) (w : wfM σ) (hr : σ 109 < 100) (ev : evOK V h e) (hw : evW e) (hp : e 2 < 10) : RD J mX4_mayStandAsRaid [.ref q, .ref h] V (bI (decide (σ (10 * turnF σ + e 2) = 0) && stTo σ e (e 4))) := by
  have ht := turnF_lt σ
  have h10 := hw.1
  refine v_X4_mayStandAsRaid q h hq hh ?_
  unfold F_X4_mayStandAsRaid
  refine rd_i (k4_turn hq m hr) (k4_sideAt hq _ ht (rd_b (k6_isOn (sOf_s hq ht) (mt_sd m ht).1 (wfM_at w ht).1 _) ?_))
  rw [ev.2.2.1, isIx_nI (by omega) hp, ccl (by omega), Bool.true_and]
  refine ⟨fun c => ?_, fun c => ⟨by rw [c]; rfl, rfl⟩⟩
  rw [c, Bool.true_and]
  unfold F_X4_mayStandAsRaid_22
  refine ⟨fun n x2 V' => ∃ k, k ≤ e 4 ∧ n = e 4 - k ∧ x2 = nI k ∧ stTo σ e k = true ∧ V = V', ⟨e 4, 0, by omega, rfl, rfl, rfl, rfl⟩, ?_⟩
  rintro n x2 V' ⟨k, hk, hn, rfl, hst, rfl⟩
  unfold B_X4_mayStandAsRaid_22
  rw [ev.2.2.2.2.1]
  refine ⟨fun c1 => ?_, fun c1 => ⟨fun c2 => ?_, fun c2 => ?_⟩⟩
  · have h2 := lpE (by omega) hk c1
    rw [← h2, hst]
    exact ⟨rfl, rfl⟩
  · have h1 := lpL (by omega) hk c1
    have h2 := lpE (n := 10) (by omega) (by omega) c2
    omega
  · have h1 := lpL (by omega) hk c1
    obtain ⟨w1, w2, w3, w4⟩ := hw.2 k h1
    refine rd_i (k2_kindAt hh ev hw.1 _) (rd_i (k2_whoAt hh ev hw.1 _) (rd_i (k2_tenthAt hh ev hw.1 _) ?_))
    rw [isIx_nI (by omega) h1, if_pos rfl, if_pos rfl, if_pos rfl, ccl (by omega)]
    refine rd_b (k4_mayStep hq hh m w hr ev hw k _ _ _ (by omega) w1 w2 (fun z => w3.mp z) w4) ⟨fun c4 => ?_, fun c4 => ?_⟩
    · refine ⟨e 4 - (k + 1), by omega, k + 1, by omega, rfl, nI_1 k, ?_, rfl⟩
      unfold stTo
      rw [hst, c4]; rfl
    · refine ⟨?_, rfl⟩
      have hf : stTo σ e (e 4) = false := by
        rw [Bool.eq_false_iff]
        intro z
        have z1 := stTo_t.mp z k h1
        have z2 := canB_t.mpr z1
        rw [z2] at c4
        exact Bool.noConfusion c4
      rw [hf]; rfl
theorem k4_mayStand (hq : isMats q) (hh : isEv h) (m : mtOK V q σ) (w : wfM σ) (hr : σ 109 < 100) (ev : evOK V h e) (he : evR e) : RD J mX4_mayStand [.ref q, .ref h] V (bI (standB σ e)) := by
  obtain ⟨e0, ew, e1, e2, e3, e4, e5⟩ := he
  have h5 := ev.1
  refine v_X4_mayStand q h hq hh ?_
  unfold F_X4_mayStand standB
  rw [h5, show (1 : Int32) = nI 1 from rfl, ceq (by omega) (by omega), show (2 : Int32) = nI 2 from rfl, ceq (by omega) (by omega)]
  refine ⟨fun c1 => ⟨fun c2 => ?_, fun c2 => ?_⟩, fun c1 => ?_⟩
  · rw [if_neg c1, if_neg c2]
    exact rd_b (k4_mayStandAsRaid hq hh m w hr ev ew e2) ⟨rfl, rfl⟩
  · rw [if_neg c1, if_pos c2, ev.2.1]
    refine k4_sideAt hq _ e1 ?_
    rw [ev.2.2.1, ev.2.2.2.1 (by omega)]
    exact rd_b (k6_mayChange (sOf_s hq e1) (mt_sd m e1) (wfM_at w e1).1 _ _ e2 e3 (wfM_at w e1).2.2.2.2.2.1) ⟨rfl, rfl⟩
  · rw [if_pos c1, ev.2.1]
    refine k4_sideAt hq _ e1 ?_
    rw [ev.2.2.1, ev.2.2.2.1 (by omega)]
    exact rd_b (k6_mayGet (sOf_s hq e1) (mt_sd m e1) (wfM_at w e1).1 _ _ e2 (e4 c1) ((wfM_at w e1).2.2.2.2.2.2.2 _ e2)) ⟨rfl, rfl⟩
theorem k4_play (hq : isMats q) (hh : isEv h) (m : mtOK V q σ) (w : wfM σ) (hb : bdd σ 700000) (hr : σ 109 < 100) (ev : evOK V h e) (he : evR e) (hs : standsF σ e) : WR J mX4_play [.ref q, .ref h] V q 13 (fun V' => mtOK V' q (playF σ e)) := by
  obtain ⟨e0, ew, e1, e2, e3, e4, e5⟩ := he
  have h5 := ev.1
  unfold standsF at hs
  refine v_X4_play q h hq hh ?_
  unfold F_X4_play playF
  rw [h5, show (1 : Int32) = nI 1 from rfl, ceq (by omega) (by omega), show (2 : Int32) = nI 2 from rfl, ceq (by omega) (by omega)]
  refine ⟨fun c1 => ⟨fun c2 => ?_, fun c2 => ?_⟩, fun c1 => ?_⟩
  · rw [if_neg c1, if_neg c2] at hs ⊢
    exact wr_use (k4_playRaid hq hh m w hb hr ev ew e2 (e5 (by omega)).1 hs.1 hs.2) (fun V' f' m' => ⟨rfl, f', m'⟩)
  · rw [if_neg c1, if_pos c2] at hs ⊢
    rw [ev.2.1]
    refine k4_sideAt hq _ e1 ?_
    rw [ev.2.2.1, ev.2.2.2.1 (by omega)]
    refine wr_use (k6_swapPlayers (sOf_s hq e1) (mt_sd m e1) e1 _ _ e2 e3 (wfS_m (wfM_at w e1))) (fun V1 f1 s1 => ⟨rfl, offF_weak f1 (by unfold sOf; omega), mt_side e1 m f1 s1 (fun j hj => ?_) (wfS_m (wfM_at w (by omega)))⟩)
    unfold inSd at hj
    unfold sgSwap
    rw [up1_off _ _ (by omega), up1_off _ _ (by omega), up1_off _ _ (by omega)]
  · rw [if_pos c1] at hs ⊢
    exact wr_use (k4_playCard hq hh m w hb ev c1 e1 e2 (e4 c1) hs.1) (fun V' f' m' => ⟨rfl, f', m'⟩)
theorem k2_keepWhatStands (hq : isMats q) (hh : isEv h) (m : mtOK V q σ) (w : wfM σ) : WR J mX2_keepWhatStands [.ref h, .ref q] V (h + 4) 2 (fun V' => ∀ a, a < 2 → V' (h + 4) a = nI (bits σ a) ∧ V' (h + 5) a = nI (σ (104 + a))) := by
  have hqh := mt_ev hq hh
  refine v_X2_keepWhatStands h q hh hq ?_
  unfold F_X2_keepWhatStands F_X2_keepWhatStands_2
  refine ⟨fun n x2 V' => ∃ k, k ≤ 2 ∧ n = 2 - k ∧ x2 = nI k ∧ offF V V' (h + 4) 2 ∧ ∀ a, a < k → V' (h + 4) a = nI (bits σ a) ∧ V' (h + 5) a = nI (σ (104 + a)), ⟨2, 0, by omega, rfl, rfl, offF_rf _ _ _, fun a ha => by omega⟩, ?_⟩
  rintro n x2 V' ⟨k, hk, hn, rfl, hf, hd⟩
  unfold B_X2_keepWhatStands_2
  refine ⟨fun c1 => ?_, fun c1 => ?_⟩
  · have h2 := lpE (n := 2) (by omega) hk c1
    subst h2
    exact ⟨rfl, hf, hd⟩
  · have h1 := lpL (n := 2) (by omega) hk c1
    refine k4_sideAt hq _ h1 ?_
    have s1 := sdOK_off (mt_sd m h1) hf (by unfold sOf; omega)
    refine rd_i (k6_onBits (sOf_s hq h1) s1.1 (wfM_at w h1).1) ⟨vp_in_nI h1 (by decide), k4_sideAt hq _ h1 ⟨vp_in_nI h1 (by decide), ?_⟩⟩
    have e7 : ∀ x, up2 V' (h + 1 + 3) (nI k).toNatClampNeg x (sOf q k) 7 = nI (σ (104 + k)) := fun x => by rw [up2_off _ _ _ (by unfold sOf; omega)]; exact s1.2.2.2.2.2.2.2.1
    rw [e7, ccl (by omega)]
    refine ⟨2 - (k + 1), by omega, k + 1, by omega, rfl, nI_1 k, offF_up (offF_up hf (by omega)) (by omega), fun a ha => ?_⟩
    by_cases hak : a = k
    · subst hak
      simp [up2_rw, up1]
    · have := hd a (by omega)
      simp [up2_rw, up1, hak, this]
end MatT
