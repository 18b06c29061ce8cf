/-! the reference: typing, faults, a run -/
def rfP (V : Mem) (n : Nat) (sg : Nat → Int32) : Prop := V 405 20 = nI n ∧ n ≤ 60 ∧ (∀ a, a < n → V 419 a = sg a) ∧ ∀ a, n ≤ a → sg a = -1
theorem rfP_off {V V' : Mem} {n : Nat} {sg : Nat → Int32} (h : rfP V n sg) (f1 : V' 405 20 = V 405 20) (f : V' 419 = V 419) : rfP V' n sg := ⟨f1.trans h.1, h.2.1, fun a ha => by rw [f]; exact h.2.2.1 a ha, h.2.2.2⟩
theorem ord_lt {sg : Nat → Int32} {a b : Nat} {q : Nat × Int32 × Int32} (h : ordF sg a = (b, some q)) : a < b := by
  have hle : a ≤ (rwF sg 60 a 0 255).1 := rwF_le
  have tl : ∀ j v c, tailF sg j v c = (b, some q) → c < b := by
    intro j v c h
    unfold tailF at h
    repeat' split at h
    all_goals first
      | (cases h; omega)
      | cases h
  unfold ordF at h
  cases hz : rwF sg 60 a 0 255 with
  | mk e o =>
    rw [hz] at h hle
    cases o with
    | none => cases h
    | some i =>
      dsimp only at h hle
      split at h
      · split at h
        · have := tl _ _ _ h; omega
        · cases h
      · have := tl _ _ _ h; omega
theorem flt_end {sg : Nat → Int32} {n a m : Nat} (h : n ≤ a) : fltF sg n m a = none := by
  cases m with
  | zero => rfl
  | succ m => unfold fltF; rw [if_pos h]
theorem run_end {sg : Nat → Int32} {n a m : Nat} {X : St} (h : n ≤ a) : runF sg n m a X = (0, X) := by
  cases m with
  | zero => rfl
  | succ m => unfold runF; rw [if_pos h]
section Pf8
variable {J : Nat → Nat → Int64} {V : Mem} {n : Nat} {sg : Nat → Int32} {s : Ms} {E : Evs}
def frQ (V V' : Mem) : Prop := (∀ x, x ≠ 405 → x ≠ 419 → V' x = V x) ∧ ∀ j, j ≠ 0 → (j < 20 ∨ 26 ≤ j) → V' 405 j = V 405 j
theorem m_type (h : rfP V n sg) (x : Int32) : CTc J mX8_type [.ref 405, .int x] V (ROg frQ V (typeK n x) (nI (n + 1)) (fun V' => rfP V' (typeN n x) (typeS sg n x))) NX := by
  obtain ⟨h1, h2, h3, h4⟩ := id h
  have bad : ∀ j, j ≠ 0 → j < 100 → typeK n x = j → F_X8_type_30 J x (nI j) V (ROg frQ V (typeK n x) (nI (n + 1)) (fun V' => rfP V' (typeN n x) (typeS sg n x))) NX := by
    intro j hj hj1 hjj
    unfold F_X8_type_30
    refine m_holds j hj1 (fun z => (hj z).elim) (fun _ => ?_)
    unfold typeN typeS
    rw [hjj, if_neg hj, if_neg hj]
    exact ⟨⟨0, rfl, fun z => (hj z).elim⟩, ⟨fun x hx _ => up2_off _ _ _ hx, fun j hj _ => up2_ne _ _ (Or.inr hj)⟩, up2_same _ _ _ _, rfP_off h (up2_ne _ _ (Or.inr (by omega))) (up2_off _ _ _ (by omega))⟩
  refine v_X8_type x (rd_b (k8_in J x 32 126 V) ⟨fun hx => ?_, fun hx => bad 1 (by omega) (by omega) (by unfold typeK; rw [if_pos hx])⟩)
  rw [h1, show (60 : Int32) = nI 60 from rfl, ceq (by omega) (by omega)]
  refine ⟨fun hl => ?_, fun hl => bad 2 (by omega) (by omega) (by unfold typeK; rw [if_neg (by rw [hx]; decide), if_pos hl])⟩
  have hk : typeK n x = 0 := by unfold typeK; rw [if_neg (by rw [hx]; decide), if_neg hl]
  unfold F_X8_type_30
  refine m_holds 0 (by omega) (fun _ => ?_) (fun z => (z rfl).elim)
  have e0 : up2 V 405 0 (nI 0) 405 20 = nI n := (up2_ne _ _ (Or.inr (by omega))).trans h1
  rw [e0, ccl (n := n) (by omega)]
  have e1 : up2 (up2 V 405 0 (nI 0)) 419 n x 405 20 = nI n := by rw [up2_off _ _ _ (by omega)]; exact e0
  rw [e1, nI_1]
  unfold typeN typeS
  rw [hk, if_pos rfl, if_pos rfl]
  refine ⟨vp_in_nI (by omega) (by decide), ⟨_, rfl, fun _ => up2_same _ _ _ _⟩, ⟨fun y hy hz => ?_, fun j hj hk => ?_⟩, ?_, up2_same _ _ _ _, by omega, fun a ha => ?_, fun a ha => ?_⟩
  · rw [up2_off _ _ _ hy, up2_off _ _ _ hz, up2_off _ _ _ hy]
  · rw [up2_ne _ _ (Or.inr (by omega)), up2_off _ _ _ (by omega), up2_ne _ _ (Or.inr (by omega))]
  · rw [up2_ne _ _ (Or.inr (by omega)), up2_off _ _ _ (by omega), up2_same]
  · rw [up2_off _ _ _ (by omega), up2_at, up2_off _ _ _ (by omega)]
    by_cases hn : a = n
    · subst hn; rw [up1_at, up1_at]
    · rw [up1_off _ _ hn, up1_off _ _ hn]; exact h3 a (by omega)
  · rw [up1_off _ _ (by omega)]; exact h4 a (by omega)
theorem m_clear (h : rfP V n sg) : CTc J mX8_clear [.ref 405] V (ROg frQ V 0 (nI n) (fun V' => rfP V' 0 (fun _ => -1))) NX := by
  obtain ⟨h1, h2, h3, h4⟩ := id h
  refine v_X8_clear ?_
  unfold F_X8_clear
  have e0 : up2 V 405 0 0 405 20 = nI n := (up2_ne _ _ (Or.inr (by omega))).trans h1
  rw [e0]
  refine ⟨⟨_, rfl, fun _ => rfl⟩, ⟨fun x hx _ => ?_, fun j hj hk => ?_⟩, ?_, up2_same _ _ _ _, by omega, fun a ha => by omega, fun a _ => rfl⟩
  · rw [up2_off _ _ _ hx, up2_off _ _ _ hx]
  · rw [up2_ne _ _ (Or.inr (by omega)), up2_ne _ _ (Or.inr (by omega))]
  · rw [up2_ne _ _ (Or.inr (by omega)), up2_same]; rfl
theorem m_faultOf (h : rfP V n sg) : CTc J mX8_faultOf [.ref 405] V (fun r V' => r = some (.int (fI (fltF sg n 60 0))) ∧ frO V V') NX := by
  obtain ⟨h1, h2, h3, h4⟩ := id h
  refine v_X8_faultOf ?_
  unfold F_X8_faultOf F_X8_faultOf_10
  have f0 : frO V (up2 (up2 V 405 21 0) 405 22 0) := frO_up (frO_up (frO_rf V) (by omega)) (by omega)
  have r0 : rdS (up2 (up2 V 405 21 0) 405 22 0) n (0, false) sg := by
    refine ⟨?_, ?_, up2_same _ _ _ _, h2, by show 0 ≤ n; omega, fun a ha => ?_, h4⟩
    · rw [up2_ne _ _ (Or.inr (by omega)), up2_ne _ _ (Or.inr (by omega))]; exact h1
    · rw [up2_ne _ _ (Or.inr (by omega)), up2_same]; rfl
    · rw [up2_off _ _ _ (by omega), up2_off _ _ _ (by omega)]; exact h3 a ha
  refine ⟨fun m V' => frO V V' ∧ ((∃ a k, rdS V' n (a, false) sg ∧ m = n - a + 1 ∧ n - a ≤ k ∧ fltF sg n 60 0 = fltF sg n k a) ∨ (∃ b, rdS V' n (b, true) sg ∧ m = 0 ∧ fltF sg n 60 0 = some b)), ⟨n - 0 + 1, f0, Or.inl ⟨0, 60, r0, rfl, by omega, rfl⟩⟩, ?_⟩
  rintro m V' ⟨hf, hh⟩
  unfold B_X8_faultOf_10 F_X8_faultOf_35
  rcases hh with ⟨a, k, hr, hm, hk, he⟩ | ⟨b, hr, hm, he⟩
  · obtain ⟨q1, q2, q3, q4, q5, q6, q7⟩ := id hr
    have q2 : V' 405 21 = nI a := q2
    have q5 : a ≤ n := q5
    have q3 : V' 405 22 = 0 := q3
    rw [q1, q2, q3, cle (by omega) (by omega)]
    refine ⟨fun z => absurd rfl z, fun _ => ⟨fun z => ⟨fun _ => ?_, fun y => absurd rfl y⟩, fun z => ?_⟩⟩
    · rw [he, flt_end z]; exact ⟨rfl, hf⟩
    · refine m_readOrder hr (by omega) (fun V1 hv => ?_)
      obtain ⟨k', rfl⟩ : ∃ k', k = k' + 1 := ⟨k - 1, by omega⟩
      have hF : fltF sg n (k' + 1) a = match ordF sg a with | (b, none) => some b | (b, some _) => fltF sg n k' b := by
        show (if n ≤ a then none else match ordF sg a with | (b, none) => some b | (b, some _) => fltF sg n k' b) = _
        rw [if_neg z]
      cases ho : ordF sg a with
      | mk b o =>
        rw [ho] at hv hF
        obtain ⟨v1, v2, v3⟩ := hv
        cases o with
        | none => exact ⟨0, by omega, frO_tr hf v1, Or.inr ⟨b, v2, rfl, he.trans hF⟩⟩
        | some q =>
          have hab := ord_lt ho
          have hbn : b ≤ n := v2.2.2.2.2.1
          exact ⟨n - b + 1, by omega, frO_tr hf v1, Or.inl ⟨b, k', v2, rfl, by omega, he.trans hF⟩⟩
  · obtain ⟨q1, q2, q3, q4, q5, q6, q7⟩ := id hr
    have q2 : V' 405 21 = nI b := q2
    have q3 : V' 405 22 = 1 := q3
    rw [q3, q2, he]
    exact ⟨fun _ => ⟨fun z => absurd z (by decide), fun _ => ⟨rfl, hf⟩⟩, fun z => absurd z (by decide)⟩
theorem m_fault (h : rfP V n sg) : CTc J mX8_fault [.ref 405] V (ROg frQ V 0 (fI (fltF sg n 60 0)) (fun V' => rfP V' n sg)) NX := by
  refine v_X8_fault ?_
  unfold F_X8_fault
  have h0 : rfP (up2 V 405 0 0) n sg := rfP_off h (up2_ne _ _ (Or.inr (by omega))) (up2_off _ _ _ (by omega))
  refine CTc_nx (m_faultOf h0) (fun r V' z => ⟨_, z.1, ⟨_, rfl, fun _ => rfl⟩, ⟨fun x hx _ => ?_, fun j hj hk => ?_⟩, ?_, ?_⟩)
  · rw [z.2.1 x hx, up2_off _ _ _ hx]
  · rw [z.2.2 j (by omega), up2_ne _ _ (Or.inr hj)]
  · rw [z.2.2 0 (by omega), up2_same]; rfl
  · exact rfP_off h0 (z.2.2 20 (by omega)) (z.2.1 419 (by omega))
/-- what a run changes -/
def frX (V V' : Mem) : Prop := (∀ x, x < 405 ∨ 419 ≤ x → V' x = V x) ∧ ∀ j, 26 ≤ j → V' 405 j = V 405 j
theorem rfM_O {V V' : Mem} (m : rfM V s E) (f : frO V V') : rfM V' s E := rfM_cg m (fun x h1 _ => f.1 x (by omega)) (fun j h1 _ => f.2 j (by omega))
theorem frX_O {V V' : Mem} (f : frO V V') : frX V V' := ⟨fun x hx => f.1 x (by omega), fun j hj => f.2 j (by omega)⟩
theorem frX_M {V V' : Mem} (f : frM V V') : frX V V' := ⟨f.1, fun j hj => f.2 j (by omega)⟩
theorem frX_tr {V V' V'' : Mem} (h1 : frX V V') (h2 : frX V' V'') : frX V V'' := ⟨fun x hx => (h2.1 x hx).trans (h1.1 x hx), fun j hj => (h2.2 j hj).trans (h1.2 j hj)⟩
theorem rdS_M {V V' : Mem} {z : Nat × Bool} (h : rdS V n z sg) (f : frM V V') : rdS V' n z sg := by
  obtain ⟨q1, q2, q3, q4, q5, q6, q7⟩ := h
  exact ⟨(f.2 20 (by omega)).trans q1, (f.2 21 (by omega)).trans q2, (f.2 22 (by omega)).trans q3, q4, q5, fun a ha => by rw [f.1 419 (by omega)]; exact q6 a ha, q7⟩
theorem stepK_lt (s : Ms) (E : Evs) (k w t : Int32) : stepK s E k w t < 100 := by
  unfold stepK
  repeat' split
  all_goals omega
theorem raidK_lt (s : Ms) (E : Evs) (w : Int32) : raidK s E w < 100 := by
  unfold raidK
  repeat' split
  all_goals omega
theorem m_run (h : rfP V n sg) (m : rfM V s E) (G : Gd s E) : CTc J mX8_run [.ref 405] V (ROg frX V (runK sg n) (nI (runF sg n 60 0 (s, E)).1) (fun V' => rfX V' (runN sg n s E) ∧ rfP V' n sg)) NX := by
  obtain ⟨h1, h2, h3, h4⟩ := id h
  have hfl : (fI (fltF sg n 60 0) = -1) ↔ fltF sg n 60 0 = none := by
    have hV : sgF (fun x a => if x = 390 then sg a else 0) n = sg := by
      funext a
      unfold sgF
      by_cases ha : a < n
      · rw [if_pos ha]; rfl
      · rw [if_neg ha, h4 a (by omega)]
    exact fI_none (fun k hk => by
      rw [← hV] at hk
      have := flt_le (by omega) hk
      omega)
  refine v_X8_run (CTc_nx (m_faultOf h) (fun r V1 z => ⟨_, z.1, ?_⟩))
  obtain ⟨-, f1⟩ := z
  have hP1 : rfP V1 n sg := rfP_off h (f1.2 20 (by omega)) (f1.1 419 (by omega))
  have m1 := rfM_O m f1
  rw [hfl]
  refine ⟨fun hf => ?_, fun hf => ?_⟩
  · have hk : runK sg n = 1 := by unfold runK; rw [if_neg hf]
    unfold F_X8_run_14
    refine m_holds 1 (by omega) (fun q => absurd q (by decide)) (fun _ => ?_)
    unfold runN
    rw [hk]
    refine ⟨⟨0, rfl, fun q => absurd q (by decide)⟩, ⟨fun x hx => ?_, fun j hj => ?_⟩, up2_same _ _ _ _, rfM_th m1, rfP_off hP1 (up2_ne _ _ (Or.inr (by omega))) (up2_off _ _ _ (by omega))⟩
    · rw [up2_off _ _ _ (by omega), f1.1 x (by omega)]
    · rw [up2_ne _ _ (Or.inr (by omega)), f1.2 j (by omega)]
  · have hk : runK sg n = 0 := by unfold runK; rw [if_pos hf]
    have hN : runN sg n s E = (runF sg n 60 0 (s, E)).2 := by unfold runN; rw [if_pos hk]
    unfold F_X8_run_14
    refine m_holds 0 (by omega) (fun _ => ?_) (fun q => (q rfl).elim)
    rw [hk, hN]
    have m2 : rfM (up2 V1 405 0 (nI 0)) s E := rfM_th m1
    have x2 : frX V (up2 V1 405 0 (nI 0)) := frX_tr (frX_O f1) ⟨fun x hx => up2_off _ _ _ (by omega), fun j hj => up2_ne _ _ (Or.inr (by omega))⟩
    have p2 : rfP (up2 V1 405 0 (nI 0)) n sg := rfP_off hP1 (up2_ne _ _ (Or.inr (by omega))) (up2_off _ _ _ (by omega))
    generalize up2 V1 405 0 (nI 0) = V2 at m2 x2 p2 ⊢
    have f3 : frO V2 (up2 (up2 V2 405 21 0) 405 22 0) := frO_up (frO_up (frO_rf V2) (by omega)) (by omega)
    have r3 : rdS (up2 (up2 V2 405 21 0) 405 22 0) n (0, false) sg := by
      obtain ⟨u1, u2, u3, u4⟩ := p2
      refine ⟨?_, ?_, up2_same _ _ _ _, h2, by show 0 ≤ n; omega, fun a ha => ?_, h4⟩
      · rw [up2_ne _ _ (Or.inr (by omega)), up2_ne _ _ (Or.inr (by omega))]; exact u1
      · rw [up2_ne _ _ (Or.inr (by omega)), up2_same]; rfl
      · rw [up2_off _ _ _ (by omega), up2_off _ _ _ (by omega)]; exact u3 a ha
    have m3 := rfM_O m2 f3
    have x3 := frX_tr x2 (frX_O f3)
    generalize up2 (up2 V2 405 21 0) 405 22 0 = V3 at m3 x3 r3 ⊢
    unfold F_X8_run_36
    refine ⟨fun mm x1 x2 V' => ∃ (b : Bool) (a : Nat) (z : Bool) (X : St) (j k : Nat), x2 = bI b ∧ x1 = nI j ∧ frX V V' ∧ rdS V' n (a, z) sg ∧ rfX V' X ∧ GdX X ∧ mm = (if b = true then n - a + 1 else 0) ∧ (b = true → z = false ∧ n - a ≤ k ∧ fltF sg n k a = none ∧ (runF sg n 60 0 (s, E)).1 = (runF sg n k a X).1 + j ∧ (runF sg n 60 0 (s, E)).2 = (runF sg n k a X).2) ∧ (b = false → (runF sg n 60 0 (s, E)).1 = j ∧ (runF sg n 60 0 (s, E)).2 = X), ⟨n - 0 + 1, true, 0, false, (s, E), 0, 60, rfl, rfl, x3, r3, m3, G, rfl, fun _ => ⟨rfl, by omega, hf, rfl, rfl⟩, fun q => Bool.noConfusion q⟩, ?_⟩
    rintro mm x1 x2 V' ⟨b, a, z, X, j, k, rfl, rfl, hx, hr, hX, hG, hm, ht, hf'⟩
    unfold B_X8_run_36
    have fin : (runF sg n 60 0 (s, E)).1 = j → (runF sg n 60 0 (s, E)).2 = X → ROg frX V 0 (nI (runF sg n 60 0 (s, E)).1) (fun V' => rfX V' (runF sg n 60 0 (s, E)).2 ∧ rfP V' n sg) (some (.int (nI j))) (up2 V' 405 0 0) := by
      intro e1 e2
      rw [e1, e2]
      refine ⟨⟨_, rfl, fun _ => rfl⟩, frX_tr hx ⟨fun x hx => up2_off _ _ _ (by omega), fun j hj => up2_ne _ _ (Or.inr (by omega))⟩, up2_same _ _ _ _, rfM_th hX, ?_⟩
      obtain ⟨u1, u2, u3, u4, u5, u6, u7⟩ := hr
      exact ⟨(up2_ne _ _ (Or.inr (by omega))).trans u1, h2, fun a ha => by rw [up2_off _ _ _ (by omega)]; exact u6 a ha, h4⟩
    cases b with
    | false => exact ⟨fun _ => fin (hf' rfl).1 (hf' rfl).2, fun y => absurd rfl y⟩
    | true =>
      obtain ⟨rfl, hk2, hno, e1, e2⟩ := ht rfl
      obtain ⟨q1, q2, q3, q4, q5, q6, q7⟩ := id hr
      have q2 : V' 405 21 = nI a := q2
      have q5 : a ≤ n := q5
      rw [q1, q2, cle (by omega) (by omega)]
      refine ⟨fun y => absurd y (by decide), fun _ => ⟨fun hna => ?_, fun hna => ?_⟩⟩
      · rw [run_end hna] at e1 e2
        exact fin (e1.trans (Nat.zero_add j)) e2
      · obtain ⟨k', rfl⟩ : ∃ k', k = k' + 1 := ⟨k - 1, by omega⟩
        have hR : runF sg n (k' + 1) a X = match ordF sg a with | (_, none) => (0, X) | (b, some (i, w, t)) => match doF X i w t with | none => (0, X) | some Y => ((runF sg n k' b Y).1 + 1, (runF sg n k' b Y).2) := by
          show (if n ≤ a then (0, X) else match ordF sg a with | (_, none) => (0, X) | (b, some (i, w, t)) => match doF X i w t with | none => (0, X) | some Y => ((runF sg n k' b Y).1 + 1, (runF sg n k' b Y).2)) = _
          rw [if_neg hna]
        have hF : fltF sg n (k' + 1) a = match ordF sg a with | (b, none) => some b | (b, some _) => fltF sg n k' b := by
          show (if n ≤ a then none else match ordF sg a with | (b, none) => some b | (b, some _) => fltF sg n k' b) = _
          rw [if_neg hna]
        refine m_readOrder hr (by omega) (fun V4 hv => ?_)
        rw [hF] at hno
        cases ho : ordF sg a with
        | mk b o =>
          rw [ho] at hv hR hno
          obtain ⟨v1, v2, v3⟩ := hv
          cases o with
          | none => cases hno
          | some q =>
            obtain ⟨i, w, t⟩ := q
            obtain ⟨y3, y4, y5⟩ := v3 i w t rfl
            obtain ⟨w8, -, -⟩ := ord_w ho
            have hab := ord_lt ho
            have hbn : b ≤ n := v2.2.2.2.2.1
            have v2 : rdS V4 n (b, false) sg := v2
            have hno : fltF sg n k' b = none := hno
            have x4 := frX_tr hx (frX_O v1)
            have hX4 : rfM V4 X.1 X.2 := rfM_O hX v1
            have hR2 : runF sg n (k' + 1) a X = match doF X i w t with | none => (0, X) | some Y => ((runF sg n k' b Y).1 + 1, (runF sg n k' b Y).2) := hR
            -- behind a call: its kode and its state
            have go : ∀ V5 K Y, frM V4 V5 → V5 405 0 = nI K → K < 100 → rfX V5 Y → GdX Y → (K = 0 → doF X i w t = some Y) → (K ≠ 0 → doF X i w t = none ∧ Y = X) → ∀ r2, F_X8_run_90 J (fun x1 x2 V' => ∃ n', n' < mm ∧ ∃ (b : Bool) (a : Nat) (z : Bool) (X : St) (j k : Nat), x2 = bI b ∧ x1 = nI j ∧ frX V V' ∧ rdS V' n (a, z) sg ∧ rfX V' X ∧ GdX X ∧ n' = (if b = true then n - a + 1 else 0) ∧ (b = true → z = false ∧ n - a ≤ k ∧ fltF sg n k a = none ∧ (runF sg n 60 0 (s, E)).1 = (runF sg n k a X).1 + j ∧ (runF sg n 60 0 (s, E)).2 = (runF sg n k a X).2) ∧ (b = false → (runF sg n 60 0 (s, E)).1 = j ∧ (runF sg n 60 0 (s, E)).2 = X)) (nI j) r2 V5 (ROg frX V 0 (nI (runF sg n 60 0 (s, E)).1) (fun V' => rfX V' (runF sg n 60 0 (s, E)).2 ∧ rfP V' n sg)) NX := by
              intro V5 K Y f5 e0 hK hY gY k0 k1 r2
              unfold F_X8_run_90 F_X8_run_103 F_X8_run_114
              rw [e0, nI_0', ceq (by omega) (by omega)]
              refine ⟨fun c0 => ⟨fun _ => ?_, fun y => absurd rfl y⟩, fun c0 => ⟨fun y => absurd y (by decide), fun _ => ?_⟩⟩
              · obtain ⟨d1, rfl⟩ := k1 c0
                rw [d1] at hR2
                have hR3 : runF sg n (k' + 1) a Y = (0, Y) := hR2
                rw [hR3] at e1 e2
                have ej : nI j + nI 0 = nI j := Int32.add_zero _
                exact ⟨0, by rw [hm, if_pos rfl]; omega, false, b, false, Y, j, 0, rfl, ej, frX_tr x4 (frX_M f5), rdS_M v2 f5, hY, gY, rfl, fun y => Bool.noConfusion y, fun _ => ⟨e1.trans (Nat.zero_add j), e2⟩⟩
              · have d1 := k0 c0
                rw [d1] at hR2
                have hR3 : runF sg n (k' + 1) a X = ((runF sg n k' b Y).1 + 1, (runF sg n k' b Y).2) := hR2
                rw [hR3] at e1 e2
                exact ⟨n - b + 1, by rw [hm, if_pos rfl]; omega, true, b, false, Y, j + 1, k', rfl, nI_1 j, frX_tr x4 (frX_M f5), rdS_M v2 f5, hY, gY, rfl, fun _ => ⟨rfl, by omega, hno, by rw [e1]; show (runF sg n k' b Y).1 + 1 + j = _; omega, e2⟩, fun y => Bool.noConfusion y⟩
            rw [y3, kI_7 w8, y4]
            refine ⟨fun c7 => ?_, fun c7 => ?_⟩
            · rw [y5 c7, show kI i = nI i from if_neg c7]
              refine CTc_nx (m_step hX4 hG (nI i) w t) (fun r V5 hh => ?_)
              obtain ⟨⟨zz, hz1, -⟩, f5, e0, hY⟩ := hh
              refine ⟨zz, hz1, go V5 _ _ f5 e0 (stepK_lt _ _ _ _ _) hY (GdX_step hG _ _ _) (fun h0 => ?_) (fun h0 => ⟨?_, ?_⟩) zz⟩
              · unfold doF; rw [if_neg c7, if_pos h0]
              · unfold doF; rw [if_neg c7, if_neg h0]
              · unfold stepN; rw [if_neg h0]
            · refine CTc_nx (m_raid hX4 hG w) (fun r V5 hh => ?_)
              obtain ⟨⟨zz, hz1, -⟩, f5, e0, hY⟩ := hh
              refine ⟨zz, hz1, go V5 _ _ f5 e0 (raidK_lt _ _ _) hY (GdX_raid hG _) (fun h0 => ?_) (fun h0 => ⟨?_, ?_⟩) zz⟩
              · unfold doF; rw [if_pos c7, if_pos h0]
              · unfold doF; rw [if_pos c7, if_neg h0]
              · unfold raidN; rw [if_neg h0]
end Pf8
