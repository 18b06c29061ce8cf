/-! the pad of the class: words -/
/-- the fitting words that have the sign x at the place p, of the first n words -/
def keepTo (f x : Int32) (p : Nat) : Nat → Int32
  | 0 => 0
  | i + 1 => if ((f >>> (nI i &&& 31)) &&& 1) = 1 ∧ p < lenS.getD i 0 ∧ chS i p = x then keepTo f x p i ||| (1 <<< (nI i &&& 31)) else keepTo f x p i
/-- the word that alone fits and is whole -/
def oneTo (f : Int32) (p : Nat) : Nat → Option Nat
  | 0 => none
  | i + 1 => match oneTo f p i with
    | some j => some j
    | none => if f = 1 <<< (nI i &&& 31) ∧ lenS.getD i 0 = p + 1 then some i else none
theorem oneTo_s {f : Int32} {p j : Nat} : ∀ {n}, oneTo f p n = some j → ∀ d, oneTo f p (n + d) = some j
  | _, h, 0 => h
  | n, h, d + 1 => by
    show (match oneTo f p (n + d) with | some j => some j | none => if f = 1 <<< (nI (n + d) &&& 31) ∧ lenS.getD (n + d) 0 = p + 1 then some (n + d) else none) = _
    rw [oneTo_s h d]
theorem oneTo_y {f : Int32} {p i : Nat} (h : oneTo f p i = none) (c : f = 1 <<< (nI i &&& 31) ∧ lenS.getD i 0 = p + 1) : oneTo f p (i + 1) = some i := by
  show (match oneTo f p i with | some j => some j | none => if f = 1 <<< (nI i &&& 31) ∧ lenS.getD i 0 = p + 1 then some i else none) = _
  rw [h]
  exact if_pos c
theorem oneTo_n {f : Int32} {p i : Nat} (h : oneTo f p i = none) (c : ¬ (f = 1 <<< (nI i &&& 31) ∧ lenS.getD i 0 = p + 1)) : oneTo f p (i + 1) = none := by
  show (match oneTo f p i with | some j => some j | none => if f = 1 <<< (nI i &&& 31) ∧ lenS.getD i 0 = p + 1 then some i else none) = _
  rw [h]
  exact if_neg c
theorem lenS_8 : ∀ i, i < 8 → lenS.getD i 0 ≤ 5 := by decide
/-- the sign at a place; -1 behind the last -/
def sgF (P : Mem) (n : Nat) (a : Nat) : Int32 := if a < n then P 390 a else -1
def rwF (sg : Nat → Int32) : Nat → Nat → Nat → Int32 → Nat × Option Nat
  | 0, a, _, _ => (a, none)
  | n + 1, a, p, f => if keepTo f (sg a) p 8 = 0 then (a, none) else match oneTo (keepTo f (sg a) p 8) p 8 with
    | some i => (a + 1, some i)
    | none => rwF sg n (a + 1) (p + 1) (keepTo f (sg a) p 8)
theorem rd_any {J : Nat → Nat → Int64} {d : pD} {as : List Value} {V : Mem} {x : Int32} {Qx : String → Mem → Prop} (h : RD J d as V x) : CTc J d as V (fun r V' => r = some (.int x) ∧ V' = V) Qx := CTc_nx h (fun _ _ z => z)
section Pd
variable {J : Nat → Nat → Int64} {V : Mem} {Qr : Option Value → Mem → Prop} {Qx : String → Mem → Prop}
theorem ct_text (i : Nat) (hi : i < 8) (H : Qr (some (.ref (1000 + i))) V) : CTc J mX5_textOf [.int (nI i)] V Qr Qx := by
  refine ctc_of (M := (T0 J, V)) pX5_textOf (fun _ _ => rfl) (Nat.le_of_ble_eq_true rfl) ?_
  show WPc J mX5_textOf _ _ 0 [(0, .int (nI i))] [] V 0 0
  refine s_iload_n dX5_textOf_0 rfl ?_
  rcases (show i = 0 ∨ i = 1 ∨ i = 2 ∨ i = 3 ∨ i = 4 ∨ i = 5 ∨ i = 6 ∨ i = 7 by omega) with rfl | rfl | rfl | rfl | rfl | rfl | rfl | rfl
  · exact s_tabI (off := 43) (tgt := 44) dX5_textOf_1 (by decide) (by decide) rfl (by decide) (s_ldcS (q := 0) (by omega) rfl rfl dX5_textOf_44 (s_aret dX5_textOf_46 rfl ⟨rfl, H⟩))
  · exact s_tabI (off := 46) (tgt := 47) dX5_textOf_1 (by decide) (by decide) rfl (by decide) (s_ldcS (q := 1) (by omega) rfl rfl dX5_textOf_47 (s_aret dX5_textOf_49 rfl ⟨rfl, H⟩))
  · exact s_tabI (off := 49) (tgt := 50) dX5_textOf_1 (by decide) (by decide) rfl (by decide) (s_ldcS (q := 2) (by omega) rfl rfl dX5_textOf_50 (s_aret dX5_textOf_52 rfl ⟨rfl, H⟩))
  · exact s_tabI (off := 52) (tgt := 53) dX5_textOf_1 (by decide) (by decide) rfl (by decide) (s_ldcS (q := 3) (by omega) rfl rfl dX5_textOf_53 (s_aret dX5_textOf_55 rfl ⟨rfl, H⟩))
  · exact s_tabI (off := 55) (tgt := 56) dX5_textOf_1 (by decide) (by decide) rfl (by decide) (s_ldcS (q := 4) (by omega) rfl rfl dX5_textOf_56 (s_aret dX5_textOf_58 rfl ⟨rfl, H⟩))
  · exact s_tabI (off := 58) (tgt := 59) dX5_textOf_1 (by decide) (by decide) rfl (by decide) (s_ldcS (q := 5) (by omega) rfl rfl dX5_textOf_59 (s_aret dX5_textOf_61 rfl ⟨rfl, H⟩))
  · exact s_tabI (off := 61) (tgt := 62) dX5_textOf_1 (by decide) (by decide) rfl (by decide) (s_ldcS (q := 6) (by omega) rfl rfl dX5_textOf_62 (s_aret dX5_textOf_64 rfl ⟨rfl, H⟩))
  · exact s_tabO (tgt := 65) dX5_textOf_1 (Or.inr (by decide)) (by decide) (s_ldcS (q := 7) (by omega) rfl rfl dX5_textOf_65 (s_aret dX5_textOf_67 rfl ⟨rfl, H⟩))
theorem k5_keep (f x : Int32) (p : Nat) (hp : p < 100) (hsg : RD J mX5_nextSign [.ref 389] V x) (H : Qr (some (.int (keepTo f x p 8))) V) : CTc J mX5_keepFitting [.ref 389, .int f, .int (nI p)] V Qr Qx := by
  refine ctc_of (M := (T0 J, V)) pX5_keepFitting (fun _ _ => rfl) (Nat.le_of_ble_eq_true rfl) ?_
  show WPc J mX5_keepFitting _ _ 0 [(0, .ref 389), (1, .int f), (2, .int (nI p))] [] V 0 0
  refine s_iconst (v := 0) dX5_keepFitting_0 (by decide) ?_
  refine t_istore_n (L' := [(3, .int 0), (0, .ref 389), (1, .int f), (2, .int (nI p))]) dX5_keepFitting_1 (by decide) rfl ?_
  refine s_aload_n dX5_keepFitting_2 rfl ?_
  refine t_cV (h := 389) (As := []) (st := []) iv_5_62 dX5_keepFitting_3 ⟨by decide, by decide⟩ rfl (Nat.le_of_ble_eq_true rfl) (by decide) (by decide) rfl ob_389 (rd_any hsg) (fun r V1 z => ?_)
  obtain ⟨rfl, rfl⟩ := z
  refine t_istore (L' := [(4, .int x), (3, .int 0), (0, .ref 389), (1, .int f), (2, .int (nI p))]) dX5_keepFitting_6 (by decide) rfl ?_
  refine s_iconst (v := 0) dX5_keepFitting_8 (by decide) ?_
  refine t_istore (L' := [(5, .int 0), (4, .int x), (3, .int 0), (0, .ref 389), (1, .int f), (2, .int (nI p))]) dX5_keepFitting_9 (by decide) rfl ?_
  refine t_loc (L' := [(0, .ref 389), (1, .int f), (2, .int (nI p)), (3, .int (keepTo f x p 0)), (4, .int x), (5, .int (nI 0))]) [3, 4, 5, 2, 1, 0] rfl ?_
  have main : ∀ m i, m = 8 - i → i ≤ 8 → WPc J mX5_keepFitting Qr Qx 11 [(0, .ref 389), (1, .int f), (2, .int (nI p)), (3, .int (keepTo f x p i)), (4, .int x), (5, .int (nI i))] [] V1 0 0 := by
    refine strong (fun m ih i hm hi => ?_)
    refine s_iload dX5_keepFitting_11 rfl (s_bipush (v := nI 8) dX5_keepFitting_13 (by decide) ?_)
    refine s_icmp_ge (tgt := 68) dX5_keepFitting_15 (by decide) (fun c => ?_) (fun c => ?_)
    · have h2 := lpE (n := 8) (by omega) hi c
      subst h2
      exact s_iload_n dX5_keepFitting_68 rfl (s_iret dX5_keepFitting_69 (Or.inl rfl) ⟨rfl, H⟩)
    · have h1 := lpL (n := 8) (by omega) hi c
      have hl := lenS_8 i h1
      have nx : ∀ y, keepTo f x p (i + 1) = y → WPc J mX5_keepFitting Qr Qx 62 [(0, .ref 389), (1, .int f), (2, .int (nI p)), (3, .int y), (4, .int x), (5, .int (nI i))] [] V1 0 0 := by
        intro y hy
        subst hy
        refine t_iinc (v := nI (i + 1)) (L' := [(5, .int (nI (i + 1))), (0, .ref 389), (1, .int f), (2, .int (nI p)), (3, .int (keepTo f x p (i + 1))), (4, .int x)]) dX5_keepFitting_62 rfl (nI_1 i) (by decide) rfl ?_
        refine s_goto (tgt := 11) dX5_keepFitting_65 (by decide) ?_
        exact t_loc [1, 2, 3, 4, 5, 0] rfl (ih (8 - (i + 1)) (by omega) (i + 1) rfl (by omega))
      refine s_iload dX5_keepFitting_18 rfl ?_
      refine t_cS (As := [.int (nI i)]) (st := []) iv_5_52 dX5_keepFitting_20 ⟨by decide, by decide⟩ rfl (Nat.le_of_ble_eq_true rfl) (by decide) (by decide) rfl (ct_text (Qr := fun r V' => r = some (.ref (1000 + i)) ∧ V' = V1) i h1 ⟨rfl, rfl⟩) (fun r V2 z => ?_)
      obtain ⟨rfl, rfl⟩ := z
      refine t_astore (L' := [(6, .ref (1000 + i)), (0, .ref 389), (1, .int f), (2, .int (nI p)), (3, .int (keepTo f x p i)), (4, .int x), (5, .int (nI i))]) dX5_keepFitting_23 (by decide) rfl ?_
      refine s_iload_n dX5_keepFitting_25 rfl (s_iload dX5_keepFitting_26 rfl (s_ishr dX5_keepFitting_28 (s_iconst (v := 1) dX5_keepFitting_29 (by decide) (s_iand dX5_keepFitting_30 (s_iconst (v := 1) dX5_keepFitting_31 (by decide) ?_)))))
      refine s_icmp_ne (tgt := 62) dX5_keepFitting_32 (by decide) (fun c1 => ?_) (fun c1 => ?_)
      · refine t_loc [1, 2, 3, 4, 5, 6] rfl (nx _ ?_)
        exact if_neg (fun z => c1 z.1)
      · refine s_iload_n dX5_keepFitting_35 rfl (s_aload dX5_keepFitting_36 rfl ?_)
        refine t_cW (As := []) (st := [.int (nI p)]) iv_J56 rfl dX5_keepFitting_38 ⟨by decide, by decide⟩ rfl (Nat.le_of_ble_eq_true rfl) (by decide) (by decide) rfl (show i < 11 by omega) (ct_len (Qr := fun r V' => r = some (.int (nI (lenS.getD i 0))) ∧ V' = V2) i (by omega) ⟨rfl, rfl⟩) (fun r V3 z => ?_)
        obtain ⟨rfl, rfl⟩ := z
        refine s_icmp_ge (tgt := 62) dX5_keepFitting_41 (by decide) (fun c2 => ?_) (fun c2 => ?_)
        · rw [cle (by omega) (by omega)] at c2
          refine t_loc [1, 2, 3, 4, 5, 6] rfl (nx _ ?_)
          exact if_neg (fun z => absurd z.2.1 (by omega))
        · rw [cle (by omega) (by omega)] at c2
          refine s_aload dX5_keepFitting_44 rfl (s_iload_n dX5_keepFitting_46 rfl ?_)
          refine t_cW (As := [.int (nI p)]) (st := []) iv_J65 rfl dX5_keepFitting_47 ⟨by decide, by decide⟩ rfl (Nat.le_of_ble_eq_true rfl) (by decide) (by decide) rfl (show i < 11 by omega) (ct_ch (Qr := fun r V' => r = some (.int (chS i p)) ∧ V' = V3) i p (by omega) (by omega) ⟨rfl, rfl⟩) (fun r V4 z => ?_)
          obtain ⟨rfl, rfl⟩ := z
          refine s_iload dX5_keepFitting_50 rfl ?_
          refine s_icmp_ne (tgt := 62) dX5_keepFitting_52 (by decide) (fun c3 => ?_) (fun c3 => ?_)
          · refine t_loc [1, 2, 3, 4, 5, 6] rfl (nx _ ?_)
            exact if_neg (fun z => c3 z.2.2)
          · refine s_iload_n dX5_keepFitting_55 rfl (s_iconst (v := 1) dX5_keepFitting_56 (by decide) (s_iload dX5_keepFitting_57 rfl (s_ishl dX5_keepFitting_59 (s_ior dX5_keepFitting_60 ?_))))
            refine t_istore_n (L' := [(3, .int (keepTo f x p i ||| (1 <<< (nI i &&& 31)))), (6, .ref (1000 + i)), (0, .ref 389), (1, .int f), (2, .int (nI p)), (4, .int x), (5, .int (nI i))]) dX5_keepFitting_61 (by decide) rfl ?_
            refine t_loc [2, 3, 4, 0, 5, 6] rfl (nx _ ?_)
            exact if_pos ⟨c1, by omega, c3⟩
  exact main 8 0 rfl (by omega)
theorem k5_nextSign (n a : Nat) (hn : V 389 1 = nI n) (ha : V 389 2 = nI a) (h60 : n ≤ 60) (ha2 : a < 1000) : RD J mX5_nextSign [.ref 389] V (sgF V n a) := by
  refine v_X5_nextSign ?_
  unfold F_X5_nextSign sgF
  rw [hn, ha, cle (by omega) (by omega), show (60 : Int32) = nI 60 from rfl, cle (by omega) (by omega), ccl (n := a) (by omega)]
  refine ⟨fun z => (nI_pos (by omega) z).elim, fun _ => ⟨fun z => ⟨?_, rfl⟩, fun z => ⟨fun y => by omega, fun y => ⟨vp_in_nI (by omega) (by decide), ?_, rfl⟩⟩⟩⟩
  · rw [if_neg (by omega)]
  · rw [if_pos (by omega)]
/-- the pad: its reader stands at a -/
def pdA (V : Mem) (n a : Nat) : Prop := V 389 1 = nI n ∧ V 389 2 = nI a ∧ n ≤ 60 ∧ a ≤ n
/-- what reading changes -/
def frP (V V' : Mem) : Prop := (∀ x, x ≠ 389 → V' x = V x) ∧ V' 389 1 = V 389 1
theorem frP_rf (V : Mem) : frP V V := ⟨fun _ _ => rfl, rfl⟩
theorem frP_tr {V V' V'' : Mem} (h1 : frP V V') (h2 : frP V' V'') : frP V V'' := ⟨fun x hx => (h2.1 x hx).trans (h1.1 x hx), h2.2.trans h1.2⟩
theorem frP_up {V V' : Mem} {j : Nat} {x : Int32} (h : frP V V') (hj : j ≠ 1) : frP V (up2 V' 389 j x) := ⟨fun y hy => (up2_off V' j x hy).trans (h.1 y hy), (up2_ne V' x (Or.inr (fun z => hj z.symm))).trans h.2⟩
theorem sg_fr {V V' : Mem} {n : Nat} (f : frP V V') : sgF V' n = sgF V n := by
  funext a
  unfold sgF
  rw [f.1 390 (by omega)]
theorem rwF_le {sg : Nat → Int32} : ∀ {n a p f}, a ≤ (rwF sg n a p f).1
  | 0, a, _, _ => Nat.le_refl a
  | n + 1, a, p, f => by
    unfold rwF
    split
    · exact Nat.le_refl a
    · split
      · exact Nat.le_succ a
      · exact Nat.le_trans (Nat.le_succ a) rwF_le
/-- reading a word: its place, where it is one -/
def wdP (V : Mem) (n : Nat) (z : Nat × Option Nat) (r : Option Value) (V' : Mem) : Prop := r = some (.int (bI z.2.isSome)) ∧ frP V V' ∧ V' 389 2 = nI z.1 ∧ V' 389 4 = V 389 4 ∧ V' 389 5 = V 389 5 ∧ ∀ i, z.2 = some i → V' 389 3 = nI i
theorem keep_m1 : ∀ (f : Int32) (p : Nat), keepTo f (-1) p 8 = 0 := by
  intro f p
  have h : ∀ i, i < 8 → ∀ k, k < 5 → k < lenS.getD i 0 → ¬ chS i k = -1 := by decide
  have hn : ∀ i, i ≤ 8 → keepTo f (-1) p i = 0 := by
    intro i
    induction i with
    | zero => intro _; rfl
    | succ i ih =>
      intro hi
      unfold keepTo
      rw [if_neg, ih (by omega)]
      intro z
      exact h i (by omega) p (by have := lenS_8 i (by omega); omega) z.2.1 z.2.2
  exact hn 8 (by omega)
theorem k5_readWord (n a : Nat) (h : pdA V n a) (H : ∀ r V', wdP V n (rwF (sgF V n) 60 a 0 255) r V' → Qr r V') : CTc J mX5_readWord [.ref 389] V Qr Qx := by
  obtain ⟨h1, h2, h60, han⟩ := h
  refine ctc_of (M := (T0 J, V)) pX5_readWord (fun _ _ => rfl) (Nat.le_of_ble_eq_true rfl) ?_
  show WPc J mX5_readWord _ _ 0 [(0, .ref 389)] [] V 0 0
  refine s_sipush (v := 255) dX5_readWord_0 (by decide) ?_
  refine t_istore_n (L' := [(1, .int 255), (0, .ref 389)]) dX5_readWord_3 (by decide) rfl ?_
  refine s_iconst (v := 0) dX5_readWord_4 (by decide) ?_
  refine t_istore_n (L' := [(2, .int 0), (1, .int 255), (0, .ref 389)]) dX5_readWord_5 (by decide) rfl ?_
  refine t_loc (L' := [(0, .ref 389), (1, .int 255), (2, .int (nI 0))]) [2, 1, 0] rfl ?_
  have main : ∀ m p b f V', m = 60 - p → p ≤ 60 → frP V V' → V' 389 2 = nI b → V' 389 4 = V 389 4 → V' 389 5 = V 389 5 → b ≤ n → (∀ r V'', wdP V n (rwF (sgF V n) m b p f) r V'' → Qr r V'') → WPc J mX5_readWord Qr Qx 6 [(0, .ref 389), (1, .int f), (2, .int (nI p))] [] V' 0 0 := by
    refine strong (fun m ih p b f V' hm hp hf hb h4 h5 hbn HH => ?_)
    have hsg := sg_fr (n := n) hf
    refine s_iload_n dX5_readWord_6 rfl (s_bipush (v := nI 60) dX5_readWord_7 (by decide) ?_)
    refine s_icmp_ge (tgt := 82) dX5_readWord_9 (by decide) (fun c => ?_) (fun c => ?_)
    · have hp2 := lpE (n := 60) (by omega) hp c
      have hm0 : m = 0 := by omega
      subst hm0
      refine s_iconst (v := 0) dX5_readWord_82 (by decide) (s_iret dX5_readWord_83 (Or.inr ⟨rfl, Or.inl rfl⟩) ⟨rfl, HH _ _ ⟨rfl, hf, hb, h4, h5, fun i hi => by cases hi⟩⟩)
    · have hpl := lpL (n := 60) (by omega) hp c
      obtain ⟨m', rfl⟩ : ∃ m', m = m' + 1 := ⟨m - 1, by omega⟩
      refine s_aload_n dX5_readWord_12 rfl (s_iload_n dX5_readWord_13 rfl (s_iload_n dX5_readWord_14 rfl ?_))
      have hns : RD J mX5_nextSign [.ref 389] V' (sgF V n b) := by have := k5_nextSign (J := J) (V := V') n b (by rw [hf.2, h1]) hb h60 (by omega); rwa [hsg] at this
      have hk := k5_keep (J := J) (Qr := fun r V1 => r = some (.int (keepTo f (sgF V n b) p 8)) ∧ V1 = V') (Qx := Qx) f (sgF V n b) p (by omega) hns ⟨rfl, rfl⟩
      refine t_cV (h := 389) (As := [.int f, .int (nI p)]) (st := []) iv_5_48 dX5_readWord_15 ⟨by decide, by decide⟩ rfl (Nat.le_of_ble_eq_true rfl) (by decide) (by decide) rfl ob_389 hk (fun r V1 z => ?_)
      obtain ⟨rfl, rfl⟩ := z
      generalize hkk : keepTo f (sgF V n b) p 8 = f' at *
      have hrw : rwF (sgF V n) (m' + 1) b p f = if f' = 0 then (b, none) else match oneTo f' p 8 with | some i => (b + 1, some i) | none => rwF (sgF V n) m' (b + 1) (p + 1) f' := by
        rw [← hkk]; rfl
      rw [hrw] at HH
      clear hrw
      refine t_istore_n (L' := [(1, .int f'), (0, .ref 389), (2, .int (nI p))]) dX5_readWord_18 (by decide) rfl ?_
      refine s_iload_n dX5_readWord_19 rfl (s_if_ne (tgt := 25) dX5_readWord_20 (by decide) (fun c0 => ?_) (fun c0 => ?_))
      · rw [if_neg c0] at HH
        have hbn2 : b + 1 ≤ n := by
          rcases Nat.lt_or_ge b n with y | y
          · exact y
          · exfalso
            have hs : sgF V n b = -1 := by unfold sgF; rw [if_neg (by omega)]
            rw [hs, keep_m1] at hkk
            exact c0 hkk.symm
        refine s_aload_n dX5_readWord_25 rfl (s_dup dX5_readWord_26 rfl (t_getI fl_5_19 dX5_readWord_27 ob_389 rfl (s_iconst (v := 1) dX5_readWord_30 (by decide) (s_iadd dX5_readWord_31 (t_putI fl_5_19 dX5_readWord_32 ob_389 (Or.inl rfl) ?_)))))
        refine s_iconst (v := 0) dX5_readWord_35 (by decide) ?_
        refine t_istore_n (L' := [(3, .int 0), (1, .int f'), (0, .ref 389), (2, .int (nI p))]) dX5_readWord_36 (by decide) rfl ?_
        have e2 : V1 389 2 + 1 = nI (b + 1) := by rw [hb, nI_1]
        rw [e2]
        have hf2 : frP V (up2 V1 389 2 (nI (b + 1))) := frP_up hf (by omega)
        have hb2 : up2 V1 389 2 (nI (b + 1)) 389 2 = nI (b + 1) := up2_same _ _ _ _
        have h42 : up2 V1 389 2 (nI (b + 1)) 389 4 = V 389 4 := (up2_ne _ _ (Or.inr (by omega))).trans h4
        have h52 : up2 V1 389 2 (nI (b + 1)) 389 5 = V 389 5 := (up2_ne _ _ (Or.inr (by omega))).trans h5
        generalize up2 V1 389 2 (nI (b + 1)) = V2 at hf2 hb2 h42 h52 ⊢
        refine t_loc (L' := [(0, .ref 389), (1, .int f'), (2, .int (nI p)), (3, .int (nI 0))]) [2, 1, 3, 0] rfl ?_
        have inner : ∀ w i, w = 8 - i → i ≤ 8 → oneTo f' p i = none → WPc J mX5_readWord Qr Qx 37 [(0, .ref 389), (1, .int f'), (2, .int (nI p)), (3, .int (nI i))] [] V2 0 0 := by
          refine strong (fun w ihw i hw hi hno => ?_)
          refine s_iload_n dX5_readWord_37 rfl (s_bipush (v := nI 8) dX5_readWord_38 (by decide) ?_)
          refine s_icmp_ge (tgt := 76) dX5_readWord_40 (by decide) (fun c1 => ?_) (fun c1 => ?_)
          · have hi2 := lpE (n := 8) (by omega) hi c1
            subst hi2
            rw [hno] at HH
            refine t_iinc (v := nI (p + 1)) (L' := [(2, .int (nI (p + 1))), (0, .ref 389), (1, .int f'), (3, .int (nI 8))]) dX5_readWord_76 rfl (nI_1 p) (by decide) rfl ?_
            refine s_goto (tgt := 6) dX5_readWord_79 (by decide) ?_
            exact t_loc [1, 2, 0] rfl (ih m' (by omega) (p + 1) (b + 1) f' V2 (by omega) (by omega) hf2 hb2 h42 h52 hbn2 HH)
          · have hil := lpL (n := 8) (by omega) hi c1
            have hll := lenS_8 i hil
            have nx : ¬ (f' = 1 <<< (nI i &&& 31) ∧ lenS.getD i 0 = p + 1) → WPc J mX5_readWord Qr Qx 70 [(0, .ref 389), (1, .int f'), (2, .int (nI p)), (3, .int (nI i))] [] V2 0 0 := by
              intro hc
              refine t_iinc (v := nI (i + 1)) (L' := [(3, .int (nI (i + 1))), (0, .ref 389), (1, .int f'), (2, .int (nI p))]) dX5_readWord_70 rfl (nI_1 i) (by decide) rfl ?_
              refine s_goto (tgt := 37) dX5_readWord_73 (by decide) ?_
              exact t_loc [1, 2, 3, 0] rfl (ihw (8 - (i + 1)) (by omega) (i + 1) rfl (by omega) (oneTo_n hno hc))
            refine s_iload_n dX5_readWord_43 rfl (s_iconst (v := 1) dX5_readWord_44 (by decide) (s_iload_n dX5_readWord_45 rfl (s_ishl dX5_readWord_46 ?_)))
            refine s_icmp_ne (tgt := 70) dX5_readWord_47 (by decide) (fun c2 => nx (fun z => c2 z.1)) (fun c2 => ?_)
            refine s_iload_n dX5_readWord_50 rfl ?_
            refine t_cS (As := [.int (nI i)]) (st := []) iv_5_52 dX5_readWord_51 ⟨by decide, by decide⟩ rfl (Nat.le_of_ble_eq_true rfl) (by decide) (by decide) rfl (ct_text (Qr := fun r V' => r = some (.ref (1000 + i)) ∧ V' = V2) i hil ⟨rfl, rfl⟩) (fun r V3 z => ?_)
            obtain ⟨rfl, rfl⟩ := z
            refine t_cW (As := []) (st := []) iv_J56 rfl dX5_readWord_54 ⟨by decide, by decide⟩ rfl (Nat.le_of_ble_eq_true rfl) (by decide) (by decide) rfl (show i < 11 by omega) (ct_len (Qr := fun r V' => r = some (.int (nI (lenS.getD i 0))) ∧ V' = V3) i (by omega) ⟨rfl, rfl⟩) (fun r V4 z => ?_)
            obtain ⟨rfl, rfl⟩ := z
            refine s_iload_n dX5_readWord_57 rfl (s_iconst (v := 1) dX5_readWord_58 (by decide) (s_iadd dX5_readWord_59 ?_))
            rw [nI_1]
            refine s_icmp_ne (tgt := 70) dX5_readWord_60 (by decide) (fun c3 => nx (fun z => c3 (by rw [z.2]))) (fun c3 => ?_)
            rw [ceq (by omega) (by omega)] at c3
            have hone := oneTo_s (oneTo_y hno ⟨c2, c3⟩) (8 - (i + 1))
            rw [show i + 1 + (8 - (i + 1)) = 8 by omega] at hone
            rw [hone] at HH
            refine s_aload_n dX5_readWord_63 rfl (s_iload_n dX5_readWord_64 rfl (t_putI fl_5_35 dX5_readWord_65 ob_389 (Or.inl rfl) (s_iconst (v := 1) dX5_readWord_68 (by decide) (s_iret dX5_readWord_69 (Or.inr ⟨rfl, Or.inr rfl⟩) ⟨rfl, HH _ _ ⟨rfl, frP_up hf2 (by omega), ?_, ?_, ?_, ?_⟩⟩))))
            · show up2 V4 389 3 (nI i) 389 2 = _
              exact (up2_ne _ _ (Or.inr (by omega))).trans hb2
            · show up2 V4 389 3 (nI i) 389 4 = _
              exact (up2_ne _ _ (Or.inr (by omega))).trans h42
            · show up2 V4 389 3 (nI i) 389 5 = _
              exact (up2_ne _ _ (Or.inr (by omega))).trans h52
            · intro j hj
              have hj : i = j := Option.some.inj hj
              subst hj
              show up2 V4 389 3 (nI i) 389 3 = _
              exact up2_same _ _ _ _
        exact inner 8 0 rfl (by omega) rfl
      · rw [if_pos c0] at HH
        refine s_iconst (v := 0) dX5_readWord_23 (by decide) (s_iret dX5_readWord_24 (Or.inr ⟨rfl, Or.inl rfl⟩) ⟨rfl, HH _ _ ⟨rfl, hf, hb, h4, h5, fun i hi => by cases hi⟩⟩)
  exact main 60 0 a 255 V rfl (by omega) (frP_rf V) h2 rfl rfl han H
end Pd
