/-! methods with handlers: the law's own, one a call -/
def pdW (d : pD) (hh : List (Nat × Nat × Nat × Nat)) : Prop := mdW d = .codeWith (mdY d) (mdB d) (mdL d) (mdR d) hh ∧ mdW d ∈ TBg ∧ Cond.initialized (mdY d).cls ∈ TBg ∧ plainName (mdY d).cls = true ∧ ((mdY d).cls ≠ "java/lang/invoke/MethodHandle" ∧ (mdY d).cls ≠ "java/lang/invoke/VarHandle" ∧ (parseMethodDescriptor (mdY d).desc).map (fun z => z.parameters.length) = some (mdA d)) ∧ (mdY d).cls = fC (mdO d)
def ctN (E : String) : Nat := if E = xIO then 75 else if E = xIA then 78 else if E = xIS then 80 else 0
def hX (e : Nat) (hh : List (Nat × Nat × Nat × Nat)) : Nat → String → Option (Option Nat) := fun pc E => if e ≤ pc then some none else (hh.find? (fun h => h.2.2.2 == ctN E)).map (fun h => some h.2.2.1)
def hhOK (e : Nat) (hh : List (Nat × Nat × Nat × Nat)) : Prop := (∀ h ∈ hh, h.1 = 0 ∧ h.2.1 = e ∧ (h.2.2.2 = 75 ∨ h.2.2.2 = 78 ∨ h.2.2.2 = 80)) ∧ hh.Pairwise (fun a b => a.2.2.2 < b.2.2.2)
theorem cl_75 : Cond.classLink (fC 9) 75 xIO ∈ TBg := TBg_of (w := Cond.classLink (fC 9) 75 xIO) (i := 320) (by decide +kernel) (by decide +kernel)
theorem cl_78 : Cond.classLink (fC 9) 78 xIA ∈ TBg := TBg_of (w := Cond.classLink (fC 9) 78 xIA) (i := 321) (by decide +kernel) (by decide +kernel)
theorem cl_80 : Cond.classLink (fC 9) 80 xIS ∈ TBg := TBg_of (w := Cond.classLink (fC 9) 80 xIS) (i := 322) (by decide +kernel) (by decide +kernel)
theorem ca_75 : Cond.castable xIO xIO ∈ xW := xW_of (w := Cond.castable xIO xIO) (i := 335) (by decide +kernel) (by decide +kernel)
theorem ca_78 : Cond.castable xIA xIA ∈ xW := xW_of (w := Cond.castable xIA xIA) (i := 409) (by decide +kernel) (by decide +kernel)
theorem ca_80 : Cond.castable xIS xIS ∈ xW := xW_of (w := Cond.castable xIS xIS) (i := 432) (by decide +kernel) (by decide +kernel)
theorem ctN_75 {E : String} (h : ctN E = 75) : E = xIO := by
  unfold ctN at h
  split at h
  · assumption
  · split at h
    · omega
    · split at h <;> omega
theorem ctN_78 {E : String} (h : ctN E = 78) : E = xIA := by
  unfold ctN at h
  split at h
  · omega
  · split at h
    · assumption
    · split at h <;> omega
theorem ctN_80 {E : String} (h : ctN E = 80) : E = xIS := by
  unfold ctN at h
  split at h
  · omega
  · split at h
    · omega
    · split at h
      · assumption
      · omega
theorem ctw_of {d : pD} {hh : List (Nat × Nat × Nat × Nat)} {e0 : Nat} {As : List Value} {M : pM} {Qr : Option Value → pM → Prop} {Qx : String → pM → Prop} (hp : pdW d hh) (hO : mdO d = 9) (hX0 : mdX d = hX e0 hh) (hk : hhOK e0 hh) (hne : (mdY d).name ≠ "<init>") (hl : (lg_sl As).length ≤ mdL d) (k : WPs d Qr Qx 0 (lv_args 0 As) [] M (mdM d).cells (mdM d).slots) : CT d As M Qr Qx := by
  intro l G ad sz hst
  have hw : pW d = Cond.codeWith (mdY d) (mdB d) (mdL d) (mdR d) hh :: TBg := by unfold pW; rw [hp.1]
  refine vx_ofWH hp.2.2.2.1 hw ?_
  intro p e s m args below meth c s₁ B hml hv
  have hcw : (Cond.codeWith (mdY d) (mdB d) (mdL d) (mdR d) hh).before args s = true := atoms_spec (ws := pW d) B.pre _ (by rw [hw]; exact List.mem_cons_self)
  have htab : c.exceptionTable.toList = tableOf hh := vx_table (x := mdY d) B hcw
  obtain ⟨rfl, hsz, hP, hK, hD0, hn, hc, hU⟩ := hv
  subst hsz
  have hsl : ∀ vs : List Value, lg_sl (vs.map (tr ad)) = (lg_sl vs).map (fun z => match z with | .val v => .val (tr ad v) | z => z) := by
    intro vs
    induction vs with
    | nil => rfl
    | cons v vs ih =>
      unfold lg_sl at ih ⊢
      rw [List.map_cons, List.flatMap_cons, List.flatMap_cons, List.map_append, ih, tr_cat]
      by_cases h2 : v.category = 2
      · rw [if_pos h2, if_pos h2]; rfl
      · rw [if_neg h2, if_neg h2]; rfl
  have hla : ∀ (vs : List Value) (i : Nat), lv_args i (vs.map (tr ad)) = trL ad (lv_args i vs) := by
    intro vs
    induction vs with
    | nil => intro i; rfl
    | cons v vs ih =>
      intro i
      show (i, tr ad v) :: lv_args (if (tr ad v).category = 2 then i + 2 else i + 1) (vs.map (tr ad)) = _
      rw [tr_cat, ih]
      rfl
  have hle := lv_entry (As.map (tr ad)) (n := mdL d) (by rw [hsl, List.length_map]; exact hl)
  rw [lg_entry_eq]
  rw [hla] at hle
  generalize (lg_sl (As.map (tr ad)) ++ List.replicate (mdL d - (lg_sl (As.map (tr ad))).length) Slot.unset).toArray = ls at hle ⊢
  have hB := atoms_spec (ws := pW d) B.pre
  refine k p l e s m _ below meth c G ad M (va_A (pws G.2.1 ad M) s.heap.size) ad s.heap [] ls 0 0 ⟨⟨B.exec, B.bytes, B.returns, hml, ?_, hB, hK, B.notSynchronized, fun h9 => (hne h9).elim, hU, hc, hst, fun q hq => Or.inr hq, fun pc E hx x hx9 => ?_, fun pc E t ht => ?_⟩, Nat.le_refl _, hn, fun _ _ => rfl, by omega, by omega, hP, hD0.self, va_S.rf, hle⟩
  · rw [← hp.2.2.2.2.2]
    exact findClass_of_methodNamed B.named
  · rw [hX0] at hx
    unfold hX at hx
    by_cases e9 : e0 ≤ pc
    · rw [htab] at hx9
      obtain ⟨h9, h10, rfl⟩ := List.mem_map.mp hx9
      have := (hk.1 h9 h10).2.1
      show (decide (h9.1 ≤ pc) && decide (pc < h9.2.1)) = false
      rw [this, show decide (pc < e0) = false from decide_eq_false (by omega), Bool.and_false]
    · rw [if_neg e9] at hx
      cases z : hh.find? (fun h => h.2.2.2 == ctN E) <;> rw [z] at hx <;> cases hx
  · rw [hX0] at ht
    unfold hX at ht
    by_cases e9 : e0 ≤ pc
    · rw [if_pos e9] at ht
      cases ht
    · rw [if_neg e9] at ht
      cases z : hh.find? (fun h => h.2.2.2 == ctN E) with
      | none => rw [z] at ht; cases ht
      | some b =>
        rw [z] at ht
        cases ht
        obtain ⟨hb, pre, suf, hab, hpre⟩ := List.find?_eq_some_iff_append.mp z
        have hb := eq_of_beq hb
        have hbm : b ∈ hh := by rw [hab]; exact List.mem_append_right _ List.mem_cons_self
        obtain ⟨b1, b2, b3⟩ := hk.1 b hbm
        have hlt : ∀ a ∈ pre, a.2.2.2 < b.2.2.2 := by
          have h5 := hk.2
          rw [hab] at h5
          intro a ha
          exact (List.pairwise_append.mp h5).2.2 a ha b List.mem_cons_self
        have hcl : ∀ nm i, Cond.classLink (fC 9) i nm ∈ TBg → (Cond.classLink (fC (mdO d)) i nm).before (As.map (tr ad)).toArray s = true := by
          intro nm i h
          rw [hO]
          exact hB _ (List.mem_cons_of_mem _ h)
        refine ⟨pre.map (fun q => ⟨q.1, q.2.1, q.2.2.1, q.2.2.2⟩), ⟨b.1, b.2.1, b.2.2.1, b.2.2.2⟩, suf.map (fun q => ⟨q.1, q.2.1, q.2.2.1, q.2.2.2⟩), E, ?_, fun y hy => ?_, ?_, ?_, ?_, ?_, rfl⟩
        · rw [htab, hab]
          show List.map _ (pre ++ b :: suf) = _
          rw [List.map_append, List.map_cons]
        · obtain ⟨a, ha, rfl⟩ := List.mem_map.mp hy
          have h6 := hlt a ha
          have ham : a ∈ hh := by rw [hab]; exact List.mem_append_left _ ha
          obtain ⟨a1, a2, a3⟩ := hk.1 a ham
          refine Or.inr ⟨show a.2.2.2 ≠ 0 by omega, ?_⟩
          show ∃ nm, (Cond.classLink (fC (mdO d)) a.2.2.2 nm).before (As.map (tr ad)).toArray s = true ∧ va_Nc E nm s
          rcases a3 with a3 | a3 | a3
          · rw [a3]
            refine ⟨xIO, hcl _ _ cl_75, ?_⟩
            rcases b3 with b3 | b3 | b3
            · omega
            · rw [ctN_78 (E := E) (by omega)]
              exact hU.2.1 (xIA, xIO) (by unfold xNc; simp [xIA, xIO])
            · rw [ctN_80 (E := E) (by omega)]
              exact hU.2.1 (xIS, xIO) (by unfold xNc; simp [xIS, xIO])
          · rw [a3]
            refine ⟨xIA, hcl _ _ cl_78, ?_⟩
            rw [ctN_80 (E := E) (by omega)]
            exact hU.2.1 (xIS, xIA) (by unfold xNc; simp [xIS, xIA])
          · omega
        · show (decide (b.1 ≤ pc) && decide (pc < b.2.1)) = true
          rw [b1, b2, decide_eq_true (Nat.zero_le _), decide_eq_true (by omega)]
          rfl
        · show b.2.2.2 ≠ 0
          omega
        · show (Cond.classLink (fC (mdO d)) b.2.2.2 E).before (As.map (tr ad)).toArray s = true
          rcases b3 with b3 | b3 | b3
          · rw [b3, ctN_75 (E := E) (by omega)]
            exact hcl _ _ cl_75
          · rw [b3, ctN_78 (E := E) (by omega)]
            exact hcl _ _ cl_78
          · rw [b3, ctN_80 (E := E) (by omega)]
            exact hcl _ _ cl_80
        · rcases b3 with b3 | b3 | b3
          · rw [ctN_75 (E := E) (by omega)]
            exact va_Nw.use (xW_onT _ ca_75) (hU.1 _ ca_75)
          · rw [ctN_78 (E := E) (by omega)]
            exact va_Nw.use (xW_onT _ ca_78) (hU.1 _ ca_78)
          · rw [ctN_80 (E := E) (by omega)]
            exact va_Nw.use (xW_onT _ ca_80) (hU.1 _ ca_80)
theorem vp01 : vp_in (0 : Int32) 1 := vp_in_nI (show 0 < 1 by decide) (by decide)
