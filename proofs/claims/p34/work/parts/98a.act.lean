/-! what the law's 'act' does: one call, by its word alone; both halls alike -/
def stO (h : Nat) : Prop := h ≤ 8 ∨ (24 ≤ h ∧ h ≤ 28)
def acts (F : HS → (Int32 → HS → Prop) → Prop) : Prop := ∃ (h : Nat) (a b c d e : Int32), stO h ∧ ∀ q R, R (dW q h a b c d e) (opN q a b c d e h) → F q R
theorem acts_if {c : Prop} {F G : HS → (Int32 → HS → Prop) → Prop} (h1 : c → acts F) (h2 : ¬ c → acts G) : acts (fun q R => (c → F q R) ∧ (¬ c → G q R)) := by
  by_cases z : c
  · obtain ⟨h, a, b, c1, d, e, hs, hh⟩ := h1 z
    exact ⟨h, a, b, c1, d, e, hs, fun q R hR => ⟨fun _ => hh q R hR, fun y => (y z).elim⟩⟩
  · obtain ⟨h, a, b, c1, d, e, hs, hh⟩ := h2 z
    exact ⟨h, a, b, c1, d, e, hs, fun q R hR => ⟨fun y => (z y).elim, fun _ => hh q R hR⟩⟩
theorem acts_ifn {c : Prop} {F G : HS → (Int32 → HS → Prop) → Prop} (h1 : ¬ c → acts F) (h2 : c → acts G) : acts (fun q R => (¬ c → F q R) ∧ (c → G q R)) := by
  by_cases z : c
  · obtain ⟨h, a, b, c1, d, e, hs, hh⟩ := h2 z
    exact ⟨h, a, b, c1, d, e, hs, fun q R hR => ⟨fun y => (y z).elim, fun _ => hh q R hR⟩⟩
  · obtain ⟨h, a, b, c1, d, e, hs, hh⟩ := h1 z
    exact ⟨h, a, b, c1, d, e, hs, fun q R hR => ⟨fun _ => hh q R hR, fun y => (z y).elim⟩⟩
theorem acts_and {p : Prop} {F : HS → (Int32 → HS → Prop) → Prop} (hp : p) (h : acts F) : acts (fun q R => p ∧ F q R) := by
  obtain ⟨h, a, b, c1, d, e, hs, hh⟩ := h
  exact ⟨h, a, b, c1, d, e, hs, fun q R hR => ⟨hp, hh q R hR⟩⟩
theorem acts_leaf (h : Nat) (a b c d e : Int32) (hs : stO h) : acts (fun q R => R (dW q h a b c d e) (opN q a b c d e h)) := ⟨h, a, b, c, d, e, hs, fun _ _ z => z⟩
theorem acts_leaf6 (a b c d e : Int32) : acts (fun q R => R (dW q 6 a b c d e) q) := ⟨6, a, b, c, d, e, by unfold stO; decide, fun _ _ z => z⟩
theorem act_F (v : Int32) : acts (fun q R => lF_act v q 1 R) := by
  unfold lF_act
  refine acts_and (Nat.le_refl 1) ?_
  repeat' (first | exact acts_leaf6 _ _ _ _ _ | exact acts_leaf _ _ _ _ _ _ (by unfold stO; decide) | refine acts_if (fun _ => ?_) (fun _ => ?_) | refine acts_ifn (fun _ => ?_) (fun _ => ?_))
theorem act_ct (v : Int32) : ∃ (h : Nat) (a b c d e : Int32), stO h ∧ ∀ {T : pT} {β m : Nat} {X : Mem} {q : HS} {B : pM}, okT T β → GX m q → m ≤ 1900 → P1 T β X q B → CT mL_act [.ref β, .int v] B (fun r B' => r = some (.int (dW q h a b c d e)) ∧ P1 T β X (opN q a b c d e h) B') NXl := by
  obtain ⟨h, a, b, c, d, e, hs, hh⟩ := act_F v
  refine ⟨h, a, b, c, d, e, hs, fun {T β m X q B} hT G hm hB => ?_⟩
  have hW := lv_act hT (X := X) (v := v) (GX_H G (by omega)) (fun a b c d e h => GX_H (GX_op G a b c d e h) (by omega)) 1 (hh q (fun x s => x = dW q h a b c d e ∧ s = opN q a b c d e h) ⟨rfl, rfl⟩) B hB
  refine ct_mono (ct_of pL_act (fun _ _ => rfl) (show 2 ≤ 9 by decide) hW) (fun r B' hr => ?_) (fun _ _ z => z)
  obtain ⟨x, s, rfl, ⟨rfl, rfl⟩, hP⟩ := hr
  exact ⟨rfl, hP⟩
