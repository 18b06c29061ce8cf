/-! two halls in one state answer alike -/
theorem nI_inc (k : Nat) : nI k + 1 = nI (k + 1) := (Int32.ofNat_add k 1).symm
theorem alike_2 {v : Int32} {q : HS} {R : Int32 → HS × HS → Prop} (hR : R 1 (q, q)) (n : Nat) (hn : 342 ≤ n) : lF_areAlike_287 v q q 1 0 n R := by
  refine ⟨fun m x3 x4 => x3 = 1 ∧ ∃ k, k ≤ 56 ∧ x4 = nI k ∧ 6 * (56 - k) + 6 ≤ m, ⟨n, Nat.le_refl _, rfl, 0, by omega, rfl, by omega⟩, ?_⟩
  rintro m x3 x4 ⟨rfl, k, hk, rfl, hm⟩
  refine ⟨by omega, fun _ => ⟨Or.inr rfl, hR⟩, fun c => ⟨fun z => absurd z (by decide), fun _ => ⟨fun z => absurd rfl z, fun _ => ⟨fun z => absurd rfl z, fun _ => ⟨fun z => absurd rfl z, fun _ => ⟨Nat.zero_le _, ?_⟩⟩⟩⟩⟩⟩
  have c2 : k < 56 := lpL (n := 56) (by omega) hk c
  exact ⟨m - 6, Nat.le_refl _, by omega, rfl, k + 1, by omega, nI_inc k, by omega⟩
theorem alike_F {v : Int32} {q : HS} {R : Int32 → HS × HS → Prop} (hR : R 1 (q, q)) : lF_areAlike v q q 640 R := by
  refine ⟨Nat.zero_le _, fun m x3 x4 => x3 = 1 ∧ ∃ k, k ≤ 20 ∧ x4 = nI k ∧ 14 * (20 - k) + 342 ≤ m, ⟨640, Nat.le_refl _, rfl, 0, by omega, rfl, by omega⟩, ?_⟩
  rintro m x3 x4 ⟨rfl, k, hk, rfl, hm⟩
  refine ⟨by omega, fun _ => ⟨Nat.zero_le _, alike_2 hR m (by omega)⟩, fun c => ⟨fun z => absurd z (by decide), fun _ => ⟨fun z => absurd rfl z, fun _ => ⟨fun z => absurd rfl z, fun _ => ⟨fun z => absurd rfl z, fun _ => ⟨fun z => absurd rfl z, fun _ => ?_⟩⟩⟩⟩⟩⟩
  have c2 : k < 20 := lpL (n := 20) (by omega) hk c
  refine ⟨by omega, fun z => absurd z (by decide), fun _ => ⟨fun z => absurd rfl z, fun _ => ⟨fun z => absurd rfl z, fun _ => ⟨fun z => absurd rfl z, fun _ => ⟨Nat.zero_le _, ?_⟩⟩⟩⟩⟩
  exact ⟨m - 8 - 6, Nat.le_refl _, by omega, rfl, k + 1, by omega, nI_inc k, by omega⟩
theorem alike_ct {T : pT} {X : Mem} {q : HS} {B : pM} (v : Int32) (hT : okT T 0) (hT4 : okT T 405) (G : GdH q) (hB : P2 T X (q, q) B) : CT mL_areAlike [.ref 0, .ref 405, .int v] B (fun r B' => r = some (.int 1) ∧ P2 T X (q, q) B') NXl := by
  have hW := lv_areAlike hT hT4 (v := v) G G (X := X) 640 (alike_F (R := fun x s => x = 1 ∧ s = (q, q)) ⟨rfl, rfl⟩) B hB
  refine ct_mono (ct_of pL_areAlike (fun _ _ => rfl) (show 3 ≤ 6 by decide) hW) (fun r B' hr => ?_) (fun _ _ z => z)
  obtain ⟨x, s, rfl, ⟨rfl, rfl⟩, hP⟩ := hr
  exact ⟨rfl, hP⟩
