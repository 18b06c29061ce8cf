/-! Math.min; the place of what the launch gives-/
theorem adK_of {d : pD} {M : pM} {L : List (Nat × Value)} {bc bs : Nat} {p : Program} {l : Launch} {s : State} {m : MethodId} {args : Array Value} {meth : Method} {c : Code} {G : gT} {ad0 : Nat → Nat} {M0 : pM} {A : Nat → Prop} {ad : Nat → Nat} {H : Heap} {locs : List Loc} {ls : Array Slot} {cells slots : Nat} (X : pAt d p l s m args meth c G ad0 M0 A ad M L bc bs H locs ls cells slots) {k : Nat} (hk : k < 200) : ad (1000 + k) = G.2.2 k := by
  have h2 := X.2.2.1
  rw [X.2.2.2.1 _ (Or.inr (by omega))]
  exact X.1.2.2.2.2.2.2.2.2.2.2.1 k hk
section Mmin
variable {d : pD} {Qr : Option Value → pM → Prop} {Qx : String → pM → Prop} {pc idx : Nat} {L : List (Nat × Value)} {st : List Value} {M : pM} {bc bs : Nat}
theorem s_mmin {x y : Int32} (hl : Cond.methodLink (fC (mdO d)) idx Lib.Math.min.name ∈ TBg) (h2 : Cond.static Lib.Math.min.name ∈ TBg) (h3 : Cond.initialized "java/lang/Math" ∈ TBg) (h4 : Cond.code Lib.Math.min.name Lib.Math.min.code 2 (some .int) ∈ TBg) (hd : decode (mdB d) pc = .ok (.invokestatic idx, 3)) (hst : (st.map fun v => v.category).sum ≤ 8) (hf : 1 ≤ (mdM d).frames) (hlo : 21 ≤ (mdM d).locals)
    (k : WPs d Qr Qx (pc + 3) L (.int (if y < x then y else x) :: st) M bc bs) : WPs d Qr Qx pc L (.int y :: .int x :: st) M bc bs := by
  intro p l e s m args below meth c G ad0 M0 A ad H locs ls cells slots X
  obtain ⟨c1, c2, c3, c4, c5, c6, c7, c8, c9, c10, c11, c12, c13, c14, c15⟩ := id X.1
  have hcat : ((st.map (tr ad)).map fun v => v.category).sum ≤ 8 := by
    rw [List.map_map, show ((fun v : Value => v.category) ∘ tr ad) = (fun v => v.category) from funext (tr_cat ad)]
    exact hst
  exact va_mmin c1 c2 (by rw [c4]; exact X.2.2.2.2.2.2.2.2.2.1.symm) c5 (c6 _ (List.mem_cons_of_mem _ hl)) (c6 _ (List.mem_cons_of_mem _ h2)) (c6 _ (List.mem_cons_of_mem _ h3)) (c6 _ (List.mem_cons_of_mem _ h4)) hf (by omega) (by have := X.2.2.2.2.1; omega) (by have := X.2.2.2.2.2.1; omega) hd (k p l e s m args below meth c G ad0 M0 A ad H locs ls cells slots X)
end Mmin
