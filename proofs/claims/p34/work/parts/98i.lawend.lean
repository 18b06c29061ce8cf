/-! the law: its words are the table's; its end -/
abbrev mL_law : pD := (yL_law, code, 7, ret, 9, room_1, 1, Cond.initialized RL, fun _ _ => none)
theorem q_end {pc : Nat} {L : List (Nat × Value)} {M : pM} {bc bs : Nat} {p : Program} {l : Launch} {e : Env} {s : State} {m : MethodId} {b : Nat} {below : List Frame} {meth : Method} {c : Code} {G : gT} {ad0 : Nat → Nat} {M0 : pM} (hd : decode code pc = .ok (.ireturn, 1)) : WLs p l e s m #[Value.ref b] below meth c G ad0 M0 (fun q => s.heap.size ≤ q) (lw_Z below #[Value.ref b] s) mL_law pc L [.int 1] M bc bs := by
  intro ad H locs ls cells slots X
  exact va_forget (fun q hq => X.2.2.2.2.2.2.2.2.1.2.2 q hq) (W.widen (k := 677997) (n := 7067706) (by have : cells + bc ≤ 677997 := X.2.2.2.2.1; omega) (by have : slots + bs ≤ 7067706 := X.2.2.2.2.2.1; omega) (lw_ret X.1.1 X.1.2.1 X.1.2.2.1 X.1.2.2.2.2.2.2.2.1 hd))
def okR (n : Nat) (v : Value) : Bool := match v with
  | .ref k => decide (k < n) || decide (1000 ≤ k)
  | _ => true
theorem rOK_b {L : List (Nat × Value)} {st : List Value} {n n' : Nat} (h1 : (L.all fun r => okR n r.2) = true) (h2 : st.all (okR n) = true) (hn : n' ≤ 1000) : rOK L st n n' := by
  have key : ∀ k : Nat, okR n (.ref k) = true → k < n ∨ n' ≤ k := by
    intro k h
    have h : (decide (k < n) || decide (1000 ≤ k)) = true := h
    simp only [Bool.or_eq_true, decide_eq_true_eq] at h
    omega
  intro k hk
  rcases hk with ⟨i, hi⟩ | hi
  · exact key k (List.all_eq_true.mp h1 _ hi)
  · exact key k (List.all_eq_true.mp h2 _ hi)
/-- in the law, once both halls stand -/
theorem rOK_8 {L : List (Nat × Value)} {st : List Value} {n n' : Nat} (h1 : (L.all fun r => okR 810 r.2) = true) (h2 : st.all (okR 810) = true) (hn : 810 ≤ n) (hn' : n' ≤ 1000) : rOK L st n n' := by
  intro k hk
  rcases rOK_b h1 h2 hn' k hk with h | h
  · exact Or.inl (Nat.lt_of_lt_of_le h hn)
  · exact Or.inr h
