/-! the script, the law's end -/
section LEnd
variable {d : pD} {pc idx : Nat} {L : List (Nat × Value)} {st : List Value} {M : pM} {bc bs N : Nat} {xs : Nat → Int32} {p : Program} {l : Launch} {e : Env} {s : State} {m : MethodId} {args : Array Value} {below : List Frame} {meth : Method} {c : Code} {G : gT} {ad0 : Nat → Nat} {M0 : pM} {A : Nat → Prop} {Z : State → Prop}
/-- the script stands and is none of ours -/
def SC (N : Nat) (xs : Nat → Int32) (s : State) (G : gT) (A : Nat → Prop) : Prop := va_X (G.2.2 150) N xs s s.heap ∧ G.2.2 150 < s.heap.size ∧ ¬ A (G.2.2 150)
theorem q_slen (F : SC N xs s G A) (hd : decode (mdB d) pc = .ok (.arraylength, 1)) (k : WLs p l e s m args below meth c G ad0 M0 A Z d (pc + 1) L (.int (nI N) :: st) M bc bs) : WLs p l e s m args below meth c G ad0 M0 A Z d pc L (.ref 1150 :: st) M bc bs := by
  intro ad H locs ls cells slots X
  have h1 : ad 1150 = G.2.2 150 := adK_of X (k := 150) (by decide)
  show W p l e (mdM d) s m args below meth c H locs cells slots Z (F0 m pc ls (.ref (ad 1150) :: st.map (tr ad)))
  rw [h1]
  exact va_slen X.1.1 X.1.2.1 F.1 F.2.1 F.2.2 X.2.2.2.2.2.2.2.2.1 hd (k ad H locs ls cells slots X)
theorem q_sld (F : SC N xs s G A) {i : Int32} (hin : vp_in i N) (hd : decode (mdB d) pc = .ok (.iaload, 1)) (k : WLs p l e s m args below meth c G ad0 M0 A Z d (pc + 1) L (.int (xs i.toNatClampNeg) :: st) M bc bs) : WLs p l e s m args below meth c G ad0 M0 A Z d pc L (.int i :: .ref 1150 :: st) M bc bs := by
  intro ad H locs ls cells slots X
  have h1 : ad 1150 = G.2.2 150 := adK_of X (k := 150) (by decide)
  show W p l e (mdM d) s m args below meth c H locs cells slots Z (F0 m pc ls (.int i :: .ref (ad 1150) :: st.map (tr ad)))
  rw [h1]
  exact va_sld X.1.1 X.1.2.1 F.1 F.2.1 F.2.2 X.2.2.2.2.2.2.2.2.1 hin hd (k ad H locs ls cells slots X)
end LEnd
/-- the law: its words are the table's -/
abbrev mL_law : pD := (yL_law, code, 7, ret, 9, room_1, 1, Cond.initialized RL, fun _ _ => none)
theorem q_end {pc : Nat} {L : List (Nat × Value)} {M : pM} {bc bs : Nat} {p : Program} {l : Launch} {e : Env} {s : State} {m : MethodId} {b : Nat} {below : List Frame} {meth : Method} {c : Code} {G : gT} {ad0 : Nat → Nat} {M0 : pM} (hd : decode code pc = .ok (.ireturn, 1)) : WLs p l e s m #[Value.ref b] below meth c G ad0 M0 (fun q => s.heap.size ≤ q) (lw_Z below #[Value.ref b] s) mL_law pc L [.int 1] M bc bs := by
  intro ad H locs ls cells slots X
  exact va_forget (fun q hq => X.2.2.2.2.2.2.2.2.1.2.2 q hq) (W.widen (k := 601024) (n := 7293033) (by have : cells + bc ≤ 601024 := X.2.2.2.2.1; omega) (by have : slots + bs ≤ 7293033 := X.2.2.2.2.2.1; omega) (lw_ret X.1.1 X.1.2.1 X.1.2.2.1 X.1.2.2.2.2.2.2.2.1 hd))
