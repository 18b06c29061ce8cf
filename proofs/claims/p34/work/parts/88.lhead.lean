/-! conditions for the law's own methods -/
abbrev dW (q : HS) (h : Nat) (a b c d e : Int32) : Int32 := dv (opK q a b c d e h) (opX q a b c d e h)
/-- the memory's shape: a hall at b -/
def okT (T : pT) (b : Nat) : Prop := ∀ V : Mem, hallT (T, V) b ∧ refsOK (T, V) ∧ pN (T, V) ≤ 1000
/-- one hall's method: the rest is X -/
def P1 (T : pT) (b : Nat) (X : Mem) (q : HS) (B : pM) : Prop := B.1 = T ∧ (∀ i, ¬ (b ≤ i ∧ i < b + 405) → pV B i = X i) ∧ clH (wn B b) q
/-- a method of both -/
def P2 (T : pT) (X : Mem) (q : HS × HS) (B : pM) : Prop := B.1 = T ∧ (∀ i, 810 ≤ i → pV B i = X i) ∧ clH (wn B 0) q.1 ∧ clH (wn B 405) q.2
theorem okT_B {T : pT} {b : Nat} (h : okT T b) {B : pM} (e : B.1 = T) : hallT B b ∧ refsOK B ∧ pN B ≤ 1000 := by
  obtain ⟨T', V⟩ := B
  dsimp only at e
  subst e
  exact h V
theorem P1_use {T : pT} {b : Nat} {X : Mem} {q : HS} (h : okT T b) : useH (P1 T b X) q b q := fun B hB => by
  obtain ⟨h1, h2, h3⟩ := okT_B h hB.1
  exact ⟨h1, h2, h3, hB.2.2⟩
theorem P1_next {T : pT} {b : Nat} {X : Mem} {q q' : HS} : nextH (P1 T b X) q q' b q' := fun B B' hB hk hq => ⟨hk.1.trans hB.1, fun i hi => (hk.2 i hi).trans (hB.2.1 i hi), hq⟩
theorem PX_use {T : pT} {b : Nat} {X : Mem} {q : HS} (h : okT T b) : useH (fun X B => P1 T b X q B) X b q := fun B hB => P1_use h B hB
theorem PX_next {T : pT} {b : Nat} {X : Mem} {q : HS} : nextH (fun X B => P1 T b X q B) X X b q := fun B B' hB hk hq => P1_next B B' hB hk hq
theorem wn_keep {B B' : pM} {b b' : Nat} {q : HS} (G : GdH q) (hk : keepW B B' b) (hd : b' + 405 ≤ b ∨ b + 405 ≤ b') (h : clH (wn B b') q) : clH (wn B' b') q := clH_lo G h (fun x hx => hk.2 (b' + x) (by omega))
theorem P2_use0 {T : pT} {X : Mem} {q0 q1 : HS} (h : okT T 0) : useH (P2 T X) (q0, q1) 0 q0 := fun B hB => by
  obtain ⟨h1, h2, h3⟩ := okT_B h hB.1
  exact ⟨h1, h2, h3, hB.2.2.1⟩
theorem P2_use4 {T : pT} {X : Mem} {q0 q1 : HS} (h : okT T 405) : useH (P2 T X) (q0, q1) 405 q1 := fun B hB => by
  obtain ⟨h1, h2, h3⟩ := okT_B h hB.1
  exact ⟨h1, h2, h3, hB.2.2.2⟩
theorem P2_next0 {T : pT} {X : Mem} {q0 q1 q' : HS} (G : GdH q1) : nextH (P2 T X) (q0, q1) (q', q1) 0 q' := fun B B' hB hk hq => ⟨hk.1.trans hB.1, fun i hi => (hk.2 i (by omega)).trans (hB.2.1 i hi), hq, wn_keep G hk (by omega) hB.2.2.2⟩
theorem P2_next4 {T : pT} {X : Mem} {q0 q1 q' : HS} (G : GdH q0) : nextH (P2 T X) (q0, q1) (q0, q') 405 q' := fun B B' hB hk hq => ⟨hk.1.trans hB.1, fun i hi => (hk.2 i (by omega)).trans (hB.2.1 i hi), wn_keep G hk (by omega) hB.2.2.1, hq⟩
/-- an array of eight beside the hall -/
def arX (T : pT) (b a : Nat) : Prop := ∀ V : Mem, a < pN (T, V) ∧ pK (T, V) a = 9 ∧ pL (T, V) a = 8 ∧ ¬ (b ≤ a ∧ a < b + 405)
section ArX
variable {d : pD} {R : Int32 → Mem → Prop} {pc : Nat} {L : List (Nat × Value)} {st : List Value} {nb : Nat} {T : pT} {b a : Nat} {q : HS} {X : Mem}
theorem arX_B (h : arX T b a) {B : pM} (e : B.1 = T) : a < pN B ∧ pK B a = 9 ∧ pL B a = 8 ∧ ¬ (b ≤ a ∧ a < b + 405) := by
  obtain ⟨T', V⟩ := B
  dsimp only at e
  subst e
  exact h V
theorem g_ialdX {i : Int32} (ha : arX T b a) (hd : decode (mdB d) pc = .ok (.iaload, 1)) (hi : vp_in i 8) (kk : WG d (fun X B => P1 T b X q B) R (pc + 1) L (.int (X a i.toNatClampNeg) :: st) X nb) : WG d (fun X B => P1 T b X q B) R pc L (.int i :: .ref a :: st) X nb := by
  intro B hB
  obtain ⟨h1, h2, h3, h4⟩ := arX_B ha hB.1
  have k := kk B hB
  rw [← hB.2.1 a h4] at k
  exact s_iald hd h1 h2 (by rw [h3]; exact hi) k
theorem g_iastX {i x : Int32} (G : GdH q) (ha : arX T b a) (hd : decode (mdB d) pc = .ok (.iastore, 1)) (hi : vp_in i 8) (kk : WG d (fun X B => P1 T b X q B) R (pc + 1) L st (up2 X a i.toNatClampNeg x) nb) : WG d (fun X B => P1 T b X q B) R pc L (.int x :: .int i :: .ref a :: st) X nb := by
  intro B hB
  obtain ⟨h1, h2, h3, h4⟩ := arX_B ha hB.1
  refine s_iast hd h1 h2 (by rw [h3]; exact hi) (kk _ ⟨hB.1, fun y hy => ?_, ?_⟩)
  · show up2 B.2 a i.toNatClampNeg x y = up2 X a i.toNatClampNeg x y
    funext j
    rw [up2_rw, up2_rw, show B.2 y = X y from hB.2.1 y hy]
  · exact clH_lo G hB.2.2 (fun x hx => up2_off B.2 i.toNatClampNeg _ (by omega))
end ArX
