def vP1 (a i : Nat) (x : Int32) (V : Nat → Nat → Int32) : Nat → Nat → Int32 := fun c b => if c = a ∧ b < i then x else V c b
def vP3 (a i : Nat) (x : Int32) (V : Nat → Nat → Int32) : Nat → Nat → Int32 := fun c b => if (a ≤ c ∧ c < a + 3) ∧ b < i then x else V c b
theorem vP1_0 (a : Nat) (x : Int32) (V : Nat → Nat → Int32) : vP1 a 0 x V = V := by
  funext c b
  exact if_neg (by omega)
theorem vP3_0 (a : Nat) (x : Int32) (V : Nat → Nat → Int32) : vP3 a 0 x V = V := by
  funext c b
  exact if_neg (by omega)
theorem vP1_s (a i : Nat) (x : Int32) (V : Nat → Nat → Int32) : up2 (vP1 a i x V) a i x = vP1 a (i + 1) x V := by
  funext c b
  unfold up2 vP1
  by_cases e : c = a ∧ b = i
  · rw [if_pos e, if_pos (by omega)]
  · rw [if_neg e]
    by_cases e2 : c = a ∧ b < i
    · rw [if_pos e2, if_pos (by omega)]
    · rw [if_neg e2, if_neg (by omega)]
theorem vP3_s (a i : Nat) (x : Int32) (V : Nat → Nat → Int32) : up2 (up2 (up2 (vP3 a i x V) a i x) (a + 1) i x) (a + 2) i x = vP3 a (i + 1) x V := by
  funext c b
  unfold up2 vP3
  by_cases e : (a ≤ c ∧ c < a + 3) ∧ b < i + 1
  · rw [if_pos e]
    repeat' split
    all_goals first | rfl | omega
  · rw [if_neg e, if_neg (by omega), if_neg (by omega), if_neg (by omega), if_neg (by omega)]
theorem nI_s (i : Nat) : nI i + Int32.ofInt 1 = nI (i + 1) := (Int32.ofNat_add i 1).symm
section Fill
variable {d : pD} {Qr : Option Value → pM → Prop} {Qx : String → pM → Prop} {p0 pe i1 i2 i3 h a ci j N n bc bs : Nat} {x : Int32} {o1 o2 : Int} {R : Nat → Nat → Option Nat} {V : Nat → Nat → Int32}
theorem l_fill1 (hN : nI N = Int32.ofInt N) (hN2 : N < 1000) (b1 : decode (mdB d) p0 = .ok (.iload_n 1, 1)) (b2 : ∀ {L : List (Nat × Value)} {st : List Value} {M : pM}, WPs d Qr Qx (p0 + 3) L (.int (nI N) :: st) M bc bs → WPs d Qr Qx (p0 + 1) L st M bc bs) (b3 : decode (mdB d) (p0 + 3) = .ok (.if_icmp .ge o1, 3)) (t1 : ((p0 + 3 : Nat) : Int) + o1 = (pe : Int))
    (b4 : decode (mdB d) (p0 + 6) = .ok (.aload_n 0, 1)) (b5 : decode (mdB d) (p0 + 7) = .ok (.getfield i1, 3)) (b6 : decode (mdB d) (p0 + 10) = .ok (.iload_n 1, 1)) (b7 : ∀ {L : List (Nat × Value)} {st : List Value} {M : pM}, WPs d Qr Qx (p0 + 14) L (.int x :: st) M bc bs → WPs d Qr Qx (p0 + 11) L st M bc bs) (b8 : decode (mdB d) (p0 + 14) = .ok (.iastore, 1)) (b9 : decode (mdB d) (p0 + 15) = .ok (.iinc 1 1, 3)) (b10 : decode (mdB d) (p0 + 18) = .ok (.goto o2, 3)) (t2 : ((p0 + 18 : Nat) : Int) + o2 = (p0 : Int))
    (hl : 1 < mdL d) (hh : h < n) (hk : K0 h = ci) (hf : fldP (mdO d) i1 ci j 0) (ht : isRT (fT ci j) = true) (hR : R h j = some a) (ha : a < n) (hka : K0 a = 9) (hLa : L0 a = N)
    (k : WPs d Qr Qx pe [(1, .int (nI N)), (0, .ref h)] [] (Mx R n (vP1 a N x V)) bc bs) : ∀ m i, i + m = N → WPs d Qr Qx p0 [(1, .int (nI i)), (0, .ref h)] [] (Mx R n (vP1 a i x V)) bc bs
  | 0, i, e => by
    have e' : i = N := by omega
    subst e'
    exact s_iload_n b1 rfl (b2 (s_icmp_ge b3 t1 (fun _ => k) (fun c => (c ((i_le _ _).mpr (Int.le_refl _))).elim)))
  | m + 1, i, e => by
    have hi : i < N := by omega
    have c1 : ¬ nI N ≤ nI i := by rw [cle (by omega) (by omega)]; omega
    refine s_iload_n b1 rfl (b2 (s_icmp_ge b3 t1 (fun c => (c1 c).elim) (fun _ => s_aload_n (x := h) b4 rfl (s_getR hf b5 hh hk ht hR (s_iload_n (x := nI i) b6 rfl (b7 (s_iast b8 ha hka ?_ ?_)))))))
    · show vp_in (nI i) (L0 a)
      rw [hLa]
      exact vp_in_nI hi (by omega)
    · rw [ccl (by omega)]
      show WPs d Qr Qx (p0 + 14 + 1) _ _ (Mx R n (up2 (vP1 a i x V) a i x)) bc bs
      rw [vP1_s]
      exact s_iinc (x := nI i) b9 rfl (nI_s i) hl (s_goto b10 t2 (l_fill1 hN hN2 b1 b2 b3 t1 b4 b5 b6 b7 b8 b9 b10 t2 hl hh hk hf ht hR ha hka hLa k m (i + 1) (by omega)))
theorem l_fill3 {j2 j3 : Nat} (hN : nI N = Int32.ofInt N) (hN2 : N < 1000) (b1 : decode (mdB d) p0 = .ok (.iload_n 1, 1)) (b2 : ∀ {L : List (Nat × Value)} {st : List Value} {M : pM}, WPs d Qr Qx (p0 + 3) L (.int (nI N) :: st) M bc bs → WPs d Qr Qx (p0 + 1) L st M bc bs) (b3 : decode (mdB d) (p0 + 3) = .ok (.if_icmp .ge o1, 3)) (t1 : ((p0 + 3 : Nat) : Int) + o1 = (pe : Int))
    (b4 : decode (mdB d) (p0 + 6) = .ok (.aload_n 0, 1)) (b5 : decode (mdB d) (p0 + 7) = .ok (.getfield i1, 3)) (b6 : decode (mdB d) (p0 + 10) = .ok (.iload_n 1, 1)) (b7 : decode (mdB d) (p0 + 11) = .ok (.iconst (-1), 1)) (b8 : decode (mdB d) (p0 + 12) = .ok (.iastore, 1))
    (e4 : decode (mdB d) (p0 + 13) = .ok (.aload_n 0, 1)) (e5 : decode (mdB d) (p0 + 14) = .ok (.getfield i2, 3)) (e6 : decode (mdB d) (p0 + 17) = .ok (.iload_n 1, 1)) (e7 : decode (mdB d) (p0 + 18) = .ok (.iconst (-1), 1)) (e8 : decode (mdB d) (p0 + 19) = .ok (.iastore, 1))
    (g4 : decode (mdB d) (p0 + 20) = .ok (.aload_n 0, 1)) (g5 : decode (mdB d) (p0 + 21) = .ok (.getfield i3, 3)) (g6 : decode (mdB d) (p0 + 24) = .ok (.iload_n 1, 1)) (g7 : decode (mdB d) (p0 + 25) = .ok (.iconst (-1), 1)) (g8 : decode (mdB d) (p0 + 26) = .ok (.iastore, 1)) (b9 : decode (mdB d) (p0 + 27) = .ok (.iinc 1 1, 3)) (b10 : decode (mdB d) (p0 + 30) = .ok (.goto o2, 3)) (t2 : ((p0 + 30 : Nat) : Int) + o2 = (p0 : Int))
    (hl : 1 < mdL d) (hh : h < n) (hk : K0 h = ci) (hf : fldP (mdO d) i1 ci j 0) (ht : isRT (fT ci j) = true) (hR : R h j = some a) (hf2 : fldP (mdO d) i2 ci j2 0) (ht2 : isRT (fT ci j2) = true) (hR2 : R h j2 = some (a + 1)) (hf3 : fldP (mdO d) i3 ci j3 0) (ht3 : isRT (fT ci j3) = true) (hR3 : R h j3 = some (a + 2)) (ha : a + 2 < n) (hka : ∀ z, z < 3 → K0 (a + z) = 9 ∧ L0 (a + z) = N)
    (k : WPs d Qr Qx pe [(1, .int (nI N)), (0, .ref h)] [] (Mx R n (vP3 a N (-1) V)) bc bs) : ∀ m i, i + m = N → WPs d Qr Qx p0 [(1, .int (nI i)), (0, .ref h)] [] (Mx R n (vP3 a i (-1) V)) bc bs
  | 0, i, e => by
    have e' : i = N := by omega
    subst e'
    exact s_iload_n b1 rfl (b2 (s_icmp_ge b3 t1 (fun _ => k) (fun c => (c ((i_le _ _).mpr (Int.le_refl _))).elim)))
  | m + 1, i, e => by
    have hi : i < N := by omega
    have c1 : ¬ nI N ≤ nI i := by rw [cle (by omega) (by omega)]; omega
    refine s_iload_n b1 rfl (b2 (s_icmp_ge b3 t1 (fun c => (c1 c).elim) (fun _ => s_aload_n (x := h) b4 rfl (s_getR hf b5 hh hk ht hR (s_iload_n (x := nI i) b6 rfl (s_iconst (v := -1) b7 rfl (s_iast b8 (show a < n by omega) (hka 0 (by decide)).1 ?_ ?_)))))))
    · show vp_in (nI i) (L0 (a + 0))
      rw [(hka 0 (by decide)).2]
      exact vp_in_nI hi (by omega)
    rw [ccl (by omega)]
    refine s_aload_n (x := h) e4 rfl (s_getR hf2 e5 hh hk ht2 hR2 (s_iload_n (x := nI i) e6 rfl (s_iconst (v := -1) e7 rfl (s_iast e8 (show a + 1 < n by omega) (hka 1 (by decide)).1 ?_ ?_))))
    · show vp_in (nI i) (L0 (a + 1))
      rw [(hka 1 (by decide)).2]
      exact vp_in_nI hi (by omega)
    rw [ccl (by omega)]
    refine s_aload_n (x := h) g4 rfl (s_getR hf3 g5 hh hk ht3 hR3 (s_iload_n (x := nI i) g6 rfl (s_iconst (v := -1) g7 rfl (s_iast g8 (show a + 2 < n by omega) (hka 2 (by decide)).1 ?_ ?_))))
    · show vp_in (nI i) (L0 (a + 2))
      rw [(hka 2 (by decide)).2]
      exact vp_in_nI hi (by omega)
    rw [ccl (by omega)]
    show WPs d Qr Qx (p0 + 26 + 1) _ _ (Mx R n (up2 (up2 (up2 (vP3 a i (-1) V) a i (-1)) (a + 1) i (-1)) (a + 2) i (-1))) bc bs
    rw [vP3_s]
    exact s_iinc (x := nI i) b9 rfl (nI_s i) hl (s_goto b10 t2 (l_fill3 hN hN2 b1 b2 b3 t1 b4 b5 b6 b7 b8 e4 e5 e6 e7 e8 g4 g5 g6 g7 g8 b9 b10 t2 hl hh hk hf ht hR hf2 ht2 hR2 hf3 ht3 hR3 ha hka k m (i + 1) (by omega)))
end Fill
