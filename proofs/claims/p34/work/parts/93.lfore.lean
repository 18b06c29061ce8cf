def lF_isForetold_250 (v : Int32) (x3 : Int32) (x4 : Int32) (x5 : Int32) (x6 : Int32) (x7 : Int32) (x11 : Int32) (s0 : Int32) (q0 : HS) (q1 : HS) (n : Nat) (R : Int32 → HS × HS → Prop) : Prop :=
1 ≤ n ∧
((s0 = 0) →
  R 0 (q0, q1)) ∧
((¬ s0 = 0) →
  ((¬ (dW q1 5 x7 x3 x4 x5 x6) = x11) →
    R 0 (q0, (opN q1 x7 x3 x4 x5 x6 5))) ∧
  (((dW q1 5 x7 x3 x4 x5 x6) = x11) →
    R 1 (q0, (opN q1 x7 x3 x4 x5 x6 5))))
theorem lv_isForetold_250 {T : pT} {X : Mem} (hT : okT T 0) (hT4 : okT T 405) (Gn : ∀ q : HS, GdH q → ∀ a b c d e : Int32, GdH (opN q a b c d e 5)) {v : Int32} {R : Int32 → HS × HS → Prop}  (x3 : Int32) (x4 : Int32) (x5 : Int32) (x6 : Int32) (x7 : Int32) (x11 : Int32) (s0 : Int32) (q0 : HS) (q1 : HS) (g0 : GdH q0) (g1 : GdH q1) (n : Nat) (H : lF_isForetold_250 v  x3 x4 x5 x6 x7 x11 s0 q0 q1 n R) : WG mL_isForetold (P2 T X) R 250 [(1, .ref 405), (3, .int x3), (4, .int x4), (5, .int x5), (6, .int x6), (7, .int x7), (11, .int x11)] [.int s0] (q0, q1) n := by
  unfold lF_isForetold_250 at H
  obtain ⟨hn, H⟩ := H
  refine gt_istore (L' := [(13, .int s0), (1, .ref 405), (3, .int x3), (4, .int x4), (5, .int x5), (6, .int x6), (7, .int x7), (11, .int x11)]) dL_isForetold_250 (by decide) rfl ?_
  refine g_iload dL_isForetold_252 rfl ?_
  refine g_if_eq (tgt := 280) dL_isForetold_254 (by decide) (fun c => ?_) (fun c => ?_)
  · have H := H.1 c
    refine g_iconst (v := 0) dL_isForetold_280 (by decide) ?_
    exact g_iret dL_isForetold_281 (Or.inr ⟨rfl, Or.inl rfl⟩) H
  · have H := H.2 c
    refine g_aload_n dL_isForetold_257 rfl ?_
    refine g_iconst (v := 5) dL_isForetold_258 (by decide) ?_
    refine g_iload dL_isForetold_259 rfl ?_
    refine g_iload_n dL_isForetold_261 rfl ?_
    refine g_iload dL_isForetold_262 rfl ?_
    refine g_iload dL_isForetold_264 rfl ?_
    refine g_iload dL_isForetold_266 rfl ?_
    refine g_does (As := [.ref 405, .int 5, .int x7, .int x3, .int x4, .int x5, .int x6]) (st := []) (q := q1) (q' := (opN q1 x7 x3 x4 x5 x6 5)) (s' := (q0, (opN q1 x7 x3 x4 x5 x6 5))) (k := opK q1 x7 x3 x4 x5 x6 5) (x := opX q1 x7 x3 x4 x5 x6 5) (P2_use4 hT4) (P2_next4 g0) rfl (fun B h1 h2 h3 h4 => ds_5 h1 h2 h3 h4 g1 x7 x3 x4 x5 x6 (Gn q1 g1 x7 x3 x4 x5 x6)) dL_isForetold_268 (by unfold rmP; decide) rfl (Nat.le_of_ble_eq_true rfl) (by omega) ?_
    refine g_iload dL_isForetold_271 rfl ?_
    refine g_icmp_ne (tgt := 280) dL_isForetold_273 (by decide) (fun c => ?_) (fun c => ?_)
    · have H := H.1 c
      refine g_iconst (v := 0) dL_isForetold_280 (by decide) ?_
      exact g_iret dL_isForetold_281 (Or.inr ⟨rfl, Or.inl rfl⟩) H
    · have H := H.2 c
      refine g_iconst (v := 1) dL_isForetold_276 (by decide) ?_
      refine g_goto (tgt := 281) dL_isForetold_277 (by decide) ?_
      exact g_iret dL_isForetold_281 (Or.inr ⟨rfl, Or.inr rfl⟩) H
def lF_isForetold_249 (v : Int32) (x3 : Int32) (x4 : Int32) (x5 : Int32) (x6 : Int32) (x7 : Int32) (x11 : Int32) (q0 : HS) (q1 : HS) (n : Nat) (R : Int32 → HS × HS → Prop) : Prop :=
0 ≤ n ∧
lF_isForetold_250 v  x3 x4 x5 x6 x7 x11 0 q0 q1 n R
theorem lv_isForetold_249 {T : pT} {X : Mem} (hT : okT T 0) (hT4 : okT T 405) (Gn : ∀ q : HS, GdH q → ∀ a b c d e : Int32, GdH (opN q a b c d e 5)) {v : Int32} {R : Int32 → HS × HS → Prop}  (x3 : Int32) (x4 : Int32) (x5 : Int32) (x6 : Int32) (x7 : Int32) (x11 : Int32) (q0 : HS) (q1 : HS) (g0 : GdH q0) (g1 : GdH q1) (n : Nat) (H : lF_isForetold_249 v  x3 x4 x5 x6 x7 x11 q0 q1 n R) : WG mL_isForetold (P2 T X) R 249 [(1, .ref 405), (3, .int x3), (4, .int x4), (5, .int x5), (6, .int x6), (7, .int x7), (11, .int x11)] [] (q0, q1) n := by
  unfold lF_isForetold_249 at H
  obtain ⟨hn, H⟩ := H
  refine g_iconst (v := 0) dL_isForetold_249 (by decide) ?_
  exact g_bud (n' := n) (by omega) (gt_loc [0, 1, 2, 3, 4, 5, 6] rfl (lv_isForetold_250 hT hT4 Gn  x3 x4 x5 x6 x7 x11 0 q0 q1 g0 g1 _ H))
def lF_isForetold_245 (v : Int32) (x3 : Int32) (x4 : Int32) (x5 : Int32) (x6 : Int32) (x7 : Int32) (x11 : Int32) (q0 : HS) (q1 : HS) (n : Nat) (R : Int32 → HS × HS → Prop) : Prop :=
0 ≤ n ∧
lF_isForetold_250 v  x3 x4 x5 x6 x7 x11 1 q0 q1 n R
theorem lv_isForetold_245 {T : pT} {X : Mem} (hT : okT T 0) (hT4 : okT T 405) (Gn : ∀ q : HS, GdH q → ∀ a b c d e : Int32, GdH (opN q a b c d e 5)) {v : Int32} {R : Int32 → HS × HS → Prop}  (x3 : Int32) (x4 : Int32) (x5 : Int32) (x6 : Int32) (x7 : Int32) (x11 : Int32) (q0 : HS) (q1 : HS) (g0 : GdH q0) (g1 : GdH q1) (n : Nat) (H : lF_isForetold_245 v  x3 x4 x5 x6 x7 x11 q0 q1 n R) : WG mL_isForetold (P2 T X) R 245 [(1, .ref 405), (3, .int x3), (4, .int x4), (5, .int x5), (6, .int x6), (7, .int x7), (11, .int x11)] [] (q0, q1) n := by
  unfold lF_isForetold_245 at H
  obtain ⟨hn, H⟩ := H
  refine g_iconst (v := 1) dL_isForetold_245 (by decide) ?_
  refine g_goto (tgt := 250) dL_isForetold_246 (by decide) ?_
  exact g_bud (n' := n) (by omega) (gt_loc [0, 1, 2, 3, 4, 5, 6] rfl (lv_isForetold_250 hT hT4 Gn  x3 x4 x5 x6 x7 x11 1 q0 q1 g0 g1 _ H))
def lF_isForetold_242 (v : Int32) (x3 : Int32) (x4 : Int32) (x5 : Int32) (x6 : Int32) (x7 : Int32) (x11 : Int32) (s0 : Int32) (s1 : Int32) (q0 : HS) (q1 : HS) (n : Nat) (R : Int32 → HS × HS → Prop) : Prop :=
0 ≤ n ∧
((¬ s1 = s0) →
  lF_isForetold_249 v  x3 x4 x5 x6 x7 x11 q0 q1 n R) ∧
((s1 = s0) →
  lF_isForetold_245 v  x3 x4 x5 x6 x7 x11 q0 q1 n R)
theorem lv_isForetold_242 {T : pT} {X : Mem} (hT : okT T 0) (hT4 : okT T 405) (Gn : ∀ q : HS, GdH q → ∀ a b c d e : Int32, GdH (opN q a b c d e 5)) {v : Int32} {R : Int32 → HS × HS → Prop}  (x3 : Int32) (x4 : Int32) (x5 : Int32) (x6 : Int32) (x7 : Int32) (x11 : Int32) (s0 : Int32) (s1 : Int32) (q0 : HS) (q1 : HS) (g0 : GdH q0) (g1 : GdH q1) (n : Nat) (H : lF_isForetold_242 v  x3 x4 x5 x6 x7 x11 s0 s1 q0 q1 n R) : WG mL_isForetold (P2 T X) R 242 [(1, .ref 405), (3, .int x3), (4, .int x4), (5, .int x5), (6, .int x6), (7, .int x7), (11, .int x11)] [.int s0, .int s1] (q0, q1) n := by
  unfold lF_isForetold_242 at H
  obtain ⟨hn, H⟩ := H
  refine g_icmp_ne (tgt := 249) dL_isForetold_242 (by decide) (fun c => ?_) (fun c => ?_)
  · have H := H.1 c
    exact g_bud (n' := n) (by omega) (gt_loc [0, 1, 2, 3, 4, 5, 6] rfl (lv_isForetold_249 hT hT4 Gn  x3 x4 x5 x6 x7 x11 q0 q1 g0 g1 _ H))
  · have H := H.2 c
    exact g_bud (n' := n) (by omega) (gt_loc [0, 1, 2, 3, 4, 5, 6] rfl (lv_isForetold_245 hT hT4 Gn  x3 x4 x5 x6 x7 x11 q0 q1 g0 g1 _ H))
def lF_isForetold_175 (v : Int32) (x3 : Int32) (x4 : Int32) (x5 : Int32) (x6 : Int32) (x7 : Int32) (x10 : Int32) (x11 : Int32) (s0 : Int32) (s1 : Int32) (q0 : HS) (q1 : HS) (n : Nat) (R : Int32 → HS × HS → Prop) : Prop :=
3 ≤ n ∧
((¬ s1 = s0) →
  lF_isForetold_249 v  x3 x4 x5 x6 x7 x11 q0 q1 n R) ∧
((s1 = s0) →
  ((x11 = (-2100000000)) →
    lF_isForetold_245 v  x3 x4 x5 x6 x7 x11 q0 q1 n R) ∧
  ((¬ x11 = (-2100000000)) →
    ((¬ ((dW q0 16 x7 0 0 0 0) - (dW q0 16 ((1 : Int32) - x7) 0 0 0 0)) = (x10 + x11)) →
      lF_isForetold_249 v  x3 x4 x5 x6 x7 x11 q0 q1 (n - 2) R) ∧
    ((((dW q0 16 x7 0 0 0 0) - (dW q0 16 ((1 : Int32) - x7) 0 0 0 0)) = (x10 + x11)) →
      ((x11 ≤ 0) →
        lF_isForetold_242 v  x3 x4 x5 x6 x7 x11 0 (dW q0 18 x7 0 0 0 0) q0 q1 (n - 3) R) ∧
      ((¬ x11 ≤ 0) →
        lF_isForetold_242 v  x3 x4 x5 x6 x7 x11 1 (dW q0 18 x7 0 0 0 0) q0 q1 (n - 3) R))))
theorem lv_isForetold_175 {T : pT} {X : Mem} (hT : okT T 0) (hT4 : okT T 405) (Gn : ∀ q : HS, GdH q → ∀ a b c d e : Int32, GdH (opN q a b c d e 5)) {v : Int32} {R : Int32 → HS × HS → Prop}  (x3 : Int32) (x4 : Int32) (x5 : Int32) (x6 : Int32) (x7 : Int32) (x10 : Int32) (x11 : Int32) (s0 : Int32) (s1 : Int32) (q0 : HS) (q1 : HS) (g0 : GdH q0) (g1 : GdH q1) (n : Nat) (H : lF_isForetold_175 v  x3 x4 x5 x6 x7 x10 x11 s0 s1 q0 q1 n R) : WG mL_isForetold (P2 T X) R 175 [(0, .ref 0), (1, .ref 405), (3, .int x3), (4, .int x4), (5, .int x5), (6, .int x6), (7, .int x7), (10, .int x10), (11, .int x11)] [.int s0, .int s1] (q0, q1) n := by
  unfold lF_isForetold_175 at H
  obtain ⟨hn, H⟩ := H
  refine g_icmp_ne (tgt := 249) dL_isForetold_175 (by decide) (fun c => ?_) (fun c => ?_)
  · have H := H.1 c
    exact g_bud (n' := n) (by omega) (gt_loc [1, 2, 3, 4, 5, 6, 8] rfl (lv_isForetold_249 hT hT4 Gn  x3 x4 x5 x6 x7 x11 q0 q1 g0 g1 _ H))
  · have H := H.2 c
    refine g_iload dL_isForetold_178 rfl ?_
    refine g_ldc (v := (-2100000000)) k_77 dL_isForetold_180 ?_
    refine g_icmp_eq (tgt := 245) dL_isForetold_182 (by decide) (fun c => ?_) (fun c => ?_)
    · have H := H.1 c
      exact g_bud (n' := n) (by omega) (gt_loc [1, 2, 3, 4, 5, 6, 8] rfl (lv_isForetold_245 hT hT4 Gn  x3 x4 x5 x6 x7 x11 q0 q1 g0 g1 _ H))
    · have H := H.2 c
      refine g_aload_n dL_isForetold_185 rfl ?_
      refine g_bipush (v := 16) dL_isForetold_186 (by decide) ?_
      refine g_iload dL_isForetold_188 rfl ?_
      refine g_iconst (v := 0) dL_isForetold_190 (by decide) ?_
      refine g_iconst (v := 0) dL_isForetold_191 (by decide) ?_
      refine g_iconst (v := 0) dL_isForetold_192 (by decide) ?_
      refine g_iconst (v := 0) dL_isForetold_193 (by decide) ?_
      refine g_does (As := [.ref 0, .int 16, .int x7, .int 0, .int 0, .int 0, .int 0]) (st := []) (q := q0) (q' := q0) (s' := (q0, q1)) (k := opK q0 x7 0 0 0 0 16) (x := opX q0 x7 0 0 0 0 16) (P2_use0 hT) (P2_next0 g1) rfl (fun B h1 h2 h3 h4 => ds_16 h1 h2 h3 h4 g0 x7 0 0 0 0 g0) dL_isForetold_194 (by unfold rmP; decide) rfl (Nat.le_of_ble_eq_true rfl) (by omega) ?_
      refine g_aload_n dL_isForetold_197 rfl ?_
      refine g_bipush (v := 16) dL_isForetold_198 (by decide) ?_
      refine g_iconst (v := 1) dL_isForetold_200 (by decide) ?_
      refine g_iload dL_isForetold_201 rfl ?_
      refine g_isub dL_isForetold_203 ?_
      refine g_iconst (v := 0) dL_isForetold_204 (by decide) ?_
      refine g_iconst (v := 0) dL_isForetold_205 (by decide) ?_
      refine g_iconst (v := 0) dL_isForetold_206 (by decide) ?_
      refine g_iconst (v := 0) dL_isForetold_207 (by decide) ?_
      refine g_does (As := [.ref 0, .int 16, .int ((1 : Int32) - x7), .int 0, .int 0, .int 0, .int 0]) (st := [.int (dW q0 16 x7 0 0 0 0)]) (q := q0) (q' := q0) (s' := (q0, q1)) (k := opK q0 ((1 : Int32) - x7) 0 0 0 0 16) (x := opX q0 ((1 : Int32) - x7) 0 0 0 0 16) (P2_use0 hT) (P2_next0 g1) rfl (fun B h1 h2 h3 h4 => ds_16 h1 h2 h3 h4 g0 ((1 : Int32) - x7) 0 0 0 0 g0) dL_isForetold_208 (by unfold rmP; decide) rfl (Nat.le_of_ble_eq_true rfl) (by omega) ?_
      refine g_isub dL_isForetold_211 ?_
      refine g_iload dL_isForetold_212 rfl ?_
      refine g_iload dL_isForetold_214 rfl ?_
      refine g_iadd dL_isForetold_216 ?_
      refine g_icmp_ne (tgt := 249) dL_isForetold_217 (by decide) (fun c => ?_) (fun c => ?_)
      · have H := H.1 c
        exact g_bud (n' := (n - 2)) (by omega) (gt_loc [1, 2, 3, 4, 5, 6, 8] rfl (lv_isForetold_249 hT hT4 Gn  x3 x4 x5 x6 x7 x11 q0 q1 g0 g1 _ H))
      · have H := H.2 c
        refine g_aload_n dL_isForetold_220 rfl ?_
        refine g_bipush (v := 18) dL_isForetold_221 (by decide) ?_
        refine g_iload dL_isForetold_223 rfl ?_
        refine g_iconst (v := 0) dL_isForetold_225 (by decide) ?_
        refine g_iconst (v := 0) dL_isForetold_226 (by decide) ?_
        refine g_iconst (v := 0) dL_isForetold_227 (by decide) ?_
        refine g_iconst (v := 0) dL_isForetold_228 (by decide) ?_
        refine g_does (As := [.ref 0, .int 18, .int x7, .int 0, .int 0, .int 0, .int 0]) (st := []) (q := q0) (q' := q0) (s' := (q0, q1)) (k := opK q0 x7 0 0 0 0 18) (x := opX q0 x7 0 0 0 0 18) (P2_use0 hT) (P2_next0 g1) rfl (fun B h1 h2 h3 h4 => ds_18 h1 h2 h3 h4 g0 x7 0 0 0 0 g0) dL_isForetold_229 (by unfold rmP; decide) rfl (Nat.le_of_ble_eq_true rfl) (by omega) ?_
        refine g_iload dL_isForetold_232 rfl ?_
        refine g_if_le (tgt := 241) dL_isForetold_234 (by decide) (fun c => ?_) (fun c => ?_)
        · have H := H.1 c
          refine g_iconst (v := 0) dL_isForetold_241 (by decide) ?_
          exact g_bud (n' := (n - 3)) (by omega) (gt_loc [1, 2, 3, 4, 5, 6, 8] rfl (lv_isForetold_242 hT hT4 Gn  x3 x4 x5 x6 x7 x11 0 (dW q0 18 x7 0 0 0 0) q0 q1 g0 g1 _ H))
        · have H := H.2 c
          refine g_iconst (v := 1) dL_isForetold_237 (by decide) ?_
          refine g_goto (tgt := 242) dL_isForetold_238 (by decide) ?_
          exact g_bud (n' := (n - 3)) (by omega) (gt_loc [1, 2, 3, 4, 5, 6, 8] rfl (lv_isForetold_242 hT hT4 Gn  x3 x4 x5 x6 x7 x11 1 (dW q0 18 x7 0 0 0 0) q0 q1 g0 g1 _ H))
def lF_isForetold_159 (v : Int32) (x3 : Int32) (x4 : Int32) (x5 : Int32) (x6 : Int32) (x7 : Int32) (x10 : Int32) (x11 : Int32) (s0 : Int32) (q0 : HS) (q1 : HS) (n : Nat) (R : Int32 → HS × HS → Prop) : Prop :=
0 ≤ n ∧
((x11 = (-2100000000)) →
  lF_isForetold_175 v  x3 x4 x5 x6 x7 x10 x11 0 s0 q0 q1 n R) ∧
((¬ x11 = (-2100000000)) →
  lF_isForetold_175 v  x3 x4 x5 x6 x7 x10 x11 1 s0 q0 q1 n R)
theorem lv_isForetold_159 {T : pT} {X : Mem} (hT : okT T 0) (hT4 : okT T 405) (Gn : ∀ q : HS, GdH q → ∀ a b c d e : Int32, GdH (opN q a b c d e 5)) {v : Int32} {R : Int32 → HS × HS → Prop}  (x3 : Int32) (x4 : Int32) (x5 : Int32) (x6 : Int32) (x7 : Int32) (x10 : Int32) (x11 : Int32) (s0 : Int32) (q0 : HS) (q1 : HS) (g0 : GdH q0) (g1 : GdH q1) (n : Nat) (H : lF_isForetold_159 v  x3 x4 x5 x6 x7 x10 x11 s0 q0 q1 n R) : WG mL_isForetold (P2 T X) R 159 [(0, .ref 0), (1, .ref 405), (3, .int x3), (4, .int x4), (5, .int x5), (6, .int x6), (7, .int x7), (10, .int x10), (11, .int x11)] [.int s0] (q0, q1) n := by
  unfold lF_isForetold_159 at H
  obtain ⟨hn, H⟩ := H
  refine gt_istore (L' := [(12, .int s0), (0, .ref 0), (1, .ref 405), (3, .int x3), (4, .int x4), (5, .int x5), (6, .int x6), (7, .int x7), (10, .int x10), (11, .int x11)]) dL_isForetold_159 (by decide) rfl ?_
  refine g_iload dL_isForetold_161 rfl ?_
  refine g_iload dL_isForetold_163 rfl ?_
  refine g_ldc (v := (-2100000000)) k_77 dL_isForetold_165 ?_
  refine g_icmp_eq (tgt := 174) dL_isForetold_167 (by decide) (fun c => ?_) (fun c => ?_)
  · have H := H.1 c
    refine g_iconst (v := 0) dL_isForetold_174 (by decide) ?_
    exact g_bud (n' := n) (by omega) (gt_loc [1, 2, 3, 4, 5, 6, 7, 8, 9] rfl (lv_isForetold_175 hT hT4 Gn  x3 x4 x5 x6 x7 x10 x11 0 s0 q0 q1 g0 g1 _ H))
  · have H := H.2 c
    refine g_iconst (v := 1) dL_isForetold_170 (by decide) ?_
    refine g_goto (tgt := 175) dL_isForetold_171 (by decide) ?_
    exact g_bud (n' := n) (by omega) (gt_loc [1, 2, 3, 4, 5, 6, 7, 8, 9] rfl (lv_isForetold_175 hT hT4 Gn  x3 x4 x5 x6 x7 x10 x11 1 s0 q0 q1 g0 g1 _ H))
def lF_isForetold_158 (v : Int32) (x3 : Int32) (x4 : Int32) (x5 : Int32) (x6 : Int32) (x7 : Int32) (x10 : Int32) (x11 : Int32) (q0 : HS) (q1 : HS) (n : Nat) (R : Int32 → HS × HS → Prop) : Prop :=
0 ≤ n ∧
lF_isForetold_159 v  x3 x4 x5 x6 x7 x10 x11 0 q0 q1 n R
theorem lv_isForetold_158 {T : pT} {X : Mem} (hT : okT T 0) (hT4 : okT T 405) (Gn : ∀ q : HS, GdH q → ∀ a b c d e : Int32, GdH (opN q a b c d e 5)) {v : Int32} {R : Int32 → HS × HS → Prop}  (x3 : Int32) (x4 : Int32) (x5 : Int32) (x6 : Int32) (x7 : Int32) (x10 : Int32) (x11 : Int32) (q0 : HS) (q1 : HS) (g0 : GdH q0) (g1 : GdH q1) (n : Nat) (H : lF_isForetold_158 v  x3 x4 x5 x6 x7 x10 x11 q0 q1 n R) : WG mL_isForetold (P2 T X) R 158 [(0, .ref 0), (1, .ref 405), (3, .int x3), (4, .int x4), (5, .int x5), (6, .int x6), (7, .int x7), (10, .int x10), (11, .int x11)] [] (q0, q1) n := by
  unfold lF_isForetold_158 at H
  obtain ⟨hn, H⟩ := H
  refine g_iconst (v := 0) dL_isForetold_158 (by decide) ?_
  exact g_bud (n' := n) (by omega) (gt_loc [0, 1, 2, 3, 4, 5, 6, 7, 8] rfl (lv_isForetold_159 hT hT4 Gn  x3 x4 x5 x6 x7 x10 x11 0 q0 q1 g0 g1 _ H))
def lF_isForetold_44 (v : Int32) (x3 : Int32) (x4 : Int32) (x5 : Int32) (s0 : Int32) (q0 : HS) (q1 : HS) (n : Nat) (R : Int32 → HS × HS → Prop) : Prop :=
6 ≤ n ∧
((¬ (dW q0 6 x3 x4 x5 s0 0) = (-1)) →
  lF_isForetold_158 v  x3 x4 x5 s0 ((v >>> ((2 : Int32) &&& 31)) &&& (1 : Int32)) ((dW q0 16 ((v >>> ((2 : Int32) &&& 31)) &&& (1 : Int32)) 0 0 0 0) - (dW q0 16 ((1 : Int32) - ((v >>> ((2 : Int32) &&& 31)) &&& (1 : Int32))) 0 0 0 0)) (dW q0 5 ((v >>> ((2 : Int32) &&& 31)) &&& (1 : Int32)) x3 x4 x5 s0) (opN q0 ((v >>> ((2 : Int32) &&& 31)) &&& (1 : Int32)) x3 x4 x5 s0 5) q1 (n - 5) R) ∧
(((dW q0 6 x3 x4 x5 s0 0) = (-1)) →
  ((¬ (dW q0 18 ((v >>> ((2 : Int32) &&& 31)) &&& (1 : Int32)) 0 0 0 0) = 1) →
    lF_isForetold_158 v  x3 x4 x5 s0 ((v >>> ((2 : Int32) &&& 31)) &&& (1 : Int32)) ((dW q0 16 ((v >>> ((2 : Int32) &&& 31)) &&& (1 : Int32)) 0 0 0 0) - (dW q0 16 ((1 : Int32) - ((v >>> ((2 : Int32) &&& 31)) &&& (1 : Int32))) 0 0 0 0)) (dW q0 5 ((v >>> ((2 : Int32) &&& 31)) &&& (1 : Int32)) x3 x4 x5 s0) (opN q0 ((v >>> ((2 : Int32) &&& 31)) &&& (1 : Int32)) x3 x4 x5 s0 5) q1 (n - 5) R) ∧
  (((dW q0 18 ((v >>> ((2 : Int32) &&& 31)) &&& (1 : Int32)) 0 0 0 0) = 1) →
    ((¬ (dW (opN q0 ((v >>> ((2 : Int32) &&& 31)) &&& (1 : Int32)) x3 x4 x5 s0 5) 17 3 0 0 0 0) = 0) →
      lF_isForetold_158 v  x3 x4 x5 s0 ((v >>> ((2 : Int32) &&& 31)) &&& (1 : Int32)) ((dW q0 16 ((v >>> ((2 : Int32) &&& 31)) &&& (1 : Int32)) 0 0 0 0) - (dW q0 16 ((1 : Int32) - ((v >>> ((2 : Int32) &&& 31)) &&& (1 : Int32))) 0 0 0 0)) (dW q0 5 ((v >>> ((2 : Int32) &&& 31)) &&& (1 : Int32)) x3 x4 x5 s0) (opN q0 ((v >>> ((2 : Int32) &&& 31)) &&& (1 : Int32)) x3 x4 x5 s0 5) q1 (n - 6) R) ∧
    (((dW (opN q0 ((v >>> ((2 : Int32) &&& 31)) &&& (1 : Int32)) x3 x4 x5 s0 5) 17 3 0 0 0 0) = 0) →
      lF_isForetold_159 v  x3 x4 x5 s0 ((v >>> ((2 : Int32) &&& 31)) &&& (1 : Int32)) ((dW q0 16 ((v >>> ((2 : Int32) &&& 31)) &&& (1 : Int32)) 0 0 0 0) - (dW q0 16 ((1 : Int32) - ((v >>> ((2 : Int32) &&& 31)) &&& (1 : Int32))) 0 0 0 0)) (dW q0 5 ((v >>> ((2 : Int32) &&& 31)) &&& (1 : Int32)) x3 x4 x5 s0) 1 (opN q0 ((v >>> ((2 : Int32) &&& 31)) &&& (1 : Int32)) x3 x4 x5 s0 5) q1 (n - 6) R)))
theorem lv_isForetold_44 {T : pT} {X : Mem} (hT : okT T 0) (hT4 : okT T 405) (Gn : ∀ q : HS, GdH q → ∀ a b c d e : Int32, GdH (opN q a b c d e 5)) {v : Int32} {R : Int32 → HS × HS → Prop}  (x3 : Int32) (x4 : Int32) (x5 : Int32) (s0 : Int32) (q0 : HS) (q1 : HS) (g0 : GdH q0) (g1 : GdH q1) (n : Nat) (H : lF_isForetold_44 v  x3 x4 x5 s0 q0 q1 n R) : WG mL_isForetold (P2 T X) R 44 [(0, .ref 0), (1, .ref 405), (2, .int v), (3, .int x3), (4, .int x4), (5, .int x5)] [.int s0] (q0, q1) n := by
  unfold lF_isForetold_44 at H
  obtain ⟨hn, H⟩ := H
  refine gt_istore (L' := [(6, .int s0), (0, .ref 0), (1, .ref 405), (2, .int v), (3, .int x3), (4, .int x4), (5, .int x5)]) dL_isForetold_44 (by decide) rfl ?_
  refine g_iload_n dL_isForetold_46 rfl ?_
  refine g_iconst (v := 2) dL_isForetold_47 (by decide) ?_
  refine g_ishr dL_isForetold_48 ?_
  refine g_iconst (v := 1) dL_isForetold_49 (by decide) ?_
  refine g_iand dL_isForetold_50 ?_
  refine gt_istore (L' := [(7, .int ((v >>> ((2 : Int32) &&& 31)) &&& (1 : Int32))), (6, .int s0), (0, .ref 0), (1, .ref 405), (2, .int v), (3, .int x3), (4, .int x4), (5, .int x5)]) dL_isForetold_51 (by decide) rfl ?_
  refine g_aload_n dL_isForetold_53 rfl ?_
  refine g_bipush (v := 6) dL_isForetold_54 (by decide) ?_
  refine g_iload_n dL_isForetold_56 rfl ?_
  refine g_iload dL_isForetold_57 rfl ?_
  refine g_iload dL_isForetold_59 rfl ?_
  refine g_iload dL_isForetold_61 rfl ?_
  refine g_iconst (v := 0) dL_isForetold_63 (by decide) ?_
  refine g_does (As := [.ref 0, .int 6, .int x3, .int x4, .int x5, .int s0, .int 0]) (st := []) (q := q0) (q' := q0) (s' := (q0, q1)) (k := opK q0 x3 x4 x5 s0 0 6) (x := opX q0 x3 x4 x5 s0 0 6) (P2_use0 hT) (P2_next0 g1) rfl (fun B h1 h2 h3 h4 => ds_6 h1 h2 h3 h4 g0 x3 x4 x5 s0 0 g0) dL_isForetold_64 (by unfold rmP; decide) rfl (Nat.le_of_ble_eq_true rfl) (by omega) ?_
  refine gt_istore (L' := [(8, .int (dW q0 6 x3 x4 x5 s0 0)), (7, .int ((v >>> ((2 : Int32) &&& 31)) &&& (1 : Int32))), (6, .int s0), (0, .ref 0), (1, .ref 405), (2, .int v), (3, .int x3), (4, .int x4), (5, .int x5)]) dL_isForetold_67 (by decide) rfl ?_
  refine g_aload_n dL_isForetold_69 rfl ?_
  refine g_bipush (v := 18) dL_isForetold_70 (by decide) ?_
  refine g_iload dL_isForetold_72 rfl ?_
  refine g_iconst (v := 0) dL_isForetold_74 (by decide) ?_
  refine g_iconst (v := 0) dL_isForetold_75 (by decide) ?_
  refine g_iconst (v := 0) dL_isForetold_76 (by decide) ?_
  refine g_iconst (v := 0) dL_isForetold_77 (by decide) ?_
  refine g_does (As := [.ref 0, .int 18, .int ((v >>> ((2 : Int32) &&& 31)) &&& (1 : Int32)), .int 0, .int 0, .int 0, .int 0]) (st := []) (q := q0) (q' := q0) (s' := (q0, q1)) (k := opK q0 ((v >>> ((2 : Int32) &&& 31)) &&& (1 : Int32)) 0 0 0 0 18) (x := opX q0 ((v >>> ((2 : Int32) &&& 31)) &&& (1 : Int32)) 0 0 0 0 18) (P2_use0 hT) (P2_next0 g1) rfl (fun B h1 h2 h3 h4 => ds_18 h1 h2 h3 h4 g0 ((v >>> ((2 : Int32) &&& 31)) &&& (1 : Int32)) 0 0 0 0 g0) dL_isForetold_78 (by unfold rmP; decide) rfl (Nat.le_of_ble_eq_true rfl) (by omega) ?_
  refine gt_istore (L' := [(9, .int (dW q0 18 ((v >>> ((2 : Int32) &&& 31)) &&& (1 : Int32)) 0 0 0 0)), (8, .int (dW q0 6 x3 x4 x5 s0 0)), (7, .int ((v >>> ((2 : Int32) &&& 31)) &&& (1 : Int32))), (6, .int s0), (0, .ref 0), (1, .ref 405), (2, .int v), (3, .int x3), (4, .int x4), (5, .int x5)]) dL_isForetold_81 (by decide) rfl ?_
  refine g_aload_n dL_isForetold_83 rfl ?_
  refine g_bipush (v := 16) dL_isForetold_84 (by decide) ?_
  refine g_iload dL_isForetold_86 rfl ?_
  refine g_iconst (v := 0) dL_isForetold_88 (by decide) ?_
  refine g_iconst (v := 0) dL_isForetold_89 (by decide) ?_
  refine g_iconst (v := 0) dL_isForetold_90 (by decide) ?_
  refine g_iconst (v := 0) dL_isForetold_91 (by decide) ?_
  refine g_does (As := [.ref 0, .int 16, .int ((v >>> ((2 : Int32) &&& 31)) &&& (1 : Int32)), .int 0, .int 0, .int 0, .int 0]) (st := []) (q := q0) (q' := q0) (s' := (q0, q1)) (k := opK q0 ((v >>> ((2 : Int32) &&& 31)) &&& (1 : Int32)) 0 0 0 0 16) (x := opX q0 ((v >>> ((2 : Int32) &&& 31)) &&& (1 : Int32)) 0 0 0 0 16) (P2_use0 hT) (P2_next0 g1) rfl (fun B h1 h2 h3 h4 => ds_16 h1 h2 h3 h4 g0 ((v >>> ((2 : Int32) &&& 31)) &&& (1 : Int32)) 0 0 0 0 g0) dL_isForetold_92 (by unfold rmP; decide) rfl (Nat.le_of_ble_eq_true rfl) (by omega) ?_
  refine g_aload_n dL_isForetold_95 rfl ?_
  refine g_bipush (v := 16) dL_isForetold_96 (by decide) ?_
  refine g_iconst (v := 1) dL_isForetold_98 (by decide) ?_
  refine g_iload dL_isForetold_99 rfl ?_
  refine g_isub dL_isForetold_101 ?_
  refine g_iconst (v := 0) dL_isForetold_102 (by decide) ?_
  refine g_iconst (v := 0) dL_isForetold_103 (by decide) ?_
  refine g_iconst (v := 0) dL_isForetold_104 (by decide) ?_
  refine g_iconst (v := 0) dL_isForetold_105 (by decide) ?_
  refine g_does (As := [.ref 0, .int 16, .int ((1 : Int32) - ((v >>> ((2 : Int32) &&& 31)) &&& (1 : Int32))), .int 0, .int 0, .int 0, .int 0]) (st := [.int (dW q0 16 ((v >>> ((2 : Int32) &&& 31)) &&& (1 : Int32)) 0 0 0 0)]) (q := q0) (q' := q0) (s' := (q0, q1)) (k := opK q0 ((1 : Int32) - ((v >>> ((2 : Int32) &&& 31)) &&& (1 : Int32))) 0 0 0 0 16) (x := opX q0 ((1 : Int32) - ((v >>> ((2 : Int32) &&& 31)) &&& (1 : Int32))) 0 0 0 0 16) (P2_use0 hT) (P2_next0 g1) rfl (fun B h1 h2 h3 h4 => ds_16 h1 h2 h3 h4 g0 ((1 : Int32) - ((v >>> ((2 : Int32) &&& 31)) &&& (1 : Int32))) 0 0 0 0 g0) dL_isForetold_106 (by unfold rmP; decide) rfl (Nat.le_of_ble_eq_true rfl) (by omega) ?_
  refine g_isub dL_isForetold_109 ?_
  refine gt_istore (L' := [(10, .int ((dW q0 16 ((v >>> ((2 : Int32) &&& 31)) &&& (1 : Int32)) 0 0 0 0) - (dW q0 16 ((1 : Int32) - ((v >>> ((2 : Int32) &&& 31)) &&& (1 : Int32))) 0 0 0 0))), (9, .int (dW q0 18 ((v >>> ((2 : Int32) &&& 31)) &&& (1 : Int32)) 0 0 0 0)), (8, .int (dW q0 6 x3 x4 x5 s0 0)), (7, .int ((v >>> ((2 : Int32) &&& 31)) &&& (1 : Int32))), (6, .int s0), (0, .ref 0), (1, .ref 405), (2, .int v), (3, .int x3), (4, .int x4), (5, .int x5)]) dL_isForetold_110 (by decide) rfl ?_
  refine g_aload_n dL_isForetold_112 rfl ?_
  refine g_iconst (v := 5) dL_isForetold_113 (by decide) ?_
  refine g_iload dL_isForetold_114 rfl ?_
  refine g_iload_n dL_isForetold_116 rfl ?_
  refine g_iload dL_isForetold_117 rfl ?_
  refine g_iload dL_isForetold_119 rfl ?_
  refine g_iload dL_isForetold_121 rfl ?_
  refine g_does (As := [.ref 0, .int 5, .int ((v >>> ((2 : Int32) &&& 31)) &&& (1 : Int32)), .int x3, .int x4, .int x5, .int s0]) (st := []) (q := q0) (q' := (opN q0 ((v >>> ((2 : Int32) &&& 31)) &&& (1 : Int32)) x3 x4 x5 s0 5)) (s' := ((opN q0 ((v >>> ((2 : Int32) &&& 31)) &&& (1 : Int32)) x3 x4 x5 s0 5), q1)) (k := opK q0 ((v >>> ((2 : Int32) &&& 31)) &&& (1 : Int32)) x3 x4 x5 s0 5) (x := opX q0 ((v >>> ((2 : Int32) &&& 31)) &&& (1 : Int32)) x3 x4 x5 s0 5) (P2_use0 hT) (P2_next0 g1) rfl (fun B h1 h2 h3 h4 => ds_5 h1 h2 h3 h4 g0 ((v >>> ((2 : Int32) &&& 31)) &&& (1 : Int32)) x3 x4 x5 s0 (Gn q0 g0 ((v >>> ((2 : Int32) &&& 31)) &&& (1 : Int32)) x3 x4 x5 s0)) dL_isForetold_123 (by unfold rmP; decide) rfl (Nat.le_of_ble_eq_true rfl) (by omega) ?_
  refine gt_istore (L' := [(11, .int (dW q0 5 ((v >>> ((2 : Int32) &&& 31)) &&& (1 : Int32)) x3 x4 x5 s0)), (10, .int ((dW q0 16 ((v >>> ((2 : Int32) &&& 31)) &&& (1 : Int32)) 0 0 0 0) - (dW q0 16 ((1 : Int32) - ((v >>> ((2 : Int32) &&& 31)) &&& (1 : Int32))) 0 0 0 0))), (9, .int (dW q0 18 ((v >>> ((2 : Int32) &&& 31)) &&& (1 : Int32)) 0 0 0 0)), (8, .int (dW q0 6 x3 x4 x5 s0 0)), (7, .int ((v >>> ((2 : Int32) &&& 31)) &&& (1 : Int32))), (6, .int s0), (0, .ref 0), (1, .ref 405), (2, .int v), (3, .int x3), (4, .int x4), (5, .int x5)]) dL_isForetold_126 (by decide) rfl ?_
  refine g_iload dL_isForetold_128 rfl ?_
  refine g_iconst (v := (-1)) dL_isForetold_130 (by decide) ?_
  refine g_icmp_ne (tgt := 158) dL_isForetold_131 (by decide) (fun c => ?_) (fun c => ?_)
  · have H := H.1 c
    exact g_bud (n' := (n - 5)) (by omega) (gt_loc [6, 7, 9, 10, 11, 5, 4, 1, 0] rfl (lv_isForetold_158 hT hT4 Gn  x3 x4 x5 s0 ((v >>> ((2 : Int32) &&& 31)) &&& (1 : Int32)) ((dW q0 16 ((v >>> ((2 : Int32) &&& 31)) &&& (1 : Int32)) 0 0 0 0) - (dW q0 16 ((1 : Int32) - ((v >>> ((2 : Int32) &&& 31)) &&& (1 : Int32))) 0 0 0 0)) (dW q0 5 ((v >>> ((2 : Int32) &&& 31)) &&& (1 : Int32)) x3 x4 x5 s0) (opN q0 ((v >>> ((2 : Int32) &&& 31)) &&& (1 : Int32)) x3 x4 x5 s0 5) q1 (Gn q0 g0 ((v >>> ((2 : Int32) &&& 31)) &&& (1 : Int32)) x3 x4 x5 s0) g1 _ H))
  · have H := H.2 c
    refine g_iload dL_isForetold_134 rfl ?_
    refine g_iconst (v := 1) dL_isForetold_136 (by decide) ?_
    refine g_icmp_ne (tgt := 158) dL_isForetold_137 (by decide) (fun c => ?_) (fun c => ?_)
    · have H := H.1 c
      exact g_bud (n' := (n - 5)) (by omega) (gt_loc [6, 7, 9, 10, 11, 5, 4, 1, 0] rfl (lv_isForetold_158 hT hT4 Gn  x3 x4 x5 s0 ((v >>> ((2 : Int32) &&& 31)) &&& (1 : Int32)) ((dW q0 16 ((v >>> ((2 : Int32) &&& 31)) &&& (1 : Int32)) 0 0 0 0) - (dW q0 16 ((1 : Int32) - ((v >>> ((2 : Int32) &&& 31)) &&& (1 : Int32))) 0 0 0 0)) (dW q0 5 ((v >>> ((2 : Int32) &&& 31)) &&& (1 : Int32)) x3 x4 x5 s0) (opN q0 ((v >>> ((2 : Int32) &&& 31)) &&& (1 : Int32)) x3 x4 x5 s0 5) q1 (Gn q0 g0 ((v >>> ((2 : Int32) &&& 31)) &&& (1 : Int32)) x3 x4 x5 s0) g1 _ H))
    · have H := H.2 c
      refine g_aload_n dL_isForetold_140 rfl ?_
      refine g_bipush (v := 17) dL_isForetold_141 (by decide) ?_
      refine g_iconst (v := 3) dL_isForetold_143 (by decide) ?_
      refine g_iconst (v := 0) dL_isForetold_144 (by decide) ?_
      refine g_iconst (v := 0) dL_isForetold_145 (by decide) ?_
      refine g_iconst (v := 0) dL_isForetold_146 (by decide) ?_
      refine g_iconst (v := 0) dL_isForetold_147 (by decide) ?_
      refine g_does (As := [.ref 0, .int 17, .int 3, .int 0, .int 0, .int 0, .int 0]) (st := []) (q := (opN q0 ((v >>> ((2 : Int32) &&& 31)) &&& (1 : Int32)) x3 x4 x5 s0 5)) (q' := (opN q0 ((v >>> ((2 : Int32) &&& 31)) &&& (1 : Int32)) x3 x4 x5 s0 5)) (s' := ((opN q0 ((v >>> ((2 : Int32) &&& 31)) &&& (1 : Int32)) x3 x4 x5 s0 5), q1)) (k := opK (opN q0 ((v >>> ((2 : Int32) &&& 31)) &&& (1 : Int32)) x3 x4 x5 s0 5) 3 0 0 0 0 17) (x := opX (opN q0 ((v >>> ((2 : Int32) &&& 31)) &&& (1 : Int32)) x3 x4 x5 s0 5) 3 0 0 0 0 17) (P2_use0 hT) (P2_next0 g1) rfl (fun B h1 h2 h3 h4 => ds_17 h1 h2 h3 h4 (Gn q0 g0 ((v >>> ((2 : Int32) &&& 31)) &&& (1 : Int32)) x3 x4 x5 s0) 3 0 0 0 0 (Gn q0 g0 ((v >>> ((2 : Int32) &&& 31)) &&& (1 : Int32)) x3 x4 x5 s0)) dL_isForetold_148 (by unfold rmP; decide) rfl (Nat.le_of_ble_eq_true rfl) (by omega) ?_
      refine g_if_ne (tgt := 158) dL_isForetold_151 (by decide) (fun c => ?_) (fun c => ?_)
      · have H := H.1 c
        exact g_bud (n' := (n - 6)) (by omega) (gt_loc [6, 7, 9, 10, 11, 5, 4, 1, 0] rfl (lv_isForetold_158 hT hT4 Gn  x3 x4 x5 s0 ((v >>> ((2 : Int32) &&& 31)) &&& (1 : Int32)) ((dW q0 16 ((v >>> ((2 : Int32) &&& 31)) &&& (1 : Int32)) 0 0 0 0) - (dW q0 16 ((1 : Int32) - ((v >>> ((2 : Int32) &&& 31)) &&& (1 : Int32))) 0 0 0 0)) (dW q0 5 ((v >>> ((2 : Int32) &&& 31)) &&& (1 : Int32)) x3 x4 x5 s0) (opN q0 ((v >>> ((2 : Int32) &&& 31)) &&& (1 : Int32)) x3 x4 x5 s0 5) q1 (Gn q0 g0 ((v >>> ((2 : Int32) &&& 31)) &&& (1 : Int32)) x3 x4 x5 s0) g1 _ H))
      · have H := H.2 c
        refine g_iconst (v := 1) dL_isForetold_154 (by decide) ?_
        refine g_goto (tgt := 159) dL_isForetold_155 (by decide) ?_
        exact g_bud (n' := (n - 6)) (by omega) (gt_loc [6, 7, 9, 10, 11, 5, 4, 1, 0] rfl (lv_isForetold_159 hT hT4 Gn  x3 x4 x5 s0 ((v >>> ((2 : Int32) &&& 31)) &&& (1 : Int32)) ((dW q0 16 ((v >>> ((2 : Int32) &&& 31)) &&& (1 : Int32)) 0 0 0 0) - (dW q0 16 ((1 : Int32) - ((v >>> ((2 : Int32) &&& 31)) &&& (1 : Int32))) 0 0 0 0)) (dW q0 5 ((v >>> ((2 : Int32) &&& 31)) &&& (1 : Int32)) x3 x4 x5 s0) 1 (opN q0 ((v >>> ((2 : Int32) &&& 31)) &&& (1 : Int32)) x3 x4 x5 s0 5) q1 (Gn q0 g0 ((v >>> ((2 : Int32) &&& 31)) &&& (1 : Int32)) x3 x4 x5 s0) g1 _ H))
def lF_isForetold (v : Int32) (q0 : HS) (q1 : HS) (n : Nat) (R : Int32 → HS × HS → Prop) : Prop :=
0 ≤ n ∧
((¬ (lowF (v >>> ((5 : Int32) &&& 31)) 6) = 0) →
  lF_isForetold_44 v  (lowF v 20) (lowF (v >>> ((3 : Int32) &&& 31)) 3) (lowF (v >>> ((5 : Int32) &&& 31)) 6) (-1) q0 q1 n R) ∧
(((lowF (v >>> ((5 : Int32) &&& 31)) 6) = 0) →
  lF_isForetold_44 v  (lowF v 20) (lowF (v >>> ((3 : Int32) &&& 31)) 3) (lowF (v >>> ((5 : Int32) &&& 31)) 6) (lowF (v >>> ((8 : Int32) &&& 31)) 8) q0 q1 n R)
theorem lv_isForetold {T : pT} {X : Mem} (hT : okT T 0) (hT4 : okT T 405) (Gn : ∀ q : HS, GdH q → ∀ a b c d e : Int32, GdH (opN q a b c d e 5)) {v : Int32} {R : Int32 → HS × HS → Prop} (q0 : HS) (q1 : HS) (g0 : GdH q0) (g1 : GdH q1) (n : Nat) (H : lF_isForetold v q0 q1 n R) : WG mL_isForetold (P2 T X) R 0 [(0, .ref 0), (1, .ref 405), (2, .int v)] [] (q0, q1) n := by
  unfold lF_isForetold at H
  obtain ⟨hn, H⟩ := H
  refine g_iload_n dL_isForetold_0 rfl ?_
  refine g_bipush (v := 20) dL_isForetold_1 (by decide) ?_
  refine g_low rfl rfl dL_isForetold_3 (by unfold rmP; decide) (Nat.le_of_ble_eq_true rfl) (by decide) ?_
  refine gt_istore_n (L' := [(3, .int (lowF v 20)), (0, .ref 0), (1, .ref 405), (2, .int v)]) dL_isForetold_6 (by decide) rfl ?_
  refine g_iload_n dL_isForetold_7 rfl ?_
  refine g_iconst (v := 3) dL_isForetold_8 (by decide) ?_
  refine g_ishr dL_isForetold_9 ?_
  refine g_iconst (v := 3) dL_isForetold_10 (by decide) ?_
  refine g_low rfl rfl dL_isForetold_11 (by unfold rmP; decide) (Nat.le_of_ble_eq_true rfl) (by decide) ?_
  refine gt_istore (L' := [(4, .int (lowF (v >>> ((3 : Int32) &&& 31)) 3)), (3, .int (lowF v 20)), (0, .ref 0), (1, .ref 405), (2, .int v)]) dL_isForetold_14 (by decide) rfl ?_
  refine g_iload_n dL_isForetold_16 rfl ?_
  refine g_iconst (v := 5) dL_isForetold_17 (by decide) ?_
  refine g_ishr dL_isForetold_18 ?_
  refine g_bipush (v := 6) dL_isForetold_19 (by decide) ?_
  refine g_low rfl rfl dL_isForetold_21 (by unfold rmP; decide) (Nat.le_of_ble_eq_true rfl) (by decide) ?_
  refine gt_istore (L' := [(5, .int (lowF (v >>> ((5 : Int32) &&& 31)) 6)), (4, .int (lowF (v >>> ((3 : Int32) &&& 31)) 3)), (3, .int (lowF v 20)), (0, .ref 0), (1, .ref 405), (2, .int v)]) dL_isForetold_24 (by decide) rfl ?_
  refine g_iload dL_isForetold_26 rfl ?_
  refine g_if_ne (tgt := 43) dL_isForetold_28 (by decide) (fun c => ?_) (fun c => ?_)
  · have H := H.1 c
    refine g_iconst (v := (-1)) dL_isForetold_43 (by decide) ?_
    exact g_bud (n' := n) (by omega) (gt_loc [3, 4, 5, 2, 1, 0] rfl (lv_isForetold_44 hT hT4 Gn  (lowF v 20) (lowF (v >>> ((3 : Int32) &&& 31)) 3) (lowF (v >>> ((5 : Int32) &&& 31)) 6) (-1) q0 q1 g0 g1 _ H))
  · have H := H.2 c
    refine g_iload_n dL_isForetold_31 rfl ?_
    refine g_bipush (v := 8) dL_isForetold_32 (by decide) ?_
    refine g_ishr dL_isForetold_34 ?_
    refine g_bipush (v := 8) dL_isForetold_35 (by decide) ?_
    refine g_low rfl rfl dL_isForetold_37 (by unfold rmP; decide) (Nat.le_of_ble_eq_true rfl) (by decide) ?_
    refine g_goto (tgt := 44) dL_isForetold_40 (by decide) ?_
    exact g_bud (n' := n) (by omega) (gt_loc [3, 4, 5, 2, 1, 0] rfl (lv_isForetold_44 hT hT4 Gn  (lowF v 20) (lowF (v >>> ((3 : Int32) &&& 31)) 3) (lowF (v >>> ((5 : Int32) &&& 31)) 6) (lowF (v >>> ((8 : Int32) &&& 31)) 8) q0 q1 g0 g1 _ H))
