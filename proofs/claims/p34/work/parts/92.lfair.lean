def lF_isFair_349 (q : HS) (n0 : Nat) (K126 : Int32 → Int32 → Int32 → Int32 → Int32 → Mem → Nat → Prop) (x4 : Int32) (x5 : Int32) (x6 : Int32) (x7 : Int32) (s0 : Int32) (X : Mem) (n : Nat) (R : Int32 → Mem → Prop) : Prop :=
0 ≤ n ∧
K126 s0 x4 x5 x6 (x7 + 1) X n
theorem lv_isFair_349 {T : pT} {b : Nat} (hT : okT T b) {q : HS} {n0 : Nat} (ha0 : arX T b n0) (ha1 : arX T b (n0 + 1)) (G : GdH q) {R : Int32 → Mem → Prop} {K126 : Int32 → Int32 → Int32 → Int32 → Int32 → Mem → Nat → Prop} (hK126 : ∀ (x1 : Int32) (x4 : Int32) (x5 : Int32) (x6 : Int32) (x7 : Int32) (X : Mem) (n : Nat), K126 x1 x4 x5 x6 x7 X n → WG mL_isFair (fun X B => P1 T b X q B) R 126 [(0, .ref b), (1, .int x1), (2, .ref n0), (3, .ref (n0 + 1)), (4, .int x4), (5, .int x5), (6, .int x6), (7, .int x7)] [] X n) (x4 : Int32) (x5 : Int32) (x6 : Int32) (x7 : Int32) (s0 : Int32) (X : Mem) (n : Nat) (H : lF_isFair_349 q n0 K126 x4 x5 x6 x7 s0 X n R) : WG mL_isFair (fun X B => P1 T b X q B) R 349 [(0, .ref b), (2, .ref n0), (3, .ref (n0 + 1)), (4, .int x4), (5, .int x5), (6, .int x6), (7, .int x7)] [.int s0] X n := by
  unfold lF_isFair_349 at H
  obtain ⟨hn, H⟩ := H
  refine gt_istore_n (L' := [(1, .int s0), (0, .ref b), (2, .ref n0), (3, .ref (n0 + 1)), (4, .int x4), (5, .int x5), (6, .int x6), (7, .int x7)]) dL_isFair_349 (by decide) rfl ?_
  refine gt_iinc (v := (x7 + 1)) (L' := [(7, .int (x7 + 1)), (1, .int s0), (0, .ref b), (2, .ref n0), (3, .ref (n0 + 1)), (4, .int x4), (5, .int x5), (6, .int x6)]) dL_isFair_350 rfl (by rfl) (by decide) rfl ?_
  refine g_goto (tgt := 126) dL_isFair_353 (by decide) ?_
  exact g_bud (n' := n) (by omega) (gt_loc [2, 1, 3, 4, 5, 6, 7, 0] rfl (hK126 s0 x4 x5 x6 (x7 + 1) X  _ H))
def lF_isFair_348 (q : HS) (n0 : Nat) (K126 : Int32 → Int32 → Int32 → Int32 → Int32 → Mem → Nat → Prop) (x4 : Int32) (x5 : Int32) (x6 : Int32) (x7 : Int32) (X : Mem) (n : Nat) (R : Int32 → Mem → Prop) : Prop :=
0 ≤ n ∧
lF_isFair_349 q n0 K126 x4 x5 x6 x7 0 X n R
theorem lv_isFair_348 {T : pT} {b : Nat} (hT : okT T b) {q : HS} {n0 : Nat} (ha0 : arX T b n0) (ha1 : arX T b (n0 + 1)) (G : GdH q) {R : Int32 → Mem → Prop} {K126 : Int32 → Int32 → Int32 → Int32 → Int32 → Mem → Nat → Prop} (hK126 : ∀ (x1 : Int32) (x4 : Int32) (x5 : Int32) (x6 : Int32) (x7 : Int32) (X : Mem) (n : Nat), K126 x1 x4 x5 x6 x7 X n → WG mL_isFair (fun X B => P1 T b X q B) R 126 [(0, .ref b), (1, .int x1), (2, .ref n0), (3, .ref (n0 + 1)), (4, .int x4), (5, .int x5), (6, .int x6), (7, .int x7)] [] X n) (x4 : Int32) (x5 : Int32) (x6 : Int32) (x7 : Int32) (X : Mem) (n : Nat) (H : lF_isFair_348 q n0 K126 x4 x5 x6 x7 X n R) : WG mL_isFair (fun X B => P1 T b X q B) R 348 [(0, .ref b), (2, .ref n0), (3, .ref (n0 + 1)), (4, .int x4), (5, .int x5), (6, .int x6), (7, .int x7)] [] X n := by
  unfold lF_isFair_348 at H
  obtain ⟨hn, H⟩ := H
  refine g_iconst (v := 0) dL_isFair_348 (by decide) ?_
  exact g_bud (n' := n) (by omega) (gt_loc [0, 1, 2, 3, 4, 5, 6] rfl (lv_isFair_349 hT ha0 ha1 G hK126 x4 x5 x6 x7 0 X  _ H))
def lF_isFair_227 (q : HS) (n0 : Nat) (K126 : Int32 → Int32 → Int32 → Int32 → Int32 → Mem → Nat → Prop) (x4 : Int32) (x5 : Int32) (x6 : Int32) (x7 : Int32) (s0 : Int32) (X : Mem) (n : Nat) (R : Int32 → Mem → Prop) : Prop :=
11 ≤ n ∧
opK q x7 4 0 0 0 23 = 0 ∧
opK q x7 5 0 0 0 23 = 0 ∧
opK q x7 6 0 0 0 23 = 0 ∧
((s0 = 0) →
  lF_isFair_348 q n0 K126 (x4 + (opX q x7 4 0 0 0 23)) (x5 + (opX q x7 5 0 0 0 23)) (x6 ||| ((1 : Int32) <<< ((opX q x7 6 0 0 0 23) &&& 31))) x7 X (n - 3) R) ∧
((¬ s0 = 0) →
  opK q x7 1 0 0 0 23 = 0 ∧
  opK q x7 2 0 0 0 23 = 0 ∧
  opK q x7 0 0 0 0 23 = 0 ∧
  (((opX q x7 0 0 0 0 23) < ((opX q x7 1 0 0 0 23) + (opX q x7 2 0 0 0 23))) →
    lF_isFair_348 q n0 K126 (x4 + (opX q x7 4 0 0 0 23)) (x5 + (opX q x7 5 0 0 0 23)) (x6 ||| ((1 : Int32) <<< ((opX q x7 6 0 0 0 23) &&& 31))) x7 X (n - 6) R) ∧
  ((¬ (opX q x7 0 0 0 0 23) < ((opX q x7 1 0 0 0 23) + (opX q x7 2 0 0 0 23))) →
    opK q x7 3 0 0 0 23 = 0 ∧
    opK q x7 0 0 0 0 23 = 0 ∧
    ((((5 : Int32) * (opX q x7 0 0 0 0 23)) < (opX q x7 3 0 0 0 23)) →
      lF_isFair_348 q n0 K126 (x4 + (opX q x7 4 0 0 0 23)) (x5 + (opX q x7 5 0 0 0 23)) (x6 ||| ((1 : Int32) <<< ((opX q x7 6 0 0 0 23) &&& 31))) x7 X (n - 8) R) ∧
    ((¬ ((5 : Int32) * (opX q x7 0 0 0 0 23)) < (opX q x7 3 0 0 0 23)) →
      opK q x7 3 0 0 0 23 = 0 ∧
      opK q x7 1 0 0 0 23 = 0 ∧
      opK q x7 2 0 0 0 23 = 0 ∧
      (((opX q x7 3 0 0 0 23) < (((5 : Int32) * (opX q x7 1 0 0 0 23)) + ((3 : Int32) * (opX q x7 2 0 0 0 23)))) →
        lF_isFair_348 q n0 K126 (x4 + (opX q x7 4 0 0 0 23)) (x5 + (opX q x7 5 0 0 0 23)) (x6 ||| ((1 : Int32) <<< ((opX q x7 6 0 0 0 23) &&& 31))) x7 X (n - 11) R) ∧
      ((¬ (opX q x7 3 0 0 0 23) < (((5 : Int32) * (opX q x7 1 0 0 0 23)) + ((3 : Int32) * (opX q x7 2 0 0 0 23)))) →
        lF_isFair_349 q n0 K126 (x4 + (opX q x7 4 0 0 0 23)) (x5 + (opX q x7 5 0 0 0 23)) (x6 ||| ((1 : Int32) <<< ((opX q x7 6 0 0 0 23) &&& 31))) x7 1 X (n - 11) R))))
theorem lv_isFair_227 {T : pT} {b : Nat} (hT : okT T b) {q : HS} {n0 : Nat} (ha0 : arX T b n0) (ha1 : arX T b (n0 + 1)) (G : GdH q) {R : Int32 → Mem → Prop} {K126 : Int32 → Int32 → Int32 → Int32 → Int32 → Mem → Nat → Prop} (hK126 : ∀ (x1 : Int32) (x4 : Int32) (x5 : Int32) (x6 : Int32) (x7 : Int32) (X : Mem) (n : Nat), K126 x1 x4 x5 x6 x7 X n → WG mL_isFair (fun X B => P1 T b X q B) R 126 [(0, .ref b), (1, .int x1), (2, .ref n0), (3, .ref (n0 + 1)), (4, .int x4), (5, .int x5), (6, .int x6), (7, .int x7)] [] X n) (x4 : Int32) (x5 : Int32) (x6 : Int32) (x7 : Int32) (s0 : Int32) (X : Mem) (n : Nat) (H : lF_isFair_227 q n0 K126 x4 x5 x6 x7 s0 X n R) : WG mL_isFair (fun X B => P1 T b X q B) R 227 [(0, .ref b), (2, .ref n0), (3, .ref (n0 + 1)), (4, .int x4), (5, .int x5), (6, .int x6), (7, .int x7)] [.int s0] X n := by
  unfold lF_isFair_227 at H
  obtain ⟨hn, H⟩ := H
  refine gt_istore_n (L' := [(1, .int s0), (0, .ref b), (2, .ref n0), (3, .ref (n0 + 1)), (4, .int x4), (5, .int x5), (6, .int x6), (7, .int x7)]) dL_isFair_227 (by decide) rfl ?_
  refine g_iload dL_isFair_228 rfl ?_
  refine g_aload_n dL_isFair_230 rfl ?_
  refine g_iload dL_isFair_231 rfl ?_
  refine g_iconst (v := 4) dL_isFair_233 (by decide) ?_
  refine g_view (b := b) (As9 := [.int x7, .int 4]) (st := [.int x4]) (q := q) (q' := q) (s' := X) (k := opK q x7 4 0 0 0 23) (x := opX q x7 4 0 0 0 23) (PX_use hT) PX_next iv_9_49 rfl (op_big G (fun _ => rfl) (op_club G x7 4 0 0 0)) H.1 rfl dL_isFair_234 (by unfold rmP; decide) rfl (Nat.le_of_ble_eq_true rfl) (by decide) (by decide) (by omega) ?_
  have H := H.2
  refine g_iadd dL_isFair_237 ?_
  refine gt_istore (L' := [(4, .int (x4 + (opX q x7 4 0 0 0 23))), (1, .int s0), (0, .ref b), (2, .ref n0), (3, .ref (n0 + 1)), (5, .int x5), (6, .int x6), (7, .int x7)]) dL_isFair_238 (by decide) rfl ?_
  refine g_iload dL_isFair_240 rfl ?_
  refine g_aload_n dL_isFair_242 rfl ?_
  refine g_iload dL_isFair_243 rfl ?_
  refine g_iconst (v := 5) dL_isFair_245 (by decide) ?_
  refine g_view (b := b) (As9 := [.int x7, .int 5]) (st := [.int x5]) (q := q) (q' := q) (s' := X) (k := opK q x7 5 0 0 0 23) (x := opX q x7 5 0 0 0 23) (PX_use hT) PX_next iv_9_49 rfl (op_big G (fun _ => rfl) (op_club G x7 5 0 0 0)) H.1 rfl dL_isFair_246 (by unfold rmP; decide) rfl (Nat.le_of_ble_eq_true rfl) (by decide) (by decide) (by omega) ?_
  have H := H.2
  refine g_iadd dL_isFair_249 ?_
  refine gt_istore (L' := [(5, .int (x5 + (opX q x7 5 0 0 0 23))), (4, .int (x4 + (opX q x7 4 0 0 0 23))), (1, .int s0), (0, .ref b), (2, .ref n0), (3, .ref (n0 + 1)), (6, .int x6), (7, .int x7)]) dL_isFair_250 (by decide) rfl ?_
  refine g_iload dL_isFair_252 rfl ?_
  refine g_iconst (v := 1) dL_isFair_254 (by decide) ?_
  refine g_aload_n dL_isFair_255 rfl ?_
  refine g_iload dL_isFair_256 rfl ?_
  refine g_bipush (v := 6) dL_isFair_258 (by decide) ?_
  refine g_view (b := b) (As9 := [.int x7, .int 6]) (st := [.int 1, .int x6]) (q := q) (q' := q) (s' := X) (k := opK q x7 6 0 0 0 23) (x := opX q x7 6 0 0 0 23) (PX_use hT) PX_next iv_9_49 rfl (op_big G (fun _ => rfl) (op_club G x7 6 0 0 0)) H.1 rfl dL_isFair_260 (by unfold rmP; decide) rfl (Nat.le_of_ble_eq_true rfl) (by decide) (by decide) (by omega) ?_
  have H := H.2
  refine g_ishl dL_isFair_263 ?_
  refine g_ior dL_isFair_264 ?_
  refine gt_istore (L' := [(6, .int (x6 ||| ((1 : Int32) <<< ((opX q x7 6 0 0 0 23) &&& 31)))), (5, .int (x5 + (opX q x7 5 0 0 0 23))), (4, .int (x4 + (opX q x7 4 0 0 0 23))), (1, .int s0), (0, .ref b), (2, .ref n0), (3, .ref (n0 + 1)), (7, .int x7)]) dL_isFair_265 (by decide) rfl ?_
  refine g_iload_n dL_isFair_267 rfl ?_
  refine g_if_eq (tgt := 348) dL_isFair_268 (by decide) (fun c => ?_) (fun c => ?_)
  · have H := H.1 c
    exact g_bud (n' := (n - 3)) (by omega) (gt_loc [4, 5, 6, 2, 1, 0, 7] rfl (lv_isFair_348 hT ha0 ha1 G hK126 (x4 + (opX q x7 4 0 0 0 23)) (x5 + (opX q x7 5 0 0 0 23)) (x6 ||| ((1 : Int32) <<< ((opX q x7 6 0 0 0 23) &&& 31))) x7 X  _ H))
  · have H := H.2 c
    refine g_aload_n dL_isFair_271 rfl ?_
    refine g_iload dL_isFair_272 rfl ?_
    refine g_iconst (v := 1) dL_isFair_274 (by decide) ?_
    refine g_view (b := b) (As9 := [.int x7, .int 1]) (st := []) (q := q) (q' := q) (s' := X) (k := opK q x7 1 0 0 0 23) (x := opX q x7 1 0 0 0 23) (PX_use hT) PX_next iv_9_49 rfl (op_big G (fun _ => rfl) (op_club G x7 1 0 0 0)) H.1 rfl dL_isFair_275 (by unfold rmP; decide) rfl (Nat.le_of_ble_eq_true rfl) (by decide) (by decide) (by omega) ?_
    have H := H.2
    refine g_aload_n dL_isFair_278 rfl ?_
    refine g_iload dL_isFair_279 rfl ?_
    refine g_iconst (v := 2) dL_isFair_281 (by decide) ?_
    refine g_view (b := b) (As9 := [.int x7, .int 2]) (st := [.int (opX q x7 1 0 0 0 23)]) (q := q) (q' := q) (s' := X) (k := opK q x7 2 0 0 0 23) (x := opX q x7 2 0 0 0 23) (PX_use hT) PX_next iv_9_49 rfl (op_big G (fun _ => rfl) (op_club G x7 2 0 0 0)) H.1 rfl dL_isFair_282 (by unfold rmP; decide) rfl (Nat.le_of_ble_eq_true rfl) (by decide) (by decide) (by omega) ?_
    have H := H.2
    refine g_iadd dL_isFair_285 ?_
    refine g_aload_n dL_isFair_286 rfl ?_
    refine g_iload dL_isFair_287 rfl ?_
    refine g_iconst (v := 0) dL_isFair_289 (by decide) ?_
    refine g_view (b := b) (As9 := [.int x7, .int 0]) (st := [.int ((opX q x7 1 0 0 0 23) + (opX q x7 2 0 0 0 23))]) (q := q) (q' := q) (s' := X) (k := opK q x7 0 0 0 0 23) (x := opX q x7 0 0 0 0 23) (PX_use hT) PX_next iv_9_49 rfl (op_big G (fun _ => rfl) (op_club G x7 0 0 0 0)) H.1 rfl dL_isFair_290 (by unfold rmP; decide) rfl (Nat.le_of_ble_eq_true rfl) (by decide) (by decide) (by omega) ?_
    have H := H.2
    refine g_icmp_gt (tgt := 348) dL_isFair_293 (by decide) (fun c => ?_) (fun c => ?_)
    · have H := H.1 c
      exact g_bud (n' := (n - 6)) (by omega) (gt_loc [4, 5, 6, 2, 1, 0, 7] rfl (lv_isFair_348 hT ha0 ha1 G hK126 (x4 + (opX q x7 4 0 0 0 23)) (x5 + (opX q x7 5 0 0 0 23)) (x6 ||| ((1 : Int32) <<< ((opX q x7 6 0 0 0 23) &&& 31))) x7 X  _ H))
    · have H := H.2 c
      refine g_aload_n dL_isFair_296 rfl ?_
      refine g_iload dL_isFair_297 rfl ?_
      refine g_iconst (v := 3) dL_isFair_299 (by decide) ?_
      refine g_view (b := b) (As9 := [.int x7, .int 3]) (st := []) (q := q) (q' := q) (s' := X) (k := opK q x7 3 0 0 0 23) (x := opX q x7 3 0 0 0 23) (PX_use hT) PX_next iv_9_49 rfl (op_big G (fun _ => rfl) (op_club G x7 3 0 0 0)) H.1 rfl dL_isFair_300 (by unfold rmP; decide) rfl (Nat.le_of_ble_eq_true rfl) (by decide) (by decide) (by omega) ?_
      have H := H.2
      refine g_iconst (v := 5) dL_isFair_303 (by decide) ?_
      refine g_aload_n dL_isFair_304 rfl ?_
      refine g_iload dL_isFair_305 rfl ?_
      refine g_iconst (v := 0) dL_isFair_307 (by decide) ?_
      refine g_view (b := b) (As9 := [.int x7, .int 0]) (st := [.int 5, .int (opX q x7 3 0 0 0 23)]) (q := q) (q' := q) (s' := X) (k := opK q x7 0 0 0 0 23) (x := opX q x7 0 0 0 0 23) (PX_use hT) PX_next iv_9_49 rfl (op_big G (fun _ => rfl) (op_club G x7 0 0 0 0)) H.1 rfl dL_isFair_308 (by unfold rmP; decide) rfl (Nat.le_of_ble_eq_true rfl) (by decide) (by decide) (by omega) ?_
      have H := H.2
      refine g_imul dL_isFair_311 ?_
      refine g_icmp_gt (tgt := 348) dL_isFair_312 (by decide) (fun c => ?_) (fun c => ?_)
      · have H := H.1 c
        exact g_bud (n' := (n - 8)) (by omega) (gt_loc [4, 5, 6, 2, 1, 0, 7] rfl (lv_isFair_348 hT ha0 ha1 G hK126 (x4 + (opX q x7 4 0 0 0 23)) (x5 + (opX q x7 5 0 0 0 23)) (x6 ||| ((1 : Int32) <<< ((opX q x7 6 0 0 0 23) &&& 31))) x7 X  _ H))
      · have H := H.2 c
        refine g_aload_n dL_isFair_315 rfl ?_
        refine g_iload dL_isFair_316 rfl ?_
        refine g_iconst (v := 3) dL_isFair_318 (by decide) ?_
        refine g_view (b := b) (As9 := [.int x7, .int 3]) (st := []) (q := q) (q' := q) (s' := X) (k := opK q x7 3 0 0 0 23) (x := opX q x7 3 0 0 0 23) (PX_use hT) PX_next iv_9_49 rfl (op_big G (fun _ => rfl) (op_club G x7 3 0 0 0)) H.1 rfl dL_isFair_319 (by unfold rmP; decide) rfl (Nat.le_of_ble_eq_true rfl) (by decide) (by decide) (by omega) ?_
        have H := H.2
        refine g_iconst (v := 5) dL_isFair_322 (by decide) ?_
        refine g_aload_n dL_isFair_323 rfl ?_
        refine g_iload dL_isFair_324 rfl ?_
        refine g_iconst (v := 1) dL_isFair_326 (by decide) ?_
        refine g_view (b := b) (As9 := [.int x7, .int 1]) (st := [.int 5, .int (opX q x7 3 0 0 0 23)]) (q := q) (q' := q) (s' := X) (k := opK q x7 1 0 0 0 23) (x := opX q x7 1 0 0 0 23) (PX_use hT) PX_next iv_9_49 rfl (op_big G (fun _ => rfl) (op_club G x7 1 0 0 0)) H.1 rfl dL_isFair_327 (by unfold rmP; decide) rfl (Nat.le_of_ble_eq_true rfl) (by decide) (by decide) (by omega) ?_
        have H := H.2
        refine g_imul dL_isFair_330 ?_
        refine g_iconst (v := 3) dL_isFair_331 (by decide) ?_
        refine g_aload_n dL_isFair_332 rfl ?_
        refine g_iload dL_isFair_333 rfl ?_
        refine g_iconst (v := 2) dL_isFair_335 (by decide) ?_
        refine g_view (b := b) (As9 := [.int x7, .int 2]) (st := [.int 3, .int ((5 : Int32) * (opX q x7 1 0 0 0 23)), .int (opX q x7 3 0 0 0 23)]) (q := q) (q' := q) (s' := X) (k := opK q x7 2 0 0 0 23) (x := opX q x7 2 0 0 0 23) (PX_use hT) PX_next iv_9_49 rfl (op_big G (fun _ => rfl) (op_club G x7 2 0 0 0)) H.1 rfl dL_isFair_336 (by unfold rmP; decide) rfl (Nat.le_of_ble_eq_true rfl) (by decide) (by decide) (by omega) ?_
        have H := H.2
        refine g_imul dL_isFair_339 ?_
        refine g_iadd dL_isFair_340 ?_
        refine g_icmp_lt (tgt := 348) dL_isFair_341 (by decide) (fun c => ?_) (fun c => ?_)
        · have H := H.1 c
          exact g_bud (n' := (n - 11)) (by omega) (gt_loc [4, 5, 6, 2, 1, 0, 7] rfl (lv_isFair_348 hT ha0 ha1 G hK126 (x4 + (opX q x7 4 0 0 0 23)) (x5 + (opX q x7 5 0 0 0 23)) (x6 ||| ((1 : Int32) <<< ((opX q x7 6 0 0 0 23) &&& 31))) x7 X  _ H))
        · have H := H.2 c
          refine g_iconst (v := 1) dL_isFair_344 (by decide) ?_
          refine g_goto (tgt := 349) dL_isFair_345 (by decide) ?_
          exact g_bud (n' := (n - 11)) (by omega) (gt_loc [4, 5, 6, 2, 1, 0, 7] rfl (lv_isFair_349 hT ha0 ha1 G hK126 (x4 + (opX q x7 4 0 0 0 23)) (x5 + (opX q x7 5 0 0 0 23)) (x6 ||| ((1 : Int32) <<< ((opX q x7 6 0 0 0 23) &&& 31))) x7 1 X  _ H))
def lF_isFair_226 (q : HS) (n0 : Nat) (K126 : Int32 → Int32 → Int32 → Int32 → Int32 → Mem → Nat → Prop) (x4 : Int32) (x5 : Int32) (x6 : Int32) (x7 : Int32) (X : Mem) (n : Nat) (R : Int32 → Mem → Prop) : Prop :=
0 ≤ n ∧
lF_isFair_227 q n0 K126 x4 x5 x6 x7 0 X n R
theorem lv_isFair_226 {T : pT} {b : Nat} (hT : okT T b) {q : HS} {n0 : Nat} (ha0 : arX T b n0) (ha1 : arX T b (n0 + 1)) (G : GdH q) {R : Int32 → Mem → Prop} {K126 : Int32 → Int32 → Int32 → Int32 → Int32 → Mem → Nat → Prop} (hK126 : ∀ (x1 : Int32) (x4 : Int32) (x5 : Int32) (x6 : Int32) (x7 : Int32) (X : Mem) (n : Nat), K126 x1 x4 x5 x6 x7 X n → WG mL_isFair (fun X B => P1 T b X q B) R 126 [(0, .ref b), (1, .int x1), (2, .ref n0), (3, .ref (n0 + 1)), (4, .int x4), (5, .int x5), (6, .int x6), (7, .int x7)] [] X n) (x4 : Int32) (x5 : Int32) (x6 : Int32) (x7 : Int32) (X : Mem) (n : Nat) (H : lF_isFair_226 q n0 K126 x4 x5 x6 x7 X n R) : WG mL_isFair (fun X B => P1 T b X q B) R 226 [(0, .ref b), (2, .ref n0), (3, .ref (n0 + 1)), (4, .int x4), (5, .int x5), (6, .int x6), (7, .int x7)] [] X n := by
  unfold lF_isFair_226 at H
  obtain ⟨hn, H⟩ := H
  refine g_iconst (v := 0) dL_isFair_226 (by decide) ?_
  exact g_bud (n' := n) (by omega) (gt_loc [0, 1, 2, 3, 4, 5, 6] rfl (lv_isFair_227 hT ha0 ha1 G hK126 x4 x5 x6 x7 0 X  _ H))
def lB_isFair_126 (q : HS) (n0 : Nat) (K126 : Int32 → Int32 → Int32 → Int32 → Int32 → Mem → Nat → Prop) (x1 : Int32) (x4 : Int32) (x5 : Int32) (x6 : Int32) (x7 : Int32) (X : Mem) (n : Nat) (R : Int32 → Mem → Prop) : Prop :=
4 ≤ n ∧
((8 ≤ x7) →
  ((x1 = 0) →
    R 0 X) ∧
  ((¬ x1 = 0) →
    ((¬ x4 = x5) →
      R 0 X) ∧
    ((x4 = x5) →
      ((¬ x6 = 255) →
        R 0 X) ∧
      ((x6 = 255) →
        R 1 X)))) ∧
((¬ 8 ≤ x7) →
  ((x1 = 0) →
    lF_isFair_226 q n0 K126 x4 x5 x6 x7 X n R) ∧
  ((¬ x1 = 0) →
    opK q x7 0 0 0 0 30 = 0 ∧
    vp_in x7 8 ∧
    ((¬ (opX q x7 0 0 0 0 30) = ((1000 : Int32) - (X n0 x7.toNatClampNeg))) →
      lF_isFair_226 q n0 K126 x4 x5 x6 x7 X (n - 1) R) ∧
    (((opX q x7 0 0 0 0 30) = ((1000 : Int32) - (X n0 x7.toNatClampNeg))) →
      opK q x7 0 0 0 0 30 = 0 ∧
      (((opX q x7 0 0 0 0 30) < 0) →
        lF_isFair_226 q n0 K126 x4 x5 x6 x7 X (n - 2) R) ∧
      ((¬ (opX q x7 0 0 0 0 30) < 0) →
        opK q x7 1 0 0 0 30 = 0 ∧
        vp_in x7 8 ∧
        ((¬ (opX q x7 1 0 0 0 30) = ((X (n0 + 1) x7.toNatClampNeg) - (X (n0 + 1) x7.toNatClampNeg) / 100 * 100)) →
          lF_isFair_226 q n0 K126 x4 x5 x6 x7 X (n - 3) R) ∧
        (((opX q x7 1 0 0 0 30) = ((X (n0 + 1) x7.toNatClampNeg) - (X (n0 + 1) x7.toNatClampNeg) / 100 * 100)) →
          opK q x7 2 0 0 0 30 = 0 ∧
          vp_in x7 8 ∧
          ((¬ (opX q x7 2 0 0 0 30) = ((X (n0 + 1) x7.toNatClampNeg) / 100)) →
            lF_isFair_226 q n0 K126 x4 x5 x6 x7 X (n - 4) R) ∧
          (((opX q x7 2 0 0 0 30) = ((X (n0 + 1) x7.toNatClampNeg) / 100)) →
            vp_in x7 8 ∧
            ((6 < ((X (n0 + 1) x7.toNatClampNeg) - (X (n0 + 1) x7.toNatClampNeg) / 100 * 100)) →
              lF_isFair_226 q n0 K126 x4 x5 x6 x7 X (n - 4) R) ∧
            ((¬ 6 < ((X (n0 + 1) x7.toNatClampNeg) - (X (n0 + 1) x7.toNatClampNeg) / 100 * 100)) →
              vp_in x7 8 ∧
              ((2 < ((X (n0 + 1) x7.toNatClampNeg) / 100)) →
                lF_isFair_226 q n0 K126 x4 x5 x6 x7 X (n - 4) R) ∧
              ((¬ 2 < ((X (n0 + 1) x7.toNatClampNeg) / 100)) →
                lF_isFair_227 q n0 K126 x4 x5 x6 x7 1 X (n - 4) R))))))))
def lF_isFair_126 (q : HS) (n0 : Nat) (x1 : Int32) (x4 : Int32) (x5 : Int32) (x6 : Int32) (x7 : Int32) (X : Mem) (n : Nat) (R : Int32 → Mem → Prop) : Prop :=
  ∃ I : Nat → Int32 → Int32 → Int32 → Int32 → Int32 → Mem → Prop, (∃ m, m ≤ n ∧ I m x1 x4 x5 x6 x7 X) ∧ ∀ m (x1 : Int32) (x4 : Int32) (x5 : Int32) (x6 : Int32) (x7 : Int32) (X : Mem), I m x1 x4 x5 x6 x7 X → lB_isFair_126 q n0  (fun x1 x4 x5 x6 x7 X m' => ∃ m9, m9 ≤ m' ∧ m9 < m ∧ I m9 x1 x4 x5 x6 x7 X) x1 x4 x5 x6 x7 X m R
theorem lb_isFair_126 {T : pT} {b : Nat} (hT : okT T b) {q : HS} {n0 : Nat} (ha0 : arX T b n0) (ha1 : arX T b (n0 + 1)) (G : GdH q) {R : Int32 → Mem → Prop}  {K126 : Int32 → Int32 → Int32 → Int32 → Int32 → Mem → Nat → Prop} (hK126 : ∀ (x1 : Int32) (x4 : Int32) (x5 : Int32) (x6 : Int32) (x7 : Int32) (X : Mem) (n : Nat), K126 x1 x4 x5 x6 x7 X n → WG mL_isFair (fun X B => P1 T b X q B) R 126 [(0, .ref b), (1, .int x1), (2, .ref n0), (3, .ref (n0 + 1)), (4, .int x4), (5, .int x5), (6, .int x6), (7, .int x7)] [] X n) (x1 : Int32) (x4 : Int32) (x5 : Int32) (x6 : Int32) (x7 : Int32) (X : Mem) (n : Nat) (H : lB_isFair_126 q n0  K126 x1 x4 x5 x6 x7 X n R) : WG mL_isFair (fun X B => P1 T b X q B) R 126 [(0, .ref b), (1, .int x1), (2, .ref n0), (3, .ref (n0 + 1)), (4, .int x4), (5, .int x5), (6, .int x6), (7, .int x7)] [] X n := by
  unfold lB_isFair_126 at H
  obtain ⟨hn, H⟩ := H
  refine g_iload dL_isFair_126 rfl ?_
  refine g_bipush (v := 8) dL_isFair_128 (by decide) ?_
  refine g_icmp_ge (tgt := 356) dL_isFair_130 (by decide) (fun c => ?_) (fun c => ?_)
  · have H := H.1 c
    refine g_iload_n dL_isFair_356 rfl ?_
    refine g_if_eq (tgt := 379) dL_isFair_357 (by decide) (fun c => ?_) (fun c => ?_)
    · have H := H.1 c
      refine g_iconst (v := 0) dL_isFair_379 (by decide) ?_
      exact g_iret dL_isFair_380 (Or.inr ⟨rfl, Or.inl rfl⟩) H
    · have H := H.2 c
      refine g_iload dL_isFair_360 rfl ?_
      refine g_iload dL_isFair_362 rfl ?_
      refine g_icmp_ne (tgt := 379) dL_isFair_364 (by decide) (fun c => ?_) (fun c => ?_)
      · have H := H.1 c
        refine g_iconst (v := 0) dL_isFair_379 (by decide) ?_
        exact g_iret dL_isFair_380 (Or.inr ⟨rfl, Or.inl rfl⟩) H
      · have H := H.2 c
        refine g_iload dL_isFair_367 rfl ?_
        refine g_sipush (v := 255) dL_isFair_369 (by decide) ?_
        refine g_icmp_ne (tgt := 379) dL_isFair_372 (by decide) (fun c => ?_) (fun c => ?_)
        · have H := H.1 c
          refine g_iconst (v := 0) dL_isFair_379 (by decide) ?_
          exact g_iret dL_isFair_380 (Or.inr ⟨rfl, Or.inl rfl⟩) H
        · have H := H.2 c
          refine g_iconst (v := 1) dL_isFair_375 (by decide) ?_
          refine g_goto (tgt := 380) dL_isFair_376 (by decide) ?_
          exact g_iret dL_isFair_380 (Or.inr ⟨rfl, Or.inr rfl⟩) H
  · have H := H.2 c
    refine g_iload_n dL_isFair_133 rfl ?_
    refine g_if_eq (tgt := 226) dL_isFair_134 (by decide) (fun c => ?_) (fun c => ?_)
    · have H := H.1 c
      exact g_bud (n' := n) (by omega) (gt_loc [0, 2, 3, 4, 5, 6, 7] rfl (lv_isFair_226 hT ha0 ha1 G hK126 x4 x5 x6 x7 X  _ H))
    · have H := H.2 c
      refine g_aload_n dL_isFair_137 rfl ?_
      refine g_iload dL_isFair_138 rfl ?_
      refine g_iconst (v := 0) dL_isFair_140 (by decide) ?_
      refine g_view (b := b) (As9 := [.int x7, .int 0]) (st := []) (q := q) (q' := q) (s' := X) (k := opK q x7 0 0 0 0 30) (x := opX q x7 0 0 0 0 30) (PX_use hT) PX_next iv_9_72 rfl (op_big G (fun _ => rfl) (op_squad G x7 0 0 0 0)) H.1 rfl dL_isFair_141 (by unfold rmP; decide) rfl (Nat.le_of_ble_eq_true rfl) (by decide) (by decide) (by omega) ?_
      have H := H.2
      refine g_sipush (v := 1000) dL_isFair_144 (by decide) ?_
      refine g_aload_n dL_isFair_147 rfl ?_
      refine g_iload dL_isFair_148 rfl ?_
      refine g_ialdX ha0 dL_isFair_150 H.1 ?_
      have H := H.2
      refine g_isub dL_isFair_151 ?_
      refine g_icmp_ne (tgt := 226) dL_isFair_152 (by decide) (fun c => ?_) (fun c => ?_)
      · have H := H.1 c
        exact g_bud (n' := (n - 1)) (by omega) (gt_loc [0, 2, 3, 4, 5, 6, 7] rfl (lv_isFair_226 hT ha0 ha1 G hK126 x4 x5 x6 x7 X  _ H))
      · have H := H.2 c
        refine g_aload_n dL_isFair_155 rfl ?_
        refine g_iload dL_isFair_156 rfl ?_
        refine g_iconst (v := 0) dL_isFair_158 (by decide) ?_
        refine g_view (b := b) (As9 := [.int x7, .int 0]) (st := []) (q := q) (q' := q) (s' := X) (k := opK q x7 0 0 0 0 30) (x := opX q x7 0 0 0 0 30) (PX_use hT) PX_next iv_9_72 rfl (op_big G (fun _ => rfl) (op_squad G x7 0 0 0 0)) H.1 rfl dL_isFair_159 (by unfold rmP; decide) rfl (Nat.le_of_ble_eq_true rfl) (by decide) (by decide) (by omega) ?_
        have H := H.2
        refine g_if_lt (tgt := 226) dL_isFair_162 (by decide) (fun c => ?_) (fun c => ?_)
        · have H := H.1 c
          exact g_bud (n' := (n - 2)) (by omega) (gt_loc [0, 2, 3, 4, 5, 6, 7] rfl (lv_isFair_226 hT ha0 ha1 G hK126 x4 x5 x6 x7 X  _ H))
        · have H := H.2 c
          refine g_aload_n dL_isFair_165 rfl ?_
          refine g_iload dL_isFair_166 rfl ?_
          refine g_iconst (v := 1) dL_isFair_168 (by decide) ?_
          refine g_view (b := b) (As9 := [.int x7, .int 1]) (st := []) (q := q) (q' := q) (s' := X) (k := opK q x7 1 0 0 0 30) (x := opX q x7 1 0 0 0 30) (PX_use hT) PX_next iv_9_72 rfl (op_big G (fun _ => rfl) (op_squad G x7 1 0 0 0)) H.1 rfl dL_isFair_169 (by unfold rmP; decide) rfl (Nat.le_of_ble_eq_true rfl) (by decide) (by decide) (by omega) ?_
          have H := H.2
          refine g_aload_n dL_isFair_172 rfl ?_
          refine g_iload dL_isFair_173 rfl ?_
          refine g_ialdX ha1 dL_isFair_175 H.1 ?_
          have H := H.2
          refine g_bipush (v := 100) dL_isFair_176 (by decide) ?_
          refine g_irem dL_isFair_178 (by decide) ?_
          refine g_icmp_ne (tgt := 226) dL_isFair_179 (by decide) (fun c => ?_) (fun c => ?_)
          · have H := H.1 c
            exact g_bud (n' := (n - 3)) (by omega) (gt_loc [0, 2, 3, 4, 5, 6, 7] rfl (lv_isFair_226 hT ha0 ha1 G hK126 x4 x5 x6 x7 X  _ H))
          · have H := H.2 c
            refine g_aload_n dL_isFair_182 rfl ?_
            refine g_iload dL_isFair_183 rfl ?_
            refine g_iconst (v := 2) dL_isFair_185 (by decide) ?_
            refine g_view (b := b) (As9 := [.int x7, .int 2]) (st := []) (q := q) (q' := q) (s' := X) (k := opK q x7 2 0 0 0 30) (x := opX q x7 2 0 0 0 30) (PX_use hT) PX_next iv_9_72 rfl (op_big G (fun _ => rfl) (op_squad G x7 2 0 0 0)) H.1 rfl dL_isFair_186 (by unfold rmP; decide) rfl (Nat.le_of_ble_eq_true rfl) (by decide) (by decide) (by omega) ?_
            have H := H.2
            refine g_aload_n dL_isFair_189 rfl ?_
            refine g_iload dL_isFair_190 rfl ?_
            refine g_ialdX ha1 dL_isFair_192 H.1 ?_
            have H := H.2
            refine g_bipush (v := 100) dL_isFair_193 (by decide) ?_
            refine g_idiv dL_isFair_195 (by decide) ?_
            refine g_icmp_ne (tgt := 226) dL_isFair_196 (by decide) (fun c => ?_) (fun c => ?_)
            · have H := H.1 c
              exact g_bud (n' := (n - 4)) (by omega) (gt_loc [0, 2, 3, 4, 5, 6, 7] rfl (lv_isFair_226 hT ha0 ha1 G hK126 x4 x5 x6 x7 X  _ H))
            · have H := H.2 c
              refine g_aload_n dL_isFair_199 rfl ?_
              refine g_iload dL_isFair_200 rfl ?_
              refine g_ialdX ha1 dL_isFair_202 H.1 ?_
              have H := H.2
              refine g_bipush (v := 100) dL_isFair_203 (by decide) ?_
              refine g_irem dL_isFair_205 (by decide) ?_
              refine g_bipush (v := 6) dL_isFair_206 (by decide) ?_
              refine g_icmp_gt (tgt := 226) dL_isFair_208 (by decide) (fun c => ?_) (fun c => ?_)
              · have H := H.1 c
                exact g_bud (n' := (n - 4)) (by omega) (gt_loc [0, 2, 3, 4, 5, 6, 7] rfl (lv_isFair_226 hT ha0 ha1 G hK126 x4 x5 x6 x7 X  _ H))
              · have H := H.2 c
                refine g_aload_n dL_isFair_211 rfl ?_
                refine g_iload dL_isFair_212 rfl ?_
                refine g_ialdX ha1 dL_isFair_214 H.1 ?_
                have H := H.2
                refine g_bipush (v := 100) dL_isFair_215 (by decide) ?_
                refine g_idiv dL_isFair_217 (by decide) ?_
                refine g_iconst (v := 2) dL_isFair_218 (by decide) ?_
                refine g_icmp_gt (tgt := 226) dL_isFair_219 (by decide) (fun c => ?_) (fun c => ?_)
                · have H := H.1 c
                  exact g_bud (n' := (n - 4)) (by omega) (gt_loc [0, 2, 3, 4, 5, 6, 7] rfl (lv_isFair_226 hT ha0 ha1 G hK126 x4 x5 x6 x7 X  _ H))
                · have H := H.2 c
                  refine g_iconst (v := 1) dL_isFair_222 (by decide) ?_
                  refine g_goto (tgt := 227) dL_isFair_223 (by decide) ?_
                  exact g_bud (n' := (n - 4)) (by omega) (gt_loc [0, 2, 3, 4, 5, 6, 7] rfl (lv_isFair_227 hT ha0 ha1 G hK126 x4 x5 x6 x7 1 X  _ H))
theorem lv_isFair_126 {T : pT} {b : Nat} (hT : okT T b) {q : HS} {n0 : Nat} (ha0 : arX T b n0) (ha1 : arX T b (n0 + 1)) (G : GdH q) {R : Int32 → Mem → Prop}  (x1 : Int32) (x4 : Int32) (x5 : Int32) (x6 : Int32) (x7 : Int32) (X : Mem) (n : Nat) (H : lF_isFair_126 q n0  x1 x4 x5 x6 x7 X n R) : WG mL_isFair (fun X B => P1 T b X q B) R 126 [(0, .ref b), (1, .int x1), (2, .ref n0), (3, .ref (n0 + 1)), (4, .int x4), (5, .int x5), (6, .int x6), (7, .int x7)] [] X n := by
  obtain ⟨I, ⟨m0, hm, h0⟩, hs⟩ := H
  have key : ∀ m, ∀ (x1 : Int32) (x4 : Int32) (x5 : Int32) (x6 : Int32) (x7 : Int32) (X : Mem), I m x1 x4 x5 x6 x7 X → WG mL_isFair (fun X B => P1 T b X q B) R 126 [(0, .ref b), (1, .int x1), (2, .ref n0), (3, .ref (n0 + 1)), (4, .int x4), (5, .int x5), (6, .int x6), (7, .int x7)] [] X m := by
    refine strong (fun m ih => ?_)
    intro x1 x4 x5 x6 x7 X  hI
    exact lb_isFair_126 hT ha0 ha1 G  (fun x1 x4 x5 x6 x7 X  n hz => by
      obtain ⟨m9, z1, z2, z3⟩ := hz
      exact g_bud z1 (ih m9 z2 x1 x4 x5 x6 x7 X  z3)) x1 x4 x5 x6 x7 X  m (hs m x1 x4 x5 x6 x7 X hI)
  exact g_bud hm (key m0 x1 x4 x5 x6 x7 X  h0)
def lF_isFair_108 (q : HS) (n0 : Nat) (K15 : Int32 → Int32 → Mem → Nat → Prop) (x1 : Int32) (x4 : Int32) (X : Mem) (n : Nat) (R : Int32 → Mem → Prop) : Prop :=
0 ≤ n ∧
K15 x1 (x4 + 1) X n
theorem lv_isFair_108 {T : pT} {b : Nat} (hT : okT T b) {q : HS} {n0 : Nat} (ha0 : arX T b n0) (ha1 : arX T b (n0 + 1)) (G : GdH q) {R : Int32 → Mem → Prop} {K15 : Int32 → Int32 → Mem → Nat → Prop} (hK15 : ∀ (x1 : Int32) (x4 : Int32) (X : Mem) (n : Nat), K15 x1 x4 X n → WG mL_isFair (fun X B => P1 T b X q B) R 15 [(0, .ref b), (1, .int x1), (2, .ref n0), (3, .ref (n0 + 1)), (4, .int x4)] [] X n) (x1 : Int32) (x4 : Int32) (X : Mem) (n : Nat) (H : lF_isFair_108 q n0 K15 x1 x4 X n R) : WG mL_isFair (fun X B => P1 T b X q B) R 108 [(0, .ref b), (1, .int x1), (2, .ref n0), (3, .ref (n0 + 1)), (4, .int x4)] [] X n := by
  unfold lF_isFair_108 at H
  obtain ⟨hn, H⟩ := H
  refine gt_iinc (v := (x4 + 1)) (L' := [(4, .int (x4 + 1)), (0, .ref b), (1, .int x1), (2, .ref n0), (3, .ref (n0 + 1))]) dL_isFair_108 rfl (by rfl) (by decide) rfl ?_
  refine g_goto (tgt := 15) dL_isFair_111 (by decide) ?_
  exact g_bud (n' := n) (by omega) (gt_loc [1, 2, 3, 4, 0] rfl (hK15 x1 (x4 + 1) X  _ H))
def lF_isFair_106 (q : HS) (n0 : Nat) (K15 : Int32 → Int32 → Mem → Nat → Prop) (x1 : Int32) (x4 : Int32) (s0 : Int32) (s1 : Int32) (s2 : Int32) (X : Mem) (n : Nat) (R : Int32 → Mem → Prop) : Prop :=
0 ≤ n ∧
vp_in s2 8 ∧
lF_isFair_108 q n0 K15 x1 x4 (up2 X (n0 + 1) s2.toNatClampNeg (s1 + s0)) n R
theorem lv_isFair_106 {T : pT} {b : Nat} (hT : okT T b) {q : HS} {n0 : Nat} (ha0 : arX T b n0) (ha1 : arX T b (n0 + 1)) (G : GdH q) {R : Int32 → Mem → Prop} {K15 : Int32 → Int32 → Mem → Nat → Prop} (hK15 : ∀ (x1 : Int32) (x4 : Int32) (X : Mem) (n : Nat), K15 x1 x4 X n → WG mL_isFair (fun X B => P1 T b X q B) R 15 [(0, .ref b), (1, .int x1), (2, .ref n0), (3, .ref (n0 + 1)), (4, .int x4)] [] X n) (x1 : Int32) (x4 : Int32) (s0 : Int32) (s1 : Int32) (s2 : Int32) (X : Mem) (n : Nat) (H : lF_isFair_106 q n0 K15 x1 x4 s0 s1 s2 X n R) : WG mL_isFair (fun X B => P1 T b X q B) R 106 [(0, .ref b), (1, .int x1), (2, .ref n0), (3, .ref (n0 + 1)), (4, .int x4)] [.int s0, .int s1, .int s2, .ref (n0 + 1)] X n := by
  unfold lF_isFair_106 at H
  obtain ⟨hn, H⟩ := H
  refine g_iadd dL_isFair_106 ?_
  refine g_iastX G ha1 dL_isFair_107 H.1 ?_
  have H := H.2
  exact g_bud (n' := n) (by omega) (gt_loc [0, 1, 2, 3, 4] rfl (lv_isFair_108 hT ha0 ha1 G hK15 x1 x4 (up2 X (n0 + 1) s2.toNatClampNeg (s1 + s0))  _ H))
def lF_isFair_68 (q : HS) (n0 : Nat) (K15 : Int32 → Int32 → Mem → Nat → Prop) (x4 : Int32) (x5 : Int32) (s0 : Int32) (X : Mem) (n : Nat) (R : Int32 → Mem → Prop) : Prop :=
1 ≤ n ∧
((x5 < 0) →
  lF_isFair_108 q n0 K15 s0 x4 X n R) ∧
((¬ x5 < 0) →
  vp_in x5 8 ∧
  opK q x4 1 0 0 0 29 = 0 ∧
  vp_in x5 8 ∧
  vp_in x5 8 ∧
  ((¬ (x4 - x4 / 4 * 4) = 0) →
    lF_isFair_106 q n0 K15 s0 x4 1 ((up2 X n0 x5.toNatClampNeg ((X n0 x5.toNatClampNeg) + (opX q x4 1 0 0 0 29))) (n0 + 1) x5.toNatClampNeg) x5 (up2 X n0 x5.toNatClampNeg ((X n0 x5.toNatClampNeg) + (opX q x4 1 0 0 0 29))) (n - 1) R) ∧
  (((x4 - x4 / 4 * 4) = 0) →
    lF_isFair_106 q n0 K15 s0 x4 101 ((up2 X n0 x5.toNatClampNeg ((X n0 x5.toNatClampNeg) + (opX q x4 1 0 0 0 29))) (n0 + 1) x5.toNatClampNeg) x5 (up2 X n0 x5.toNatClampNeg ((X n0 x5.toNatClampNeg) + (opX q x4 1 0 0 0 29))) (n - 1) R))
theorem lv_isFair_68 {T : pT} {b : Nat} (hT : okT T b) {q : HS} {n0 : Nat} (ha0 : arX T b n0) (ha1 : arX T b (n0 + 1)) (G : GdH q) {R : Int32 → Mem → Prop} {K15 : Int32 → Int32 → Mem → Nat → Prop} (hK15 : ∀ (x1 : Int32) (x4 : Int32) (X : Mem) (n : Nat), K15 x1 x4 X n → WG mL_isFair (fun X B => P1 T b X q B) R 15 [(0, .ref b), (1, .int x1), (2, .ref n0), (3, .ref (n0 + 1)), (4, .int x4)] [] X n) (x4 : Int32) (x5 : Int32) (s0 : Int32) (X : Mem) (n : Nat) (H : lF_isFair_68 q n0 K15 x4 x5 s0 X n R) : WG mL_isFair (fun X B => P1 T b X q B) R 68 [(0, .ref b), (2, .ref n0), (3, .ref (n0 + 1)), (4, .int x4), (5, .int x5)] [.int s0] X n := by
  unfold lF_isFair_68 at H
  obtain ⟨hn, H⟩ := H
  refine gt_istore_n (L' := [(1, .int s0), (0, .ref b), (2, .ref n0), (3, .ref (n0 + 1)), (4, .int x4), (5, .int x5)]) dL_isFair_68 (by decide) rfl ?_
  refine g_iload dL_isFair_69 rfl ?_
  refine g_if_lt (tgt := 108) dL_isFair_71 (by decide) (fun c => ?_) (fun c => ?_)
  · have H := H.1 c
    exact g_bud (n' := n) (by omega) (gt_loc [1, 0, 2, 3, 4] rfl (lv_isFair_108 hT ha0 ha1 G hK15 s0 x4 X  _ H))
  · have H := H.2 c
    refine g_aload_n dL_isFair_74 rfl ?_
    refine g_iload dL_isFair_75 rfl ?_
    refine g_dup2 dL_isFair_77 rfl rfl ?_
    refine g_ialdX ha0 dL_isFair_78 H.1 ?_
    have H := H.2
    refine g_aload_n dL_isFair_79 rfl ?_
    refine g_iload dL_isFair_80 rfl ?_
    refine g_iconst (v := 1) dL_isFair_82 (by decide) ?_
    refine g_view (b := b) (As9 := [.int x4, .int 1]) (st := [.int (X n0 x5.toNatClampNeg), .int x5, .ref n0]) (q := q) (q' := q) (s' := X) (k := opK q x4 1 0 0 0 29) (x := opX q x4 1 0 0 0 29) (PX_use hT) PX_next iv_9_69 rfl (op_big G (fun _ => rfl) (op_lot G x4 1 0 0 0)) H.1 rfl dL_isFair_83 (by unfold rmP; decide) rfl (Nat.le_of_ble_eq_true rfl) (by decide) (by decide) (by omega) ?_
    have H := H.2
    refine g_iadd dL_isFair_86 ?_
    refine g_iastX G ha0 dL_isFair_87 H.1 ?_
    have H := H.2
    refine g_aload_n dL_isFair_88 rfl ?_
    refine g_iload dL_isFair_89 rfl ?_
    refine g_dup2 dL_isFair_91 rfl rfl ?_
    refine g_ialdX ha1 dL_isFair_92 H.1 ?_
    have H := H.2
    refine g_iload dL_isFair_93 rfl ?_
    refine g_iconst (v := 4) dL_isFair_95 (by decide) ?_
    refine g_irem dL_isFair_96 (by decide) ?_
    refine g_if_ne (tgt := 105) dL_isFair_97 (by decide) (fun c => ?_) (fun c => ?_)
    · have H := H.1 c
      refine g_iconst (v := 1) dL_isFair_105 (by decide) ?_
      exact g_bud (n' := (n - 1)) (by omega) (gt_loc [1, 0, 2, 3, 4] rfl (lv_isFair_106 hT ha0 ha1 G hK15 s0 x4 1 ((up2 X n0 x5.toNatClampNeg ((X n0 x5.toNatClampNeg) + (opX q x4 1 0 0 0 29))) (n0 + 1) x5.toNatClampNeg) x5 (up2 X n0 x5.toNatClampNeg ((X n0 x5.toNatClampNeg) + (opX q x4 1 0 0 0 29)))  _ H))
    · have H := H.2 c
      refine g_bipush (v := 101) dL_isFair_100 (by decide) ?_
      refine g_goto (tgt := 106) dL_isFair_102 (by decide) ?_
      exact g_bud (n' := (n - 1)) (by omega) (gt_loc [1, 0, 2, 3, 4] rfl (lv_isFair_106 hT ha0 ha1 G hK15 s0 x4 101 ((up2 X n0 x5.toNatClampNeg ((X n0 x5.toNatClampNeg) + (opX q x4 1 0 0 0 29))) (n0 + 1) x5.toNatClampNeg) x5 (up2 X n0 x5.toNatClampNeg ((X n0 x5.toNatClampNeg) + (opX q x4 1 0 0 0 29)))  _ H))
def lF_isFair_67 (q : HS) (n0 : Nat) (K15 : Int32 → Int32 → Mem → Nat → Prop) (x4 : Int32) (x5 : Int32) (X : Mem) (n : Nat) (R : Int32 → Mem → Prop) : Prop :=
0 ≤ n ∧
lF_isFair_68 q n0 K15 x4 x5 0 X n R
theorem lv_isFair_67 {T : pT} {b : Nat} (hT : okT T b) {q : HS} {n0 : Nat} (ha0 : arX T b n0) (ha1 : arX T b (n0 + 1)) (G : GdH q) {R : Int32 → Mem → Prop} {K15 : Int32 → Int32 → Mem → Nat → Prop} (hK15 : ∀ (x1 : Int32) (x4 : Int32) (X : Mem) (n : Nat), K15 x1 x4 X n → WG mL_isFair (fun X B => P1 T b X q B) R 15 [(0, .ref b), (1, .int x1), (2, .ref n0), (3, .ref (n0 + 1)), (4, .int x4)] [] X n) (x4 : Int32) (x5 : Int32) (X : Mem) (n : Nat) (H : lF_isFair_67 q n0 K15 x4 x5 X n R) : WG mL_isFair (fun X B => P1 T b X q B) R 67 [(0, .ref b), (2, .ref n0), (3, .ref (n0 + 1)), (4, .int x4), (5, .int x5)] [] X n := by
  unfold lF_isFair_67 at H
  obtain ⟨hn, H⟩ := H
  refine g_iconst (v := 0) dL_isFair_67 (by decide) ?_
  exact g_bud (n' := n) (by omega) (gt_loc [0, 1, 2, 3, 4] rfl (lv_isFair_68 hT ha0 ha1 G hK15 x4 x5 0 X  _ H))
def lF_isFair_60 (q : HS) (n0 : Nat) (K15 : Int32 → Int32 → Mem → Nat → Prop) (x4 : Int32) (x5 : Int32) (s0 : Int32) (s1 : Int32) (X : Mem) (n : Nat) (R : Int32 → Mem → Prop) : Prop :=
0 ≤ n ∧
((¬ s1 = s0) →
  lF_isFair_67 q n0 K15 x4 x5 X n R) ∧
((s1 = s0) →
  lF_isFair_68 q n0 K15 x4 x5 1 X n R)
theorem lv_isFair_60 {T : pT} {b : Nat} (hT : okT T b) {q : HS} {n0 : Nat} (ha0 : arX T b n0) (ha1 : arX T b (n0 + 1)) (G : GdH q) {R : Int32 → Mem → Prop} {K15 : Int32 → Int32 → Mem → Nat → Prop} (hK15 : ∀ (x1 : Int32) (x4 : Int32) (X : Mem) (n : Nat), K15 x1 x4 X n → WG mL_isFair (fun X B => P1 T b X q B) R 15 [(0, .ref b), (1, .int x1), (2, .ref n0), (3, .ref (n0 + 1)), (4, .int x4)] [] X n) (x4 : Int32) (x5 : Int32) (s0 : Int32) (s1 : Int32) (X : Mem) (n : Nat) (H : lF_isFair_60 q n0 K15 x4 x5 s0 s1 X n R) : WG mL_isFair (fun X B => P1 T b X q B) R 60 [(0, .ref b), (2, .ref n0), (3, .ref (n0 + 1)), (4, .int x4), (5, .int x5)] [.int s0, .int s1] X n := by
  unfold lF_isFair_60 at H
  obtain ⟨hn, H⟩ := H
  refine g_icmp_ne (tgt := 67) dL_isFair_60 (by decide) (fun c => ?_) (fun c => ?_)
  · have H := H.1 c
    exact g_bud (n' := n) (by omega) (gt_loc [0, 1, 2, 3, 4] rfl (lv_isFair_67 hT ha0 ha1 G hK15 x4 x5 X  _ H))
  · have H := H.2 c
    refine g_iconst (v := 1) dL_isFair_63 (by decide) ?_
    refine g_goto (tgt := 68) dL_isFair_64 (by decide) ?_
    exact g_bud (n' := n) (by omega) (gt_loc [0, 1, 2, 3, 4] rfl (lv_isFair_68 hT ha0 ha1 G hK15 x4 x5 1 X  _ H))
def lF_isFair_45 (q : HS) (n0 : Nat) (K15 : Int32 → Int32 → Mem → Nat → Prop) (x4 : Int32) (x5 : Int32) (s0 : Int32) (X : Mem) (n : Nat) (R : Int32 → Mem → Prop) : Prop :=
1 ≤ n ∧
opK q x4 1 0 0 0 29 = 0 ∧
((0 ≤ (opX q x4 1 0 0 0 29)) →
  lF_isFair_60 q n0 K15 x4 x5 0 s0 X (n - 1) R) ∧
((¬ 0 ≤ (opX q x4 1 0 0 0 29)) →
  lF_isFair_60 q n0 K15 x4 x5 1 s0 X (n - 1) R)
theorem lv_isFair_45 {T : pT} {b : Nat} (hT : okT T b) {q : HS} {n0 : Nat} (ha0 : arX T b n0) (ha1 : arX T b (n0 + 1)) (G : GdH q) {R : Int32 → Mem → Prop} {K15 : Int32 → Int32 → Mem → Nat → Prop} (hK15 : ∀ (x1 : Int32) (x4 : Int32) (X : Mem) (n : Nat), K15 x1 x4 X n → WG mL_isFair (fun X B => P1 T b X q B) R 15 [(0, .ref b), (1, .int x1), (2, .ref n0), (3, .ref (n0 + 1)), (4, .int x4)] [] X n) (x4 : Int32) (x5 : Int32) (s0 : Int32) (X : Mem) (n : Nat) (H : lF_isFair_45 q n0 K15 x4 x5 s0 X n R) : WG mL_isFair (fun X B => P1 T b X q B) R 45 [(0, .ref b), (2, .ref n0), (3, .ref (n0 + 1)), (4, .int x4), (5, .int x5)] [.int s0] X n := by
  unfold lF_isFair_45 at H
  obtain ⟨hn, H⟩ := H
  refine g_aload_n dL_isFair_45 rfl ?_
  refine g_iload dL_isFair_46 rfl ?_
  refine g_iconst (v := 1) dL_isFair_48 (by decide) ?_
  refine g_view (b := b) (As9 := [.int x4, .int 1]) (st := [.int s0]) (q := q) (q' := q) (s' := X) (k := opK q x4 1 0 0 0 29) (x := opX q x4 1 0 0 0 29) (PX_use hT) PX_next iv_9_69 rfl (op_big G (fun _ => rfl) (op_lot G x4 1 0 0 0)) H.1 rfl dL_isFair_49 (by unfold rmP; decide) rfl (Nat.le_of_ble_eq_true rfl) (by decide) (by decide) (by omega) ?_
  have H := H.2
  refine g_if_ge (tgt := 59) dL_isFair_52 (by decide) (fun c => ?_) (fun c => ?_)
  · have H := H.1 c
    refine g_iconst (v := 0) dL_isFair_59 (by decide) ?_
    exact g_bud (n' := (n - 1)) (by omega) (gt_loc [0, 1, 2, 3, 4] rfl (lv_isFair_60 hT ha0 ha1 G hK15 x4 x5 0 s0 X  _ H))
  · have H := H.2 c
    refine g_iconst (v := 1) dL_isFair_55 (by decide) ?_
    refine g_goto (tgt := 60) dL_isFair_56 (by decide) ?_
    exact g_bud (n' := (n - 1)) (by omega) (gt_loc [0, 1, 2, 3, 4] rfl (lv_isFair_60 hT ha0 ha1 G hK15 x4 x5 1 s0 X  _ H))
def lB_isFair_15 (q : HS) (n0 : Nat) (K15 : Int32 → Int32 → Mem → Nat → Prop) (x1 : Int32) (x4 : Int32) (X : Mem) (n : Nat) (R : Int32 → Mem → Prop) : Prop :=
1 ≤ n ∧
((24 ≤ x4) →
  lF_isFair_126 q n0  x1 0 0 0 0 X n R) ∧
((¬ 24 ≤ x4) →
  opK q x4 0 0 0 0 29 = 0 ∧
  ((x1 = 0) →
    lF_isFair_67 q n0 K15 x4 (opX q x4 0 0 0 0 29) X (n - 1) R) ∧
  ((¬ x1 = 0) →
    ((0 ≤ (opX q x4 0 0 0 0 29)) →
      lF_isFair_45 q n0 K15 x4 (opX q x4 0 0 0 0 29) 0 X (n - 1) R) ∧
    ((¬ 0 ≤ (opX q x4 0 0 0 0 29)) →
      lF_isFair_45 q n0 K15 x4 (opX q x4 0 0 0 0 29) 1 X (n - 1) R)))
def lF_isFair_15 (q : HS) (n0 : Nat) (x1 : Int32) (x4 : Int32) (X : Mem) (n : Nat) (R : Int32 → Mem → Prop) : Prop :=
  ∃ I : Nat → Int32 → Int32 → Mem → Prop, (∃ m, m ≤ n ∧ I m x1 x4 X) ∧ ∀ m (x1 : Int32) (x4 : Int32) (X : Mem), I m x1 x4 X → lB_isFair_15 q n0  (fun x1 x4 X m' => ∃ m9, m9 ≤ m' ∧ m9 < m ∧ I m9 x1 x4 X) x1 x4 X m R
theorem lb_isFair_15 {T : pT} {b : Nat} (hT : okT T b) {q : HS} {n0 : Nat} (ha0 : arX T b n0) (ha1 : arX T b (n0 + 1)) (G : GdH q) {R : Int32 → Mem → Prop}  {K15 : Int32 → Int32 → Mem → Nat → Prop} (hK15 : ∀ (x1 : Int32) (x4 : Int32) (X : Mem) (n : Nat), K15 x1 x4 X n → WG mL_isFair (fun X B => P1 T b X q B) R 15 [(0, .ref b), (1, .int x1), (2, .ref n0), (3, .ref (n0 + 1)), (4, .int x4)] [] X n) (x1 : Int32) (x4 : Int32) (X : Mem) (n : Nat) (H : lB_isFair_15 q n0  K15 x1 x4 X n R) : WG mL_isFair (fun X B => P1 T b X q B) R 15 [(0, .ref b), (1, .int x1), (2, .ref n0), (3, .ref (n0 + 1)), (4, .int x4)] [] X n := by
  unfold lB_isFair_15 at H
  obtain ⟨hn, H⟩ := H
  refine g_iload dL_isFair_15 rfl ?_
  refine g_bipush (v := 24) dL_isFair_17 (by decide) ?_
  refine g_icmp_ge (tgt := 114) dL_isFair_19 (by decide) (fun c => ?_) (fun c => ?_)
  · have H := H.1 c
    refine g_iconst (v := 0) dL_isFair_114 (by decide) ?_
    refine gt_istore (L' := [(4, .int 0), (0, .ref b), (1, .int x1), (2, .ref n0), (3, .ref (n0 + 1))]) dL_isFair_115 (by decide) rfl ?_
    refine g_iconst (v := 0) dL_isFair_117 (by decide) ?_
    refine gt_istore (L' := [(5, .int 0), (4, .int 0), (0, .ref b), (1, .int x1), (2, .ref n0), (3, .ref (n0 + 1))]) dL_isFair_118 (by decide) rfl ?_
    refine g_iconst (v := 0) dL_isFair_120 (by decide) ?_
    refine gt_istore (L' := [(6, .int 0), (5, .int 0), (4, .int 0), (0, .ref b), (1, .int x1), (2, .ref n0), (3, .ref (n0 + 1))]) dL_isFair_121 (by decide) rfl ?_
    refine g_iconst (v := 0) dL_isFair_123 (by decide) ?_
    refine gt_istore (L' := [(7, .int 0), (6, .int 0), (5, .int 0), (4, .int 0), (0, .ref b), (1, .int x1), (2, .ref n0), (3, .ref (n0 + 1))]) dL_isFair_124 (by decide) rfl ?_
    exact g_bud (n' := n) (by omega) (gt_loc [4, 5, 6, 7, 3, 2, 1, 0] rfl (lv_isFair_126 hT ha0 ha1 G  x1 0 0 0 0 X  _ H))
  · have H := H.2 c
    refine g_aload_n dL_isFair_22 rfl ?_
    refine g_iload dL_isFair_23 rfl ?_
    refine g_iconst (v := 0) dL_isFair_25 (by decide) ?_
    refine g_view (b := b) (As9 := [.int x4, .int 0]) (st := []) (q := q) (q' := q) (s' := X) (k := opK q x4 0 0 0 0 29) (x := opX q x4 0 0 0 0 29) (PX_use hT) PX_next iv_9_69 rfl (op_big G (fun _ => rfl) (op_lot G x4 0 0 0 0)) H.1 rfl dL_isFair_26 (by unfold rmP; decide) rfl (Nat.le_of_ble_eq_true rfl) (by decide) (by decide) (by omega) ?_
    have H := H.2
    refine gt_istore (L' := [(5, .int (opX q x4 0 0 0 0 29)), (0, .ref b), (1, .int x1), (2, .ref n0), (3, .ref (n0 + 1)), (4, .int x4)]) dL_isFair_29 (by decide) rfl ?_
    refine g_iload_n dL_isFair_31 rfl ?_
    refine g_if_eq (tgt := 67) dL_isFair_32 (by decide) (fun c => ?_) (fun c => ?_)
    · have H := H.1 c
      exact g_bud (n' := (n - 1)) (by omega) (gt_loc [1, 3, 4, 5, 0] rfl (lv_isFair_67 hT ha0 ha1 G hK15 x4 (opX q x4 0 0 0 0 29) X  _ H))
    · have H := H.2 c
      refine g_iload dL_isFair_35 rfl ?_
      refine g_if_ge (tgt := 44) dL_isFair_37 (by decide) (fun c => ?_) (fun c => ?_)
      · have H := H.1 c
        refine g_iconst (v := 0) dL_isFair_44 (by decide) ?_
        exact g_bud (n' := (n - 1)) (by omega) (gt_loc [1, 3, 4, 5, 0] rfl (lv_isFair_45 hT ha0 ha1 G hK15 x4 (opX q x4 0 0 0 0 29) 0 X  _ H))
      · have H := H.2 c
        refine g_iconst (v := 1) dL_isFair_40 (by decide) ?_
        refine g_goto (tgt := 45) dL_isFair_41 (by decide) ?_
        exact g_bud (n' := (n - 1)) (by omega) (gt_loc [1, 3, 4, 5, 0] rfl (lv_isFair_45 hT ha0 ha1 G hK15 x4 (opX q x4 0 0 0 0 29) 1 X  _ H))
theorem lv_isFair_15 {T : pT} {b : Nat} (hT : okT T b) {q : HS} {n0 : Nat} (ha0 : arX T b n0) (ha1 : arX T b (n0 + 1)) (G : GdH q) {R : Int32 → Mem → Prop}  (x1 : Int32) (x4 : Int32) (X : Mem) (n : Nat) (H : lF_isFair_15 q n0  x1 x4 X n R) : WG mL_isFair (fun X B => P1 T b X q B) R 15 [(0, .ref b), (1, .int x1), (2, .ref n0), (3, .ref (n0 + 1)), (4, .int x4)] [] X n := by
  obtain ⟨I, ⟨m0, hm, h0⟩, hs⟩ := H
  have key : ∀ m, ∀ (x1 : Int32) (x4 : Int32) (X : Mem), I m x1 x4 X → WG mL_isFair (fun X B => P1 T b X q B) R 15 [(0, .ref b), (1, .int x1), (2, .ref n0), (3, .ref (n0 + 1)), (4, .int x4)] [] X m := by
    refine strong (fun m ih => ?_)
    intro x1 x4 X  hI
    exact lb_isFair_15 hT ha0 ha1 G  (fun x1 x4 X  n hz => by
      obtain ⟨m9, z1, z2, z3⟩ := hz
      exact g_bud z1 (ih m9 z2 x1 x4 X  z3)) x1 x4 X  m (hs m x1 x4 X hI)
  exact g_bud hm (key m0 x1 x4 X  h0)
def lF_isFair (q : HS) (n0 : Nat) (X : Mem) (n : Nat) (R : Int32 → Mem → Prop) : Prop :=
0 ≤ n ∧
lF_isFair_15 q n0  1 0 X n R
theorem lv_isFair {T : pT} {b : Nat} (hT : okT T b) {q : HS} {n0 : Nat} (ha0 : arX T b n0) (ha1 : arX T b (n0 + 1)) (G : GdH q) {R : Int32 → Mem → Prop} (X : Mem)  (n : Nat) (H : lF_isFair q n0 X n R) : WG mL_isFair (fun X B => P1 T b X q B) R 12 [(3, .ref (n0 + 1)), (2, .ref n0), (1, .int 1), (0, .ref b)] [] X n := by
  unfold lF_isFair at H
  obtain ⟨hn, H⟩ := H
  refine g_iconst (v := 0) dL_isFair_12 (by decide) ?_
  refine gt_istore (L' := [(4, .int 0), (3, .ref (n0 + 1)), (2, .ref n0), (1, .int 1), (0, .ref b)]) dL_isFair_13 (by decide) rfl ?_
  exact g_bud (n' := n) (by omega) (gt_loc [4, 3, 2, 1, 0] rfl (lv_isFair_15 hT ha0 ha1 G  1 0 X  _ H))
