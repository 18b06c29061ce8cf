def lF_isInOrder_410 (q : HS) (x1 : Int32) (n : Nat) (R : Int32 → HS → Prop) : Prop :=
2 ≤ n ∧
((x1 = 0) →
  R 0 q) ∧
((¬ x1 = 0) →
  opK q 1 0 0 0 0 17 = 0 ∧
  (((opX q 1 0 0 0 0 17) < 0) →
    R 0 q) ∧
  ((¬ (opX q 1 0 0 0 0 17) < 0) →
    opK q 1 0 0 0 0 17 = 0 ∧
    ((2 ≤ (opX q 1 0 0 0 0 17)) →
      R 0 q) ∧
    ((¬ 2 ≤ (opX q 1 0 0 0 0 17)) →
      R 1 q)))
theorem lv_isInOrder_410 {T : pT} {b : Nat} {X : Mem} (hT : okT T b) {q : HS} (G : GdH q) {R : Int32 → HS → Prop}  (x1 : Int32) (n : Nat) (H : lF_isInOrder_410 q  x1 n R) : WG mL_isInOrder (P1 T b X) R 410 [(0, .ref b), (1, .int x1)] [] q n := by
  unfold lF_isInOrder_410 at H
  obtain ⟨hn, H⟩ := H
  refine g_iload_n dL_isInOrder_410 rfl ?_
  refine g_if_eq (tgt := 435) dL_isInOrder_411 (by decide) (fun c => ?_) (fun c => ?_)
  · have H := H.1 c
    refine g_iconst (v := 0) dL_isInOrder_435 (by decide) ?_
    exact g_iret dL_isInOrder_436 (Or.inr ⟨rfl, Or.inl rfl⟩) H
  · have H := H.2 c
    refine g_aload_n dL_isInOrder_414 rfl ?_
    refine g_iconst (v := 1) dL_isInOrder_415 (by decide) ?_
    refine g_view (b := b) (As9 := [.int 1]) (st := []) (q := q) (q' := q) (s' := q) (k := opK q 1 0 0 0 0 17) (x := opX q 1 0 0 0 0 17) (P1_use hT) P1_next iv_9_30 rfl (op_big G (fun _ => rfl) (op_match G 1 0 0 0 0)) H.1 rfl dL_isInOrder_416 (by unfold rmP; decide) rfl (Nat.le_of_ble_eq_true rfl) (by decide) (by decide) (by omega) ?_
    have H := H.2
    refine g_if_lt (tgt := 435) dL_isInOrder_419 (by decide) (fun c => ?_) (fun c => ?_)
    · have H := H.1 c
      refine g_iconst (v := 0) dL_isInOrder_435 (by decide) ?_
      exact g_iret dL_isInOrder_436 (Or.inr ⟨rfl, Or.inl rfl⟩) H
    · have H := H.2 c
      refine g_aload_n dL_isInOrder_422 rfl ?_
      refine g_iconst (v := 1) dL_isInOrder_423 (by decide) ?_
      refine g_view (b := b) (As9 := [.int 1]) (st := []) (q := q) (q' := q) (s' := q) (k := opK q 1 0 0 0 0 17) (x := opX q 1 0 0 0 0 17) (P1_use hT) P1_next iv_9_30 rfl (op_big G (fun _ => rfl) (op_match G 1 0 0 0 0)) H.1 rfl dL_isInOrder_424 (by unfold rmP; decide) rfl (Nat.le_of_ble_eq_true rfl) (by decide) (by decide) (by omega) ?_
      have H := H.2
      refine g_iconst (v := 2) dL_isInOrder_427 (by decide) ?_
      refine g_icmp_ge (tgt := 435) dL_isInOrder_428 (by decide) (fun c => ?_) (fun c => ?_)
      · have H := H.1 c
        refine g_iconst (v := 0) dL_isInOrder_435 (by decide) ?_
        exact g_iret dL_isInOrder_436 (Or.inr ⟨rfl, Or.inl rfl⟩) H
      · have H := H.2 c
        refine g_iconst (v := 1) dL_isInOrder_431 (by decide) ?_
        refine g_goto (tgt := 436) dL_isInOrder_432 (by decide) ?_
        exact g_iret dL_isInOrder_436 (Or.inr ⟨rfl, Or.inr rfl⟩) H
def lF_isInOrder_404 (q : HS) (K32 : Int32 → Int32 → Int32 → Nat → Prop) (x1 : Int32) (x2 : Int32) (x3 : Int32) (n : Nat) (R : Int32 → HS → Prop) : Prop :=
0 ≤ n ∧
K32 x1 x2 (x3 + 1)  n
theorem lv_isInOrder_404 {T : pT} {b : Nat} {X : Mem} (hT : okT T b) {q : HS} (G : GdH q) {R : Int32 → HS → Prop} {K32 : Int32 → Int32 → Int32 → Nat → Prop} (hK32 : ∀ (x1 : Int32) (x2 : Int32) (x3 : Int32) (n : Nat), K32 x1 x2 x3  n → WG mL_isInOrder (P1 T b X) R 32 [(0, .ref b), (1, .int x1), (2, .int x2), (3, .int x3)] [] q n) (x1 : Int32) (x2 : Int32) (x3 : Int32) (n : Nat) (H : lF_isInOrder_404 q K32 x1 x2 x3 n R) : WG mL_isInOrder (P1 T b X) R 404 [(0, .ref b), (1, .int x1), (2, .int x2), (3, .int x3)] [] q n := by
  unfold lF_isInOrder_404 at H
  obtain ⟨hn, H⟩ := H
  refine gt_iinc (v := (x3 + 1)) (L' := [(3, .int (x3 + 1)), (0, .ref b), (1, .int x1), (2, .int x2)]) dL_isInOrder_404 rfl (by rfl) (by decide) rfl ?_
  refine g_goto (tgt := 32) dL_isInOrder_407 (by decide) ?_
  exact g_bud (n' := n) (by omega) (gt_loc [1, 2, 3, 0] rfl (hK32 x1 x2 (x3 + 1)   _ H))
def lF_isInOrder_397 (q : HS) (K32 : Int32 → Int32 → Int32 → Nat → Prop) (K341 : Int32 → Int32 → Int32 → Int32 → Nat → Prop) (x2 : Int32) (x3 : Int32) (x10 : Int32) (s0 : Int32) (n : Nat) (R : Int32 → HS → Prop) : Prop :=
0 ≤ n ∧
K341 s0 x2 x3 (x10 + 1)  n
theorem lv_isInOrder_397 {T : pT} {b : Nat} {X : Mem} (hT : okT T b) {q : HS} (G : GdH q) {R : Int32 → HS → Prop} {K32 : Int32 → Int32 → Int32 → Nat → Prop} {K341 : Int32 → Int32 → Int32 → Int32 → Nat → Prop} (hK32 : ∀ (x1 : Int32) (x2 : Int32) (x3 : Int32) (n : Nat), K32 x1 x2 x3  n → WG mL_isInOrder (P1 T b X) R 32 [(0, .ref b), (1, .int x1), (2, .int x2), (3, .int x3)] [] q n) (hK341 : ∀ (x1 : Int32) (x2 : Int32) (x3 : Int32) (x10 : Int32) (n : Nat), K341 x1 x2 x3 x10  n → WG mL_isInOrder (P1 T b X) R 341 [(0, .ref b), (1, .int x1), (2, .int x2), (3, .int x3), (10, .int x10)] [] q n) (x2 : Int32) (x3 : Int32) (x10 : Int32) (s0 : Int32) (n : Nat) (H : lF_isInOrder_397 q K32 K341 x2 x3 x10 s0 n R) : WG mL_isInOrder (P1 T b X) R 397 [(0, .ref b), (2, .int x2), (3, .int x3), (10, .int x10)] [.int s0] q n := by
  unfold lF_isInOrder_397 at H
  obtain ⟨hn, H⟩ := H
  refine gt_istore_n (L' := [(1, .int s0), (0, .ref b), (2, .int x2), (3, .int x3), (10, .int x10)]) dL_isInOrder_397 (by decide) rfl ?_
  refine gt_iinc (v := (x10 + 1)) (L' := [(10, .int (x10 + 1)), (1, .int s0), (0, .ref b), (2, .int x2), (3, .int x3)]) dL_isInOrder_398 rfl (by rfl) (by decide) rfl ?_
  refine g_goto (tgt := 341) dL_isInOrder_401 (by decide) ?_
  exact g_bud (n' := n) (by omega) (gt_loc [2, 1, 3, 4, 0] rfl (hK341 s0 x2 x3 (x10 + 1)   _ H))
def lF_isInOrder_396 (q : HS) (K32 : Int32 → Int32 → Int32 → Nat → Prop) (K341 : Int32 → Int32 → Int32 → Int32 → Nat → Prop) (x2 : Int32) (x3 : Int32) (x10 : Int32) (n : Nat) (R : Int32 → HS → Prop) : Prop :=
0 ≤ n ∧
lF_isInOrder_397 q K32 K341 x2 x3 x10 0  n R
theorem lv_isInOrder_396 {T : pT} {b : Nat} {X : Mem} (hT : okT T b) {q : HS} (G : GdH q) {R : Int32 → HS → Prop} {K32 : Int32 → Int32 → Int32 → Nat → Prop} {K341 : Int32 → Int32 → Int32 → Int32 → Nat → Prop} (hK32 : ∀ (x1 : Int32) (x2 : Int32) (x3 : Int32) (n : Nat), K32 x1 x2 x3  n → WG mL_isInOrder (P1 T b X) R 32 [(0, .ref b), (1, .int x1), (2, .int x2), (3, .int x3)] [] q n) (hK341 : ∀ (x1 : Int32) (x2 : Int32) (x3 : Int32) (x10 : Int32) (n : Nat), K341 x1 x2 x3 x10  n → WG mL_isInOrder (P1 T b X) R 341 [(0, .ref b), (1, .int x1), (2, .int x2), (3, .int x3), (10, .int x10)] [] q n) (x2 : Int32) (x3 : Int32) (x10 : Int32) (n : Nat) (H : lF_isInOrder_396 q K32 K341 x2 x3 x10 n R) : WG mL_isInOrder (P1 T b X) R 396 [(0, .ref b), (2, .int x2), (3, .int x3), (10, .int x10)] [] q n := by
  unfold lF_isInOrder_396 at H
  obtain ⟨hn, H⟩ := H
  refine g_iconst (v := 0) dL_isInOrder_396 (by decide) ?_
  exact g_bud (n' := n) (by omega) (gt_loc [0, 1, 2, 3] rfl (lv_isInOrder_397 hT G hK32 hK341 x2 x3 x10 0   _ H))
def lF_isInOrder_392 (q : HS) (K32 : Int32 → Int32 → Int32 → Nat → Prop) (K341 : Int32 → Int32 → Int32 → Int32 → Nat → Prop) (x2 : Int32) (x3 : Int32) (x10 : Int32) (n : Nat) (R : Int32 → HS → Prop) : Prop :=
0 ≤ n ∧
lF_isInOrder_397 q K32 K341 x2 x3 x10 1  n R
theorem lv_isInOrder_392 {T : pT} {b : Nat} {X : Mem} (hT : okT T b) {q : HS} (G : GdH q) {R : Int32 → HS → Prop} {K32 : Int32 → Int32 → Int32 → Nat → Prop} {K341 : Int32 → Int32 → Int32 → Int32 → Nat → Prop} (hK32 : ∀ (x1 : Int32) (x2 : Int32) (x3 : Int32) (n : Nat), K32 x1 x2 x3  n → WG mL_isInOrder (P1 T b X) R 32 [(0, .ref b), (1, .int x1), (2, .int x2), (3, .int x3)] [] q n) (hK341 : ∀ (x1 : Int32) (x2 : Int32) (x3 : Int32) (x10 : Int32) (n : Nat), K341 x1 x2 x3 x10  n → WG mL_isInOrder (P1 T b X) R 341 [(0, .ref b), (1, .int x1), (2, .int x2), (3, .int x3), (10, .int x10)] [] q n) (x2 : Int32) (x3 : Int32) (x10 : Int32) (n : Nat) (H : lF_isInOrder_392 q K32 K341 x2 x3 x10 n R) : WG mL_isInOrder (P1 T b X) R 392 [(0, .ref b), (2, .int x2), (3, .int x3), (10, .int x10)] [] q n := by
  unfold lF_isInOrder_392 at H
  obtain ⟨hn, H⟩ := H
  refine g_iconst (v := 1) dL_isInOrder_392 (by decide) ?_
  refine g_goto (tgt := 397) dL_isInOrder_393 (by decide) ?_
  exact g_bud (n' := n) (by omega) (gt_loc [0, 1, 2, 3] rfl (lv_isInOrder_397 hT G hK32 hK341 x2 x3 x10 1   _ H))
def lB_isInOrder_341 (q : HS) (K32 : Int32 → Int32 → Int32 → Nat → Prop) (K341 : Int32 → Int32 → Int32 → Int32 → Nat → Prop) (x1 : Int32) (x2 : Int32) (x3 : Int32) (x10 : Int32) (n : Nat) (R : Int32 → HS → Prop) : Prop :=
4 ≤ n ∧
((x2 ≤ x10) →
  lF_isInOrder_404 q K32 x1 x2 x3  n R) ∧
((¬ x2 ≤ x10) →
  ((x1 = 0) →
    lF_isInOrder_404 q K32 x1 x2 x3  n R) ∧
  ((¬ x1 = 0) →
    opK q x10 x3 0 0 0 19 = 0 ∧
    opK q x10 x3 0 0 0 20 = 0 ∧
    ((¬ (opX q x10 x3 0 0 0 19) = (opX q x10 x3 0 0 0 20)) →
      lF_isInOrder_396 q K32 K341 x2 x3 x10  (n - 2) R) ∧
    (((opX q x10 x3 0 0 0 19) = (opX q x10 x3 0 0 0 20)) →
      ((x10 = 0) →
        lF_isInOrder_392 q K32 K341 x2 x3 x10  (n - 2) R) ∧
      ((¬ x10 = 0) →
        opK q x10 x3 0 0 0 21 = 0 ∧
        opK q (x10 - (1 : Int32)) x3 0 0 0 21 = 0 ∧
        (((opX q x10 x3 0 0 0 21) < (opX q (x10 - (1 : Int32)) x3 0 0 0 21)) →
          lF_isInOrder_396 q K32 K341 x2 x3 x10  (n - 4) R) ∧
        ((¬ (opX q x10 x3 0 0 0 21) < (opX q (x10 - (1 : Int32)) x3 0 0 0 21)) →
          lF_isInOrder_392 q K32 K341 x2 x3 x10  (n - 4) R)))))
def lF_isInOrder_341 (q : HS) (K32 : Int32 → Int32 → Int32 → Nat → Prop) (x1 : Int32) (x2 : Int32) (x3 : Int32) (x10 : Int32) (n : Nat) (R : Int32 → HS → Prop) : Prop :=
  ∃ I : Nat → Int32 → Int32 → Int32 → Int32 → Prop, (∃ m, m ≤ n ∧ I m x1 x2 x3 x10) ∧ ∀ m (x1 : Int32) (x2 : Int32) (x3 : Int32) (x10 : Int32), I m x1 x2 x3 x10 → lB_isInOrder_341 q K32 (fun x1 x2 x3 x10 m' => ∃ m9, m9 ≤ m' ∧ m9 < m ∧ I m9 x1 x2 x3 x10) x1 x2 x3 x10 m R
theorem lb_isInOrder_341 {T : pT} {b : Nat} {X : Mem} (hT : okT T b) {q : HS} (G : GdH q) {R : Int32 → HS → Prop} {K32 : Int32 → Int32 → Int32 → Nat → Prop} {K341 : Int32 → Int32 → Int32 → Int32 → Nat → Prop} (hK32 : ∀ (x1 : Int32) (x2 : Int32) (x3 : Int32) (n : Nat), K32 x1 x2 x3  n → WG mL_isInOrder (P1 T b X) R 32 [(0, .ref b), (1, .int x1), (2, .int x2), (3, .int x3)] [] q n) (hK341 : ∀ (x1 : Int32) (x2 : Int32) (x3 : Int32) (x10 : Int32) (n : Nat), K341 x1 x2 x3 x10 n → WG mL_isInOrder (P1 T b X) R 341 [(0, .ref b), (1, .int x1), (2, .int x2), (3, .int x3), (10, .int x10)] [] q n) (x1 : Int32) (x2 : Int32) (x3 : Int32) (x10 : Int32) (n : Nat) (H : lB_isInOrder_341 q K32 K341 x1 x2 x3 x10 n R) : WG mL_isInOrder (P1 T b X) R 341 [(0, .ref b), (1, .int x1), (2, .int x2), (3, .int x3), (10, .int x10)] [] q n := by
  unfold lB_isInOrder_341 at H
  obtain ⟨hn, H⟩ := H
  refine g_iload dL_isInOrder_341 rfl ?_
  refine g_iload_n dL_isInOrder_343 rfl ?_
  refine g_icmp_ge (tgt := 404) dL_isInOrder_344 (by decide) (fun c => ?_) (fun c => ?_)
  · have H := H.1 c
    exact g_bud (n' := n) (by omega) (gt_loc [0, 1, 2, 3] rfl (lv_isInOrder_404 hT G hK32 x1 x2 x3   _ H))
  · have H := H.2 c
    refine g_iload_n dL_isInOrder_347 rfl ?_
    refine g_if_eq (tgt := 404) dL_isInOrder_348 (by decide) (fun c => ?_) (fun c => ?_)
    · have H := H.1 c
      exact g_bud (n' := n) (by omega) (gt_loc [0, 1, 2, 3] rfl (lv_isInOrder_404 hT G hK32 x1 x2 x3   _ H))
    · have H := H.2 c
      refine g_aload_n dL_isInOrder_351 rfl ?_
      refine g_iload dL_isInOrder_352 rfl ?_
      refine g_iload_n dL_isInOrder_354 rfl ?_
      refine g_view (b := b) (As9 := [.int x10, .int x3]) (st := []) (q := q) (q' := q) (s' := q) (k := opK q x10 x3 0 0 0 19) (x := opX q x10 x3 0 0 0 19) (P1_use hT) P1_next iv_9_37 rfl (op_big G (fun _ => rfl) (op_matAfter G x10 x3 0 0 0)) H.1 rfl dL_isInOrder_355 (by unfold rmP; decide) rfl (Nat.le_of_ble_eq_true rfl) (by decide) (by decide) (by omega) ?_
      have H := H.2
      refine g_aload_n dL_isInOrder_358 rfl ?_
      refine g_iload dL_isInOrder_359 rfl ?_
      refine g_iload_n dL_isInOrder_361 rfl ?_
      refine g_view (b := b) (As9 := [.int x10, .int x3]) (st := [.int (opX q x10 x3 0 0 0 19)]) (q := q) (q' := q) (s' := q) (k := opK q x10 x3 0 0 0 20) (x := opX q x10 x3 0 0 0 20) (P1_use hT) P1_next iv_9_40 rfl (op_big G (fun _ => rfl) (op_matAnew G x10 x3 0 0 0)) H.1 rfl dL_isInOrder_362 (by unfold rmP; decide) rfl (Nat.le_of_ble_eq_true rfl) (by decide) (by decide) (by omega) ?_
      have H := H.2
      refine g_icmp_ne (tgt := 396) dL_isInOrder_365 (by decide) (fun c => ?_) (fun c => ?_)
      · have H := H.1 c
        exact g_bud (n' := (n - 2)) (by omega) (gt_loc [0, 2, 3, 4] rfl (lv_isInOrder_396 hT G hK32 hK341 x2 x3 x10   _ H))
      · have H := H.2 c
        refine g_iload dL_isInOrder_368 rfl ?_
        refine g_if_eq (tgt := 392) dL_isInOrder_370 (by decide) (fun c => ?_) (fun c => ?_)
        · have H := H.1 c
          exact g_bud (n' := (n - 2)) (by omega) (gt_loc [0, 2, 3, 4] rfl (lv_isInOrder_392 hT G hK32 hK341 x2 x3 x10   _ H))
        · have H := H.2 c
          refine g_aload_n dL_isInOrder_373 rfl ?_
          refine g_iload dL_isInOrder_374 rfl ?_
          refine g_iload_n dL_isInOrder_376 rfl ?_
          refine g_view (b := b) (As9 := [.int x10, .int x3]) (st := []) (q := q) (q' := q) (s' := q) (k := opK q x10 x3 0 0 0 21) (x := opX q x10 x3 0 0 0 21) (P1_use hT) P1_next iv_9_43 rfl (op_big G (fun _ => rfl) (op_pointsAfter G x10 x3 0 0 0)) H.1 rfl dL_isInOrder_377 (by unfold rmP; decide) rfl (Nat.le_of_ble_eq_true rfl) (by decide) (by decide) (by omega) ?_
          have H := H.2
          refine g_aload_n dL_isInOrder_380 rfl ?_
          refine g_iload dL_isInOrder_381 rfl ?_
          refine g_iconst (v := 1) dL_isInOrder_383 (by decide) ?_
          refine g_isub dL_isInOrder_384 ?_
          refine g_iload_n dL_isInOrder_385 rfl ?_
          refine g_view (b := b) (As9 := [.int (x10 - (1 : Int32)), .int x3]) (st := [.int (opX q x10 x3 0 0 0 21)]) (q := q) (q' := q) (s' := q) (k := opK q (x10 - (1 : Int32)) x3 0 0 0 21) (x := opX q (x10 - (1 : Int32)) x3 0 0 0 21) (P1_use hT) P1_next iv_9_43 rfl (op_big G (fun _ => rfl) (op_pointsAfter G (x10 - (1 : Int32)) x3 0 0 0)) H.1 rfl dL_isInOrder_386 (by unfold rmP; decide) rfl (Nat.le_of_ble_eq_true rfl) (by decide) (by decide) (by omega) ?_
          have H := H.2
          refine g_icmp_lt (tgt := 396) dL_isInOrder_389 (by decide) (fun c => ?_) (fun c => ?_)
          · have H := H.1 c
            exact g_bud (n' := (n - 4)) (by omega) (gt_loc [0, 2, 3, 4] rfl (lv_isInOrder_396 hT G hK32 hK341 x2 x3 x10   _ H))
          · have H := H.2 c
            exact g_bud (n' := (n - 4)) (by omega) (gt_loc [0, 2, 3, 4] rfl (lv_isInOrder_392 hT G hK32 hK341 x2 x3 x10   _ H))
theorem lv_isInOrder_341 {T : pT} {b : Nat} {X : Mem} (hT : okT T b) {q : HS} (G : GdH q) {R : Int32 → HS → Prop} {K32 : Int32 → Int32 → Int32 → Nat → Prop} (hK32 : ∀ (x1 : Int32) (x2 : Int32) (x3 : Int32) (n : Nat), K32 x1 x2 x3  n → WG mL_isInOrder (P1 T b X) R 32 [(0, .ref b), (1, .int x1), (2, .int x2), (3, .int x3)] [] q n) (x1 : Int32) (x2 : Int32) (x3 : Int32) (x10 : Int32) (n : Nat) (H : lF_isInOrder_341 q K32 x1 x2 x3 x10 n R) : WG mL_isInOrder (P1 T b X) R 341 [(0, .ref b), (1, .int x1), (2, .int x2), (3, .int x3), (10, .int x10)] [] q n := by
  obtain ⟨I, ⟨m0, hm, h0⟩, hs⟩ := H
  have key : ∀ m, ∀ (x1 : Int32) (x2 : Int32) (x3 : Int32) (x10 : Int32), I m x1 x2 x3 x10 → WG mL_isInOrder (P1 T b X) R 341 [(0, .ref b), (1, .int x1), (2, .int x2), (3, .int x3), (10, .int x10)] [] q m := by
    refine strong (fun m ih => ?_)
    intro x1 x2 x3 x10  hI
    exact lb_isInOrder_341 hT G hK32 (fun x1 x2 x3 x10  n hz => by
      obtain ⟨m9, z1, z2, z3⟩ := hz
      exact g_bud z1 (ih m9 z2 x1 x2 x3 x10  z3)) x1 x2 x3 x10  m (hs m x1 x2 x3 x10 hI)
  exact g_bud hm (key m0 x1 x2 x3 x10  h0)
def lF_isInOrder_337 (q : HS) (K32 : Int32 → Int32 → Int32 → Nat → Prop) (x2 : Int32) (x3 : Int32) (s0 : Int32) (n : Nat) (R : Int32 → HS → Prop) : Prop :=
0 ≤ n ∧
lF_isInOrder_341 q K32 s0 x2 x3 0  n R
theorem lv_isInOrder_337 {T : pT} {b : Nat} {X : Mem} (hT : okT T b) {q : HS} (G : GdH q) {R : Int32 → HS → Prop} {K32 : Int32 → Int32 → Int32 → Nat → Prop} (hK32 : ∀ (x1 : Int32) (x2 : Int32) (x3 : Int32) (n : Nat), K32 x1 x2 x3  n → WG mL_isInOrder (P1 T b X) R 32 [(0, .ref b), (1, .int x1), (2, .int x2), (3, .int x3)] [] q n) (x2 : Int32) (x3 : Int32) (s0 : Int32) (n : Nat) (H : lF_isInOrder_337 q K32 x2 x3 s0 n R) : WG mL_isInOrder (P1 T b X) R 337 [(0, .ref b), (2, .int x2), (3, .int x3)] [.int s0] q n := by
  unfold lF_isInOrder_337 at H
  obtain ⟨hn, H⟩ := H
  refine gt_istore_n (L' := [(1, .int s0), (0, .ref b), (2, .int x2), (3, .int x3)]) dL_isInOrder_337 (by decide) rfl ?_
  refine g_iconst (v := 0) dL_isInOrder_338 (by decide) ?_
  refine gt_istore (L' := [(10, .int 0), (1, .int s0), (0, .ref b), (2, .int x2), (3, .int x3)]) dL_isInOrder_339 (by decide) rfl ?_
  exact g_bud (n' := n) (by omega) (gt_loc [2, 1, 3, 4, 0] rfl (lv_isInOrder_341 hT G hK32 s0 x2 x3 0   _ H))
def lF_isInOrder_336 (q : HS) (K32 : Int32 → Int32 → Int32 → Nat → Prop) (x2 : Int32) (x3 : Int32) (n : Nat) (R : Int32 → HS → Prop) : Prop :=
0 ≤ n ∧
lF_isInOrder_337 q K32 x2 x3 0  n R
theorem lv_isInOrder_336 {T : pT} {b : Nat} {X : Mem} (hT : okT T b) {q : HS} (G : GdH q) {R : Int32 → HS → Prop} {K32 : Int32 → Int32 → Int32 → Nat → Prop} (hK32 : ∀ (x1 : Int32) (x2 : Int32) (x3 : Int32) (n : Nat), K32 x1 x2 x3  n → WG mL_isInOrder (P1 T b X) R 32 [(0, .ref b), (1, .int x1), (2, .int x2), (3, .int x3)] [] q n) (x2 : Int32) (x3 : Int32) (n : Nat) (H : lF_isInOrder_336 q K32 x2 x3 n R) : WG mL_isInOrder (P1 T b X) R 336 [(0, .ref b), (2, .int x2), (3, .int x3)] [] q n := by
  unfold lF_isInOrder_336 at H
  obtain ⟨hn, H⟩ := H
  refine g_iconst (v := 0) dL_isInOrder_336 (by decide) ?_
  exact g_bud (n' := n) (by omega) (gt_loc [0, 1, 2] rfl (lv_isInOrder_337 hT G hK32 x2 x3 0   _ H))
def lF_isInOrder_332 (q : HS) (K32 : Int32 → Int32 → Int32 → Nat → Prop) (x2 : Int32) (x3 : Int32) (n : Nat) (R : Int32 → HS → Prop) : Prop :=
0 ≤ n ∧
lF_isInOrder_337 q K32 x2 x3 1  n R
theorem lv_isInOrder_332 {T : pT} {b : Nat} {X : Mem} (hT : okT T b) {q : HS} (G : GdH q) {R : Int32 → HS → Prop} {K32 : Int32 → Int32 → Int32 → Nat → Prop} (hK32 : ∀ (x1 : Int32) (x2 : Int32) (x3 : Int32) (n : Nat), K32 x1 x2 x3  n → WG mL_isInOrder (P1 T b X) R 32 [(0, .ref b), (1, .int x1), (2, .int x2), (3, .int x3)] [] q n) (x2 : Int32) (x3 : Int32) (n : Nat) (H : lF_isInOrder_332 q K32 x2 x3 n R) : WG mL_isInOrder (P1 T b X) R 332 [(0, .ref b), (2, .int x2), (3, .int x3)] [] q n := by
  unfold lF_isInOrder_332 at H
  obtain ⟨hn, H⟩ := H
  refine g_iconst (v := 1) dL_isInOrder_332 (by decide) ?_
  refine g_goto (tgt := 337) dL_isInOrder_333 (by decide) ?_
  exact g_bud (n' := n) (by omega) (gt_loc [0, 1, 2] rfl (lv_isInOrder_337 hT G hK32 x2 x3 1   _ H))
def lF_isInOrder_294 (q : HS) (K32 : Int32 → Int32 → Int32 → Nat → Prop) (x2 : Int32) (x3 : Int32) (x4 : Int32) (s0 : Int32) (n : Nat) (R : Int32 → HS → Prop) : Prop :=
3 ≤ n ∧
((s0 = 0) →
  lF_isInOrder_336 q K32 x2 x3  n R) ∧
((¬ s0 = 0) →
  ((x2 = 0) →
    lF_isInOrder_332 q K32 x2 x3  n R) ∧
  ((¬ x2 = 0) →
    opK q (x2 - (1 : Int32)) x3 0 0 0 19 = 0 ∧
    ((¬ (opX q (x2 - (1 : Int32)) x3 0 0 0 19) = x4) →
      lF_isInOrder_336 q K32 x2 x3  (n - 1) R) ∧
    (((opX q (x2 - (1 : Int32)) x3 0 0 0 19) = x4) →
      opK q (x2 - (1 : Int32)) x3 0 0 0 21 = 0 ∧
      opK q x3 0 0 0 0 16 = 0 ∧
      ((¬ (opX q (x2 - (1 : Int32)) x3 0 0 0 21) = (opX q x3 0 0 0 0 16)) →
        lF_isInOrder_336 q K32 x2 x3  (n - 3) R) ∧
      (((opX q (x2 - (1 : Int32)) x3 0 0 0 21) = (opX q x3 0 0 0 0 16)) →
        lF_isInOrder_332 q K32 x2 x3  (n - 3) R))))
theorem lv_isInOrder_294 {T : pT} {b : Nat} {X : Mem} (hT : okT T b) {q : HS} (G : GdH q) {R : Int32 → HS → Prop} {K32 : Int32 → Int32 → Int32 → Nat → Prop} (hK32 : ∀ (x1 : Int32) (x2 : Int32) (x3 : Int32) (n : Nat), K32 x1 x2 x3  n → WG mL_isInOrder (P1 T b X) R 32 [(0, .ref b), (1, .int x1), (2, .int x2), (3, .int x3)] [] q n) (x2 : Int32) (x3 : Int32) (x4 : Int32) (s0 : Int32) (n : Nat) (H : lF_isInOrder_294 q K32 x2 x3 x4 s0 n R) : WG mL_isInOrder (P1 T b X) R 294 [(0, .ref b), (2, .int x2), (3, .int x3), (4, .int x4)] [.int s0] q n := by
  unfold lF_isInOrder_294 at H
  obtain ⟨hn, H⟩ := H
  refine gt_istore_n (L' := [(1, .int s0), (0, .ref b), (2, .int x2), (3, .int x3), (4, .int x4)]) dL_isInOrder_294 (by decide) rfl ?_
  refine g_iload_n dL_isInOrder_295 rfl ?_
  refine g_if_eq (tgt := 336) dL_isInOrder_296 (by decide) (fun c => ?_) (fun c => ?_)
  · have H := H.1 c
    exact g_bud (n' := n) (by omega) (gt_loc [1, 2, 3] rfl (lv_isInOrder_336 hT G hK32 x2 x3   _ H))
  · have H := H.2 c
    refine g_iload_n dL_isInOrder_299 rfl ?_
    refine g_if_eq (tgt := 332) dL_isInOrder_300 (by decide) (fun c => ?_) (fun c => ?_)
    · have H := H.1 c
      exact g_bud (n' := n) (by omega) (gt_loc [1, 2, 3] rfl (lv_isInOrder_332 hT G hK32 x2 x3   _ H))
    · have H := H.2 c
      refine g_aload_n dL_isInOrder_303 rfl ?_
      refine g_iload_n dL_isInOrder_304 rfl ?_
      refine g_iconst (v := 1) dL_isInOrder_305 (by decide) ?_
      refine g_isub dL_isInOrder_306 ?_
      refine g_iload_n dL_isInOrder_307 rfl ?_
      refine g_view (b := b) (As9 := [.int (x2 - (1 : Int32)), .int x3]) (st := []) (q := q) (q' := q) (s' := q) (k := opK q (x2 - (1 : Int32)) x3 0 0 0 19) (x := opX q (x2 - (1 : Int32)) x3 0 0 0 19) (P1_use hT) P1_next iv_9_37 rfl (op_big G (fun _ => rfl) (op_matAfter G (x2 - (1 : Int32)) x3 0 0 0)) H.1 rfl dL_isInOrder_308 (by unfold rmP; decide) rfl (Nat.le_of_ble_eq_true rfl) (by decide) (by decide) (by omega) ?_
      have H := H.2
      refine g_iload dL_isInOrder_311 rfl ?_
      refine g_icmp_ne (tgt := 336) dL_isInOrder_313 (by decide) (fun c => ?_) (fun c => ?_)
      · have H := H.1 c
        exact g_bud (n' := (n - 1)) (by omega) (gt_loc [1, 2, 3] rfl (lv_isInOrder_336 hT G hK32 x2 x3   _ H))
      · have H := H.2 c
        refine g_aload_n dL_isInOrder_316 rfl ?_
        refine g_iload_n dL_isInOrder_317 rfl ?_
        refine g_iconst (v := 1) dL_isInOrder_318 (by decide) ?_
        refine g_isub dL_isInOrder_319 ?_
        refine g_iload_n dL_isInOrder_320 rfl ?_
        refine g_view (b := b) (As9 := [.int (x2 - (1 : Int32)), .int x3]) (st := []) (q := q) (q' := q) (s' := q) (k := opK q (x2 - (1 : Int32)) x3 0 0 0 21) (x := opX q (x2 - (1 : Int32)) x3 0 0 0 21) (P1_use hT) P1_next iv_9_43 rfl (op_big G (fun _ => rfl) (op_pointsAfter G (x2 - (1 : Int32)) x3 0 0 0)) H.1 rfl dL_isInOrder_321 (by unfold rmP; decide) rfl (Nat.le_of_ble_eq_true rfl) (by decide) (by decide) (by omega) ?_
        have H := H.2
        refine g_aload_n dL_isInOrder_324 rfl ?_
        refine g_iload_n dL_isInOrder_325 rfl ?_
        refine g_view (b := b) (As9 := [.int x3]) (st := [.int (opX q (x2 - (1 : Int32)) x3 0 0 0 21)]) (q := q) (q' := q) (s' := q) (k := opK q x3 0 0 0 0 16) (x := opX q x3 0 0 0 0 16) (P1_use hT) P1_next iv_9_27 rfl (op_big G (fun _ => rfl) (op_points G x3 0 0 0 0)) H.1 rfl dL_isInOrder_326 (by unfold rmP; decide) rfl (Nat.le_of_ble_eq_true rfl) (by decide) (by decide) (by omega) ?_
        have H := H.2
        refine g_icmp_ne (tgt := 336) dL_isInOrder_329 (by decide) (fun c => ?_) (fun c => ?_)
        · have H := H.1 c
          exact g_bud (n' := (n - 3)) (by omega) (gt_loc [1, 2, 3] rfl (lv_isInOrder_336 hT G hK32 x2 x3   _ H))
        · have H := H.2 c
          exact g_bud (n' := (n - 3)) (by omega) (gt_loc [1, 2, 3] rfl (lv_isInOrder_332 hT G hK32 x2 x3   _ H))
def lF_isInOrder_293 (q : HS) (K32 : Int32 → Int32 → Int32 → Nat → Prop) (x2 : Int32) (x3 : Int32) (x4 : Int32) (n : Nat) (R : Int32 → HS → Prop) : Prop :=
0 ≤ n ∧
lF_isInOrder_294 q K32 x2 x3 x4 0  n R
theorem lv_isInOrder_293 {T : pT} {b : Nat} {X : Mem} (hT : okT T b) {q : HS} (G : GdH q) {R : Int32 → HS → Prop} {K32 : Int32 → Int32 → Int32 → Nat → Prop} (hK32 : ∀ (x1 : Int32) (x2 : Int32) (x3 : Int32) (n : Nat), K32 x1 x2 x3  n → WG mL_isInOrder (P1 T b X) R 32 [(0, .ref b), (1, .int x1), (2, .int x2), (3, .int x3)] [] q n) (x2 : Int32) (x3 : Int32) (x4 : Int32) (n : Nat) (H : lF_isInOrder_293 q K32 x2 x3 x4 n R) : WG mL_isInOrder (P1 T b X) R 293 [(0, .ref b), (2, .int x2), (3, .int x3), (4, .int x4)] [] q n := by
  unfold lF_isInOrder_293 at H
  obtain ⟨hn, H⟩ := H
  refine g_iconst (v := 0) dL_isInOrder_293 (by decide) ?_
  exact g_bud (n' := n) (by omega) (gt_loc [0, 1, 2, 3] rfl (lv_isInOrder_294 hT G hK32 x2 x3 x4 0   _ H))
def lF_isInOrder_234 (q : HS) (K32 : Int32 → Int32 → Int32 → Nat → Prop) (x1 : Int32) (x2 : Int32) (x3 : Int32) (x4 : Int32) (x5 : Int32) (x6 : Int32) (x7 : Int32) (x9 : Int32) (n : Nat) (R : Int32 → HS → Prop) : Prop :=
4 ≤ n ∧
((x1 = 0) →
  lF_isInOrder_293 q K32 x2 x3 x4  n R) ∧
((¬ x1 = 0) →
  ((¬ x9 = 0) →
    lF_isInOrder_293 q K32 x2 x3 x4  n R) ∧
  ((x9 = 0) →
    opK q x3 x5 0 0 0 14 = 0 ∧
    ((¬ (opX q x3 x5 0 0 0 14) = (-1)) →
      lF_isInOrder_293 q K32 x2 x3 x4  (n - 1) R) ∧
    (((opX q x3 x5 0 0 0 14) = (-1)) →
      opK q x3 0 0 0 0 15 = 0 ∧
      opK q x3 0 0 0 0 14 = 0 ∧
      ((¬ (opX q x3 0 0 0 0 15) = (opX q x3 0 0 0 0 14)) →
        lF_isInOrder_293 q K32 x2 x3 x4  (n - 3) R) ∧
      (((opX q x3 0 0 0 0 15) = (opX q x3 0 0 0 0 14)) →
        ((3 < x6) →
          lF_isInOrder_293 q K32 x2 x3 x4  (n - 3) R) ∧
        ((¬ 3 < x6) →
          opK q x3 0 0 0 0 16 = 0 ∧
          (((opX q x3 0 0 0 0 16) < x7) →
            lF_isInOrder_293 q K32 x2 x3 x4  (n - 4) R) ∧
          ((¬ (opX q x3 0 0 0 0 16) < x7) →
            ((x4 ≤ 0) →
              lF_isInOrder_293 q K32 x2 x3 x4  (n - 4) R) ∧
            ((¬ x4 ≤ 0) →
              lF_isInOrder_294 q K32 x2 x3 x4 1  (n - 4) R)))))))
theorem lv_isInOrder_234 {T : pT} {b : Nat} {X : Mem} (hT : okT T b) {q : HS} (G : GdH q) {R : Int32 → HS → Prop} {K32 : Int32 → Int32 → Int32 → Nat → Prop} (hK32 : ∀ (x1 : Int32) (x2 : Int32) (x3 : Int32) (n : Nat), K32 x1 x2 x3  n → WG mL_isInOrder (P1 T b X) R 32 [(0, .ref b), (1, .int x1), (2, .int x2), (3, .int x3)] [] q n) (x1 : Int32) (x2 : Int32) (x3 : Int32) (x4 : Int32) (x5 : Int32) (x6 : Int32) (x7 : Int32) (x9 : Int32) (n : Nat) (H : lF_isInOrder_234 q K32 x1 x2 x3 x4 x5 x6 x7 x9 n R) : WG mL_isInOrder (P1 T b X) R 234 [(0, .ref b), (1, .int x1), (2, .int x2), (3, .int x3), (4, .int x4), (5, .int x5), (6, .int x6), (7, .int x7), (9, .int x9)] [] q n := by
  unfold lF_isInOrder_234 at H
  obtain ⟨hn, H⟩ := H
  refine g_iload_n dL_isInOrder_234 rfl ?_
  refine g_if_eq (tgt := 293) dL_isInOrder_235 (by decide) (fun c => ?_) (fun c => ?_)
  · have H := H.1 c
    exact g_bud (n' := n) (by omega) (gt_loc [0, 2, 3, 4] rfl (lv_isInOrder_293 hT G hK32 x2 x3 x4   _ H))
  · have H := H.2 c
    refine g_iload dL_isInOrder_238 rfl ?_
    refine g_if_ne (tgt := 293) dL_isInOrder_240 (by decide) (fun c => ?_) (fun c => ?_)
    · have H := H.1 c
      exact g_bud (n' := n) (by omega) (gt_loc [0, 2, 3, 4] rfl (lv_isInOrder_293 hT G hK32 x2 x3 x4   _ H))
    · have H := H.2 c
      refine g_aload_n dL_isInOrder_243 rfl ?_
      refine g_iload_n dL_isInOrder_244 rfl ?_
      refine g_iload dL_isInOrder_245 rfl ?_
      refine g_view (b := b) (As9 := [.int x3, .int x5]) (st := []) (q := q) (q' := q) (s' := q) (k := opK q x3 x5 0 0 0 14) (x := opX q x3 x5 0 0 0 14) (P1_use hT) P1_next iv_9_20 rfl (op_big G (fun _ => rfl) (op_out G x3 x5 0 0 0)) H.1 rfl dL_isInOrder_247 (by unfold rmP; decide) rfl (Nat.le_of_ble_eq_true rfl) (by decide) (by decide) (by omega) ?_
      have H := H.2
      refine g_iconst (v := (-1)) dL_isInOrder_250 (by decide) ?_
      refine g_icmp_ne (tgt := 293) dL_isInOrder_251 (by decide) (fun c => ?_) (fun c => ?_)
      · have H := H.1 c
        exact g_bud (n' := (n - 1)) (by omega) (gt_loc [0, 2, 3, 4] rfl (lv_isInOrder_293 hT G hK32 x2 x3 x4   _ H))
      · have H := H.2 c
        refine g_aload_n dL_isInOrder_254 rfl ?_
        refine g_iload_n dL_isInOrder_255 rfl ?_
        refine g_view (b := b) (As9 := [.int x3]) (st := []) (q := q) (q' := q) (s' := q) (k := opK q x3 0 0 0 0 15) (x := opX q x3 0 0 0 0 15) (P1_use hT) P1_next iv_9_23 rfl (op_big G (fun _ => rfl) (op_next G x3 0 0 0 0)) H.1 rfl dL_isInOrder_256 (by unfold rmP; decide) rfl (Nat.le_of_ble_eq_true rfl) (by decide) (by decide) (by omega) ?_
        have H := H.2
        refine g_aload_n dL_isInOrder_259 rfl ?_
        refine g_iload_n dL_isInOrder_260 rfl ?_
        refine g_iconst (v := 0) dL_isInOrder_261 (by decide) ?_
        refine g_view (b := b) (As9 := [.int x3, .int 0]) (st := [.int (opX q x3 0 0 0 0 15)]) (q := q) (q' := q) (s' := q) (k := opK q x3 0 0 0 0 14) (x := opX q x3 0 0 0 0 14) (P1_use hT) P1_next iv_9_20 rfl (op_big G (fun _ => rfl) (op_out G x3 0 0 0 0)) H.1 rfl dL_isInOrder_262 (by unfold rmP; decide) rfl (Nat.le_of_ble_eq_true rfl) (by decide) (by decide) (by omega) ?_
        have H := H.2
        refine g_icmp_ne (tgt := 293) dL_isInOrder_265 (by decide) (fun c => ?_) (fun c => ?_)
        · have H := H.1 c
          exact g_bud (n' := (n - 3)) (by omega) (gt_loc [0, 2, 3, 4] rfl (lv_isInOrder_293 hT G hK32 x2 x3 x4   _ H))
        · have H := H.2 c
          refine g_iload dL_isInOrder_268 rfl ?_
          refine g_iconst (v := 3) dL_isInOrder_270 (by decide) ?_
          refine g_icmp_gt (tgt := 293) dL_isInOrder_271 (by decide) (fun c => ?_) (fun c => ?_)
          · have H := H.1 c
            exact g_bud (n' := (n - 3)) (by omega) (gt_loc [0, 2, 3, 4] rfl (lv_isInOrder_293 hT G hK32 x2 x3 x4   _ H))
          · have H := H.2 c
            refine g_iload dL_isInOrder_274 rfl ?_
            refine g_aload_n dL_isInOrder_276 rfl ?_
            refine g_iload_n dL_isInOrder_277 rfl ?_
            refine g_view (b := b) (As9 := [.int x3]) (st := [.int x7]) (q := q) (q' := q) (s' := q) (k := opK q x3 0 0 0 0 16) (x := opX q x3 0 0 0 0 16) (P1_use hT) P1_next iv_9_27 rfl (op_big G (fun _ => rfl) (op_points G x3 0 0 0 0)) H.1 rfl dL_isInOrder_278 (by unfold rmP; decide) rfl (Nat.le_of_ble_eq_true rfl) (by decide) (by decide) (by omega) ?_
            have H := H.2
            refine g_icmp_gt (tgt := 293) dL_isInOrder_281 (by decide) (fun c => ?_) (fun c => ?_)
            · have H := H.1 c
              exact g_bud (n' := (n - 4)) (by omega) (gt_loc [0, 2, 3, 4] rfl (lv_isInOrder_293 hT G hK32 x2 x3 x4   _ H))
            · have H := H.2 c
              refine g_iload dL_isInOrder_284 rfl ?_
              refine g_if_le (tgt := 293) dL_isInOrder_286 (by decide) (fun c => ?_) (fun c => ?_)
              · have H := H.1 c
                exact g_bud (n' := (n - 4)) (by omega) (gt_loc [0, 2, 3, 4] rfl (lv_isInOrder_293 hT G hK32 x2 x3 x4   _ H))
              · have H := H.2 c
                refine g_iconst (v := 1) dL_isInOrder_289 (by decide) ?_
                refine g_goto (tgt := 294) dL_isInOrder_290 (by decide) ?_
                exact g_bud (n' := (n - 4)) (by omega) (gt_loc [0, 2, 3, 4] rfl (lv_isInOrder_294 hT G hK32 x2 x3 x4 1   _ H))
def lF_isInOrder_225 (q : HS) (K32 : Int32 → Int32 → Int32 → Nat → Prop) (K149 : Int32 → Int32 → Int32 → Int32 → Int32 → Int32 → Int32 → Int32 → Int32 → Int32 → Nat → Prop) (x1 : Int32) (x2 : Int32) (x3 : Int32) (x4 : Int32) (x5 : Int32) (x6 : Int32) (x7 : Int32) (x9 : Int32) (x10 : Int32) (s0 : Int32) (s1 : Int32) (n : Nat) (R : Int32 → HS → Prop) : Prop :=
0 ≤ n ∧
K149 x1 x2 x3 x4 x5 x6 x7 (s1 ||| s0) x9 (x10 + 1)  n
theorem lv_isInOrder_225 {T : pT} {b : Nat} {X : Mem} (hT : okT T b) {q : HS} (G : GdH q) {R : Int32 → HS → Prop} {K32 : Int32 → Int32 → Int32 → Nat → Prop} {K149 : Int32 → Int32 → Int32 → Int32 → Int32 → Int32 → Int32 → Int32 → Int32 → Int32 → Nat → Prop} (hK32 : ∀ (x1 : Int32) (x2 : Int32) (x3 : Int32) (n : Nat), K32 x1 x2 x3  n → WG mL_isInOrder (P1 T b X) R 32 [(0, .ref b), (1, .int x1), (2, .int x2), (3, .int x3)] [] q n) (hK149 : ∀ (x1 : Int32) (x2 : Int32) (x3 : Int32) (x4 : Int32) (x5 : Int32) (x6 : Int32) (x7 : Int32) (x8 : Int32) (x9 : Int32) (x10 : Int32) (n : Nat), K149 x1 x2 x3 x4 x5 x6 x7 x8 x9 x10  n → WG mL_isInOrder (P1 T b X) R 149 [(0, .ref b), (1, .int x1), (2, .int x2), (3, .int x3), (4, .int x4), (5, .int x5), (6, .int x6), (7, .int x7), (8, .int x8), (9, .int x9), (10, .int x10)] [] q n) (x1 : Int32) (x2 : Int32) (x3 : Int32) (x4 : Int32) (x5 : Int32) (x6 : Int32) (x7 : Int32) (x9 : Int32) (x10 : Int32) (s0 : Int32) (s1 : Int32) (n : Nat) (H : lF_isInOrder_225 q K32 K149 x1 x2 x3 x4 x5 x6 x7 x9 x10 s0 s1 n R) : WG mL_isInOrder (P1 T b X) R 225 [(0, .ref b), (1, .int x1), (2, .int x2), (3, .int x3), (4, .int x4), (5, .int x5), (6, .int x6), (7, .int x7), (9, .int x9), (10, .int x10)] [.int s0, .int s1] q n := by
  unfold lF_isInOrder_225 at H
  obtain ⟨hn, H⟩ := H
  refine g_ior dL_isInOrder_225 ?_
  refine gt_istore (L' := [(8, .int (s1 ||| s0)), (0, .ref b), (1, .int x1), (2, .int x2), (3, .int x3), (4, .int x4), (5, .int x5), (6, .int x6), (7, .int x7), (9, .int x9), (10, .int x10)]) dL_isInOrder_226 (by decide) rfl ?_
  refine gt_iinc (v := (x10 + 1)) (L' := [(10, .int (x10 + 1)), (8, .int (s1 ||| s0)), (0, .ref b), (1, .int x1), (2, .int x2), (3, .int x3), (4, .int x4), (5, .int x5), (6, .int x6), (7, .int x7), (9, .int x9)]) dL_isInOrder_228 rfl (by rfl) (by decide) rfl ?_
  refine g_goto (tgt := 149) dL_isInOrder_231 (by decide) ?_
  exact g_bud (n' := n) (by omega) (gt_loc [2, 3, 4, 5, 6, 7, 8, 9, 1, 10, 0] rfl (hK149 x1 x2 x3 x4 x5 x6 x7 (s1 ||| s0) x9 (x10 + 1)   _ H))
def lF_isInOrder_208 (q : HS) (K32 : Int32 → Int32 → Int32 → Nat → Prop) (K149 : Int32 → Int32 → Int32 → Int32 → Int32 → Int32 → Int32 → Int32 → Int32 → Int32 → Nat → Prop) (x1 : Int32) (x2 : Int32) (x3 : Int32) (x4 : Int32) (x5 : Int32) (x6 : Int32) (x7 : Int32) (x8 : Int32) (x10 : Int32) (x11 : Int32) (s0 : Int32) (s1 : Int32) (n : Nat) (R : Int32 → HS → Prop) : Prop :=
0 ≤ n ∧
((x1 = 0) →
  lF_isInOrder_225 q K32 K149 x1 x2 x3 x4 x5 x6 x7 (s1 ||| s0) x10 0 x8  n R) ∧
((¬ x1 = 0) →
  lF_isInOrder_225 q K32 K149 x1 x2 x3 x4 x5 x6 x7 (s1 ||| s0) x10 ((1 : Int32) <<< (x11 &&& 31)) x8  n R)
theorem lv_isInOrder_208 {T : pT} {b : Nat} {X : Mem} (hT : okT T b) {q : HS} (G : GdH q) {R : Int32 → HS → Prop} {K32 : Int32 → Int32 → Int32 → Nat → Prop} {K149 : Int32 → Int32 → Int32 → Int32 → Int32 → Int32 → Int32 → Int32 → Int32 → Int32 → Nat → Prop} (hK32 : ∀ (x1 : Int32) (x2 : Int32) (x3 : Int32) (n : Nat), K32 x1 x2 x3  n → WG mL_isInOrder (P1 T b X) R 32 [(0, .ref b), (1, .int x1), (2, .int x2), (3, .int x3)] [] q n) (hK149 : ∀ (x1 : Int32) (x2 : Int32) (x3 : Int32) (x4 : Int32) (x5 : Int32) (x6 : Int32) (x7 : Int32) (x8 : Int32) (x9 : Int32) (x10 : Int32) (n : Nat), K149 x1 x2 x3 x4 x5 x6 x7 x8 x9 x10  n → WG mL_isInOrder (P1 T b X) R 149 [(0, .ref b), (1, .int x1), (2, .int x2), (3, .int x3), (4, .int x4), (5, .int x5), (6, .int x6), (7, .int x7), (8, .int x8), (9, .int x9), (10, .int x10)] [] q n) (x1 : Int32) (x2 : Int32) (x3 : Int32) (x4 : Int32) (x5 : Int32) (x6 : Int32) (x7 : Int32) (x8 : Int32) (x10 : Int32) (x11 : Int32) (s0 : Int32) (s1 : Int32) (n : Nat) (H : lF_isInOrder_208 q K32 K149 x1 x2 x3 x4 x5 x6 x7 x8 x10 x11 s0 s1 n R) : WG mL_isInOrder (P1 T b X) R 208 [(0, .ref b), (1, .int x1), (2, .int x2), (3, .int x3), (4, .int x4), (5, .int x5), (6, .int x6), (7, .int x7), (8, .int x8), (10, .int x10), (11, .int x11)] [.int s0, .int s1] q n := by
  unfold lF_isInOrder_208 at H
  obtain ⟨hn, H⟩ := H
  refine g_ior dL_isInOrder_208 ?_
  refine gt_istore (L' := [(9, .int (s1 ||| s0)), (0, .ref b), (1, .int x1), (2, .int x2), (3, .int x3), (4, .int x4), (5, .int x5), (6, .int x6), (7, .int x7), (8, .int x8), (10, .int x10), (11, .int x11)]) dL_isInOrder_209 (by decide) rfl ?_
  refine g_iload dL_isInOrder_211 rfl ?_
  refine g_iload_n dL_isInOrder_213 rfl ?_
  refine g_if_eq (tgt := 224) dL_isInOrder_214 (by decide) (fun c => ?_) (fun c => ?_)
  · have H := H.1 c
    refine g_iconst (v := 0) dL_isInOrder_224 (by decide) ?_
    exact g_bud (n' := n) (by omega) (gt_loc [1, 2, 3, 4, 5, 6, 7, 8, 0, 10] rfl (lv_isInOrder_225 hT G hK32 hK149 x1 x2 x3 x4 x5 x6 x7 (s1 ||| s0) x10 0 x8   _ H))
  · have H := H.2 c
    refine g_iconst (v := 1) dL_isInOrder_217 (by decide) ?_
    refine g_iload dL_isInOrder_218 rfl ?_
    refine g_ishl dL_isInOrder_220 ?_
    refine g_goto (tgt := 225) dL_isInOrder_221 (by decide) ?_
    exact g_bud (n' := n) (by omega) (gt_loc [1, 2, 3, 4, 5, 6, 7, 8, 0, 10] rfl (lv_isInOrder_225 hT G hK32 hK149 x1 x2 x3 x4 x5 x6 x7 (s1 ||| s0) x10 ((1 : Int32) <<< (x11 &&& 31)) x8   _ H))
def lF_isInOrder_190 (q : HS) (K32 : Int32 → Int32 → Int32 → Nat → Prop) (K149 : Int32 → Int32 → Int32 → Int32 → Int32 → Int32 → Int32 → Int32 → Int32 → Int32 → Nat → Prop) (x2 : Int32) (x3 : Int32) (x4 : Int32) (x5 : Int32) (x6 : Int32) (x7 : Int32) (x8 : Int32) (x9 : Int32) (x10 : Int32) (x11 : Int32) (s0 : Int32) (n : Nat) (R : Int32 → HS → Prop) : Prop :=
0 ≤ n ∧
((s0 = 0) →
  lF_isInOrder_208 q K32 K149 s0 x2 x3 x4 x5 x6 x7 x8 x10 x11 0 x9  n R) ∧
((¬ s0 = 0) →
  lF_isInOrder_208 q K32 K149 s0 x2 x3 x4 x5 x6 x7 x8 x10 x11 (x8 &&& ((1 : Int32) <<< (x11 &&& 31))) x9  n R)
theorem lv_isInOrder_190 {T : pT} {b : Nat} {X : Mem} (hT : okT T b) {q : HS} (G : GdH q) {R : Int32 → HS → Prop} {K32 : Int32 → Int32 → Int32 → Nat → Prop} {K149 : Int32 → Int32 → Int32 → Int32 → Int32 → Int32 → Int32 → Int32 → Int32 → Int32 → Nat → Prop} (hK32 : ∀ (x1 : Int32) (x2 : Int32) (x3 : Int32) (n : Nat), K32 x1 x2 x3  n → WG mL_isInOrder (P1 T b X) R 32 [(0, .ref b), (1, .int x1), (2, .int x2), (3, .int x3)] [] q n) (hK149 : ∀ (x1 : Int32) (x2 : Int32) (x3 : Int32) (x4 : Int32) (x5 : Int32) (x6 : Int32) (x7 : Int32) (x8 : Int32) (x9 : Int32) (x10 : Int32) (n : Nat), K149 x1 x2 x3 x4 x5 x6 x7 x8 x9 x10  n → WG mL_isInOrder (P1 T b X) R 149 [(0, .ref b), (1, .int x1), (2, .int x2), (3, .int x3), (4, .int x4), (5, .int x5), (6, .int x6), (7, .int x7), (8, .int x8), (9, .int x9), (10, .int x10)] [] q n) (x2 : Int32) (x3 : Int32) (x4 : Int32) (x5 : Int32) (x6 : Int32) (x7 : Int32) (x8 : Int32) (x9 : Int32) (x10 : Int32) (x11 : Int32) (s0 : Int32) (n : Nat) (H : lF_isInOrder_190 q K32 K149 x2 x3 x4 x5 x6 x7 x8 x9 x10 x11 s0 n R) : WG mL_isInOrder (P1 T b X) R 190 [(0, .ref b), (2, .int x2), (3, .int x3), (4, .int x4), (5, .int x5), (6, .int x6), (7, .int x7), (8, .int x8), (9, .int x9), (10, .int x10), (11, .int x11)] [.int s0] q n := by
  unfold lF_isInOrder_190 at H
  obtain ⟨hn, H⟩ := H
  refine gt_istore_n (L' := [(1, .int s0), (0, .ref b), (2, .int x2), (3, .int x3), (4, .int x4), (5, .int x5), (6, .int x6), (7, .int x7), (8, .int x8), (9, .int x9), (10, .int x10), (11, .int x11)]) dL_isInOrder_190 (by decide) rfl ?_
  refine g_iload dL_isInOrder_191 rfl ?_
  refine g_iload_n dL_isInOrder_193 rfl ?_
  refine g_if_eq (tgt := 207) dL_isInOrder_194 (by decide) (fun c => ?_) (fun c => ?_)
  · have H := H.1 c
    refine g_iconst (v := 0) dL_isInOrder_207 (by decide) ?_
    exact g_bud (n' := n) (by omega) (gt_loc [1, 0, 2, 3, 4, 5, 6, 7, 8, 10, 11] rfl (lv_isInOrder_208 hT G hK32 hK149 s0 x2 x3 x4 x5 x6 x7 x8 x10 x11 0 x9   _ H))
  · have H := H.2 c
    refine g_iload dL_isInOrder_197 rfl ?_
    refine g_iconst (v := 1) dL_isInOrder_199 (by decide) ?_
    refine g_iload dL_isInOrder_200 rfl ?_
    refine g_ishl dL_isInOrder_202 ?_
    refine g_iand dL_isInOrder_203 ?_
    refine g_goto (tgt := 208) dL_isInOrder_204 (by decide) ?_
    exact g_bud (n' := n) (by omega) (gt_loc [1, 0, 2, 3, 4, 5, 6, 7, 8, 10, 11] rfl (lv_isInOrder_208 hT G hK32 hK149 s0 x2 x3 x4 x5 x6 x7 x8 x10 x11 (x8 &&& ((1 : Int32) <<< (x11 &&& 31))) x9   _ H))
def lF_isInOrder_189 (q : HS) (K32 : Int32 → Int32 → Int32 → Nat → Prop) (K149 : Int32 → Int32 → Int32 → Int32 → Int32 → Int32 → Int32 → Int32 → Int32 → Int32 → Nat → Prop) (x2 : Int32) (x3 : Int32) (x4 : Int32) (x5 : Int32) (x6 : Int32) (x7 : Int32) (x8 : Int32) (x9 : Int32) (x10 : Int32) (x11 : Int32) (n : Nat) (R : Int32 → HS → Prop) : Prop :=
0 ≤ n ∧
lF_isInOrder_190 q K32 K149 x2 x3 x4 x5 x6 x7 x8 x9 x10 x11 0  n R
theorem lv_isInOrder_189 {T : pT} {b : Nat} {X : Mem} (hT : okT T b) {q : HS} (G : GdH q) {R : Int32 → HS → Prop} {K32 : Int32 → Int32 → Int32 → Nat → Prop} {K149 : Int32 → Int32 → Int32 → Int32 → Int32 → Int32 → Int32 → Int32 → Int32 → Int32 → Nat → Prop} (hK32 : ∀ (x1 : Int32) (x2 : Int32) (x3 : Int32) (n : Nat), K32 x1 x2 x3  n → WG mL_isInOrder (P1 T b X) R 32 [(0, .ref b), (1, .int x1), (2, .int x2), (3, .int x3)] [] q n) (hK149 : ∀ (x1 : Int32) (x2 : Int32) (x3 : Int32) (x4 : Int32) (x5 : Int32) (x6 : Int32) (x7 : Int32) (x8 : Int32) (x9 : Int32) (x10 : Int32) (n : Nat), K149 x1 x2 x3 x4 x5 x6 x7 x8 x9 x10  n → WG mL_isInOrder (P1 T b X) R 149 [(0, .ref b), (1, .int x1), (2, .int x2), (3, .int x3), (4, .int x4), (5, .int x5), (6, .int x6), (7, .int x7), (8, .int x8), (9, .int x9), (10, .int x10)] [] q n) (x2 : Int32) (x3 : Int32) (x4 : Int32) (x5 : Int32) (x6 : Int32) (x7 : Int32) (x8 : Int32) (x9 : Int32) (x10 : Int32) (x11 : Int32) (n : Nat) (H : lF_isInOrder_189 q K32 K149 x2 x3 x4 x5 x6 x7 x8 x9 x10 x11 n R) : WG mL_isInOrder (P1 T b X) R 189 [(0, .ref b), (2, .int x2), (3, .int x3), (4, .int x4), (5, .int x5), (6, .int x6), (7, .int x7), (8, .int x8), (9, .int x9), (10, .int x10), (11, .int x11)] [] q n := by
  unfold lF_isInOrder_189 at H
  obtain ⟨hn, H⟩ := H
  refine g_iconst (v := 0) dL_isInOrder_189 (by decide) ?_
  exact g_bud (n' := n) (by omega) (gt_loc [0, 1, 2, 3, 4, 5, 6, 7, 8, 9, 10] rfl (lv_isInOrder_190 hT G hK32 hK149 x2 x3 x4 x5 x6 x7 x8 x9 x10 x11 0   _ H))
def lB_isInOrder_149 (q : HS) (K32 : Int32 → Int32 → Int32 → Nat → Prop) (K149 : Int32 → Int32 → Int32 → Int32 → Int32 → Int32 → Int32 → Int32 → Int32 → Int32 → Nat → Prop) (x1 : Int32) (x2 : Int32) (x3 : Int32) (x4 : Int32) (x5 : Int32) (x6 : Int32) (x7 : Int32) (x8 : Int32) (x9 : Int32) (x10 : Int32) (n : Nat) (R : Int32 → HS → Prop) : Prop :=
2 ≤ n ∧
((x5 ≤ x10) →
  lF_isInOrder_234 q K32 x1 x2 x3 x4 x5 x6 x7 x9  n R) ∧
((¬ x5 ≤ x10) →
  ((x1 = 0) →
    lF_isInOrder_234 q K32 x1 x2 x3 x4 x5 x6 x7 x9  n R) ∧
  ((¬ x1 = 0) →
    opK q x3 x10 0 0 0 14 = 0 ∧
    (((opX q x3 x10 0 0 0 14) < 0) →
      lF_isInOrder_189 q K32 K149 x2 x3 x4 x5 x6 x7 x8 x9 x10 (opX q x3 x10 0 0 0 14)  (n - 1) R) ∧
    ((¬ (opX q x3 x10 0 0 0 14) < 0) →
      opK q x3 (opX q x3 x10 0 0 0 14) 0 0 0 13 = 0 ∧
      ((¬ (opX q x3 (opX q x3 x10 0 0 0 14) 0 0 0 13) = 2) →
        lF_isInOrder_189 q K32 K149 x2 x3 x4 x5 x6 x7 x8 x9 x10 (opX q x3 x10 0 0 0 14)  (n - 2) R) ∧
      (((opX q x3 (opX q x3 x10 0 0 0 14) 0 0 0 13) = 2) →
        lF_isInOrder_190 q K32 K149 x2 x3 x4 x5 x6 x7 x8 x9 x10 (opX q x3 x10 0 0 0 14) 1  (n - 2) R))))
def lF_isInOrder_149 (q : HS) (K32 : Int32 → Int32 → Int32 → Nat → Prop) (x1 : Int32) (x2 : Int32) (x3 : Int32) (x4 : Int32) (x5 : Int32) (x6 : Int32) (x7 : Int32) (x8 : Int32) (x9 : Int32) (x10 : Int32) (n : Nat) (R : Int32 → HS → Prop) : Prop :=
  ∃ I : Nat → Int32 → Int32 → Int32 → Int32 → Int32 → Int32 → Int32 → Int32 → Int32 → Int32 → Prop, (∃ m, m ≤ n ∧ I m x1 x2 x3 x4 x5 x6 x7 x8 x9 x10) ∧ ∀ m (x1 : Int32) (x2 : Int32) (x3 : Int32) (x4 : Int32) (x5 : Int32) (x6 : Int32) (x7 : Int32) (x8 : Int32) (x9 : Int32) (x10 : Int32), I m x1 x2 x3 x4 x5 x6 x7 x8 x9 x10 → lB_isInOrder_149 q K32 (fun x1 x2 x3 x4 x5 x6 x7 x8 x9 x10 m' => ∃ m9, m9 ≤ m' ∧ m9 < m ∧ I m9 x1 x2 x3 x4 x5 x6 x7 x8 x9 x10) x1 x2 x3 x4 x5 x6 x7 x8 x9 x10 m R
theorem lb_isInOrder_149 {T : pT} {b : Nat} {X : Mem} (hT : okT T b) {q : HS} (G : GdH q) {R : Int32 → HS → Prop} {K32 : Int32 → Int32 → Int32 → Nat → Prop} {K149 : Int32 → Int32 → Int32 → Int32 → Int32 → Int32 → Int32 → Int32 → Int32 → Int32 → Nat → Prop} (hK32 : ∀ (x1 : Int32) (x2 : Int32) (x3 : Int32) (n : Nat), K32 x1 x2 x3  n → WG mL_isInOrder (P1 T b X) R 32 [(0, .ref b), (1, .int x1), (2, .int x2), (3, .int x3)] [] q n) (hK149 : ∀ (x1 : Int32) (x2 : Int32) (x3 : Int32) (x4 : Int32) (x5 : Int32) (x6 : Int32) (x7 : Int32) (x8 : Int32) (x9 : Int32) (x10 : Int32) (n : Nat), K149 x1 x2 x3 x4 x5 x6 x7 x8 x9 x10 n → WG mL_isInOrder (P1 T b X) R 149 [(0, .ref b), (1, .int x1), (2, .int x2), (3, .int x3), (4, .int x4), (5, .int x5), (6, .int x6), (7, .int x7), (8, .int x8), (9, .int x9), (10, .int x10)] [] q n) (x1 : Int32) (x2 : Int32) (x3 : Int32) (x4 : Int32) (x5 : Int32) (x6 : Int32) (x7 : Int32) (x8 : Int32) (x9 : Int32) (x10 : Int32) (n : Nat) (H : lB_isInOrder_149 q K32 K149 x1 x2 x3 x4 x5 x6 x7 x8 x9 x10 n R) : WG mL_isInOrder (P1 T b X) R 149 [(0, .ref b), (1, .int x1), (2, .int x2), (3, .int x3), (4, .int x4), (5, .int x5), (6, .int x6), (7, .int x7), (8, .int x8), (9, .int x9), (10, .int x10)] [] q n := by
  unfold lB_isInOrder_149 at H
  obtain ⟨hn, H⟩ := H
  refine g_iload dL_isInOrder_149 rfl ?_
  refine g_iload dL_isInOrder_151 rfl ?_
  refine g_icmp_ge (tgt := 234) dL_isInOrder_153 (by decide) (fun c => ?_) (fun c => ?_)
  · have H := H.1 c
    exact g_bud (n' := n) (by omega) (gt_loc [0, 1, 2, 3, 4, 5, 6, 7, 9] rfl (lv_isInOrder_234 hT G hK32 x1 x2 x3 x4 x5 x6 x7 x9   _ H))
  · have H := H.2 c
    refine g_iload_n dL_isInOrder_156 rfl ?_
    refine g_if_eq (tgt := 234) dL_isInOrder_157 (by decide) (fun c => ?_) (fun c => ?_)
    · have H := H.1 c
      exact g_bud (n' := n) (by omega) (gt_loc [0, 1, 2, 3, 4, 5, 6, 7, 9] rfl (lv_isInOrder_234 hT G hK32 x1 x2 x3 x4 x5 x6 x7 x9   _ H))
    · have H := H.2 c
      refine g_aload_n dL_isInOrder_160 rfl ?_
      refine g_iload_n dL_isInOrder_161 rfl ?_
      refine g_iload dL_isInOrder_162 rfl ?_
      refine g_view (b := b) (As9 := [.int x3, .int x10]) (st := []) (q := q) (q' := q) (s' := q) (k := opK q x3 x10 0 0 0 14) (x := opX q x3 x10 0 0 0 14) (P1_use hT) P1_next iv_9_20 rfl (op_big G (fun _ => rfl) (op_out G x3 x10 0 0 0)) H.1 rfl dL_isInOrder_164 (by unfold rmP; decide) rfl (Nat.le_of_ble_eq_true rfl) (by decide) (by decide) (by omega) ?_
      have H := H.2
      refine gt_istore (L' := [(11, .int (opX q x3 x10 0 0 0 14)), (0, .ref b), (1, .int x1), (2, .int x2), (3, .int x3), (4, .int x4), (5, .int x5), (6, .int x6), (7, .int x7), (8, .int x8), (9, .int x9), (10, .int x10)]) dL_isInOrder_167 (by decide) rfl ?_
      refine g_iload dL_isInOrder_169 rfl ?_
      refine g_if_lt (tgt := 189) dL_isInOrder_171 (by decide) (fun c => ?_) (fun c => ?_)
      · have H := H.1 c
        exact g_bud (n' := (n - 1)) (by omega) (gt_loc [1, 3, 4, 5, 6, 7, 8, 9, 10, 11, 0] rfl (lv_isInOrder_189 hT G hK32 hK149 x2 x3 x4 x5 x6 x7 x8 x9 x10 (opX q x3 x10 0 0 0 14)   _ H))
      · have H := H.2 c
        refine g_aload_n dL_isInOrder_174 rfl ?_
        refine g_iload_n dL_isInOrder_175 rfl ?_
        refine g_iload dL_isInOrder_176 rfl ?_
        refine g_view (b := b) (As9 := [.int x3, .int (opX q x3 x10 0 0 0 14)]) (st := []) (q := q) (q' := q) (s' := q) (k := opK q x3 (opX q x3 x10 0 0 0 14) 0 0 0 13) (x := opX q x3 (opX q x3 x10 0 0 0 14) 0 0 0 13) (P1_use hT) P1_next iv_9_14 rfl (op_big G (fun _ => rfl) (op_player G x3 (opX q x3 x10 0 0 0 14) 0 0 0)) H.1 rfl dL_isInOrder_178 (by unfold rmP; decide) rfl (Nat.le_of_ble_eq_true rfl) (by decide) (by decide) (by omega) ?_
        have H := H.2
        refine g_iconst (v := 2) dL_isInOrder_181 (by decide) ?_
        refine g_icmp_ne (tgt := 189) dL_isInOrder_182 (by decide) (fun c => ?_) (fun c => ?_)
        · have H := H.1 c
          exact g_bud (n' := (n - 2)) (by omega) (gt_loc [1, 3, 4, 5, 6, 7, 8, 9, 10, 11, 0] rfl (lv_isInOrder_189 hT G hK32 hK149 x2 x3 x4 x5 x6 x7 x8 x9 x10 (opX q x3 x10 0 0 0 14)   _ H))
        · have H := H.2 c
          refine g_iconst (v := 1) dL_isInOrder_185 (by decide) ?_
          refine g_goto (tgt := 190) dL_isInOrder_186 (by decide) ?_
          exact g_bud (n' := (n - 2)) (by omega) (gt_loc [1, 3, 4, 5, 6, 7, 8, 9, 10, 11, 0] rfl (lv_isInOrder_190 hT G hK32 hK149 x2 x3 x4 x5 x6 x7 x8 x9 x10 (opX q x3 x10 0 0 0 14) 1   _ H))
theorem lv_isInOrder_149 {T : pT} {b : Nat} {X : Mem} (hT : okT T b) {q : HS} (G : GdH q) {R : Int32 → HS → Prop} {K32 : Int32 → Int32 → Int32 → Nat → Prop} (hK32 : ∀ (x1 : Int32) (x2 : Int32) (x3 : Int32) (n : Nat), K32 x1 x2 x3  n → WG mL_isInOrder (P1 T b X) R 32 [(0, .ref b), (1, .int x1), (2, .int x2), (3, .int x3)] [] q n) (x1 : Int32) (x2 : Int32) (x3 : Int32) (x4 : Int32) (x5 : Int32) (x6 : Int32) (x7 : Int32) (x8 : Int32) (x9 : Int32) (x10 : Int32) (n : Nat) (H : lF_isInOrder_149 q K32 x1 x2 x3 x4 x5 x6 x7 x8 x9 x10 n R) : WG mL_isInOrder (P1 T b X) R 149 [(0, .ref b), (1, .int x1), (2, .int x2), (3, .int x3), (4, .int x4), (5, .int x5), (6, .int x6), (7, .int x7), (8, .int x8), (9, .int x9), (10, .int x10)] [] q n := by
  obtain ⟨I, ⟨m0, hm, h0⟩, hs⟩ := H
  have key : ∀ m, ∀ (x1 : Int32) (x2 : Int32) (x3 : Int32) (x4 : Int32) (x5 : Int32) (x6 : Int32) (x7 : Int32) (x8 : Int32) (x9 : Int32) (x10 : Int32), I m x1 x2 x3 x4 x5 x6 x7 x8 x9 x10 → WG mL_isInOrder (P1 T b X) R 149 [(0, .ref b), (1, .int x1), (2, .int x2), (3, .int x3), (4, .int x4), (5, .int x5), (6, .int x6), (7, .int x7), (8, .int x8), (9, .int x9), (10, .int x10)] [] q m := by
    refine strong (fun m ih => ?_)
    intro x1 x2 x3 x4 x5 x6 x7 x8 x9 x10  hI
    exact lb_isInOrder_149 hT G hK32 (fun x1 x2 x3 x4 x5 x6 x7 x8 x9 x10  n hz => by
      obtain ⟨m9, z1, z2, z3⟩ := hz
      exact g_bud z1 (ih m9 z2 x1 x2 x3 x4 x5 x6 x7 x8 x9 x10  z3)) x1 x2 x3 x4 x5 x6 x7 x8 x9 x10  m (hs m x1 x2 x3 x4 x5 x6 x7 x8 x9 x10 hI)
  exact g_bud hm (key m0 x1 x2 x3 x4 x5 x6 x7 x8 x9 x10  h0)
def lF_isInOrder_119 (q : HS) (K32 : Int32 → Int32 → Int32 → Nat → Prop) (K56 : Int32 → Int32 → Int32 → Int32 → Int32 → Int32 → Int32 → Int32 → Nat → Prop) (x1 : Int32) (x2 : Int32) (x3 : Int32) (x4 : Int32) (x5 : Int32) (x7 : Int32) (x8 : Int32) (s0 : Int32) (s1 : Int32) (n : Nat) (R : Int32 → HS → Prop) : Prop :=
1 ≤ n ∧
opK q x3 x8 0 0 0 22 = 0 ∧
K56 x1 x2 x3 x4 x5 (s1 + s0) (x7 + (opX q x3 x8 0 0 0 22)) (x8 + 1)  (n - 1)
theorem lv_isInOrder_119 {T : pT} {b : Nat} {X : Mem} (hT : okT T b) {q : HS} (G : GdH q) {R : Int32 → HS → Prop} {K32 : Int32 → Int32 → Int32 → Nat → Prop} {K56 : Int32 → Int32 → Int32 → Int32 → Int32 → Int32 → Int32 → Int32 → Nat → Prop} (hK32 : ∀ (x1 : Int32) (x2 : Int32) (x3 : Int32) (n : Nat), K32 x1 x2 x3  n → WG mL_isInOrder (P1 T b X) R 32 [(0, .ref b), (1, .int x1), (2, .int x2), (3, .int x3)] [] q n) (hK56 : ∀ (x1 : Int32) (x2 : Int32) (x3 : Int32) (x4 : Int32) (x5 : Int32) (x6 : Int32) (x7 : Int32) (x8 : Int32) (n : Nat), K56 x1 x2 x3 x4 x5 x6 x7 x8  n → WG mL_isInOrder (P1 T b X) R 56 [(0, .ref b), (1, .int x1), (2, .int x2), (3, .int x3), (4, .int x4), (5, .int x5), (6, .int x6), (7, .int x7), (8, .int x8)] [] q n) (x1 : Int32) (x2 : Int32) (x3 : Int32) (x4 : Int32) (x5 : Int32) (x7 : Int32) (x8 : Int32) (s0 : Int32) (s1 : Int32) (n : Nat) (H : lF_isInOrder_119 q K32 K56 x1 x2 x3 x4 x5 x7 x8 s0 s1 n R) : WG mL_isInOrder (P1 T b X) R 119 [(0, .ref b), (1, .int x1), (2, .int x2), (3, .int x3), (4, .int x4), (5, .int x5), (7, .int x7), (8, .int x8)] [.int s0, .int s1] q n := by
  unfold lF_isInOrder_119 at H
  obtain ⟨hn, H⟩ := H
  refine g_iadd dL_isInOrder_119 ?_
  refine gt_istore (L' := [(6, .int (s1 + s0)), (0, .ref b), (1, .int x1), (2, .int x2), (3, .int x3), (4, .int x4), (5, .int x5), (7, .int x7), (8, .int x8)]) dL_isInOrder_120 (by decide) rfl ?_
  refine g_iload dL_isInOrder_122 rfl ?_
  refine g_aload_n dL_isInOrder_124 rfl ?_
  refine g_iload_n dL_isInOrder_125 rfl ?_
  refine g_iload dL_isInOrder_126 rfl ?_
  refine g_view (b := b) (As9 := [.int x3, .int x8]) (st := [.int x7]) (q := q) (q' := q) (s' := q) (k := opK q x3 x8 0 0 0 22) (x := opX q x3 x8 0 0 0 22) (P1_use hT) P1_next iv_9_46 rfl (op_big G (fun _ => rfl) (op_raidPoints G x3 x8 0 0 0)) H.1 rfl dL_isInOrder_128 (by unfold rmP; decide) rfl (Nat.le_of_ble_eq_true rfl) (by decide) (by decide) (by omega) ?_
  have H := H.2
  refine g_iadd dL_isInOrder_131 ?_
  refine gt_istore (L' := [(7, .int (x7 + (opX q x3 x8 0 0 0 22))), (6, .int (s1 + s0)), (0, .ref b), (1, .int x1), (2, .int x2), (3, .int x3), (4, .int x4), (5, .int x5), (8, .int x8)]) dL_isInOrder_132 (by decide) rfl ?_
  refine gt_iinc (v := (x8 + 1)) (L' := [(8, .int (x8 + 1)), (7, .int (x7 + (opX q x3 x8 0 0 0 22))), (6, .int (s1 + s0)), (0, .ref b), (1, .int x1), (2, .int x2), (3, .int x3), (4, .int x4), (5, .int x5)]) dL_isInOrder_134 rfl (by rfl) (by decide) rfl ?_
  refine g_goto (tgt := 56) dL_isInOrder_137 (by decide) ?_
  exact g_bud (n' := (n - 1)) (by omega) (gt_loc [3, 4, 5, 6, 7, 8, 2, 1, 0] rfl (hK56 x1 x2 x3 x4 x5 (s1 + s0) (x7 + (opX q x3 x8 0 0 0 22)) (x8 + 1)   _ H))
def lF_isInOrder_103 (q : HS) (K32 : Int32 → Int32 → Int32 → Nat → Prop) (K56 : Int32 → Int32 → Int32 → Int32 → Int32 → Int32 → Int32 → Int32 → Nat → Prop) (x1 : Int32) (x2 : Int32) (x3 : Int32) (x4 : Int32) (x6 : Int32) (x7 : Int32) (x8 : Int32) (x9 : Int32) (s0 : Int32) (s1 : Int32) (n : Nat) (R : Int32 → HS → Prop) : Prop :=
0 ≤ n ∧
((x9 ≤ 2) →
  lF_isInOrder_119 q K32 K56 x1 x2 x3 x4 (s1 + s0) x7 x8 0 x6  n R) ∧
((¬ x9 ≤ 2) →
  lF_isInOrder_119 q K32 K56 x1 x2 x3 x4 (s1 + s0) x7 x8 1 x6  n R)
theorem lv_isInOrder_103 {T : pT} {b : Nat} {X : Mem} (hT : okT T b) {q : HS} (G : GdH q) {R : Int32 → HS → Prop} {K32 : Int32 → Int32 → Int32 → Nat → Prop} {K56 : Int32 → Int32 → Int32 → Int32 → Int32 → Int32 → Int32 → Int32 → Nat → Prop} (hK32 : ∀ (x1 : Int32) (x2 : Int32) (x3 : Int32) (n : Nat), K32 x1 x2 x3  n → WG mL_isInOrder (P1 T b X) R 32 [(0, .ref b), (1, .int x1), (2, .int x2), (3, .int x3)] [] q n) (hK56 : ∀ (x1 : Int32) (x2 : Int32) (x3 : Int32) (x4 : Int32) (x5 : Int32) (x6 : Int32) (x7 : Int32) (x8 : Int32) (n : Nat), K56 x1 x2 x3 x4 x5 x6 x7 x8  n → WG mL_isInOrder (P1 T b X) R 56 [(0, .ref b), (1, .int x1), (2, .int x2), (3, .int x3), (4, .int x4), (5, .int x5), (6, .int x6), (7, .int x7), (8, .int x8)] [] q n) (x1 : Int32) (x2 : Int32) (x3 : Int32) (x4 : Int32) (x6 : Int32) (x7 : Int32) (x8 : Int32) (x9 : Int32) (s0 : Int32) (s1 : Int32) (n : Nat) (H : lF_isInOrder_103 q K32 K56 x1 x2 x3 x4 x6 x7 x8 x9 s0 s1 n R) : WG mL_isInOrder (P1 T b X) R 103 [(0, .ref b), (1, .int x1), (2, .int x2), (3, .int x3), (4, .int x4), (6, .int x6), (7, .int x7), (8, .int x8), (9, .int x9)] [.int s0, .int s1] q n := by
  unfold lF_isInOrder_103 at H
  obtain ⟨hn, H⟩ := H
  refine g_iadd dL_isInOrder_103 ?_
  refine gt_istore (L' := [(5, .int (s1 + s0)), (0, .ref b), (1, .int x1), (2, .int x2), (3, .int x3), (4, .int x4), (6, .int x6), (7, .int x7), (8, .int x8), (9, .int x9)]) dL_isInOrder_104 (by decide) rfl ?_
  refine g_iload dL_isInOrder_106 rfl ?_
  refine g_iload dL_isInOrder_108 rfl ?_
  refine g_iconst (v := 2) dL_isInOrder_110 (by decide) ?_
  refine g_icmp_le (tgt := 118) dL_isInOrder_111 (by decide) (fun c => ?_) (fun c => ?_)
  · have H := H.1 c
    refine g_iconst (v := 0) dL_isInOrder_118 (by decide) ?_
    exact g_bud (n' := n) (by omega) (gt_loc [1, 2, 3, 4, 5, 0, 7, 8] rfl (lv_isInOrder_119 hT G hK32 hK56 x1 x2 x3 x4 (s1 + s0) x7 x8 0 x6   _ H))
  · have H := H.2 c
    refine g_iconst (v := 1) dL_isInOrder_114 (by decide) ?_
    refine g_goto (tgt := 119) dL_isInOrder_115 (by decide) ?_
    exact g_bud (n' := n) (by omega) (gt_loc [1, 2, 3, 4, 5, 0, 7, 8] rfl (lv_isInOrder_119 hT G hK32 hK56 x1 x2 x3 x4 (s1 + s0) x7 x8 1 x6   _ H))
def lF_isInOrder_87 (q : HS) (K32 : Int32 → Int32 → Int32 → Nat → Prop) (K56 : Int32 → Int32 → Int32 → Int32 → Int32 → Int32 → Int32 → Int32 → Nat → Prop) (x1 : Int32) (x2 : Int32) (x3 : Int32) (x5 : Int32) (x6 : Int32) (x7 : Int32) (x8 : Int32) (x9 : Int32) (s0 : Int32) (s1 : Int32) (n : Nat) (R : Int32 → HS → Prop) : Prop :=
0 ≤ n ∧
((¬ x9 = 2) →
  lF_isInOrder_103 q K32 K56 x1 x2 x3 (s1 ||| s0) x6 x7 x8 x9 0 x5  n R) ∧
((x9 = 2) →
  lF_isInOrder_103 q K32 K56 x1 x2 x3 (s1 ||| s0) x6 x7 x8 x9 1 x5  n R)
theorem lv_isInOrder_87 {T : pT} {b : Nat} {X : Mem} (hT : okT T b) {q : HS} (G : GdH q) {R : Int32 → HS → Prop} {K32 : Int32 → Int32 → Int32 → Nat → Prop} {K56 : Int32 → Int32 → Int32 → Int32 → Int32 → Int32 → Int32 → Int32 → Nat → Prop} (hK32 : ∀ (x1 : Int32) (x2 : Int32) (x3 : Int32) (n : Nat), K32 x1 x2 x3  n → WG mL_isInOrder (P1 T b X) R 32 [(0, .ref b), (1, .int x1), (2, .int x2), (3, .int x3)] [] q n) (hK56 : ∀ (x1 : Int32) (x2 : Int32) (x3 : Int32) (x4 : Int32) (x5 : Int32) (x6 : Int32) (x7 : Int32) (x8 : Int32) (n : Nat), K56 x1 x2 x3 x4 x5 x6 x7 x8  n → WG mL_isInOrder (P1 T b X) R 56 [(0, .ref b), (1, .int x1), (2, .int x2), (3, .int x3), (4, .int x4), (5, .int x5), (6, .int x6), (7, .int x7), (8, .int x8)] [] q n) (x1 : Int32) (x2 : Int32) (x3 : Int32) (x5 : Int32) (x6 : Int32) (x7 : Int32) (x8 : Int32) (x9 : Int32) (s0 : Int32) (s1 : Int32) (n : Nat) (H : lF_isInOrder_87 q K32 K56 x1 x2 x3 x5 x6 x7 x8 x9 s0 s1 n R) : WG mL_isInOrder (P1 T b X) R 87 [(0, .ref b), (1, .int x1), (2, .int x2), (3, .int x3), (5, .int x5), (6, .int x6), (7, .int x7), (8, .int x8), (9, .int x9)] [.int s0, .int s1] q n := by
  unfold lF_isInOrder_87 at H
  obtain ⟨hn, H⟩ := H
  refine g_ior dL_isInOrder_87 ?_
  refine gt_istore (L' := [(4, .int (s1 ||| s0)), (0, .ref b), (1, .int x1), (2, .int x2), (3, .int x3), (5, .int x5), (6, .int x6), (7, .int x7), (8, .int x8), (9, .int x9)]) dL_isInOrder_88 (by decide) rfl ?_
  refine g_iload dL_isInOrder_90 rfl ?_
  refine g_iload dL_isInOrder_92 rfl ?_
  refine g_iconst (v := 2) dL_isInOrder_94 (by decide) ?_
  refine g_icmp_ne (tgt := 102) dL_isInOrder_95 (by decide) (fun c => ?_) (fun c => ?_)
  · have H := H.1 c
    refine g_iconst (v := 0) dL_isInOrder_102 (by decide) ?_
    exact g_bud (n' := n) (by omega) (gt_loc [1, 2, 3, 4, 0, 6, 7, 8, 9] rfl (lv_isInOrder_103 hT G hK32 hK56 x1 x2 x3 (s1 ||| s0) x6 x7 x8 x9 0 x5   _ H))
  · have H := H.2 c
    refine g_iconst (v := 1) dL_isInOrder_98 (by decide) ?_
    refine g_goto (tgt := 103) dL_isInOrder_99 (by decide) ?_
    exact g_bud (n' := n) (by omega) (gt_loc [1, 2, 3, 4, 0, 6, 7, 8, 9] rfl (lv_isInOrder_103 hT G hK32 hK56 x1 x2 x3 (s1 ||| s0) x6 x7 x8 x9 1 x5   _ H))
def lB_isInOrder_56 (q : HS) (K32 : Int32 → Int32 → Int32 → Nat → Prop) (K56 : Int32 → Int32 → Int32 → Int32 → Int32 → Int32 → Int32 → Int32 → Nat → Prop) (x1 : Int32) (x2 : Int32) (x3 : Int32) (x4 : Int32) (x5 : Int32) (x6 : Int32) (x7 : Int32) (x8 : Int32) (n : Nat) (R : Int32 → HS → Prop) : Prop :=
1 ≤ n ∧
((10 ≤ x8) →
  lF_isInOrder_149 q K32 x1 x2 x3 x4 x5 x6 x7 0 0 0  n R) ∧
((¬ 10 ≤ x8) →
  opK q x3 x8 0 0 0 13 = 0 ∧
  ((¬ (opX q x3 x8 0 0 0 13) = 0) →
    lF_isInOrder_87 q K32 K56 x1 x2 x3 x5 x6 x7 x8 (opX q x3 x8 0 0 0 13) 0 x4  (n - 1) R) ∧
  (((opX q x3 x8 0 0 0 13) = 0) →
    lF_isInOrder_87 q K32 K56 x1 x2 x3 x5 x6 x7 x8 (opX q x3 x8 0 0 0 13) ((1 : Int32) <<< (x8 &&& 31)) x4  (n - 1) R))
def lF_isInOrder_56 (q : HS) (K32 : Int32 → Int32 → Int32 → Nat → Prop) (x1 : Int32) (x2 : Int32) (x3 : Int32) (x4 : Int32) (x5 : Int32) (x6 : Int32) (x7 : Int32) (x8 : Int32) (n : Nat) (R : Int32 → HS → Prop) : Prop :=
  ∃ I : Nat → Int32 → Int32 → Int32 → Int32 → Int32 → Int32 → Int32 → Int32 → Prop, (∃ m, m ≤ n ∧ I m x1 x2 x3 x4 x5 x6 x7 x8) ∧ ∀ m (x1 : Int32) (x2 : Int32) (x3 : Int32) (x4 : Int32) (x5 : Int32) (x6 : Int32) (x7 : Int32) (x8 : Int32), I m x1 x2 x3 x4 x5 x6 x7 x8 → lB_isInOrder_56 q K32 (fun x1 x2 x3 x4 x5 x6 x7 x8 m' => ∃ m9, m9 ≤ m' ∧ m9 < m ∧ I m9 x1 x2 x3 x4 x5 x6 x7 x8) x1 x2 x3 x4 x5 x6 x7 x8 m R
theorem lb_isInOrder_56 {T : pT} {b : Nat} {X : Mem} (hT : okT T b) {q : HS} (G : GdH q) {R : Int32 → HS → Prop} {K32 : Int32 → Int32 → Int32 → Nat → Prop} {K56 : Int32 → Int32 → Int32 → Int32 → Int32 → Int32 → Int32 → Int32 → Nat → Prop} (hK32 : ∀ (x1 : Int32) (x2 : Int32) (x3 : Int32) (n : Nat), K32 x1 x2 x3  n → WG mL_isInOrder (P1 T b X) R 32 [(0, .ref b), (1, .int x1), (2, .int x2), (3, .int x3)] [] q n) (hK56 : ∀ (x1 : Int32) (x2 : Int32) (x3 : Int32) (x4 : Int32) (x5 : Int32) (x6 : Int32) (x7 : Int32) (x8 : Int32) (n : Nat), K56 x1 x2 x3 x4 x5 x6 x7 x8 n → WG mL_isInOrder (P1 T b X) R 56 [(0, .ref b), (1, .int x1), (2, .int x2), (3, .int x3), (4, .int x4), (5, .int x5), (6, .int x6), (7, .int x7), (8, .int x8)] [] q n) (x1 : Int32) (x2 : Int32) (x3 : Int32) (x4 : Int32) (x5 : Int32) (x6 : Int32) (x7 : Int32) (x8 : Int32) (n : Nat) (H : lB_isInOrder_56 q K32 K56 x1 x2 x3 x4 x5 x6 x7 x8 n R) : WG mL_isInOrder (P1 T b X) R 56 [(0, .ref b), (1, .int x1), (2, .int x2), (3, .int x3), (4, .int x4), (5, .int x5), (6, .int x6), (7, .int x7), (8, .int x8)] [] q n := by
  unfold lB_isInOrder_56 at H
  obtain ⟨hn, H⟩ := H
  refine g_iload dL_isInOrder_56 rfl ?_
  refine g_bipush (v := 10) dL_isInOrder_58 (by decide) ?_
  refine g_icmp_ge (tgt := 140) dL_isInOrder_60 (by decide) (fun c => ?_) (fun c => ?_)
  · have H := H.1 c
    refine g_iconst (v := 0) dL_isInOrder_140 (by decide) ?_
    refine gt_istore (L' := [(8, .int 0), (0, .ref b), (1, .int x1), (2, .int x2), (3, .int x3), (4, .int x4), (5, .int x5), (6, .int x6), (7, .int x7)]) dL_isInOrder_141 (by decide) rfl ?_
    refine g_iconst (v := 0) dL_isInOrder_143 (by decide) ?_
    refine gt_istore (L' := [(9, .int 0), (8, .int 0), (0, .ref b), (1, .int x1), (2, .int x2), (3, .int x3), (4, .int x4), (5, .int x5), (6, .int x6), (7, .int x7)]) dL_isInOrder_144 (by decide) rfl ?_
    refine g_iconst (v := 0) dL_isInOrder_146 (by decide) ?_
    refine gt_istore (L' := [(10, .int 0), (9, .int 0), (8, .int 0), (0, .ref b), (1, .int x1), (2, .int x2), (3, .int x3), (4, .int x4), (5, .int x5), (6, .int x6), (7, .int x7)]) dL_isInOrder_147 (by decide) rfl ?_
    exact g_bud (n' := n) (by omega) (gt_loc [3, 4, 5, 6, 7, 8, 9, 10, 2, 1, 0] rfl (lv_isInOrder_149 hT G hK32 x1 x2 x3 x4 x5 x6 x7 0 0 0   _ H))
  · have H := H.2 c
    refine g_aload_n dL_isInOrder_63 rfl ?_
    refine g_iload_n dL_isInOrder_64 rfl ?_
    refine g_iload dL_isInOrder_65 rfl ?_
    refine g_view (b := b) (As9 := [.int x3, .int x8]) (st := []) (q := q) (q' := q) (s' := q) (k := opK q x3 x8 0 0 0 13) (x := opX q x3 x8 0 0 0 13) (P1_use hT) P1_next iv_9_14 rfl (op_big G (fun _ => rfl) (op_player G x3 x8 0 0 0)) H.1 rfl dL_isInOrder_67 (by unfold rmP; decide) rfl (Nat.le_of_ble_eq_true rfl) (by decide) (by decide) (by omega) ?_
    have H := H.2
    refine gt_istore (L' := [(9, .int (opX q x3 x8 0 0 0 13)), (0, .ref b), (1, .int x1), (2, .int x2), (3, .int x3), (4, .int x4), (5, .int x5), (6, .int x6), (7, .int x7), (8, .int x8)]) dL_isInOrder_70 (by decide) rfl ?_
    refine g_iload dL_isInOrder_72 rfl ?_
    refine g_iload dL_isInOrder_74 rfl ?_
    refine g_if_ne (tgt := 86) dL_isInOrder_76 (by decide) (fun c => ?_) (fun c => ?_)
    · have H := H.1 c
      refine g_iconst (v := 0) dL_isInOrder_86 (by decide) ?_
      exact g_bud (n' := (n - 1)) (by omega) (gt_loc [1, 2, 3, 4, 6, 7, 8, 9, 0] rfl (lv_isInOrder_87 hT G hK32 hK56 x1 x2 x3 x5 x6 x7 x8 (opX q x3 x8 0 0 0 13) 0 x4   _ H))
    · have H := H.2 c
      refine g_iconst (v := 1) dL_isInOrder_79 (by decide) ?_
      refine g_iload dL_isInOrder_80 rfl ?_
      refine g_ishl dL_isInOrder_82 ?_
      refine g_goto (tgt := 87) dL_isInOrder_83 (by decide) ?_
      exact g_bud (n' := (n - 1)) (by omega) (gt_loc [1, 2, 3, 4, 6, 7, 8, 9, 0] rfl (lv_isInOrder_87 hT G hK32 hK56 x1 x2 x3 x5 x6 x7 x8 (opX q x3 x8 0 0 0 13) ((1 : Int32) <<< (x8 &&& 31)) x4   _ H))
theorem lv_isInOrder_56 {T : pT} {b : Nat} {X : Mem} (hT : okT T b) {q : HS} (G : GdH q) {R : Int32 → HS → Prop} {K32 : Int32 → Int32 → Int32 → Nat → Prop} (hK32 : ∀ (x1 : Int32) (x2 : Int32) (x3 : Int32) (n : Nat), K32 x1 x2 x3  n → WG mL_isInOrder (P1 T b X) R 32 [(0, .ref b), (1, .int x1), (2, .int x2), (3, .int x3)] [] q n) (x1 : Int32) (x2 : Int32) (x3 : Int32) (x4 : Int32) (x5 : Int32) (x6 : Int32) (x7 : Int32) (x8 : Int32) (n : Nat) (H : lF_isInOrder_56 q K32 x1 x2 x3 x4 x5 x6 x7 x8 n R) : WG mL_isInOrder (P1 T b X) R 56 [(0, .ref b), (1, .int x1), (2, .int x2), (3, .int x3), (4, .int x4), (5, .int x5), (6, .int x6), (7, .int x7), (8, .int x8)] [] q n := by
  obtain ⟨I, ⟨m0, hm, h0⟩, hs⟩ := H
  have key : ∀ m, ∀ (x1 : Int32) (x2 : Int32) (x3 : Int32) (x4 : Int32) (x5 : Int32) (x6 : Int32) (x7 : Int32) (x8 : Int32), I m x1 x2 x3 x4 x5 x6 x7 x8 → WG mL_isInOrder (P1 T b X) R 56 [(0, .ref b), (1, .int x1), (2, .int x2), (3, .int x3), (4, .int x4), (5, .int x5), (6, .int x6), (7, .int x7), (8, .int x8)] [] q m := by
    refine strong (fun m ih => ?_)
    intro x1 x2 x3 x4 x5 x6 x7 x8  hI
    exact lb_isInOrder_56 hT G hK32 (fun x1 x2 x3 x4 x5 x6 x7 x8  n hz => by
      obtain ⟨m9, z1, z2, z3⟩ := hz
      exact g_bud z1 (ih m9 z2 x1 x2 x3 x4 x5 x6 x7 x8  z3)) x1 x2 x3 x4 x5 x6 x7 x8  m (hs m x1 x2 x3 x4 x5 x6 x7 x8 hI)
  exact g_bud hm (key m0 x1 x2 x3 x4 x5 x6 x7 x8  h0)
def lB_isInOrder_32 (q : HS) (K32 : Int32 → Int32 → Int32 → Nat → Prop) (x1 : Int32) (x2 : Int32) (x3 : Int32) (n : Nat) (R : Int32 → HS → Prop) : Prop :=
0 ≤ n ∧
((2 ≤ x3) →
  lF_isInOrder_410 q  x1  n R) ∧
((¬ 2 ≤ x3) →
  ((x1 = 0) →
    lF_isInOrder_410 q  x1  n R) ∧
  ((¬ x1 = 0) →
    lF_isInOrder_56 q K32 x1 x2 x3 0 0 0 0 0  n R))
def lF_isInOrder_32 (q : HS) (x1 : Int32) (x2 : Int32) (x3 : Int32) (n : Nat) (R : Int32 → HS → Prop) : Prop :=
  ∃ I : Nat → Int32 → Int32 → Int32 → Prop, (∃ m, m ≤ n ∧ I m x1 x2 x3) ∧ ∀ m (x1 : Int32) (x2 : Int32) (x3 : Int32), I m x1 x2 x3 → lB_isInOrder_32 q  (fun x1 x2 x3 m' => ∃ m9, m9 ≤ m' ∧ m9 < m ∧ I m9 x1 x2 x3) x1 x2 x3 m R
theorem lb_isInOrder_32 {T : pT} {b : Nat} {X : Mem} (hT : okT T b) {q : HS} (G : GdH q) {R : Int32 → HS → Prop}  {K32 : Int32 → Int32 → Int32 → Nat → Prop} (hK32 : ∀ (x1 : Int32) (x2 : Int32) (x3 : Int32) (n : Nat), K32 x1 x2 x3 n → WG mL_isInOrder (P1 T b X) R 32 [(0, .ref b), (1, .int x1), (2, .int x2), (3, .int x3)] [] q n) (x1 : Int32) (x2 : Int32) (x3 : Int32) (n : Nat) (H : lB_isInOrder_32 q  K32 x1 x2 x3 n R) : WG mL_isInOrder (P1 T b X) R 32 [(0, .ref b), (1, .int x1), (2, .int x2), (3, .int x3)] [] q n := by
  unfold lB_isInOrder_32 at H
  obtain ⟨hn, H⟩ := H
  refine g_iload_n dL_isInOrder_32 rfl ?_
  refine g_iconst (v := 2) dL_isInOrder_33 (by decide) ?_
  refine g_icmp_ge (tgt := 410) dL_isInOrder_34 (by decide) (fun c => ?_) (fun c => ?_)
  · have H := H.1 c
    exact g_bud (n' := n) (by omega) (gt_loc [0, 1] rfl (lv_isInOrder_410 hT G  x1   _ H))
  · have H := H.2 c
    refine g_iload_n dL_isInOrder_37 rfl ?_
    refine g_if_eq (tgt := 410) dL_isInOrder_38 (by decide) (fun c => ?_) (fun c => ?_)
    · have H := H.1 c
      exact g_bud (n' := n) (by omega) (gt_loc [0, 1] rfl (lv_isInOrder_410 hT G  x1   _ H))
    · have H := H.2 c
      refine g_iconst (v := 0) dL_isInOrder_41 (by decide) ?_
      refine gt_istore (L' := [(4, .int 0), (0, .ref b), (1, .int x1), (2, .int x2), (3, .int x3)]) dL_isInOrder_42 (by decide) rfl ?_
      refine g_iconst (v := 0) dL_isInOrder_44 (by decide) ?_
      refine gt_istore (L' := [(5, .int 0), (4, .int 0), (0, .ref b), (1, .int x1), (2, .int x2), (3, .int x3)]) dL_isInOrder_45 (by decide) rfl ?_
      refine g_iconst (v := 0) dL_isInOrder_47 (by decide) ?_
      refine gt_istore (L' := [(6, .int 0), (5, .int 0), (4, .int 0), (0, .ref b), (1, .int x1), (2, .int x2), (3, .int x3)]) dL_isInOrder_48 (by decide) rfl ?_
      refine g_iconst (v := 0) dL_isInOrder_50 (by decide) ?_
      refine gt_istore (L' := [(7, .int 0), (6, .int 0), (5, .int 0), (4, .int 0), (0, .ref b), (1, .int x1), (2, .int x2), (3, .int x3)]) dL_isInOrder_51 (by decide) rfl ?_
      refine g_iconst (v := 0) dL_isInOrder_53 (by decide) ?_
      refine gt_istore (L' := [(8, .int 0), (7, .int 0), (6, .int 0), (5, .int 0), (4, .int 0), (0, .ref b), (1, .int x1), (2, .int x2), (3, .int x3)]) dL_isInOrder_54 (by decide) rfl ?_
      exact g_bud (n' := n) (by omega) (gt_loc [5, 6, 7, 8, 4, 3, 2, 1, 0] rfl (lv_isInOrder_56 hT G hK32 x1 x2 x3 0 0 0 0 0   _ H))
theorem lv_isInOrder_32 {T : pT} {b : Nat} {X : Mem} (hT : okT T b) {q : HS} (G : GdH q) {R : Int32 → HS → Prop}  (x1 : Int32) (x2 : Int32) (x3 : Int32) (n : Nat) (H : lF_isInOrder_32 q  x1 x2 x3 n R) : WG mL_isInOrder (P1 T b X) R 32 [(0, .ref b), (1, .int x1), (2, .int x2), (3, .int x3)] [] q n := by
  obtain ⟨I, ⟨m0, hm, h0⟩, hs⟩ := H
  have key : ∀ m, ∀ (x1 : Int32) (x2 : Int32) (x3 : Int32), I m x1 x2 x3 → WG mL_isInOrder (P1 T b X) R 32 [(0, .ref b), (1, .int x1), (2, .int x2), (3, .int x3)] [] q m := by
    refine strong (fun m ih => ?_)
    intro x1 x2 x3  hI
    exact lb_isInOrder_32 hT G  (fun x1 x2 x3  n hz => by
      obtain ⟨m9, z1, z2, z3⟩ := hz
      exact g_bud z1 (ih m9 z2 x1 x2 x3  z3)) x1 x2 x3  m (hs m x1 x2 x3 hI)
  exact g_bud hm (key m0 x1 x2 x3  h0)
def lF_isInOrder (q : HS)  (n : Nat) (R : Int32 → HS → Prop) : Prop :=
3 ≤ n ∧
((0 ≤ (dW q 17 0 0 0 0 0)) →
  opK q 2 0 0 0 0 17 = 0 ∧
  opK q 3 0 0 0 0 17 = 0 ∧
  lF_isInOrder_32 q  1 ((opX q 2 0 0 0 0 17) - (opX q 3 0 0 0 0 17)) 0  (n - 3) R) ∧
((¬ 0 ≤ (dW q 17 0 0 0 0 0)) →
  R 1 q)
theorem lv_isInOrder {T : pT} {b : Nat} {X : Mem} (hT : okT T b) {q : HS} (G : GdH q) {R : Int32 → HS → Prop}   (n : Nat) (H : lF_isInOrder q  n R) : WG mL_isInOrder (P1 T b X) R 0 [(0, .ref b)] [] q n := by
  unfold lF_isInOrder at H
  obtain ⟨hn, H⟩ := H
  refine g_aload_n dL_isInOrder_0 rfl ?_
  refine g_bipush (v := 17) dL_isInOrder_1 (by decide) ?_
  refine g_iconst (v := 0) dL_isInOrder_3 (by decide) ?_
  refine g_iconst (v := 0) dL_isInOrder_4 (by decide) ?_
  refine g_iconst (v := 0) dL_isInOrder_5 (by decide) ?_
  refine g_iconst (v := 0) dL_isInOrder_6 (by decide) ?_
  refine g_iconst (v := 0) dL_isInOrder_7 (by decide) ?_
  refine g_does (As := [.ref b, .int 17, .int 0, .int 0, .int 0, .int 0, .int 0]) (st := []) (q := q) (q' := q) (s' := q) (k := opK q 0 0 0 0 0 17) (x := opX q 0 0 0 0 0 17) (P1_use hT) P1_next rfl (fun B h1 h2 h3 h4 => ds_17 h1 h2 h3 h4 G 0 0 0 0 0 G) dL_isInOrder_8 (by unfold rmP; decide) rfl (Nat.le_of_ble_eq_true rfl) (by omega) ?_
  refine g_if_ge (tgt := 16) dL_isInOrder_11 (by decide) (fun c => ?_) (fun c => ?_)
  · have H := H.1 c
    refine g_iconst (v := 1) dL_isInOrder_16 (by decide) ?_
    refine gt_istore_n (L' := [(1, .int 1), (0, .ref b)]) dL_isInOrder_17 (by decide) rfl ?_
    refine g_aload_n dL_isInOrder_18 rfl ?_
    refine g_iconst (v := 2) dL_isInOrder_19 (by decide) ?_
    refine g_view (b := b) (As9 := [.int 2]) (st := []) (q := q) (q' := q) (s' := q) (k := opK q 2 0 0 0 0 17) (x := opX q 2 0 0 0 0 17) (P1_use hT) P1_next iv_9_30 rfl (op_big G (fun _ => rfl) (op_match G 2 0 0 0 0)) H.1 rfl dL_isInOrder_20 (by unfold rmP; decide) rfl (Nat.le_of_ble_eq_true rfl) (by decide) (by decide) (by omega) ?_
    have H := H.2
    refine g_aload_n dL_isInOrder_23 rfl ?_
    refine g_iconst (v := 3) dL_isInOrder_24 (by decide) ?_
    refine g_view (b := b) (As9 := [.int 3]) (st := [.int (opX q 2 0 0 0 0 17)]) (q := q) (q' := q) (s' := q) (k := opK q 3 0 0 0 0 17) (x := opX q 3 0 0 0 0 17) (P1_use hT) P1_next iv_9_30 rfl (op_big G (fun _ => rfl) (op_match G 3 0 0 0 0)) H.1 rfl dL_isInOrder_25 (by unfold rmP; decide) rfl (Nat.le_of_ble_eq_true rfl) (by decide) (by decide) (by omega) ?_
    have H := H.2
    refine g_isub dL_isInOrder_28 ?_
    refine gt_istore_n (L' := [(2, .int ((opX q 2 0 0 0 0 17) - (opX q 3 0 0 0 0 17))), (1, .int 1), (0, .ref b)]) dL_isInOrder_29 (by decide) rfl ?_
    refine g_iconst (v := 0) dL_isInOrder_30 (by decide) ?_
    refine gt_istore_n (L' := [(3, .int 0), (2, .int ((opX q 2 0 0 0 0 17) - (opX q 3 0 0 0 0 17))), (1, .int 1), (0, .ref b)]) dL_isInOrder_31 (by decide) rfl ?_
    exact g_bud (n' := (n - 3)) (by omega) (gt_loc [3, 2, 1, 0] rfl (lv_isInOrder_32 hT G  1 ((opX q 2 0 0 0 0 17) - (opX q 3 0 0 0 0 17)) 0   _ H))
  · have H := H.2 c
    refine g_iconst (v := 1) dL_isInOrder_14 (by decide) ?_
    exact g_iret dL_isInOrder_15 (Or.inr ⟨rfl, Or.inr rfl⟩) H
