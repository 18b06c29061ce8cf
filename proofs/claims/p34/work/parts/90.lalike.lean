def lF_areAlike_426 (v : Int32) (q0 : HS) (q1 : HS) (K287 : Int32 → Int32 → Nat → Prop) (x4 : Int32) (s0 : Int32) (n : Nat) (R : Int32 → HS × HS → Prop) : Prop :=
0 ≤ n ∧
K287 s0 (x4 + 1)  n
theorem lv_areAlike_426 {T : pT} {X : Mem} (hT : okT T 0) (hT4 : okT T 405) {v : Int32} {q0 q1 : HS} (g0 : GdH q0) (g1 : GdH q1) {R : Int32 → HS × HS → Prop} {K287 : Int32 → Int32 → Nat → Prop} (hK287 : ∀ (x3 : Int32) (x4 : Int32) (n : Nat), K287 x3 x4  n → WG mL_areAlike (P2 T X) R 287 [(0, .ref 0), (1, .ref 405), (3, .int x3), (4, .int x4)] [] (q0, q1) n) (x4 : Int32) (s0 : Int32) (n : Nat) (H : lF_areAlike_426 v q0 q1 K287 x4 s0 n R) : WG mL_areAlike (P2 T X) R 426 [(0, .ref 0), (1, .ref 405), (4, .int x4)] [.int s0] (q0, q1) n := by
  unfold lF_areAlike_426 at H
  obtain ⟨hn, H⟩ := H
  refine gt_istore_n (L' := [(3, .int s0), (0, .ref 0), (1, .ref 405), (4, .int x4)]) dL_areAlike_426 (by decide) rfl ?_
  refine gt_iinc (v := (x4 + 1)) (L' := [(4, .int (x4 + 1)), (3, .int s0), (0, .ref 0), (1, .ref 405)]) dL_areAlike_427 rfl (by rfl) (by decide) rfl ?_
  refine g_goto (tgt := 287) dL_areAlike_430 (by decide) ?_
  exact g_bud (n' := n) (by omega) (gt_loc [2, 3, 1, 0] rfl (hK287 s0 (x4 + 1)   _ H))
def lF_areAlike_425 (v : Int32) (q0 : HS) (q1 : HS) (K287 : Int32 → Int32 → Nat → Prop) (x4 : Int32) (n : Nat) (R : Int32 → HS × HS → Prop) : Prop :=
0 ≤ n ∧
lF_areAlike_426 v q0 q1 K287 x4 0  n R
theorem lv_areAlike_425 {T : pT} {X : Mem} (hT : okT T 0) (hT4 : okT T 405) {v : Int32} {q0 q1 : HS} (g0 : GdH q0) (g1 : GdH q1) {R : Int32 → HS × HS → Prop} {K287 : Int32 → Int32 → Nat → Prop} (hK287 : ∀ (x3 : Int32) (x4 : Int32) (n : Nat), K287 x3 x4  n → WG mL_areAlike (P2 T X) R 287 [(0, .ref 0), (1, .ref 405), (3, .int x3), (4, .int x4)] [] (q0, q1) n) (x4 : Int32) (n : Nat) (H : lF_areAlike_425 v q0 q1 K287 x4 n R) : WG mL_areAlike (P2 T X) R 425 [(0, .ref 0), (1, .ref 405), (4, .int x4)] [] (q0, q1) n := by
  unfold lF_areAlike_425 at H
  obtain ⟨hn, H⟩ := H
  refine g_iconst (v := 0) dL_areAlike_425 (by decide) ?_
  exact g_bud (n' := n) (by omega) (gt_loc [0, 1, 2] rfl (lv_areAlike_426 hT hT4 g0 g1 hK287 x4 0   _ H))
def lB_areAlike_287 (v : Int32) (q0 : HS) (q1 : HS) (K287 : Int32 → Int32 → Nat → Prop) (x3 : Int32) (x4 : Int32) (n : Nat) (R : Int32 → HS × HS → Prop) : Prop :=
6 ≤ n ∧
((56 ≤ x4) →
  (x3 = 0 ∨ x3 = 1) ∧ R x3 (q0, q1)) ∧
((¬ 56 ≤ x4) →
  ((x3 = 0) →
    (x3 = 0 ∨ x3 = 1) ∧ R x3 (q0, q1)) ∧
  ((¬ x3 = 0) →
    ((¬ (dW q0 23 (x4 / 7) (x4 - x4 / 7 * 7) 0 0 0) = (dW q1 23 (x4 / 7) (x4 - x4 / 7 * 7) 0 0 0)) →
      lF_areAlike_425 v q0 q1 K287 x4  (n - 2) R) ∧
    (((dW q0 23 (x4 / 7) (x4 - x4 / 7 * 7) 0 0 0) = (dW q1 23 (x4 / 7) (x4 - x4 / 7 * 7) 0 0 0)) →
      ((¬ (dW q0 29 (x4 - x4 / 24 * 24) (x4 / 24) 0 0 0) = (dW q1 29 (x4 - x4 / 24 * 24) (x4 / 24) 0 0 0)) →
        lF_areAlike_425 v q0 q1 K287 x4  (n - 4) R) ∧
      (((dW q0 29 (x4 - x4 / 24 * 24) (x4 / 24) 0 0 0) = (dW q1 29 (x4 - x4 / 24 * 24) (x4 / 24) 0 0 0)) →
        ((¬ (dW q0 30 (x4 - x4 / 8 * 8) (x4 / 24) 0 0 0) = (dW q1 30 (x4 - x4 / 8 * 8) (x4 / 24) 0 0 0)) →
          lF_areAlike_425 v q0 q1 K287 x4  (n - 6) R) ∧
        (((dW q0 30 (x4 - x4 / 8 * 8) (x4 / 24) 0 0 0) = (dW q1 30 (x4 - x4 / 8 * 8) (x4 / 24) 0 0 0)) →
          lF_areAlike_426 v q0 q1 K287 x4 1  (n - 6) R)))))
def lF_areAlike_287 (v : Int32) (q0 : HS) (q1 : HS) (x3 : Int32) (x4 : Int32) (n : Nat) (R : Int32 → HS × HS → Prop) : Prop :=
  ∃ I : Nat → Int32 → Int32 → Prop, (∃ m, m ≤ n ∧ I m x3 x4) ∧ ∀ m (x3 : Int32) (x4 : Int32), I m x3 x4 → lB_areAlike_287 v q0 q1  (fun x3 x4 m' => ∃ m9, m9 ≤ m' ∧ m9 < m ∧ I m9 x3 x4) x3 x4 m R
theorem lb_areAlike_287 {T : pT} {X : Mem} (hT : okT T 0) (hT4 : okT T 405) {v : Int32} {q0 q1 : HS} (g0 : GdH q0) (g1 : GdH q1) {R : Int32 → HS × HS → Prop}  {K287 : Int32 → Int32 → Nat → Prop} (hK287 : ∀ (x3 : Int32) (x4 : Int32) (n : Nat), K287 x3 x4 n → WG mL_areAlike (P2 T X) R 287 [(0, .ref 0), (1, .ref 405), (3, .int x3), (4, .int x4)] [] (q0, q1) n) (x3 : Int32) (x4 : Int32) (n : Nat) (H : lB_areAlike_287 v q0 q1  K287 x3 x4 n R) : WG mL_areAlike (P2 T X) R 287 [(0, .ref 0), (1, .ref 405), (3, .int x3), (4, .int x4)] [] (q0, q1) n := by
  unfold lB_areAlike_287 at H
  obtain ⟨hn, H⟩ := H
  refine g_iload dL_areAlike_287 rfl ?_
  refine g_bipush (v := 56) dL_areAlike_289 (by decide) ?_
  refine g_icmp_ge (tgt := 433) dL_areAlike_291 (by decide) (fun c => ?_) (fun c => ?_)
  · have H := H.1 c
    refine g_iload_n dL_areAlike_433 rfl ?_
    exact g_iret dL_areAlike_434 (Or.inr ⟨rfl, H.1⟩) H.2
  · have H := H.2 c
    refine g_iload_n dL_areAlike_294 rfl ?_
    refine g_if_eq (tgt := 433) dL_areAlike_295 (by decide) (fun c => ?_) (fun c => ?_)
    · have H := H.1 c
      refine g_iload_n dL_areAlike_433 rfl ?_
      exact g_iret dL_areAlike_434 (Or.inr ⟨rfl, H.1⟩) H.2
    · have H := H.2 c
      refine g_aload_n dL_areAlike_298 rfl ?_
      refine g_bipush (v := 23) dL_areAlike_299 (by decide) ?_
      refine g_iload dL_areAlike_301 rfl ?_
      refine g_bipush (v := 7) dL_areAlike_303 (by decide) ?_
      refine g_idiv dL_areAlike_305 (by decide) ?_
      refine g_iload dL_areAlike_306 rfl ?_
      refine g_bipush (v := 7) dL_areAlike_308 (by decide) ?_
      refine g_irem dL_areAlike_310 (by decide) ?_
      refine g_iconst (v := 0) dL_areAlike_311 (by decide) ?_
      refine g_iconst (v := 0) dL_areAlike_312 (by decide) ?_
      refine g_iconst (v := 0) dL_areAlike_313 (by decide) ?_
      refine g_does (As := [.ref 0, .int 23, .int (x4 / 7), .int (x4 - x4 / 7 * 7), .int 0, .int 0, .int 0]) (st := []) (q := q0) (q' := q0) (s' := (q0, q1)) (k := opK q0 (x4 / 7) (x4 - x4 / 7 * 7) 0 0 0 23) (x := opX q0 (x4 / 7) (x4 - x4 / 7 * 7) 0 0 0 23) (P2_use0 hT) (P2_next0 g1) rfl (fun B h1 h2 h3 h4 => ds_23 h1 h2 h3 h4 g0 (x4 / 7) (x4 - x4 / 7 * 7) 0 0 0 g0) dL_areAlike_314 (by unfold rmP; decide) rfl (Nat.le_of_ble_eq_true rfl) (by omega) ?_
      refine g_aload_n dL_areAlike_317 rfl ?_
      refine g_bipush (v := 23) dL_areAlike_318 (by decide) ?_
      refine g_iload dL_areAlike_320 rfl ?_
      refine g_bipush (v := 7) dL_areAlike_322 (by decide) ?_
      refine g_idiv dL_areAlike_324 (by decide) ?_
      refine g_iload dL_areAlike_325 rfl ?_
      refine g_bipush (v := 7) dL_areAlike_327 (by decide) ?_
      refine g_irem dL_areAlike_329 (by decide) ?_
      refine g_iconst (v := 0) dL_areAlike_330 (by decide) ?_
      refine g_iconst (v := 0) dL_areAlike_331 (by decide) ?_
      refine g_iconst (v := 0) dL_areAlike_332 (by decide) ?_
      refine g_does (As := [.ref 405, .int 23, .int (x4 / 7), .int (x4 - x4 / 7 * 7), .int 0, .int 0, .int 0]) (st := [.int (dW q0 23 (x4 / 7) (x4 - x4 / 7 * 7) 0 0 0)]) (q := q1) (q' := q1) (s' := (q0, q1)) (k := opK q1 (x4 / 7) (x4 - x4 / 7 * 7) 0 0 0 23) (x := opX q1 (x4 / 7) (x4 - x4 / 7 * 7) 0 0 0 23) (P2_use4 hT4) (P2_next4 g0) rfl (fun B h1 h2 h3 h4 => ds_23 h1 h2 h3 h4 g1 (x4 / 7) (x4 - x4 / 7 * 7) 0 0 0 g1) dL_areAlike_333 (by unfold rmP; decide) rfl (Nat.le_of_ble_eq_true rfl) (by omega) ?_
      refine g_icmp_ne (tgt := 425) dL_areAlike_336 (by decide) (fun c => ?_) (fun c => ?_)
      · have H := H.1 c
        exact g_bud (n' := (n - 2)) (by omega) (gt_loc [0, 1, 3] rfl (lv_areAlike_425 hT hT4 g0 g1 hK287 x4   _ H))
      · have H := H.2 c
        refine g_aload_n dL_areAlike_339 rfl ?_
        refine g_bipush (v := 29) dL_areAlike_340 (by decide) ?_
        refine g_iload dL_areAlike_342 rfl ?_
        refine g_bipush (v := 24) dL_areAlike_344 (by decide) ?_
        refine g_irem dL_areAlike_346 (by decide) ?_
        refine g_iload dL_areAlike_347 rfl ?_
        refine g_bipush (v := 24) dL_areAlike_349 (by decide) ?_
        refine g_idiv dL_areAlike_351 (by decide) ?_
        refine g_iconst (v := 0) dL_areAlike_352 (by decide) ?_
        refine g_iconst (v := 0) dL_areAlike_353 (by decide) ?_
        refine g_iconst (v := 0) dL_areAlike_354 (by decide) ?_
        refine g_does (As := [.ref 0, .int 29, .int (x4 - x4 / 24 * 24), .int (x4 / 24), .int 0, .int 0, .int 0]) (st := []) (q := q0) (q' := q0) (s' := (q0, q1)) (k := opK q0 (x4 - x4 / 24 * 24) (x4 / 24) 0 0 0 29) (x := opX q0 (x4 - x4 / 24 * 24) (x4 / 24) 0 0 0 29) (P2_use0 hT) (P2_next0 g1) rfl (fun B h1 h2 h3 h4 => ds_29 h1 h2 h3 h4 g0 (x4 - x4 / 24 * 24) (x4 / 24) 0 0 0 g0) dL_areAlike_355 (by unfold rmP; decide) rfl (Nat.le_of_ble_eq_true rfl) (by omega) ?_
        refine g_aload_n dL_areAlike_358 rfl ?_
        refine g_bipush (v := 29) dL_areAlike_359 (by decide) ?_
        refine g_iload dL_areAlike_361 rfl ?_
        refine g_bipush (v := 24) dL_areAlike_363 (by decide) ?_
        refine g_irem dL_areAlike_365 (by decide) ?_
        refine g_iload dL_areAlike_366 rfl ?_
        refine g_bipush (v := 24) dL_areAlike_368 (by decide) ?_
        refine g_idiv dL_areAlike_370 (by decide) ?_
        refine g_iconst (v := 0) dL_areAlike_371 (by decide) ?_
        refine g_iconst (v := 0) dL_areAlike_372 (by decide) ?_
        refine g_iconst (v := 0) dL_areAlike_373 (by decide) ?_
        refine g_does (As := [.ref 405, .int 29, .int (x4 - x4 / 24 * 24), .int (x4 / 24), .int 0, .int 0, .int 0]) (st := [.int (dW q0 29 (x4 - x4 / 24 * 24) (x4 / 24) 0 0 0)]) (q := q1) (q' := q1) (s' := (q0, q1)) (k := opK q1 (x4 - x4 / 24 * 24) (x4 / 24) 0 0 0 29) (x := opX q1 (x4 - x4 / 24 * 24) (x4 / 24) 0 0 0 29) (P2_use4 hT4) (P2_next4 g0) rfl (fun B h1 h2 h3 h4 => ds_29 h1 h2 h3 h4 g1 (x4 - x4 / 24 * 24) (x4 / 24) 0 0 0 g1) dL_areAlike_374 (by unfold rmP; decide) rfl (Nat.le_of_ble_eq_true rfl) (by omega) ?_
        refine g_icmp_ne (tgt := 425) dL_areAlike_377 (by decide) (fun c => ?_) (fun c => ?_)
        · have H := H.1 c
          exact g_bud (n' := (n - 4)) (by omega) (gt_loc [0, 1, 3] rfl (lv_areAlike_425 hT hT4 g0 g1 hK287 x4   _ H))
        · have H := H.2 c
          refine g_aload_n dL_areAlike_380 rfl ?_
          refine g_bipush (v := 30) dL_areAlike_381 (by decide) ?_
          refine g_iload dL_areAlike_383 rfl ?_
          refine g_bipush (v := 8) dL_areAlike_385 (by decide) ?_
          refine g_irem dL_areAlike_387 (by decide) ?_
          refine g_iload dL_areAlike_388 rfl ?_
          refine g_bipush (v := 24) dL_areAlike_390 (by decide) ?_
          refine g_idiv dL_areAlike_392 (by decide) ?_
          refine g_iconst (v := 0) dL_areAlike_393 (by decide) ?_
          refine g_iconst (v := 0) dL_areAlike_394 (by decide) ?_
          refine g_iconst (v := 0) dL_areAlike_395 (by decide) ?_
          refine g_does (As := [.ref 0, .int 30, .int (x4 - x4 / 8 * 8), .int (x4 / 24), .int 0, .int 0, .int 0]) (st := []) (q := q0) (q' := q0) (s' := (q0, q1)) (k := opK q0 (x4 - x4 / 8 * 8) (x4 / 24) 0 0 0 30) (x := opX q0 (x4 - x4 / 8 * 8) (x4 / 24) 0 0 0 30) (P2_use0 hT) (P2_next0 g1) rfl (fun B h1 h2 h3 h4 => ds_30 h1 h2 h3 h4 g0 (x4 - x4 / 8 * 8) (x4 / 24) 0 0 0 g0) dL_areAlike_396 (by unfold rmP; decide) rfl (Nat.le_of_ble_eq_true rfl) (by omega) ?_
          refine g_aload_n dL_areAlike_399 rfl ?_
          refine g_bipush (v := 30) dL_areAlike_400 (by decide) ?_
          refine g_iload dL_areAlike_402 rfl ?_
          refine g_bipush (v := 8) dL_areAlike_404 (by decide) ?_
          refine g_irem dL_areAlike_406 (by decide) ?_
          refine g_iload dL_areAlike_407 rfl ?_
          refine g_bipush (v := 24) dL_areAlike_409 (by decide) ?_
          refine g_idiv dL_areAlike_411 (by decide) ?_
          refine g_iconst (v := 0) dL_areAlike_412 (by decide) ?_
          refine g_iconst (v := 0) dL_areAlike_413 (by decide) ?_
          refine g_iconst (v := 0) dL_areAlike_414 (by decide) ?_
          refine g_does (As := [.ref 405, .int 30, .int (x4 - x4 / 8 * 8), .int (x4 / 24), .int 0, .int 0, .int 0]) (st := [.int (dW q0 30 (x4 - x4 / 8 * 8) (x4 / 24) 0 0 0)]) (q := q1) (q' := q1) (s' := (q0, q1)) (k := opK q1 (x4 - x4 / 8 * 8) (x4 / 24) 0 0 0 30) (x := opX q1 (x4 - x4 / 8 * 8) (x4 / 24) 0 0 0 30) (P2_use4 hT4) (P2_next4 g0) rfl (fun B h1 h2 h3 h4 => ds_30 h1 h2 h3 h4 g1 (x4 - x4 / 8 * 8) (x4 / 24) 0 0 0 g1) dL_areAlike_415 (by unfold rmP; decide) rfl (Nat.le_of_ble_eq_true rfl) (by omega) ?_
          refine g_icmp_ne (tgt := 425) dL_areAlike_418 (by decide) (fun c => ?_) (fun c => ?_)
          · have H := H.1 c
            exact g_bud (n' := (n - 6)) (by omega) (gt_loc [0, 1, 3] rfl (lv_areAlike_425 hT hT4 g0 g1 hK287 x4   _ H))
          · have H := H.2 c
            refine g_iconst (v := 1) dL_areAlike_421 (by decide) ?_
            refine g_goto (tgt := 426) dL_areAlike_422 (by decide) ?_
            exact g_bud (n' := (n - 6)) (by omega) (gt_loc [0, 1, 3] rfl (lv_areAlike_426 hT hT4 g0 g1 hK287 x4 1   _ H))
theorem lv_areAlike_287 {T : pT} {X : Mem} (hT : okT T 0) (hT4 : okT T 405) {v : Int32} {q0 q1 : HS} (g0 : GdH q0) (g1 : GdH q1) {R : Int32 → HS × HS → Prop}  (x3 : Int32) (x4 : Int32) (n : Nat) (H : lF_areAlike_287 v q0 q1  x3 x4 n R) : WG mL_areAlike (P2 T X) R 287 [(0, .ref 0), (1, .ref 405), (3, .int x3), (4, .int x4)] [] (q0, q1) n := by
  obtain ⟨I, ⟨m0, hm, h0⟩, hs⟩ := H
  have key : ∀ m, ∀ (x3 : Int32) (x4 : Int32), I m x3 x4 → WG mL_areAlike (P2 T X) R 287 [(0, .ref 0), (1, .ref 405), (3, .int x3), (4, .int x4)] [] (q0, q1) m := by
    refine strong (fun m ih => ?_)
    intro x3 x4  hI
    exact lb_areAlike_287 hT hT4 g0 g1  (fun x3 x4  n hz => by
      obtain ⟨m9, z1, z2, z3⟩ := hz
      exact g_bud z1 (ih m9 z2 x3 x4  z3)) x3 x4  m (hs m x3 x4 hI)
  exact g_bud hm (key m0 x3 x4  h0)
def lF_areAlike_284 (v : Int32) (q0 : HS) (q1 : HS) (x3 : Int32) (n : Nat) (R : Int32 → HS × HS → Prop) : Prop :=
0 ≤ n ∧
lF_areAlike_287 v q0 q1  x3 0  n R
theorem lv_areAlike_284 {T : pT} {X : Mem} (hT : okT T 0) (hT4 : okT T 405) {v : Int32} {q0 q1 : HS} (g0 : GdH q0) (g1 : GdH q1) {R : Int32 → HS × HS → Prop}  (x3 : Int32) (n : Nat) (H : lF_areAlike_284 v q0 q1  x3 n R) : WG mL_areAlike (P2 T X) R 284 [(0, .ref 0), (1, .ref 405), (3, .int x3)] [] (q0, q1) n := by
  unfold lF_areAlike_284 at H
  obtain ⟨hn, H⟩ := H
  refine g_iconst (v := 0) dL_areAlike_284 (by decide) ?_
  refine gt_istore (L' := [(4, .int 0), (0, .ref 0), (1, .ref 405), (3, .int x3)]) dL_areAlike_285 (by decide) rfl ?_
  exact g_bud (n' := n) (by omega) (gt_loc [1, 2, 3, 0] rfl (lv_areAlike_287 hT hT4 g0 g1  x3 0   _ H))
def lF_areAlike_277 (v : Int32) (q0 : HS) (q1 : HS) (K5 : Int32 → Int32 → Nat → Prop) (x4 : Int32) (s0 : Int32) (n : Nat) (R : Int32 → HS × HS → Prop) : Prop :=
0 ≤ n ∧
K5 s0 (x4 + 1)  n
theorem lv_areAlike_277 {T : pT} {X : Mem} (hT : okT T 0) (hT4 : okT T 405) {v : Int32} {q0 q1 : HS} (g0 : GdH q0) (g1 : GdH q1) {R : Int32 → HS × HS → Prop} {K5 : Int32 → Int32 → Nat → Prop} (hK5 : ∀ (x3 : Int32) (x4 : Int32) (n : Nat), K5 x3 x4  n → WG mL_areAlike (P2 T X) R 5 [(0, .ref 0), (1, .ref 405), (2, .int v), (3, .int x3), (4, .int x4)] [] (q0, q1) n) (x4 : Int32) (s0 : Int32) (n : Nat) (H : lF_areAlike_277 v q0 q1 K5 x4 s0 n R) : WG mL_areAlike (P2 T X) R 277 [(0, .ref 0), (1, .ref 405), (2, .int v), (4, .int x4)] [.int s0] (q0, q1) n := by
  unfold lF_areAlike_277 at H
  obtain ⟨hn, H⟩ := H
  refine gt_istore_n (L' := [(3, .int s0), (0, .ref 0), (1, .ref 405), (2, .int v), (4, .int x4)]) dL_areAlike_277 (by decide) rfl ?_
  refine gt_iinc (v := (x4 + 1)) (L' := [(4, .int (x4 + 1)), (3, .int s0), (0, .ref 0), (1, .ref 405), (2, .int v)]) dL_areAlike_278 rfl (by rfl) (by decide) rfl ?_
  refine g_goto (tgt := 5) dL_areAlike_281 (by decide) ?_
  exact g_bud (n' := n) (by omega) (gt_loc [2, 3, 4, 1, 0] rfl (hK5 s0 (x4 + 1)   _ H))
def lF_areAlike_276 (v : Int32) (q0 : HS) (q1 : HS) (K5 : Int32 → Int32 → Nat → Prop) (x4 : Int32) (n : Nat) (R : Int32 → HS × HS → Prop) : Prop :=
0 ≤ n ∧
lF_areAlike_277 v q0 q1 K5 x4 0  n R
theorem lv_areAlike_276 {T : pT} {X : Mem} (hT : okT T 0) (hT4 : okT T 405) {v : Int32} {q0 q1 : HS} (g0 : GdH q0) (g1 : GdH q1) {R : Int32 → HS × HS → Prop} {K5 : Int32 → Int32 → Nat → Prop} (hK5 : ∀ (x3 : Int32) (x4 : Int32) (n : Nat), K5 x3 x4  n → WG mL_areAlike (P2 T X) R 5 [(0, .ref 0), (1, .ref 405), (2, .int v), (3, .int x3), (4, .int x4)] [] (q0, q1) n) (x4 : Int32) (n : Nat) (H : lF_areAlike_276 v q0 q1 K5 x4 n R) : WG mL_areAlike (P2 T X) R 276 [(0, .ref 0), (1, .ref 405), (2, .int v), (4, .int x4)] [] (q0, q1) n := by
  unfold lF_areAlike_276 at H
  obtain ⟨hn, H⟩ := H
  refine g_iconst (v := 0) dL_areAlike_276 (by decide) ?_
  exact g_bud (n' := n) (by omega) (gt_loc [0, 1, 2, 3] rfl (lv_areAlike_277 hT hT4 g0 g1 hK5 x4 0   _ H))
def lF_areAlike_166 (v : Int32) (q0 : HS) (q1 : HS) (K5 : Int32 → Int32 → Nat → Prop) (x4 : Int32) (x5 : Int32) (s0 : Int32) (n : Nat) (R : Int32 → HS × HS → Prop) : Prop :=
6 ≤ n ∧
((s0 = 0) →
  lF_areAlike_276 v q0 q1 K5 x4  n R) ∧
((¬ s0 = 0) →
  ((¬ (dW q0 19 (lowF v 20) x5 0 0 0) = (dW q1 19 (lowF v 20) x5 0 0 0)) →
    lF_areAlike_276 v q0 q1 K5 x4  (n - 2) R) ∧
  (((dW q0 19 (lowF v 20) x5 0 0 0) = (dW q1 19 (lowF v 20) x5 0 0 0)) →
    ((¬ (dW q0 18 x5 0 0 0 0) = (dW q1 18 x5 0 0 0 0)) →
      lF_areAlike_276 v q0 q1 K5 x4  (n - 4) R) ∧
    (((dW q0 18 x5 0 0 0 0) = (dW q1 18 x5 0 0 0 0)) →
      ((¬ (dW q0 21 (lowF v 20) x5 0 0 0) = (dW q1 21 (lowF v 20) x5 0 0 0)) →
        lF_areAlike_276 v q0 q1 K5 x4  (n - 6) R) ∧
      (((dW q0 21 (lowF v 20) x5 0 0 0) = (dW q1 21 (lowF v 20) x5 0 0 0)) →
        lF_areAlike_277 v q0 q1 K5 x4 1  (n - 6) R))))
theorem lv_areAlike_166 {T : pT} {X : Mem} (hT : okT T 0) (hT4 : okT T 405) {v : Int32} {q0 q1 : HS} (g0 : GdH q0) (g1 : GdH q1) {R : Int32 → HS × HS → Prop} {K5 : Int32 → Int32 → Nat → Prop} (hK5 : ∀ (x3 : Int32) (x4 : Int32) (n : Nat), K5 x3 x4  n → WG mL_areAlike (P2 T X) R 5 [(0, .ref 0), (1, .ref 405), (2, .int v), (3, .int x3), (4, .int x4)] [] (q0, q1) n) (x4 : Int32) (x5 : Int32) (s0 : Int32) (n : Nat) (H : lF_areAlike_166 v q0 q1 K5 x4 x5 s0 n R) : WG mL_areAlike (P2 T X) R 166 [(0, .ref 0), (1, .ref 405), (2, .int v), (4, .int x4), (5, .int x5)] [.int s0] (q0, q1) n := by
  unfold lF_areAlike_166 at H
  obtain ⟨hn, H⟩ := H
  refine gt_istore_n (L' := [(3, .int s0), (0, .ref 0), (1, .ref 405), (2, .int v), (4, .int x4), (5, .int x5)]) dL_areAlike_166 (by decide) rfl ?_
  refine g_iload_n dL_areAlike_167 rfl ?_
  refine g_if_eq (tgt := 276) dL_areAlike_168 (by decide) (fun c => ?_) (fun c => ?_)
  · have H := H.1 c
    exact g_bud (n' := n) (by omega) (gt_loc [1, 2, 3, 4] rfl (lv_areAlike_276 hT hT4 g0 g1 hK5 x4   _ H))
  · have H := H.2 c
    refine g_aload_n dL_areAlike_171 rfl ?_
    refine g_bipush (v := 19) dL_areAlike_172 (by decide) ?_
    refine g_iload_n dL_areAlike_174 rfl ?_
    refine g_bipush (v := 20) dL_areAlike_175 (by decide) ?_
    refine g_low rfl rfl dL_areAlike_177 (by unfold rmP; decide) (Nat.le_of_ble_eq_true rfl) (by decide) ?_
    refine g_iload dL_areAlike_180 rfl ?_
    refine g_iconst (v := 0) dL_areAlike_182 (by decide) ?_
    refine g_iconst (v := 0) dL_areAlike_183 (by decide) ?_
    refine g_iconst (v := 0) dL_areAlike_184 (by decide) ?_
    refine g_does (As := [.ref 0, .int 19, .int (lowF v 20), .int x5, .int 0, .int 0, .int 0]) (st := []) (q := q0) (q' := q0) (s' := (q0, q1)) (k := opK q0 (lowF v 20) x5 0 0 0 19) (x := opX q0 (lowF v 20) x5 0 0 0 19) (P2_use0 hT) (P2_next0 g1) rfl (fun B h1 h2 h3 h4 => ds_19 h1 h2 h3 h4 g0 (lowF v 20) x5 0 0 0 g0) dL_areAlike_185 (by unfold rmP; decide) rfl (Nat.le_of_ble_eq_true rfl) (by omega) ?_
    refine g_aload_n dL_areAlike_188 rfl ?_
    refine g_bipush (v := 19) dL_areAlike_189 (by decide) ?_
    refine g_iload_n dL_areAlike_191 rfl ?_
    refine g_bipush (v := 20) dL_areAlike_192 (by decide) ?_
    refine g_low rfl rfl dL_areAlike_194 (by unfold rmP; decide) (Nat.le_of_ble_eq_true rfl) (by decide) ?_
    refine g_iload dL_areAlike_197 rfl ?_
    refine g_iconst (v := 0) dL_areAlike_199 (by decide) ?_
    refine g_iconst (v := 0) dL_areAlike_200 (by decide) ?_
    refine g_iconst (v := 0) dL_areAlike_201 (by decide) ?_
    refine g_does (As := [.ref 405, .int 19, .int (lowF v 20), .int x5, .int 0, .int 0, .int 0]) (st := [.int (dW q0 19 (lowF v 20) x5 0 0 0)]) (q := q1) (q' := q1) (s' := (q0, q1)) (k := opK q1 (lowF v 20) x5 0 0 0 19) (x := opX q1 (lowF v 20) x5 0 0 0 19) (P2_use4 hT4) (P2_next4 g0) rfl (fun B h1 h2 h3 h4 => ds_19 h1 h2 h3 h4 g1 (lowF v 20) x5 0 0 0 g1) dL_areAlike_202 (by unfold rmP; decide) rfl (Nat.le_of_ble_eq_true rfl) (by omega) ?_
    refine g_icmp_ne (tgt := 276) dL_areAlike_205 (by decide) (fun c => ?_) (fun c => ?_)
    · have H := H.1 c
      exact g_bud (n' := (n - 2)) (by omega) (gt_loc [1, 2, 3, 4] rfl (lv_areAlike_276 hT hT4 g0 g1 hK5 x4   _ H))
    · have H := H.2 c
      refine g_aload_n dL_areAlike_208 rfl ?_
      refine g_bipush (v := 18) dL_areAlike_209 (by decide) ?_
      refine g_iload dL_areAlike_211 rfl ?_
      refine g_iconst (v := 0) dL_areAlike_213 (by decide) ?_
      refine g_iconst (v := 0) dL_areAlike_214 (by decide) ?_
      refine g_iconst (v := 0) dL_areAlike_215 (by decide) ?_
      refine g_iconst (v := 0) dL_areAlike_216 (by decide) ?_
      refine g_does (As := [.ref 0, .int 18, .int x5, .int 0, .int 0, .int 0, .int 0]) (st := []) (q := q0) (q' := q0) (s' := (q0, q1)) (k := opK q0 x5 0 0 0 0 18) (x := opX q0 x5 0 0 0 0 18) (P2_use0 hT) (P2_next0 g1) rfl (fun B h1 h2 h3 h4 => ds_18 h1 h2 h3 h4 g0 x5 0 0 0 0 g0) dL_areAlike_217 (by unfold rmP; decide) rfl (Nat.le_of_ble_eq_true rfl) (by omega) ?_
      refine g_aload_n dL_areAlike_220 rfl ?_
      refine g_bipush (v := 18) dL_areAlike_221 (by decide) ?_
      refine g_iload dL_areAlike_223 rfl ?_
      refine g_iconst (v := 0) dL_areAlike_225 (by decide) ?_
      refine g_iconst (v := 0) dL_areAlike_226 (by decide) ?_
      refine g_iconst (v := 0) dL_areAlike_227 (by decide) ?_
      refine g_iconst (v := 0) dL_areAlike_228 (by decide) ?_
      refine g_does (As := [.ref 405, .int 18, .int x5, .int 0, .int 0, .int 0, .int 0]) (st := [.int (dW q0 18 x5 0 0 0 0)]) (q := q1) (q' := q1) (s' := (q0, q1)) (k := opK q1 x5 0 0 0 0 18) (x := opX q1 x5 0 0 0 0 18) (P2_use4 hT4) (P2_next4 g0) rfl (fun B h1 h2 h3 h4 => ds_18 h1 h2 h3 h4 g1 x5 0 0 0 0 g1) dL_areAlike_229 (by unfold rmP; decide) rfl (Nat.le_of_ble_eq_true rfl) (by omega) ?_
      refine g_icmp_ne (tgt := 276) dL_areAlike_232 (by decide) (fun c => ?_) (fun c => ?_)
      · have H := H.1 c
        exact g_bud (n' := (n - 4)) (by omega) (gt_loc [1, 2, 3, 4] rfl (lv_areAlike_276 hT hT4 g0 g1 hK5 x4   _ H))
      · have H := H.2 c
        refine g_aload_n dL_areAlike_235 rfl ?_
        refine g_bipush (v := 21) dL_areAlike_236 (by decide) ?_
        refine g_iload_n dL_areAlike_238 rfl ?_
        refine g_bipush (v := 20) dL_areAlike_239 (by decide) ?_
        refine g_low rfl rfl dL_areAlike_241 (by unfold rmP; decide) (Nat.le_of_ble_eq_true rfl) (by decide) ?_
        refine g_iload dL_areAlike_244 rfl ?_
        refine g_iconst (v := 0) dL_areAlike_246 (by decide) ?_
        refine g_iconst (v := 0) dL_areAlike_247 (by decide) ?_
        refine g_iconst (v := 0) dL_areAlike_248 (by decide) ?_
        refine g_does (As := [.ref 0, .int 21, .int (lowF v 20), .int x5, .int 0, .int 0, .int 0]) (st := []) (q := q0) (q' := q0) (s' := (q0, q1)) (k := opK q0 (lowF v 20) x5 0 0 0 21) (x := opX q0 (lowF v 20) x5 0 0 0 21) (P2_use0 hT) (P2_next0 g1) rfl (fun B h1 h2 h3 h4 => ds_21 h1 h2 h3 h4 g0 (lowF v 20) x5 0 0 0 g0) dL_areAlike_249 (by unfold rmP; decide) rfl (Nat.le_of_ble_eq_true rfl) (by omega) ?_
        refine g_aload_n dL_areAlike_252 rfl ?_
        refine g_bipush (v := 21) dL_areAlike_253 (by decide) ?_
        refine g_iload_n dL_areAlike_255 rfl ?_
        refine g_bipush (v := 20) dL_areAlike_256 (by decide) ?_
        refine g_low rfl rfl dL_areAlike_258 (by unfold rmP; decide) (Nat.le_of_ble_eq_true rfl) (by decide) ?_
        refine g_iload dL_areAlike_261 rfl ?_
        refine g_iconst (v := 0) dL_areAlike_263 (by decide) ?_
        refine g_iconst (v := 0) dL_areAlike_264 (by decide) ?_
        refine g_iconst (v := 0) dL_areAlike_265 (by decide) ?_
        refine g_does (As := [.ref 405, .int 21, .int (lowF v 20), .int x5, .int 0, .int 0, .int 0]) (st := [.int (dW q0 21 (lowF v 20) x5 0 0 0)]) (q := q1) (q' := q1) (s' := (q0, q1)) (k := opK q1 (lowF v 20) x5 0 0 0 21) (x := opX q1 (lowF v 20) x5 0 0 0 21) (P2_use4 hT4) (P2_next4 g0) rfl (fun B h1 h2 h3 h4 => ds_21 h1 h2 h3 h4 g1 (lowF v 20) x5 0 0 0 g1) dL_areAlike_266 (by unfold rmP; decide) rfl (Nat.le_of_ble_eq_true rfl) (by omega) ?_
        refine g_icmp_ne (tgt := 276) dL_areAlike_269 (by decide) (fun c => ?_) (fun c => ?_)
        · have H := H.1 c
          exact g_bud (n' := (n - 6)) (by omega) (gt_loc [1, 2, 3, 4] rfl (lv_areAlike_276 hT hT4 g0 g1 hK5 x4   _ H))
        · have H := H.2 c
          refine g_iconst (v := 1) dL_areAlike_272 (by decide) ?_
          refine g_goto (tgt := 277) dL_areAlike_273 (by decide) ?_
          exact g_bud (n' := (n - 6)) (by omega) (gt_loc [1, 2, 3, 4] rfl (lv_areAlike_277 hT hT4 g0 g1 hK5 x4 1   _ H))
def lF_areAlike_165 (v : Int32) (q0 : HS) (q1 : HS) (K5 : Int32 → Int32 → Nat → Prop) (x4 : Int32) (x5 : Int32) (n : Nat) (R : Int32 → HS × HS → Prop) : Prop :=
0 ≤ n ∧
lF_areAlike_166 v q0 q1 K5 x4 x5 0  n R
theorem lv_areAlike_165 {T : pT} {X : Mem} (hT : okT T 0) (hT4 : okT T 405) {v : Int32} {q0 q1 : HS} (g0 : GdH q0) (g1 : GdH q1) {R : Int32 → HS × HS → Prop} {K5 : Int32 → Int32 → Nat → Prop} (hK5 : ∀ (x3 : Int32) (x4 : Int32) (n : Nat), K5 x3 x4  n → WG mL_areAlike (P2 T X) R 5 [(0, .ref 0), (1, .ref 405), (2, .int v), (3, .int x3), (4, .int x4)] [] (q0, q1) n) (x4 : Int32) (x5 : Int32) (n : Nat) (H : lF_areAlike_165 v q0 q1 K5 x4 x5 n R) : WG mL_areAlike (P2 T X) R 165 [(0, .ref 0), (1, .ref 405), (2, .int v), (4, .int x4), (5, .int x5)] [] (q0, q1) n := by
  unfold lF_areAlike_165 at H
  obtain ⟨hn, H⟩ := H
  refine g_iconst (v := 0) dL_areAlike_165 (by decide) ?_
  exact g_bud (n' := n) (by omega) (gt_loc [0, 1, 2, 3, 4] rfl (lv_areAlike_166 hT hT4 g0 g1 hK5 x4 x5 0   _ H))
def lB_areAlike_5 (v : Int32) (q0 : HS) (q1 : HS) (K5 : Int32 → Int32 → Nat → Prop) (x3 : Int32) (x4 : Int32) (n : Nat) (R : Int32 → HS × HS → Prop) : Prop :=
8 ≤ n ∧
((20 ≤ x4) →
  lF_areAlike_284 v q0 q1  x3  n R) ∧
((¬ 20 ≤ x4) →
  ((x3 = 0) →
    lF_areAlike_284 v q0 q1  x3  n R) ∧
  ((¬ x3 = 0) →
    ((¬ (dW q0 13 (x4 / 10) (x4 - x4 / 10 * 10) 0 0 0) = (dW q1 13 (x4 / 10) (x4 - x4 / 10 * 10) 0 0 0)) →
      lF_areAlike_165 v q0 q1 K5 x4 (x4 / 10)  (n - 2) R) ∧
    (((dW q0 13 (x4 / 10) (x4 - x4 / 10 * 10) 0 0 0) = (dW q1 13 (x4 / 10) (x4 - x4 / 10 * 10) 0 0 0)) →
      ((¬ (dW q0 22 (x4 / 10) (x4 - x4 / 10 * 10) 0 0 0) = (dW q1 22 (x4 / 10) (x4 - x4 / 10 * 10) 0 0 0)) →
        lF_areAlike_165 v q0 q1 K5 x4 (x4 / 10)  (n - 4) R) ∧
      (((dW q0 22 (x4 / 10) (x4 - x4 / 10 * 10) 0 0 0) = (dW q1 22 (x4 / 10) (x4 - x4 / 10 * 10) 0 0 0)) →
        ((¬ (dW q0 14 (x4 / 10) (x4 - x4 / 10 * 10) 0 0 0) = (dW q1 14 (x4 / 10) (x4 - x4 / 10 * 10) 0 0 0)) →
          lF_areAlike_165 v q0 q1 K5 x4 (x4 / 10)  (n - 6) R) ∧
        (((dW q0 14 (x4 / 10) (x4 - x4 / 10 * 10) 0 0 0) = (dW q1 14 (x4 / 10) (x4 - x4 / 10 * 10) 0 0 0)) →
          ((¬ (dW q0 17 (x4 - x4 / 8 * 8) 0 0 0 0) = (dW q1 17 (x4 - x4 / 8 * 8) 0 0 0 0)) →
            lF_areAlike_165 v q0 q1 K5 x4 (x4 / 10)  (n - 8) R) ∧
          (((dW q0 17 (x4 - x4 / 8 * 8) 0 0 0 0) = (dW q1 17 (x4 - x4 / 8 * 8) 0 0 0 0)) →
            lF_areAlike_166 v q0 q1 K5 x4 (x4 / 10) 1  (n - 8) R))))))
def lF_areAlike_5 (v : Int32) (q0 : HS) (q1 : HS) (x3 : Int32) (x4 : Int32) (n : Nat) (R : Int32 → HS × HS → Prop) : Prop :=
  ∃ I : Nat → Int32 → Int32 → Prop, (∃ m, m ≤ n ∧ I m x3 x4) ∧ ∀ m (x3 : Int32) (x4 : Int32), I m x3 x4 → lB_areAlike_5 v q0 q1  (fun x3 x4 m' => ∃ m9, m9 ≤ m' ∧ m9 < m ∧ I m9 x3 x4) x3 x4 m R
theorem lb_areAlike_5 {T : pT} {X : Mem} (hT : okT T 0) (hT4 : okT T 405) {v : Int32} {q0 q1 : HS} (g0 : GdH q0) (g1 : GdH q1) {R : Int32 → HS × HS → Prop}  {K5 : Int32 → Int32 → Nat → Prop} (hK5 : ∀ (x3 : Int32) (x4 : Int32) (n : Nat), K5 x3 x4 n → WG mL_areAlike (P2 T X) R 5 [(0, .ref 0), (1, .ref 405), (2, .int v), (3, .int x3), (4, .int x4)] [] (q0, q1) n) (x3 : Int32) (x4 : Int32) (n : Nat) (H : lB_areAlike_5 v q0 q1  K5 x3 x4 n R) : WG mL_areAlike (P2 T X) R 5 [(0, .ref 0), (1, .ref 405), (2, .int v), (3, .int x3), (4, .int x4)] [] (q0, q1) n := by
  unfold lB_areAlike_5 at H
  obtain ⟨hn, H⟩ := H
  refine g_iload dL_areAlike_5 rfl ?_
  refine g_bipush (v := 20) dL_areAlike_7 (by decide) ?_
  refine g_icmp_ge (tgt := 284) dL_areAlike_9 (by decide) (fun c => ?_) (fun c => ?_)
  · have H := H.1 c
    exact g_bud (n' := n) (by omega) (gt_loc [0, 1, 3] rfl (lv_areAlike_284 hT hT4 g0 g1  x3   _ H))
  · have H := H.2 c
    refine g_iload_n dL_areAlike_12 rfl ?_
    refine g_if_eq (tgt := 284) dL_areAlike_13 (by decide) (fun c => ?_) (fun c => ?_)
    · have H := H.1 c
      exact g_bud (n' := n) (by omega) (gt_loc [0, 1, 3] rfl (lv_areAlike_284 hT hT4 g0 g1  x3   _ H))
    · have H := H.2 c
      refine g_iload dL_areAlike_16 rfl ?_
      refine g_bipush (v := 10) dL_areAlike_18 (by decide) ?_
      refine g_idiv dL_areAlike_20 (by decide) ?_
      refine gt_istore (L' := [(5, .int (x4 / 10)), (0, .ref 0), (1, .ref 405), (2, .int v), (3, .int x3), (4, .int x4)]) dL_areAlike_21 (by decide) rfl ?_
      refine g_aload_n dL_areAlike_23 rfl ?_
      refine g_bipush (v := 13) dL_areAlike_24 (by decide) ?_
      refine g_iload dL_areAlike_26 rfl ?_
      refine g_iload dL_areAlike_28 rfl ?_
      refine g_bipush (v := 10) dL_areAlike_30 (by decide) ?_
      refine g_irem dL_areAlike_32 (by decide) ?_
      refine g_iconst (v := 0) dL_areAlike_33 (by decide) ?_
      refine g_iconst (v := 0) dL_areAlike_34 (by decide) ?_
      refine g_iconst (v := 0) dL_areAlike_35 (by decide) ?_
      refine g_does (As := [.ref 0, .int 13, .int (x4 / 10), .int (x4 - x4 / 10 * 10), .int 0, .int 0, .int 0]) (st := []) (q := q0) (q' := q0) (s' := (q0, q1)) (k := opK q0 (x4 / 10) (x4 - x4 / 10 * 10) 0 0 0 13) (x := opX q0 (x4 / 10) (x4 - x4 / 10 * 10) 0 0 0 13) (P2_use0 hT) (P2_next0 g1) rfl (fun B h1 h2 h3 h4 => ds_13 h1 h2 h3 h4 g0 (x4 / 10) (x4 - x4 / 10 * 10) 0 0 0 g0) dL_areAlike_36 (by unfold rmP; decide) rfl (Nat.le_of_ble_eq_true rfl) (by omega) ?_
      refine g_aload_n dL_areAlike_39 rfl ?_
      refine g_bipush (v := 13) dL_areAlike_40 (by decide) ?_
      refine g_iload dL_areAlike_42 rfl ?_
      refine g_iload dL_areAlike_44 rfl ?_
      refine g_bipush (v := 10) dL_areAlike_46 (by decide) ?_
      refine g_irem dL_areAlike_48 (by decide) ?_
      refine g_iconst (v := 0) dL_areAlike_49 (by decide) ?_
      refine g_iconst (v := 0) dL_areAlike_50 (by decide) ?_
      refine g_iconst (v := 0) dL_areAlike_51 (by decide) ?_
      refine g_does (As := [.ref 405, .int 13, .int (x4 / 10), .int (x4 - x4 / 10 * 10), .int 0, .int 0, .int 0]) (st := [.int (dW q0 13 (x4 / 10) (x4 - x4 / 10 * 10) 0 0 0)]) (q := q1) (q' := q1) (s' := (q0, q1)) (k := opK q1 (x4 / 10) (x4 - x4 / 10 * 10) 0 0 0 13) (x := opX q1 (x4 / 10) (x4 - x4 / 10 * 10) 0 0 0 13) (P2_use4 hT4) (P2_next4 g0) rfl (fun B h1 h2 h3 h4 => ds_13 h1 h2 h3 h4 g1 (x4 / 10) (x4 - x4 / 10 * 10) 0 0 0 g1) dL_areAlike_52 (by unfold rmP; decide) rfl (Nat.le_of_ble_eq_true rfl) (by omega) ?_
      refine g_icmp_ne (tgt := 165) dL_areAlike_55 (by decide) (fun c => ?_) (fun c => ?_)
      · have H := H.1 c
        exact g_bud (n' := (n - 2)) (by omega) (gt_loc [1, 2, 3, 5, 0] rfl (lv_areAlike_165 hT hT4 g0 g1 hK5 x4 (x4 / 10)   _ H))
      · have H := H.2 c
        refine g_aload_n dL_areAlike_58 rfl ?_
        refine g_bipush (v := 22) dL_areAlike_59 (by decide) ?_
        refine g_iload dL_areAlike_61 rfl ?_
        refine g_iload dL_areAlike_63 rfl ?_
        refine g_bipush (v := 10) dL_areAlike_65 (by decide) ?_
        refine g_irem dL_areAlike_67 (by decide) ?_
        refine g_iconst (v := 0) dL_areAlike_68 (by decide) ?_
        refine g_iconst (v := 0) dL_areAlike_69 (by decide) ?_
        refine g_iconst (v := 0) dL_areAlike_70 (by decide) ?_
        refine g_does (As := [.ref 0, .int 22, .int (x4 / 10), .int (x4 - x4 / 10 * 10), .int 0, .int 0, .int 0]) (st := []) (q := q0) (q' := q0) (s' := (q0, q1)) (k := opK q0 (x4 / 10) (x4 - x4 / 10 * 10) 0 0 0 22) (x := opX q0 (x4 / 10) (x4 - x4 / 10 * 10) 0 0 0 22) (P2_use0 hT) (P2_next0 g1) rfl (fun B h1 h2 h3 h4 => ds_22 h1 h2 h3 h4 g0 (x4 / 10) (x4 - x4 / 10 * 10) 0 0 0 g0) dL_areAlike_71 (by unfold rmP; decide) rfl (Nat.le_of_ble_eq_true rfl) (by omega) ?_
        refine g_aload_n dL_areAlike_74 rfl ?_
        refine g_bipush (v := 22) dL_areAlike_75 (by decide) ?_
        refine g_iload dL_areAlike_77 rfl ?_
        refine g_iload dL_areAlike_79 rfl ?_
        refine g_bipush (v := 10) dL_areAlike_81 (by decide) ?_
        refine g_irem dL_areAlike_83 (by decide) ?_
        refine g_iconst (v := 0) dL_areAlike_84 (by decide) ?_
        refine g_iconst (v := 0) dL_areAlike_85 (by decide) ?_
        refine g_iconst (v := 0) dL_areAlike_86 (by decide) ?_
        refine g_does (As := [.ref 405, .int 22, .int (x4 / 10), .int (x4 - x4 / 10 * 10), .int 0, .int 0, .int 0]) (st := [.int (dW q0 22 (x4 / 10) (x4 - x4 / 10 * 10) 0 0 0)]) (q := q1) (q' := q1) (s' := (q0, q1)) (k := opK q1 (x4 / 10) (x4 - x4 / 10 * 10) 0 0 0 22) (x := opX q1 (x4 / 10) (x4 - x4 / 10 * 10) 0 0 0 22) (P2_use4 hT4) (P2_next4 g0) rfl (fun B h1 h2 h3 h4 => ds_22 h1 h2 h3 h4 g1 (x4 / 10) (x4 - x4 / 10 * 10) 0 0 0 g1) dL_areAlike_87 (by unfold rmP; decide) rfl (Nat.le_of_ble_eq_true rfl) (by omega) ?_
        refine g_icmp_ne (tgt := 165) dL_areAlike_90 (by decide) (fun c => ?_) (fun c => ?_)
        · have H := H.1 c
          exact g_bud (n' := (n - 4)) (by omega) (gt_loc [1, 2, 3, 5, 0] rfl (lv_areAlike_165 hT hT4 g0 g1 hK5 x4 (x4 / 10)   _ H))
        · have H := H.2 c
          refine g_aload_n dL_areAlike_93 rfl ?_
          refine g_bipush (v := 14) dL_areAlike_94 (by decide) ?_
          refine g_iload dL_areAlike_96 rfl ?_
          refine g_iload dL_areAlike_98 rfl ?_
          refine g_bipush (v := 10) dL_areAlike_100 (by decide) ?_
          refine g_irem dL_areAlike_102 (by decide) ?_
          refine g_iconst (v := 0) dL_areAlike_103 (by decide) ?_
          refine g_iconst (v := 0) dL_areAlike_104 (by decide) ?_
          refine g_iconst (v := 0) dL_areAlike_105 (by decide) ?_
          refine g_does (As := [.ref 0, .int 14, .int (x4 / 10), .int (x4 - x4 / 10 * 10), .int 0, .int 0, .int 0]) (st := []) (q := q0) (q' := q0) (s' := (q0, q1)) (k := opK q0 (x4 / 10) (x4 - x4 / 10 * 10) 0 0 0 14) (x := opX q0 (x4 / 10) (x4 - x4 / 10 * 10) 0 0 0 14) (P2_use0 hT) (P2_next0 g1) rfl (fun B h1 h2 h3 h4 => ds_14 h1 h2 h3 h4 g0 (x4 / 10) (x4 - x4 / 10 * 10) 0 0 0 g0) dL_areAlike_106 (by unfold rmP; decide) rfl (Nat.le_of_ble_eq_true rfl) (by omega) ?_
          refine g_aload_n dL_areAlike_109 rfl ?_
          refine g_bipush (v := 14) dL_areAlike_110 (by decide) ?_
          refine g_iload dL_areAlike_112 rfl ?_
          refine g_iload dL_areAlike_114 rfl ?_
          refine g_bipush (v := 10) dL_areAlike_116 (by decide) ?_
          refine g_irem dL_areAlike_118 (by decide) ?_
          refine g_iconst (v := 0) dL_areAlike_119 (by decide) ?_
          refine g_iconst (v := 0) dL_areAlike_120 (by decide) ?_
          refine g_iconst (v := 0) dL_areAlike_121 (by decide) ?_
          refine g_does (As := [.ref 405, .int 14, .int (x4 / 10), .int (x4 - x4 / 10 * 10), .int 0, .int 0, .int 0]) (st := [.int (dW q0 14 (x4 / 10) (x4 - x4 / 10 * 10) 0 0 0)]) (q := q1) (q' := q1) (s' := (q0, q1)) (k := opK q1 (x4 / 10) (x4 - x4 / 10 * 10) 0 0 0 14) (x := opX q1 (x4 / 10) (x4 - x4 / 10 * 10) 0 0 0 14) (P2_use4 hT4) (P2_next4 g0) rfl (fun B h1 h2 h3 h4 => ds_14 h1 h2 h3 h4 g1 (x4 / 10) (x4 - x4 / 10 * 10) 0 0 0 g1) dL_areAlike_122 (by unfold rmP; decide) rfl (Nat.le_of_ble_eq_true rfl) (by omega) ?_
          refine g_icmp_ne (tgt := 165) dL_areAlike_125 (by decide) (fun c => ?_) (fun c => ?_)
          · have H := H.1 c
            exact g_bud (n' := (n - 6)) (by omega) (gt_loc [1, 2, 3, 5, 0] rfl (lv_areAlike_165 hT hT4 g0 g1 hK5 x4 (x4 / 10)   _ H))
          · have H := H.2 c
            refine g_aload_n dL_areAlike_128 rfl ?_
            refine g_bipush (v := 17) dL_areAlike_129 (by decide) ?_
            refine g_iload dL_areAlike_131 rfl ?_
            refine g_bipush (v := 8) dL_areAlike_133 (by decide) ?_
            refine g_irem dL_areAlike_135 (by decide) ?_
            refine g_iconst (v := 0) dL_areAlike_136 (by decide) ?_
            refine g_iconst (v := 0) dL_areAlike_137 (by decide) ?_
            refine g_iconst (v := 0) dL_areAlike_138 (by decide) ?_
            refine g_iconst (v := 0) dL_areAlike_139 (by decide) ?_
            refine g_does (As := [.ref 0, .int 17, .int (x4 - x4 / 8 * 8), .int 0, .int 0, .int 0, .int 0]) (st := []) (q := q0) (q' := q0) (s' := (q0, q1)) (k := opK q0 (x4 - x4 / 8 * 8) 0 0 0 0 17) (x := opX q0 (x4 - x4 / 8 * 8) 0 0 0 0 17) (P2_use0 hT) (P2_next0 g1) rfl (fun B h1 h2 h3 h4 => ds_17 h1 h2 h3 h4 g0 (x4 - x4 / 8 * 8) 0 0 0 0 g0) dL_areAlike_140 (by unfold rmP; decide) rfl (Nat.le_of_ble_eq_true rfl) (by omega) ?_
            refine g_aload_n dL_areAlike_143 rfl ?_
            refine g_bipush (v := 17) dL_areAlike_144 (by decide) ?_
            refine g_iload dL_areAlike_146 rfl ?_
            refine g_bipush (v := 8) dL_areAlike_148 (by decide) ?_
            refine g_irem dL_areAlike_150 (by decide) ?_
            refine g_iconst (v := 0) dL_areAlike_151 (by decide) ?_
            refine g_iconst (v := 0) dL_areAlike_152 (by decide) ?_
            refine g_iconst (v := 0) dL_areAlike_153 (by decide) ?_
            refine g_iconst (v := 0) dL_areAlike_154 (by decide) ?_
            refine g_does (As := [.ref 405, .int 17, .int (x4 - x4 / 8 * 8), .int 0, .int 0, .int 0, .int 0]) (st := [.int (dW q0 17 (x4 - x4 / 8 * 8) 0 0 0 0)]) (q := q1) (q' := q1) (s' := (q0, q1)) (k := opK q1 (x4 - x4 / 8 * 8) 0 0 0 0 17) (x := opX q1 (x4 - x4 / 8 * 8) 0 0 0 0 17) (P2_use4 hT4) (P2_next4 g0) rfl (fun B h1 h2 h3 h4 => ds_17 h1 h2 h3 h4 g1 (x4 - x4 / 8 * 8) 0 0 0 0 g1) dL_areAlike_155 (by unfold rmP; decide) rfl (Nat.le_of_ble_eq_true rfl) (by omega) ?_
            refine g_icmp_ne (tgt := 165) dL_areAlike_158 (by decide) (fun c => ?_) (fun c => ?_)
            · have H := H.1 c
              exact g_bud (n' := (n - 8)) (by omega) (gt_loc [1, 2, 3, 5, 0] rfl (lv_areAlike_165 hT hT4 g0 g1 hK5 x4 (x4 / 10)   _ H))
            · have H := H.2 c
              refine g_iconst (v := 1) dL_areAlike_161 (by decide) ?_
              refine g_goto (tgt := 166) dL_areAlike_162 (by decide) ?_
              exact g_bud (n' := (n - 8)) (by omega) (gt_loc [1, 2, 3, 5, 0] rfl (lv_areAlike_166 hT hT4 g0 g1 hK5 x4 (x4 / 10) 1   _ H))
theorem lv_areAlike_5 {T : pT} {X : Mem} (hT : okT T 0) (hT4 : okT T 405) {v : Int32} {q0 q1 : HS} (g0 : GdH q0) (g1 : GdH q1) {R : Int32 → HS × HS → Prop}  (x3 : Int32) (x4 : Int32) (n : Nat) (H : lF_areAlike_5 v q0 q1  x3 x4 n R) : WG mL_areAlike (P2 T X) R 5 [(0, .ref 0), (1, .ref 405), (2, .int v), (3, .int x3), (4, .int x4)] [] (q0, q1) n := by
  obtain ⟨I, ⟨m0, hm, h0⟩, hs⟩ := H
  have key : ∀ m, ∀ (x3 : Int32) (x4 : Int32), I m x3 x4 → WG mL_areAlike (P2 T X) R 5 [(0, .ref 0), (1, .ref 405), (2, .int v), (3, .int x3), (4, .int x4)] [] (q0, q1) m := by
    refine strong (fun m ih => ?_)
    intro x3 x4  hI
    exact lb_areAlike_5 hT hT4 g0 g1  (fun x3 x4  n hz => by
      obtain ⟨m9, z1, z2, z3⟩ := hz
      exact g_bud z1 (ih m9 z2 x3 x4  z3)) x3 x4  m (hs m x3 x4 hI)
  exact g_bud hm (key m0 x3 x4  h0)
def lF_areAlike (v : Int32) (q0 : HS) (q1 : HS)  (n : Nat) (R : Int32 → HS × HS → Prop) : Prop :=
0 ≤ n ∧
lF_areAlike_5 v q0 q1  1 0  n R
theorem lv_areAlike {T : pT} {X : Mem} (hT : okT T 0) (hT4 : okT T 405) {v : Int32} {q0 q1 : HS} (g0 : GdH q0) (g1 : GdH q1) {R : Int32 → HS × HS → Prop}   (n : Nat) (H : lF_areAlike v q0 q1  n R) : WG mL_areAlike (P2 T X) R 0 [(0, .ref 0), (1, .ref 405), (2, .int v)] [] (q0, q1) n := by
  unfold lF_areAlike at H
  obtain ⟨hn, H⟩ := H
  refine g_iconst (v := 1) dL_areAlike_0 (by decide) ?_
  refine gt_istore_n (L' := [(3, .int 1), (0, .ref 0), (1, .ref 405), (2, .int v)]) dL_areAlike_1 (by decide) rfl ?_
  refine g_iconst (v := 0) dL_areAlike_2 (by decide) ?_
  refine gt_istore (L' := [(4, .int 0), (3, .int 1), (0, .ref 0), (1, .ref 405), (2, .int v)]) dL_areAlike_3 (by decide) rfl ?_
  exact g_bud (n' := n) (by omega) (gt_loc [2, 3, 4, 1, 0] rfl (lv_areAlike_5 hT hT4 g0 g1  1 0   _ H))
