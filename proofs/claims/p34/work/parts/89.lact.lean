def lF_act (v : Int32) (q : HS)  (n : Nat) (R : Int32 → HS → Prop) : Prop :=
1 ≤ n ∧
((¬ ((v >>> ((18 : Int32) &&& 31)) &&& (7 : Int32)) = 7) →
  ((8 ≤ (lowF v 40)) →
    ((24 ≤ (lowF v 40)) →
      ((28 ≤ (lowF v 40)) →
        ((32 ≤ (lowF v 40)) →
          ((35 ≤ (lowF v 40)) →
            ((¬ (lowF v 40) = 35) →
              ((¬ (lowF v 40) = 36) →
                ((¬ (lowF v 40) = 37) →
                  ((¬ (lowF v 40) = 38) →
                    R (dW q 28 ((v >>> ((6 : Int32) &&& 31)) &&& (1 : Int32)) 0 0 0 0) (opN q ((v >>> ((6 : Int32) &&& 31)) &&& (1 : Int32)) 0 0 0 0 28)) ∧
                  (((lowF v 40) = 38) →
                    R (dW q 27 0 0 0 0 0) (opN q 0 0 0 0 0 27))) ∧
                (((lowF v 40) = 37) →
                  R (dW q 26 (lowF (v >>> ((6 : Int32) &&& 31)) 8) ((10 : Int32) * (lowF ((v >>> ((6 : Int32) &&& 31)) >>> ((3 : Int32) &&& 31)) 12)) 0 0 0) (opN q (lowF (v >>> ((6 : Int32) &&& 31)) 8) ((10 : Int32) * (lowF ((v >>> ((6 : Int32) &&& 31)) >>> ((3 : Int32) &&& 31)) 12)) 0 0 0 26))) ∧
              (((lowF v 40) = 36) →
                R (dW q 25 (lowF (v >>> ((6 : Int32) &&& 31)) 24) 0 0 0 0) (opN q (lowF (v >>> ((6 : Int32) &&& 31)) 24) 0 0 0 0 25))) ∧
            (((lowF v 40) = 35) →
              R (dW q 24 (lowF (v >>> ((6 : Int32) &&& 31)) 8) (lowF ((v >>> ((6 : Int32) &&& 31)) >>> ((3 : Int32) &&& 31)) 24) 0 0 0) (opN q (lowF (v >>> ((6 : Int32) &&& 31)) 8) (lowF ((v >>> ((6 : Int32) &&& 31)) >>> ((3 : Int32) &&& 31)) 24) 0 0 0 24))) ∧
          ((¬ 35 ≤ (lowF v 40)) →
            ((¬ (lowF v 40) = 32) →
              ((¬ (lowF v 40) = 33) →
                R (dW q 1 (lowF (v >>> ((6 : Int32) &&& 31)) 10) 0 0 0 0) (opN q (lowF (v >>> ((6 : Int32) &&& 31)) 10) 0 0 0 0 1)) ∧
              (((lowF v 40) = 33) →
                R (dW q 8 0 0 0 0 0) (opN q 0 0 0 0 0 8))) ∧
            (((lowF v 40) = 32) →
              R (dW q 7 (lowF (v >>> ((6 : Int32) &&& 31)) 60) 0 0 0 0) (opN q (lowF (v >>> ((6 : Int32) &&& 31)) 60) 0 0 0 0 7)))) ∧
        ((¬ 32 ≤ (lowF v 40)) →
          ((¬ (lowF (v >>> ((6 : Int32) &&& 31)) 6) = 0) →
            ((30 ≤ (lowF v 40)) →
              R (dW q 5 (((v >>> ((6 : Int32) &&& 31)) >>> ((2 : Int32) &&& 31)) &&& (1 : Int32)) (lowF ((v >>> ((6 : Int32) &&& 31)) >>> ((3 : Int32) &&& 31)) 30) (lowF ((v >>> ((6 : Int32) &&& 31)) >>> ((6 : Int32) &&& 31)) 3) (lowF (v >>> ((6 : Int32) &&& 31)) 6) (-1)) (opN q (((v >>> ((6 : Int32) &&& 31)) >>> ((2 : Int32) &&& 31)) &&& (1 : Int32)) (lowF ((v >>> ((6 : Int32) &&& 31)) >>> ((3 : Int32) &&& 31)) 30) (lowF ((v >>> ((6 : Int32) &&& 31)) >>> ((6 : Int32) &&& 31)) 3) (lowF (v >>> ((6 : Int32) &&& 31)) 6) (-1) 5)) ∧
            ((¬ 30 ≤ (lowF v 40)) →
              R (dW q 6 (lowF ((v >>> ((6 : Int32) &&& 31)) >>> ((3 : Int32) &&& 31)) 30) (lowF ((v >>> ((6 : Int32) &&& 31)) >>> ((6 : Int32) &&& 31)) 3) (lowF (v >>> ((6 : Int32) &&& 31)) 6) (-1) 0) q)) ∧
          (((lowF (v >>> ((6 : Int32) &&& 31)) 6) = 0) →
            ((30 ≤ (lowF v 40)) →
              R (dW q 5 (((v >>> ((6 : Int32) &&& 31)) >>> ((2 : Int32) &&& 31)) &&& (1 : Int32)) (lowF ((v >>> ((6 : Int32) &&& 31)) >>> ((3 : Int32) &&& 31)) 30) (lowF ((v >>> ((6 : Int32) &&& 31)) >>> ((6 : Int32) &&& 31)) 3) (lowF (v >>> ((6 : Int32) &&& 31)) 6) (lowF ((v >>> ((6 : Int32) &&& 31)) >>> ((8 : Int32) &&& 31)) 8)) (opN q (((v >>> ((6 : Int32) &&& 31)) >>> ((2 : Int32) &&& 31)) &&& (1 : Int32)) (lowF ((v >>> ((6 : Int32) &&& 31)) >>> ((3 : Int32) &&& 31)) 30) (lowF ((v >>> ((6 : Int32) &&& 31)) >>> ((6 : Int32) &&& 31)) 3) (lowF (v >>> ((6 : Int32) &&& 31)) 6) (lowF ((v >>> ((6 : Int32) &&& 31)) >>> ((8 : Int32) &&& 31)) 8) 5)) ∧
            ((¬ 30 ≤ (lowF v 40)) →
              R (dW q 6 (lowF ((v >>> ((6 : Int32) &&& 31)) >>> ((3 : Int32) &&& 31)) 30) (lowF ((v >>> ((6 : Int32) &&& 31)) >>> ((6 : Int32) &&& 31)) 3) (lowF (v >>> ((6 : Int32) &&& 31)) 6) (lowF ((v >>> ((6 : Int32) &&& 31)) >>> ((8 : Int32) &&& 31)) 8) 0) q)))) ∧
      ((¬ 28 ≤ (lowF v 40)) →
        ((26 ≤ (lowF v 40)) →
          R (dW q 4 ((v >>> ((6 : Int32) &&& 31)) &&& (1 : Int32)) (lowF ((v >>> ((6 : Int32) &&& 31)) >>> ((1 : Int32) &&& 31)) 7) ((7 : Int32) + (lowF ((v >>> ((6 : Int32) &&& 31)) >>> ((4 : Int32) &&& 31)) 3)) 0 0) (opN q ((v >>> ((6 : Int32) &&& 31)) &&& (1 : Int32)) (lowF ((v >>> ((6 : Int32) &&& 31)) >>> ((1 : Int32) &&& 31)) 7) ((7 : Int32) + (lowF ((v >>> ((6 : Int32) &&& 31)) >>> ((4 : Int32) &&& 31)) 3)) 0 0 4)) ∧
        ((¬ 26 ≤ (lowF v 40)) →
          R (dW q 3 ((v >>> ((6 : Int32) &&& 31)) &&& (1 : Int32)) (lowF ((v >>> ((6 : Int32) &&& 31)) >>> ((1 : Int32) &&& 31)) 10) (lowF ((v >>> ((6 : Int32) &&& 31)) >>> ((5 : Int32) &&& 31)) 3) 0 0) (opN q ((v >>> ((6 : Int32) &&& 31)) &&& (1 : Int32)) (lowF ((v >>> ((6 : Int32) &&& 31)) >>> ((1 : Int32) &&& 31)) 10) (lowF ((v >>> ((6 : Int32) &&& 31)) >>> ((5 : Int32) &&& 31)) 3) 0 0 3)))) ∧
    ((¬ 24 ≤ (lowF v 40)) →
      ((14 ≤ (lowF v 40)) →
        ((¬ (lowF v 40) = 14) →
          ((¬ (lowF v 40) = 15) →
            ((21 ≤ (lowF v 40)) →
              ((¬ (lowF v 40) = 21) →
                ((¬ (lowF v 40) = 22) →
                  R (dW q 2 6 (-1) 300 0 0) (opN q 6 (-1) 300 0 0 2)) ∧
                (((lowF v 40) = 22) →
                  R (dW q 2 5 (-1) ((61 : Int32) + (lowF ((v >>> ((6 : Int32) &&& 31)) >>> ((4 : Int32) &&& 31)) 100)) 0 0) (opN q 5 (-1) ((61 : Int32) + (lowF ((v >>> ((6 : Int32) &&& 31)) >>> ((4 : Int32) &&& 31)) 100)) 0 0 2))) ∧
              (((lowF v 40) = 21) →
                R (dW q 2 4 (-1) ((61 : Int32) + (lowF ((v >>> ((6 : Int32) &&& 31)) >>> ((4 : Int32) &&& 31)) 100)) 0 0) (opN q 4 (-1) ((61 : Int32) + (lowF ((v >>> ((6 : Int32) &&& 31)) >>> ((4 : Int32) &&& 31)) 100)) 0 0 2))) ∧
            ((¬ 21 ≤ (lowF v 40)) →
              R (dW q 2 3 (-1) ((61 : Int32) + (lowF ((v >>> ((6 : Int32) &&& 31)) >>> ((4 : Int32) &&& 31)) 100)) 0 0) (opN q 3 (-1) ((61 : Int32) + (lowF ((v >>> ((6 : Int32) &&& 31)) >>> ((4 : Int32) &&& 31)) 100)) 0 0 2))) ∧
          (((lowF v 40) = 15) →
            R (dW q 2 2 (-1) ((1 : Int32) + (lowF ((v >>> ((6 : Int32) &&& 31)) >>> ((4 : Int32) &&& 31)) 60)) 0 0) (opN q 2 (-1) ((1 : Int32) + (lowF ((v >>> ((6 : Int32) &&& 31)) >>> ((4 : Int32) &&& 31)) 60)) 0 0 2))) ∧
        (((lowF v 40) = 14) →
          R (dW q 2 1 (-1) ((1 : Int32) + (lowF ((v >>> ((6 : Int32) &&& 31)) >>> ((4 : Int32) &&& 31)) 60)) 0 0) (opN q 1 (-1) ((1 : Int32) + (lowF ((v >>> ((6 : Int32) &&& 31)) >>> ((4 : Int32) &&& 31)) 60)) 0 0 2))) ∧
      ((¬ 14 ≤ (lowF v 40)) →
        R (dW q 2 0 (lowF (v >>> ((6 : Int32) &&& 31)) 7) ((1 : Int32) + (lowF ((v >>> ((6 : Int32) &&& 31)) >>> ((4 : Int32) &&& 31)) 60)) 0 0) (opN q 0 (lowF (v >>> ((6 : Int32) &&& 31)) 7) ((1 : Int32) + (lowF ((v >>> ((6 : Int32) &&& 31)) >>> ((4 : Int32) &&& 31)) 60)) 0 0 2)))) ∧
  ((¬ 8 ≤ (lowF v 40)) →
    ((7 ≤ (lowF v 40)) →
      R (dW q 0 (lowF (v >>> ((6 : Int32) &&& 31)) 8) (lowF ((v >>> ((6 : Int32) &&& 31)) >>> ((3 : Int32) &&& 31)) 8) (((300 : Int32) + (lowF ((v >>> ((6 : Int32) &&& 31)) >>> ((6 : Int32) &&& 31)) 2000)) - (0 : Int32)) 0 0) (opN q (lowF (v >>> ((6 : Int32) &&& 31)) 8) (lowF ((v >>> ((6 : Int32) &&& 31)) >>> ((3 : Int32) &&& 31)) 8) (((300 : Int32) + (lowF ((v >>> ((6 : Int32) &&& 31)) >>> ((6 : Int32) &&& 31)) 2000)) - (0 : Int32)) 0 0 0)) ∧
    ((¬ 7 ≤ (lowF v 40)) →
      R (dW q 1 (lowF (v >>> ((6 : Int32) &&& 31)) 7) 0 0 0 0) (opN q (lowF (v >>> ((6 : Int32) &&& 31)) 7) 0 0 0 0 1)))) ∧
((((v >>> ((18 : Int32) &&& 31)) &&& (7 : Int32)) = 7) →
  ((8 ≤ (lowF v 40)) →
    ((24 ≤ (lowF v 40)) →
      ((28 ≤ (lowF v 40)) →
        ((32 ≤ (lowF v 40)) →
          ((35 ≤ (lowF v 40)) →
            ((¬ (lowF v 40) = 35) →
              ((¬ (lowF v 40) = 36) →
                ((¬ (lowF v 40) = 37) →
                  ((¬ (lowF v 40) = 38) →
                    R (dW q 28 ((v >>> ((6 : Int32) &&& 31)) &&& (1 : Int32)) 0 0 0 0) (opN q ((v >>> ((6 : Int32) &&& 31)) &&& (1 : Int32)) 0 0 0 0 28)) ∧
                  (((lowF v 40) = 38) →
                    R (dW q 27 0 0 0 0 0) (opN q 0 0 0 0 0 27))) ∧
                (((lowF v 40) = 37) →
                  R (dW q 26 (lowF (v >>> ((6 : Int32) &&& 31)) 8) (lowF ((v >>> ((6 : Int32) &&& 31)) >>> ((3 : Int32) &&& 31)) 1200) 0 0 0) (opN q (lowF (v >>> ((6 : Int32) &&& 31)) 8) (lowF ((v >>> ((6 : Int32) &&& 31)) >>> ((3 : Int32) &&& 31)) 1200) 0 0 0 26))) ∧
              (((lowF v 40) = 36) →
                R (dW q 25 (lowF (v >>> ((6 : Int32) &&& 31)) 30) 0 0 0 0) (opN q (lowF (v >>> ((6 : Int32) &&& 31)) 30) 0 0 0 0 25))) ∧
            (((lowF v 40) = 35) →
              R (dW q 24 (lowF (v >>> ((6 : Int32) &&& 31)) 10) (lowF ((v >>> ((6 : Int32) &&& 31)) >>> ((3 : Int32) &&& 31)) 24) 0 0 0) (opN q (lowF (v >>> ((6 : Int32) &&& 31)) 10) (lowF ((v >>> ((6 : Int32) &&& 31)) >>> ((3 : Int32) &&& 31)) 24) 0 0 0 24))) ∧
          ((¬ 35 ≤ (lowF v 40)) →
            ((¬ (lowF v 40) = 32) →
              ((¬ (lowF v 40) = 33) →
                R (dW q 1 (lowF (v >>> ((6 : Int32) &&& 31)) 10) 0 0 0 0) (opN q (lowF (v >>> ((6 : Int32) &&& 31)) 10) 0 0 0 0 1)) ∧
              (((lowF v 40) = 33) →
                R (dW q 8 0 0 0 0 0) (opN q 0 0 0 0 0 8))) ∧
            (((lowF v 40) = 32) →
              R (dW q 7 (lowF (v >>> ((6 : Int32) &&& 31)) 60) 0 0 0 0) (opN q (lowF (v >>> ((6 : Int32) &&& 31)) 60) 0 0 0 0 7)))) ∧
        ((¬ 32 ≤ (lowF v 40)) →
          ((¬ (lowF (v >>> ((6 : Int32) &&& 31)) 8) = 0) →
            ((30 ≤ (lowF v 40)) →
              R (dW q 5 (((v >>> ((6 : Int32) &&& 31)) >>> ((2 : Int32) &&& 31)) &&& (1 : Int32)) (lowF ((v >>> ((6 : Int32) &&& 31)) >>> ((3 : Int32) &&& 31)) 30) (lowF ((v >>> ((6 : Int32) &&& 31)) >>> ((6 : Int32) &&& 31)) 3) (lowF (v >>> ((6 : Int32) &&& 31)) 8) 0) (opN q (((v >>> ((6 : Int32) &&& 31)) >>> ((2 : Int32) &&& 31)) &&& (1 : Int32)) (lowF ((v >>> ((6 : Int32) &&& 31)) >>> ((3 : Int32) &&& 31)) 30) (lowF ((v >>> ((6 : Int32) &&& 31)) >>> ((6 : Int32) &&& 31)) 3) (lowF (v >>> ((6 : Int32) &&& 31)) 8) 0 5)) ∧
            ((¬ 30 ≤ (lowF v 40)) →
              R (dW q 6 (lowF ((v >>> ((6 : Int32) &&& 31)) >>> ((3 : Int32) &&& 31)) 30) (lowF ((v >>> ((6 : Int32) &&& 31)) >>> ((6 : Int32) &&& 31)) 3) (lowF (v >>> ((6 : Int32) &&& 31)) 8) 0 0) q)) ∧
          (((lowF (v >>> ((6 : Int32) &&& 31)) 8) = 0) →
            ((30 ≤ (lowF v 40)) →
              R (dW q 5 (((v >>> ((6 : Int32) &&& 31)) >>> ((2 : Int32) &&& 31)) &&& (1 : Int32)) (lowF ((v >>> ((6 : Int32) &&& 31)) >>> ((3 : Int32) &&& 31)) 30) (lowF ((v >>> ((6 : Int32) &&& 31)) >>> ((6 : Int32) &&& 31)) 3) (lowF (v >>> ((6 : Int32) &&& 31)) 8) (lowF ((v >>> ((6 : Int32) &&& 31)) >>> ((8 : Int32) &&& 31)) 8)) (opN q (((v >>> ((6 : Int32) &&& 31)) >>> ((2 : Int32) &&& 31)) &&& (1 : Int32)) (lowF ((v >>> ((6 : Int32) &&& 31)) >>> ((3 : Int32) &&& 31)) 30) (lowF ((v >>> ((6 : Int32) &&& 31)) >>> ((6 : Int32) &&& 31)) 3) (lowF (v >>> ((6 : Int32) &&& 31)) 8) (lowF ((v >>> ((6 : Int32) &&& 31)) >>> ((8 : Int32) &&& 31)) 8) 5)) ∧
            ((¬ 30 ≤ (lowF v 40)) →
              R (dW q 6 (lowF ((v >>> ((6 : Int32) &&& 31)) >>> ((3 : Int32) &&& 31)) 30) (lowF ((v >>> ((6 : Int32) &&& 31)) >>> ((6 : Int32) &&& 31)) 3) (lowF (v >>> ((6 : Int32) &&& 31)) 8) (lowF ((v >>> ((6 : Int32) &&& 31)) >>> ((8 : Int32) &&& 31)) 8) 0) q)))) ∧
      ((¬ 28 ≤ (lowF v 40)) →
        ((26 ≤ (lowF v 40)) →
          R (dW q 4 ((v >>> ((6 : Int32) &&& 31)) &&& (1 : Int32)) (lowF ((v >>> ((6 : Int32) &&& 31)) >>> ((1 : Int32) &&& 31)) 12) ((7 : Int32) + (lowF ((v >>> ((6 : Int32) &&& 31)) >>> ((4 : Int32) &&& 31)) 3)) 0 0) (opN q ((v >>> ((6 : Int32) &&& 31)) &&& (1 : Int32)) (lowF ((v >>> ((6 : Int32) &&& 31)) >>> ((1 : Int32) &&& 31)) 12) ((7 : Int32) + (lowF ((v >>> ((6 : Int32) &&& 31)) >>> ((4 : Int32) &&& 31)) 3)) 0 0 4)) ∧
        ((¬ 26 ≤ (lowF v 40)) →
          R (dW q 3 ((lowF (v >>> ((6 : Int32) &&& 31)) 4) - (1 : Int32)) (lowF ((v >>> ((6 : Int32) &&& 31)) >>> ((1 : Int32) &&& 31)) 10) (lowF ((v >>> ((6 : Int32) &&& 31)) >>> ((5 : Int32) &&& 31)) 5) 0 0) (opN q ((lowF (v >>> ((6 : Int32) &&& 31)) 4) - (1 : Int32)) (lowF ((v >>> ((6 : Int32) &&& 31)) >>> ((1 : Int32) &&& 31)) 10) (lowF ((v >>> ((6 : Int32) &&& 31)) >>> ((5 : Int32) &&& 31)) 5) 0 0 3)))) ∧
    ((¬ 24 ≤ (lowF v 40)) →
      ((14 ≤ (lowF v 40)) →
        ((¬ (lowF v 40) = 14) →
          ((¬ (lowF v 40) = 15) →
            ((21 ≤ (lowF v 40)) →
              ((¬ (lowF v 40) = 21) →
                ((¬ (lowF v 40) = 22) →
                  R (dW q 2 6 (-1) 300 0 0) (opN q 6 (-1) 300 0 0 2)) ∧
                (((lowF v 40) = 22) →
                  R (dW q 2 5 (-1) ((61 : Int32) + (lowF ((v >>> ((6 : Int32) &&& 31)) >>> ((4 : Int32) &&& 31)) 300)) 0 0) (opN q 5 (-1) ((61 : Int32) + (lowF ((v >>> ((6 : Int32) &&& 31)) >>> ((4 : Int32) &&& 31)) 300)) 0 0 2))) ∧
              (((lowF v 40) = 21) →
                R (dW q 2 4 (-1) ((61 : Int32) + (lowF ((v >>> ((6 : Int32) &&& 31)) >>> ((4 : Int32) &&& 31)) 300)) 0 0) (opN q 4 (-1) ((61 : Int32) + (lowF ((v >>> ((6 : Int32) &&& 31)) >>> ((4 : Int32) &&& 31)) 300)) 0 0 2))) ∧
            ((¬ 21 ≤ (lowF v 40)) →
              R (dW q 2 3 (-1) ((61 : Int32) + (lowF ((v >>> ((6 : Int32) &&& 31)) >>> ((4 : Int32) &&& 31)) 300)) 0 0) (opN q 3 (-1) ((61 : Int32) + (lowF ((v >>> ((6 : Int32) &&& 31)) >>> ((4 : Int32) &&& 31)) 300)) 0 0 2))) ∧
          (((lowF v 40) = 15) →
            R (dW q 2 2 (-1) ((1 : Int32) + (lowF ((v >>> ((6 : Int32) &&& 31)) >>> ((4 : Int32) &&& 31)) 60)) 0 0) (opN q 2 (-1) ((1 : Int32) + (lowF ((v >>> ((6 : Int32) &&& 31)) >>> ((4 : Int32) &&& 31)) 60)) 0 0 2))) ∧
        (((lowF v 40) = 14) →
          R (dW q 2 1 (-1) ((1 : Int32) + (lowF ((v >>> ((6 : Int32) &&& 31)) >>> ((4 : Int32) &&& 31)) 60)) 0 0) (opN q 1 (-1) ((1 : Int32) + (lowF ((v >>> ((6 : Int32) &&& 31)) >>> ((4 : Int32) &&& 31)) 60)) 0 0 2))) ∧
      ((¬ 14 ≤ (lowF v 40)) →
        R (dW q 2 0 (lowF (v >>> ((6 : Int32) &&& 31)) 12) ((1 : Int32) + (lowF ((v >>> ((6 : Int32) &&& 31)) >>> ((4 : Int32) &&& 31)) 60)) 0 0) (opN q 0 (lowF (v >>> ((6 : Int32) &&& 31)) 12) ((1 : Int32) + (lowF ((v >>> ((6 : Int32) &&& 31)) >>> ((4 : Int32) &&& 31)) 60)) 0 0 2)))) ∧
  ((¬ 8 ≤ (lowF v 40)) →
    ((7 ≤ (lowF v 40)) →
      R (dW q 0 (lowF (v >>> ((6 : Int32) &&& 31)) 10) (lowF ((v >>> ((6 : Int32) &&& 31)) >>> ((3 : Int32) &&& 31)) 8) (((300 : Int32) + (lowF ((v >>> ((6 : Int32) &&& 31)) >>> ((6 : Int32) &&& 31)) 2000)) - (200 : Int32)) 0 0) (opN q (lowF (v >>> ((6 : Int32) &&& 31)) 10) (lowF ((v >>> ((6 : Int32) &&& 31)) >>> ((3 : Int32) &&& 31)) 8) (((300 : Int32) + (lowF ((v >>> ((6 : Int32) &&& 31)) >>> ((6 : Int32) &&& 31)) 2000)) - (200 : Int32)) 0 0 0)) ∧
    ((¬ 7 ≤ (lowF v 40)) →
      R (dW q 1 ((lowF (v >>> ((6 : Int32) &&& 31)) 13) - (1 : Int32)) 0 0 0 0) (opN q ((lowF (v >>> ((6 : Int32) &&& 31)) 13) - (1 : Int32)) 0 0 0 0 1))))
theorem lv_act {T : pT} {b : Nat} {X : Mem} (hT : okT T b) {v : Int32} {q : HS} (G : GdH q) (Gn : ∀ (a b c d e : Int32) (h : Nat), GdH (opN q a b c d e h)) {R : Int32 → HS → Prop}   (n : Nat) (H : lF_act v q  n R) : WG mL_act (P1 T b X) R 0 [(0, .ref b), (1, .int v)] [] q n := by
  unfold lF_act at H
  obtain ⟨hn, H⟩ := H
  refine g_iload_n dL_act_0 rfl ?_
  refine g_bipush (v := 18) dL_act_1 (by decide) ?_
  refine g_ishr dL_act_3 ?_
  refine g_bipush (v := 7) dL_act_4 (by decide) ?_
  refine g_iand dL_act_6 ?_
  refine g_bipush (v := 7) dL_act_7 (by decide) ?_
  refine g_icmp_ne (tgt := 16) dL_act_9 (by decide) (fun c => ?_) (fun c => ?_)
  · have H := H.1 c
    refine g_iconst (v := 0) dL_act_16 (by decide) ?_
    refine gt_istore_n (L' := [(2, .int 0), (0, .ref b), (1, .int v)]) dL_act_17 (by decide) rfl ?_
    refine g_iload_n dL_act_18 rfl ?_
    refine g_bipush (v := 40) dL_act_19 (by decide) ?_
    refine g_low rfl rfl dL_act_21 (by unfold rmP; decide) (Nat.le_of_ble_eq_true rfl) (by decide) ?_
    refine gt_istore_n (L' := [(3, .int (lowF v 40)), (2, .int 0), (0, .ref b), (1, .int v)]) dL_act_24 (by decide) rfl ?_
    refine g_iload_n dL_act_25 rfl ?_
    refine g_bipush (v := 6) dL_act_26 (by decide) ?_
    refine g_ishr dL_act_28 ?_
    refine gt_istore (L' := [(4, .int (v >>> ((6 : Int32) &&& 31))), (3, .int (lowF v 40)), (2, .int 0), (0, .ref b), (1, .int v)]) dL_act_29 (by decide) rfl ?_
    refine g_iload_n dL_act_31 rfl ?_
    refine g_bipush (v := 8) dL_act_32 (by decide) ?_
    refine g_icmp_ge (tgt := 138) dL_act_34 (by decide) (fun c => ?_) (fun c => ?_)
    · have H := H.1 c
      refine g_iload_n dL_act_138 rfl ?_
      refine g_bipush (v := 24) dL_act_139 (by decide) ?_
      refine g_icmp_ge (tgt := 298) dL_act_141 (by decide) (fun c => ?_) (fun c => ?_)
      · have H := H.1 c
        refine g_iload_n dL_act_298 rfl ?_
        refine g_bipush (v := 28) dL_act_299 (by decide) ?_
        refine g_icmp_ge (tgt := 405) dL_act_301 (by decide) (fun c => ?_) (fun c => ?_)
        · have H := H.1 c
          refine g_iload_n dL_act_405 rfl ?_
          refine g_bipush (v := 32) dL_act_406 (by decide) ?_
          refine g_icmp_ge (tgt := 524) dL_act_408 (by decide) (fun c => ?_) (fun c => ?_)
          · have H := H.1 c
            refine g_iload_n dL_act_524 rfl ?_
            refine g_bipush (v := 35) dL_act_525 (by decide) ?_
            refine g_icmp_ge (tgt := 593) dL_act_527 (by decide) (fun c => ?_) (fun c => ?_)
            · have H := H.1 c
              refine g_iload_n dL_act_593 rfl ?_
              refine g_bipush (v := 35) dL_act_594 (by decide) ?_
              refine g_icmp_ne (tgt := 636) dL_act_596 (by decide) (fun c => ?_) (fun c => ?_)
              · have H := H.1 c
                refine g_iload_n dL_act_636 rfl ?_
                refine g_bipush (v := 36) dL_act_637 (by decide) ?_
                refine g_icmp_ne (tgt := 671) dL_act_639 (by decide) (fun c => ?_) (fun c => ?_)
                · have H := H.1 c
                  refine g_iload_n dL_act_671 rfl ?_
                  refine g_bipush (v := 37) dL_act_672 (by decide) ?_
                  refine g_icmp_ne (tgt := 725) dL_act_674 (by decide) (fun c => ?_) (fun c => ?_)
                  · have H := H.1 c
                    refine g_iload_n dL_act_725 rfl ?_
                    refine g_bipush (v := 38) dL_act_726 (by decide) ?_
                    refine g_icmp_ne (tgt := 745) dL_act_728 (by decide) (fun c => ?_) (fun c => ?_)
                    · have H := H.1 c
                      refine g_aload_n dL_act_745 rfl ?_
                      refine g_bipush (v := 28) dL_act_746 (by decide) ?_
                      refine g_iload dL_act_748 rfl ?_
                      refine g_iconst (v := 1) dL_act_750 (by decide) ?_
                      refine g_iand dL_act_751 ?_
                      refine g_iconst (v := 0) dL_act_752 (by decide) ?_
                      refine g_iconst (v := 0) dL_act_753 (by decide) ?_
                      refine g_iconst (v := 0) dL_act_754 (by decide) ?_
                      refine g_iconst (v := 0) dL_act_755 (by decide) ?_
                      refine g_does (As := [.ref b, .int 28, .int ((v >>> ((6 : Int32) &&& 31)) &&& (1 : Int32)), .int 0, .int 0, .int 0, .int 0]) (st := []) (q := q) (q' := (opN q ((v >>> ((6 : Int32) &&& 31)) &&& (1 : Int32)) 0 0 0 0 28)) (s' := (opN q ((v >>> ((6 : Int32) &&& 31)) &&& (1 : Int32)) 0 0 0 0 28)) (k := opK q ((v >>> ((6 : Int32) &&& 31)) &&& (1 : Int32)) 0 0 0 0 28) (x := opX q ((v >>> ((6 : Int32) &&& 31)) &&& (1 : Int32)) 0 0 0 0 28) (P1_use hT) P1_next rfl (fun B h1 h2 h3 h4 => ds_28 h1 h2 h3 h4 G ((v >>> ((6 : Int32) &&& 31)) &&& (1 : Int32)) 0 0 0 0 (Gn ((v >>> ((6 : Int32) &&& 31)) &&& (1 : Int32)) 0 0 0 0 28)) dL_act_756 (by unfold rmP; decide) rfl (Nat.le_of_ble_eq_true rfl) (by omega) ?_
                      exact g_iret dL_act_759 (Or.inl rfl) H
                    · have H := H.2 c
                      refine g_aload_n dL_act_731 rfl ?_
                      refine g_bipush (v := 27) dL_act_732 (by decide) ?_
                      refine g_iconst (v := 0) dL_act_734 (by decide) ?_
                      refine g_iconst (v := 0) dL_act_735 (by decide) ?_
                      refine g_iconst (v := 0) dL_act_736 (by decide) ?_
                      refine g_iconst (v := 0) dL_act_737 (by decide) ?_
                      refine g_iconst (v := 0) dL_act_738 (by decide) ?_
                      refine g_does (As := [.ref b, .int 27, .int 0, .int 0, .int 0, .int 0, .int 0]) (st := []) (q := q) (q' := (opN q 0 0 0 0 0 27)) (s' := (opN q 0 0 0 0 0 27)) (k := opK q 0 0 0 0 0 27) (x := opX q 0 0 0 0 0 27) (P1_use hT) P1_next rfl (fun B h1 h2 h3 h4 => ds_27 h1 h2 h3 h4 G 0 0 0 0 0 (Gn 0 0 0 0 0 27)) dL_act_739 (by unfold rmP; decide) rfl (Nat.le_of_ble_eq_true rfl) (by omega) ?_
                      refine g_goto (tgt := 759) dL_act_742 (by decide) ?_
                      exact g_iret dL_act_759 (Or.inl rfl) H
                  · have H := H.2 c
                    refine g_aload_n dL_act_677 rfl ?_
                    refine g_bipush (v := 26) dL_act_678 (by decide) ?_
                    refine g_iload dL_act_680 rfl ?_
                    refine g_bipush (v := 8) dL_act_682 (by decide) ?_
                    refine g_low rfl rfl dL_act_684 (by unfold rmP; decide) (Nat.le_of_ble_eq_true rfl) (by decide) ?_
                    refine g_iload_n dL_act_687 rfl ?_
                    refine g_if_eq (tgt := 704) dL_act_688 (by decide) (fun _ => ?_) (fun c => absurd c (by decide))
                    refine g_bipush (v := 10) dL_act_704 (by decide) ?_
                    refine g_iload dL_act_706 rfl ?_
                    refine g_iconst (v := 3) dL_act_708 (by decide) ?_
                    refine g_ishr dL_act_709 ?_
                    refine g_bipush (v := 12) dL_act_710 (by decide) ?_
                    refine g_low rfl rfl dL_act_712 (by unfold rmP; decide) (Nat.le_of_ble_eq_true rfl) (by decide) ?_
                    refine g_imul dL_act_715 ?_
                    refine g_iconst (v := 0) dL_act_716 (by decide) ?_
                    refine g_iconst (v := 0) dL_act_717 (by decide) ?_
                    refine g_iconst (v := 0) dL_act_718 (by decide) ?_
                    refine g_does (As := [.ref b, .int 26, .int (lowF (v >>> ((6 : Int32) &&& 31)) 8), .int ((10 : Int32) * (lowF ((v >>> ((6 : Int32) &&& 31)) >>> ((3 : Int32) &&& 31)) 12)), .int 0, .int 0, .int 0]) (st := []) (q := q) (q' := (opN q (lowF (v >>> ((6 : Int32) &&& 31)) 8) ((10 : Int32) * (lowF ((v >>> ((6 : Int32) &&& 31)) >>> ((3 : Int32) &&& 31)) 12)) 0 0 0 26)) (s' := (opN q (lowF (v >>> ((6 : Int32) &&& 31)) 8) ((10 : Int32) * (lowF ((v >>> ((6 : Int32) &&& 31)) >>> ((3 : Int32) &&& 31)) 12)) 0 0 0 26)) (k := opK q (lowF (v >>> ((6 : Int32) &&& 31)) 8) ((10 : Int32) * (lowF ((v >>> ((6 : Int32) &&& 31)) >>> ((3 : Int32) &&& 31)) 12)) 0 0 0 26) (x := opX q (lowF (v >>> ((6 : Int32) &&& 31)) 8) ((10 : Int32) * (lowF ((v >>> ((6 : Int32) &&& 31)) >>> ((3 : Int32) &&& 31)) 12)) 0 0 0 26) (P1_use hT) P1_next rfl (fun B h1 h2 h3 h4 => ds_26 h1 h2 h3 h4 G (lowF (v >>> ((6 : Int32) &&& 31)) 8) ((10 : Int32) * (lowF ((v >>> ((6 : Int32) &&& 31)) >>> ((3 : Int32) &&& 31)) 12)) 0 0 0 (Gn (lowF (v >>> ((6 : Int32) &&& 31)) 8) ((10 : Int32) * (lowF ((v >>> ((6 : Int32) &&& 31)) >>> ((3 : Int32) &&& 31)) 12)) 0 0 0 26)) dL_act_719 (by unfold rmP; decide) rfl (Nat.le_of_ble_eq_true rfl) (by omega) ?_
                    refine g_goto (tgt := 759) dL_act_722 (by decide) ?_
                    exact g_iret dL_act_759 (Or.inl rfl) H
                · have H := H.2 c
                  refine g_aload_n dL_act_642 rfl ?_
                  refine g_bipush (v := 25) dL_act_643 (by decide) ?_
                  refine g_iload dL_act_645 rfl ?_
                  refine g_iload_n dL_act_647 rfl ?_
                  refine g_if_eq (tgt := 656) dL_act_648 (by decide) (fun _ => ?_) (fun c => absurd c (by decide))
                  refine g_bipush (v := 24) dL_act_656 (by decide) ?_
                  refine g_low rfl rfl dL_act_658 (by unfold rmP; decide) (Nat.le_of_ble_eq_true rfl) (by decide) ?_
                  refine g_iconst (v := 0) dL_act_661 (by decide) ?_
                  refine g_iconst (v := 0) dL_act_662 (by decide) ?_
                  refine g_iconst (v := 0) dL_act_663 (by decide) ?_
                  refine g_iconst (v := 0) dL_act_664 (by decide) ?_
                  refine g_does (As := [.ref b, .int 25, .int (lowF (v >>> ((6 : Int32) &&& 31)) 24), .int 0, .int 0, .int 0, .int 0]) (st := []) (q := q) (q' := (opN q (lowF (v >>> ((6 : Int32) &&& 31)) 24) 0 0 0 0 25)) (s' := (opN q (lowF (v >>> ((6 : Int32) &&& 31)) 24) 0 0 0 0 25)) (k := opK q (lowF (v >>> ((6 : Int32) &&& 31)) 24) 0 0 0 0 25) (x := opX q (lowF (v >>> ((6 : Int32) &&& 31)) 24) 0 0 0 0 25) (P1_use hT) P1_next rfl (fun B h1 h2 h3 h4 => ds_25 h1 h2 h3 h4 G (lowF (v >>> ((6 : Int32) &&& 31)) 24) 0 0 0 0 (Gn (lowF (v >>> ((6 : Int32) &&& 31)) 24) 0 0 0 0 25)) dL_act_665 (by unfold rmP; decide) rfl (Nat.le_of_ble_eq_true rfl) (by omega) ?_
                  refine g_goto (tgt := 759) dL_act_668 (by decide) ?_
                  exact g_iret dL_act_759 (Or.inl rfl) H
              · have H := H.2 c
                refine g_aload_n dL_act_599 rfl ?_
                refine g_bipush (v := 24) dL_act_600 (by decide) ?_
                refine g_iload dL_act_602 rfl ?_
                refine g_iload_n dL_act_604 rfl ?_
                refine g_if_eq (tgt := 613) dL_act_605 (by decide) (fun _ => ?_) (fun c => absurd c (by decide))
                refine g_bipush (v := 8) dL_act_613 (by decide) ?_
                refine g_low rfl rfl dL_act_615 (by unfold rmP; decide) (Nat.le_of_ble_eq_true rfl) (by decide) ?_
                refine g_iload dL_act_618 rfl ?_
                refine g_iconst (v := 3) dL_act_620 (by decide) ?_
                refine g_ishr dL_act_621 ?_
                refine g_bipush (v := 24) dL_act_622 (by decide) ?_
                refine g_low rfl rfl dL_act_624 (by unfold rmP; decide) (Nat.le_of_ble_eq_true rfl) (by decide) ?_
                refine g_iconst (v := 0) dL_act_627 (by decide) ?_
                refine g_iconst (v := 0) dL_act_628 (by decide) ?_
                refine g_iconst (v := 0) dL_act_629 (by decide) ?_
                refine g_does (As := [.ref b, .int 24, .int (lowF (v >>> ((6 : Int32) &&& 31)) 8), .int (lowF ((v >>> ((6 : Int32) &&& 31)) >>> ((3 : Int32) &&& 31)) 24), .int 0, .int 0, .int 0]) (st := []) (q := q) (q' := (opN q (lowF (v >>> ((6 : Int32) &&& 31)) 8) (lowF ((v >>> ((6 : Int32) &&& 31)) >>> ((3 : Int32) &&& 31)) 24) 0 0 0 24)) (s' := (opN q (lowF (v >>> ((6 : Int32) &&& 31)) 8) (lowF ((v >>> ((6 : Int32) &&& 31)) >>> ((3 : Int32) &&& 31)) 24) 0 0 0 24)) (k := opK q (lowF (v >>> ((6 : Int32) &&& 31)) 8) (lowF ((v >>> ((6 : Int32) &&& 31)) >>> ((3 : Int32) &&& 31)) 24) 0 0 0 24) (x := opX q (lowF (v >>> ((6 : Int32) &&& 31)) 8) (lowF ((v >>> ((6 : Int32) &&& 31)) >>> ((3 : Int32) &&& 31)) 24) 0 0 0 24) (P1_use hT) P1_next rfl (fun B h1 h2 h3 h4 => ds_24 h1 h2 h3 h4 G (lowF (v >>> ((6 : Int32) &&& 31)) 8) (lowF ((v >>> ((6 : Int32) &&& 31)) >>> ((3 : Int32) &&& 31)) 24) 0 0 0 (Gn (lowF (v >>> ((6 : Int32) &&& 31)) 8) (lowF ((v >>> ((6 : Int32) &&& 31)) >>> ((3 : Int32) &&& 31)) 24) 0 0 0 24)) dL_act_630 (by unfold rmP; decide) rfl (Nat.le_of_ble_eq_true rfl) (by omega) ?_
                refine g_goto (tgt := 759) dL_act_633 (by decide) ?_
                exact g_iret dL_act_759 (Or.inl rfl) H
            · have H := H.2 c
              refine g_iload_n dL_act_530 rfl ?_
              refine g_bipush (v := 32) dL_act_531 (by decide) ?_
              refine g_icmp_ne (tgt := 556) dL_act_533 (by decide) (fun c => ?_) (fun c => ?_)
              · have H := H.1 c
                refine g_iload_n dL_act_556 rfl ?_
                refine g_bipush (v := 33) dL_act_557 (by decide) ?_
                refine g_icmp_ne (tgt := 576) dL_act_559 (by decide) (fun c => ?_) (fun c => ?_)
                · have H := H.1 c
                  refine g_aload_n dL_act_576 rfl ?_
                  refine g_iconst (v := 1) dL_act_577 (by decide) ?_
                  refine g_iload dL_act_578 rfl ?_
                  refine g_bipush (v := 10) dL_act_580 (by decide) ?_
                  refine g_low rfl rfl dL_act_582 (by unfold rmP; decide) (Nat.le_of_ble_eq_true rfl) (by decide) ?_
                  refine g_iconst (v := 0) dL_act_585 (by decide) ?_
                  refine g_iconst (v := 0) dL_act_586 (by decide) ?_
                  refine g_iconst (v := 0) dL_act_587 (by decide) ?_
                  refine g_iconst (v := 0) dL_act_588 (by decide) ?_
                  refine g_does (As := [.ref b, .int 1, .int (lowF (v >>> ((6 : Int32) &&& 31)) 10), .int 0, .int 0, .int 0, .int 0]) (st := []) (q := q) (q' := (opN q (lowF (v >>> ((6 : Int32) &&& 31)) 10) 0 0 0 0 1)) (s' := (opN q (lowF (v >>> ((6 : Int32) &&& 31)) 10) 0 0 0 0 1)) (k := opK q (lowF (v >>> ((6 : Int32) &&& 31)) 10) 0 0 0 0 1) (x := opX q (lowF (v >>> ((6 : Int32) &&& 31)) 10) 0 0 0 0 1) (P1_use hT) P1_next rfl (fun B h1 h2 h3 h4 => ds_1 h1 h2 h3 h4 G (lowF (v >>> ((6 : Int32) &&& 31)) 10) 0 0 0 0 (Gn (lowF (v >>> ((6 : Int32) &&& 31)) 10) 0 0 0 0 1)) dL_act_589 (by unfold rmP; decide) rfl (Nat.le_of_ble_eq_true rfl) (by omega) ?_
                  exact g_iret dL_act_592 (Or.inl rfl) H
                · have H := H.2 c
                  refine g_aload_n dL_act_562 rfl ?_
                  refine g_bipush (v := 8) dL_act_563 (by decide) ?_
                  refine g_iconst (v := 0) dL_act_565 (by decide) ?_
                  refine g_iconst (v := 0) dL_act_566 (by decide) ?_
                  refine g_iconst (v := 0) dL_act_567 (by decide) ?_
                  refine g_iconst (v := 0) dL_act_568 (by decide) ?_
                  refine g_iconst (v := 0) dL_act_569 (by decide) ?_
                  refine g_does (As := [.ref b, .int 8, .int 0, .int 0, .int 0, .int 0, .int 0]) (st := []) (q := q) (q' := (opN q 0 0 0 0 0 8)) (s' := (opN q 0 0 0 0 0 8)) (k := opK q 0 0 0 0 0 8) (x := opX q 0 0 0 0 0 8) (P1_use hT) P1_next rfl (fun B h1 h2 h3 h4 => ds_8 h1 h2 h3 h4 G 0 0 0 0 0 (Gn 0 0 0 0 0 8)) dL_act_570 (by unfold rmP; decide) rfl (Nat.le_of_ble_eq_true rfl) (by omega) ?_
                  refine g_goto (tgt := 592) dL_act_573 (by decide) ?_
                  exact g_iret dL_act_592 (Or.inl rfl) H
              · have H := H.2 c
                refine g_aload_n dL_act_536 rfl ?_
                refine g_bipush (v := 7) dL_act_537 (by decide) ?_
                refine g_iload dL_act_539 rfl ?_
                refine g_bipush (v := 60) dL_act_541 (by decide) ?_
                refine g_low rfl rfl dL_act_543 (by unfold rmP; decide) (Nat.le_of_ble_eq_true rfl) (by decide) ?_
                refine g_iconst (v := 0) dL_act_546 (by decide) ?_
                refine g_iconst (v := 0) dL_act_547 (by decide) ?_
                refine g_iconst (v := 0) dL_act_548 (by decide) ?_
                refine g_iconst (v := 0) dL_act_549 (by decide) ?_
                refine g_does (As := [.ref b, .int 7, .int (lowF (v >>> ((6 : Int32) &&& 31)) 60), .int 0, .int 0, .int 0, .int 0]) (st := []) (q := q) (q' := (opN q (lowF (v >>> ((6 : Int32) &&& 31)) 60) 0 0 0 0 7)) (s' := (opN q (lowF (v >>> ((6 : Int32) &&& 31)) 60) 0 0 0 0 7)) (k := opK q (lowF (v >>> ((6 : Int32) &&& 31)) 60) 0 0 0 0 7) (x := opX q (lowF (v >>> ((6 : Int32) &&& 31)) 60) 0 0 0 0 7) (P1_use hT) P1_next rfl (fun B h1 h2 h3 h4 => ds_7 h1 h2 h3 h4 G (lowF (v >>> ((6 : Int32) &&& 31)) 60) 0 0 0 0 (Gn (lowF (v >>> ((6 : Int32) &&& 31)) 60) 0 0 0 0 7)) dL_act_550 (by unfold rmP; decide) rfl (Nat.le_of_ble_eq_true rfl) (by omega) ?_
                refine g_goto (tgt := 592) dL_act_553 (by decide) ?_
                exact g_iret dL_act_592 (Or.inl rfl) H
          · have H := H.2 c
            refine g_iload dL_act_411 rfl ?_
            refine g_iload_n dL_act_413 rfl ?_
            refine g_if_eq (tgt := 422) dL_act_414 (by decide) (fun _ => ?_) (fun c => absurd c (by decide))
            refine g_bipush (v := 6) dL_act_422 (by decide) ?_
            refine g_low rfl rfl dL_act_424 (by unfold rmP; decide) (Nat.le_of_ble_eq_true rfl) (by decide) ?_
            refine gt_istore (L' := [(5, .int (lowF (v >>> ((6 : Int32) &&& 31)) 6)), (4, .int (v >>> ((6 : Int32) &&& 31))), (3, .int (lowF v 40)), (2, .int 0), (0, .ref b), (1, .int v)]) dL_act_427 (by decide) rfl ?_
            refine g_iload dL_act_429 rfl ?_
            refine g_iconst (v := 3) dL_act_431 (by decide) ?_
            refine g_ishr dL_act_432 ?_
            refine g_bipush (v := 30) dL_act_433 (by decide) ?_
            refine g_low rfl rfl dL_act_435 (by unfold rmP; decide) (Nat.le_of_ble_eq_true rfl) (by decide) ?_
            refine gt_istore (L' := [(6, .int (lowF ((v >>> ((6 : Int32) &&& 31)) >>> ((3 : Int32) &&& 31)) 30)), (5, .int (lowF (v >>> ((6 : Int32) &&& 31)) 6)), (4, .int (v >>> ((6 : Int32) &&& 31))), (3, .int (lowF v 40)), (2, .int 0), (0, .ref b), (1, .int v)]) dL_act_438 (by decide) rfl ?_
            refine g_iload dL_act_440 rfl ?_
            refine g_bipush (v := 6) dL_act_442 (by decide) ?_
            refine g_ishr dL_act_444 ?_
            refine g_iconst (v := 3) dL_act_445 (by decide) ?_
            refine g_low rfl rfl dL_act_446 (by unfold rmP; decide) (Nat.le_of_ble_eq_true rfl) (by decide) ?_
            refine gt_istore (L' := [(7, .int (lowF ((v >>> ((6 : Int32) &&& 31)) >>> ((6 : Int32) &&& 31)) 3)), (6, .int (lowF ((v >>> ((6 : Int32) &&& 31)) >>> ((3 : Int32) &&& 31)) 30)), (5, .int (lowF (v >>> ((6 : Int32) &&& 31)) 6)), (4, .int (v >>> ((6 : Int32) &&& 31))), (3, .int (lowF v 40)), (2, .int 0), (0, .ref b), (1, .int v)]) dL_act_449 (by decide) rfl ?_
            refine g_iload dL_act_451 rfl ?_
            refine g_if_ne (tgt := 469) dL_act_453 (by decide) (fun c => ?_) (fun c => ?_)
            · have H := H.1 c
              refine g_iload_n dL_act_469 rfl ?_
              refine g_if_eq (tgt := 477) dL_act_470 (by decide) (fun _ => ?_) (fun c => absurd c (by decide))
              refine g_iconst (v := (-1)) dL_act_477 (by decide) ?_
              refine gt_istore (L' := [(8, .int (-1)), (7, .int (lowF ((v >>> ((6 : Int32) &&& 31)) >>> ((6 : Int32) &&& 31)) 3)), (6, .int (lowF ((v >>> ((6 : Int32) &&& 31)) >>> ((3 : Int32) &&& 31)) 30)), (5, .int (lowF (v >>> ((6 : Int32) &&& 31)) 6)), (4, .int (v >>> ((6 : Int32) &&& 31))), (3, .int (lowF v 40)), (2, .int 0), (0, .ref b), (1, .int v)]) dL_act_478 (by decide) rfl ?_
              refine g_iload_n dL_act_480 rfl ?_
              refine g_bipush (v := 30) dL_act_481 (by decide) ?_
              refine g_icmp_ge (tgt := 504) dL_act_483 (by decide) (fun c => ?_) (fun c => ?_)
              · have H := H.1 c
                refine g_aload_n dL_act_504 rfl ?_
                refine g_iconst (v := 5) dL_act_505 (by decide) ?_
                refine g_iload dL_act_506 rfl ?_
                refine g_iconst (v := 2) dL_act_508 (by decide) ?_
                refine g_ishr dL_act_509 ?_
                refine g_iconst (v := 1) dL_act_510 (by decide) ?_
                refine g_iand dL_act_511 ?_
                refine g_iload dL_act_512 rfl ?_
                refine g_iload dL_act_514 rfl ?_
                refine g_iload dL_act_516 rfl ?_
                refine g_iload dL_act_518 rfl ?_
                refine g_does (As := [.ref b, .int 5, .int (((v >>> ((6 : Int32) &&& 31)) >>> ((2 : Int32) &&& 31)) &&& (1 : Int32)), .int (lowF ((v >>> ((6 : Int32) &&& 31)) >>> ((3 : Int32) &&& 31)) 30), .int (lowF ((v >>> ((6 : Int32) &&& 31)) >>> ((6 : Int32) &&& 31)) 3), .int (lowF (v >>> ((6 : Int32) &&& 31)) 6), .int (-1)]) (st := []) (q := q) (q' := (opN q (((v >>> ((6 : Int32) &&& 31)) >>> ((2 : Int32) &&& 31)) &&& (1 : Int32)) (lowF ((v >>> ((6 : Int32) &&& 31)) >>> ((3 : Int32) &&& 31)) 30) (lowF ((v >>> ((6 : Int32) &&& 31)) >>> ((6 : Int32) &&& 31)) 3) (lowF (v >>> ((6 : Int32) &&& 31)) 6) (-1) 5)) (s' := (opN q (((v >>> ((6 : Int32) &&& 31)) >>> ((2 : Int32) &&& 31)) &&& (1 : Int32)) (lowF ((v >>> ((6 : Int32) &&& 31)) >>> ((3 : Int32) &&& 31)) 30) (lowF ((v >>> ((6 : Int32) &&& 31)) >>> ((6 : Int32) &&& 31)) 3) (lowF (v >>> ((6 : Int32) &&& 31)) 6) (-1) 5)) (k := opK q (((v >>> ((6 : Int32) &&& 31)) >>> ((2 : Int32) &&& 31)) &&& (1 : Int32)) (lowF ((v >>> ((6 : Int32) &&& 31)) >>> ((3 : Int32) &&& 31)) 30) (lowF ((v >>> ((6 : Int32) &&& 31)) >>> ((6 : Int32) &&& 31)) 3) (lowF (v >>> ((6 : Int32) &&& 31)) 6) (-1) 5) (x := opX q (((v >>> ((6 : Int32) &&& 31)) >>> ((2 : Int32) &&& 31)) &&& (1 : Int32)) (lowF ((v >>> ((6 : Int32) &&& 31)) >>> ((3 : Int32) &&& 31)) 30) (lowF ((v >>> ((6 : Int32) &&& 31)) >>> ((6 : Int32) &&& 31)) 3) (lowF (v >>> ((6 : Int32) &&& 31)) 6) (-1) 5) (P1_use hT) P1_next rfl (fun B h1 h2 h3 h4 => ds_5 h1 h2 h3 h4 G (((v >>> ((6 : Int32) &&& 31)) >>> ((2 : Int32) &&& 31)) &&& (1 : Int32)) (lowF ((v >>> ((6 : Int32) &&& 31)) >>> ((3 : Int32) &&& 31)) 30) (lowF ((v >>> ((6 : Int32) &&& 31)) >>> ((6 : Int32) &&& 31)) 3) (lowF (v >>> ((6 : Int32) &&& 31)) 6) (-1) (Gn (((v >>> ((6 : Int32) &&& 31)) >>> ((2 : Int32) &&& 31)) &&& (1 : Int32)) (lowF ((v >>> ((6 : Int32) &&& 31)) >>> ((3 : Int32) &&& 31)) 30) (lowF ((v >>> ((6 : Int32) &&& 31)) >>> ((6 : Int32) &&& 31)) 3) (lowF (v >>> ((6 : Int32) &&& 31)) 6) (-1) 5)) dL_act_520 (by unfold rmP; decide) rfl (Nat.le_of_ble_eq_true rfl) (by omega) ?_
                exact g_iret dL_act_523 (Or.inl rfl) H
              · have H := H.2 c
                refine g_aload_n dL_act_486 rfl ?_
                refine g_bipush (v := 6) dL_act_487 (by decide) ?_
                refine g_iload dL_act_489 rfl ?_
                refine g_iload dL_act_491 rfl ?_
                refine g_iload dL_act_493 rfl ?_
                refine g_iload dL_act_495 rfl ?_
                refine g_iconst (v := 0) dL_act_497 (by decide) ?_
                refine g_does (As := [.ref b, .int 6, .int (lowF ((v >>> ((6 : Int32) &&& 31)) >>> ((3 : Int32) &&& 31)) 30), .int (lowF ((v >>> ((6 : Int32) &&& 31)) >>> ((6 : Int32) &&& 31)) 3), .int (lowF (v >>> ((6 : Int32) &&& 31)) 6), .int (-1), .int 0]) (st := []) (q := q) (q' := q) (s' := q) (k := opK q (lowF ((v >>> ((6 : Int32) &&& 31)) >>> ((3 : Int32) &&& 31)) 30) (lowF ((v >>> ((6 : Int32) &&& 31)) >>> ((6 : Int32) &&& 31)) 3) (lowF (v >>> ((6 : Int32) &&& 31)) 6) (-1) 0 6) (x := opX q (lowF ((v >>> ((6 : Int32) &&& 31)) >>> ((3 : Int32) &&& 31)) 30) (lowF ((v >>> ((6 : Int32) &&& 31)) >>> ((6 : Int32) &&& 31)) 3) (lowF (v >>> ((6 : Int32) &&& 31)) 6) (-1) 0 6) (P1_use hT) P1_next rfl (fun B h1 h2 h3 h4 => ds_6 h1 h2 h3 h4 G (lowF ((v >>> ((6 : Int32) &&& 31)) >>> ((3 : Int32) &&& 31)) 30) (lowF ((v >>> ((6 : Int32) &&& 31)) >>> ((6 : Int32) &&& 31)) 3) (lowF (v >>> ((6 : Int32) &&& 31)) 6) (-1) 0 G) dL_act_498 (by unfold rmP; decide) rfl (Nat.le_of_ble_eq_true rfl) (by omega) ?_
                refine g_goto (tgt := 523) dL_act_501 (by decide) ?_
                exact g_iret dL_act_523 (Or.inl rfl) H
            · have H := H.2 c
              refine g_iload dL_act_456 rfl ?_
              refine g_bipush (v := 8) dL_act_458 (by decide) ?_
              refine g_ishr dL_act_460 ?_
              refine g_bipush (v := 8) dL_act_461 (by decide) ?_
              refine g_low rfl rfl dL_act_463 (by unfold rmP; decide) (Nat.le_of_ble_eq_true rfl) (by decide) ?_
              refine g_goto (tgt := 478) dL_act_466 (by decide) ?_
              refine gt_istore (L' := [(8, .int (lowF ((v >>> ((6 : Int32) &&& 31)) >>> ((8 : Int32) &&& 31)) 8)), (7, .int (lowF ((v >>> ((6 : Int32) &&& 31)) >>> ((6 : Int32) &&& 31)) 3)), (6, .int (lowF ((v >>> ((6 : Int32) &&& 31)) >>> ((3 : Int32) &&& 31)) 30)), (5, .int (lowF (v >>> ((6 : Int32) &&& 31)) 6)), (4, .int (v >>> ((6 : Int32) &&& 31))), (3, .int (lowF v 40)), (2, .int 0), (0, .ref b), (1, .int v)]) dL_act_478 (by decide) rfl ?_
              refine g_iload_n dL_act_480 rfl ?_
              refine g_bipush (v := 30) dL_act_481 (by decide) ?_
              refine g_icmp_ge (tgt := 504) dL_act_483 (by decide) (fun c => ?_) (fun c => ?_)
              · have H := H.1 c
                refine g_aload_n dL_act_504 rfl ?_
                refine g_iconst (v := 5) dL_act_505 (by decide) ?_
                refine g_iload dL_act_506 rfl ?_
                refine g_iconst (v := 2) dL_act_508 (by decide) ?_
                refine g_ishr dL_act_509 ?_
                refine g_iconst (v := 1) dL_act_510 (by decide) ?_
                refine g_iand dL_act_511 ?_
                refine g_iload dL_act_512 rfl ?_
                refine g_iload dL_act_514 rfl ?_
                refine g_iload dL_act_516 rfl ?_
                refine g_iload dL_act_518 rfl ?_
                refine g_does (As := [.ref b, .int 5, .int (((v >>> ((6 : Int32) &&& 31)) >>> ((2 : Int32) &&& 31)) &&& (1 : Int32)), .int (lowF ((v >>> ((6 : Int32) &&& 31)) >>> ((3 : Int32) &&& 31)) 30), .int (lowF ((v >>> ((6 : Int32) &&& 31)) >>> ((6 : Int32) &&& 31)) 3), .int (lowF (v >>> ((6 : Int32) &&& 31)) 6), .int (lowF ((v >>> ((6 : Int32) &&& 31)) >>> ((8 : Int32) &&& 31)) 8)]) (st := []) (q := q) (q' := (opN q (((v >>> ((6 : Int32) &&& 31)) >>> ((2 : Int32) &&& 31)) &&& (1 : Int32)) (lowF ((v >>> ((6 : Int32) &&& 31)) >>> ((3 : Int32) &&& 31)) 30) (lowF ((v >>> ((6 : Int32) &&& 31)) >>> ((6 : Int32) &&& 31)) 3) (lowF (v >>> ((6 : Int32) &&& 31)) 6) (lowF ((v >>> ((6 : Int32) &&& 31)) >>> ((8 : Int32) &&& 31)) 8) 5)) (s' := (opN q (((v >>> ((6 : Int32) &&& 31)) >>> ((2 : Int32) &&& 31)) &&& (1 : Int32)) (lowF ((v >>> ((6 : Int32) &&& 31)) >>> ((3 : Int32) &&& 31)) 30) (lowF ((v >>> ((6 : Int32) &&& 31)) >>> ((6 : Int32) &&& 31)) 3) (lowF (v >>> ((6 : Int32) &&& 31)) 6) (lowF ((v >>> ((6 : Int32) &&& 31)) >>> ((8 : Int32) &&& 31)) 8) 5)) (k := opK q (((v >>> ((6 : Int32) &&& 31)) >>> ((2 : Int32) &&& 31)) &&& (1 : Int32)) (lowF ((v >>> ((6 : Int32) &&& 31)) >>> ((3 : Int32) &&& 31)) 30) (lowF ((v >>> ((6 : Int32) &&& 31)) >>> ((6 : Int32) &&& 31)) 3) (lowF (v >>> ((6 : Int32) &&& 31)) 6) (lowF ((v >>> ((6 : Int32) &&& 31)) >>> ((8 : Int32) &&& 31)) 8) 5) (x := opX q (((v >>> ((6 : Int32) &&& 31)) >>> ((2 : Int32) &&& 31)) &&& (1 : Int32)) (lowF ((v >>> ((6 : Int32) &&& 31)) >>> ((3 : Int32) &&& 31)) 30) (lowF ((v >>> ((6 : Int32) &&& 31)) >>> ((6 : Int32) &&& 31)) 3) (lowF (v >>> ((6 : Int32) &&& 31)) 6) (lowF ((v >>> ((6 : Int32) &&& 31)) >>> ((8 : Int32) &&& 31)) 8) 5) (P1_use hT) P1_next rfl (fun B h1 h2 h3 h4 => ds_5 h1 h2 h3 h4 G (((v >>> ((6 : Int32) &&& 31)) >>> ((2 : Int32) &&& 31)) &&& (1 : Int32)) (lowF ((v >>> ((6 : Int32) &&& 31)) >>> ((3 : Int32) &&& 31)) 30) (lowF ((v >>> ((6 : Int32) &&& 31)) >>> ((6 : Int32) &&& 31)) 3) (lowF (v >>> ((6 : Int32) &&& 31)) 6) (lowF ((v >>> ((6 : Int32) &&& 31)) >>> ((8 : Int32) &&& 31)) 8) (Gn (((v >>> ((6 : Int32) &&& 31)) >>> ((2 : Int32) &&& 31)) &&& (1 : Int32)) (lowF ((v >>> ((6 : Int32) &&& 31)) >>> ((3 : Int32) &&& 31)) 30) (lowF ((v >>> ((6 : Int32) &&& 31)) >>> ((6 : Int32) &&& 31)) 3) (lowF (v >>> ((6 : Int32) &&& 31)) 6) (lowF ((v >>> ((6 : Int32) &&& 31)) >>> ((8 : Int32) &&& 31)) 8) 5)) dL_act_520 (by unfold rmP; decide) rfl (Nat.le_of_ble_eq_true rfl) (by omega) ?_
                exact g_iret dL_act_523 (Or.inl rfl) H
              · have H := H.2 c
                refine g_aload_n dL_act_486 rfl ?_
                refine g_bipush (v := 6) dL_act_487 (by decide) ?_
                refine g_iload dL_act_489 rfl ?_
                refine g_iload dL_act_491 rfl ?_
                refine g_iload dL_act_493 rfl ?_
                refine g_iload dL_act_495 rfl ?_
                refine g_iconst (v := 0) dL_act_497 (by decide) ?_
                refine g_does (As := [.ref b, .int 6, .int (lowF ((v >>> ((6 : Int32) &&& 31)) >>> ((3 : Int32) &&& 31)) 30), .int (lowF ((v >>> ((6 : Int32) &&& 31)) >>> ((6 : Int32) &&& 31)) 3), .int (lowF (v >>> ((6 : Int32) &&& 31)) 6), .int (lowF ((v >>> ((6 : Int32) &&& 31)) >>> ((8 : Int32) &&& 31)) 8), .int 0]) (st := []) (q := q) (q' := q) (s' := q) (k := opK q (lowF ((v >>> ((6 : Int32) &&& 31)) >>> ((3 : Int32) &&& 31)) 30) (lowF ((v >>> ((6 : Int32) &&& 31)) >>> ((6 : Int32) &&& 31)) 3) (lowF (v >>> ((6 : Int32) &&& 31)) 6) (lowF ((v >>> ((6 : Int32) &&& 31)) >>> ((8 : Int32) &&& 31)) 8) 0 6) (x := opX q (lowF ((v >>> ((6 : Int32) &&& 31)) >>> ((3 : Int32) &&& 31)) 30) (lowF ((v >>> ((6 : Int32) &&& 31)) >>> ((6 : Int32) &&& 31)) 3) (lowF (v >>> ((6 : Int32) &&& 31)) 6) (lowF ((v >>> ((6 : Int32) &&& 31)) >>> ((8 : Int32) &&& 31)) 8) 0 6) (P1_use hT) P1_next rfl (fun B h1 h2 h3 h4 => ds_6 h1 h2 h3 h4 G (lowF ((v >>> ((6 : Int32) &&& 31)) >>> ((3 : Int32) &&& 31)) 30) (lowF ((v >>> ((6 : Int32) &&& 31)) >>> ((6 : Int32) &&& 31)) 3) (lowF (v >>> ((6 : Int32) &&& 31)) 6) (lowF ((v >>> ((6 : Int32) &&& 31)) >>> ((8 : Int32) &&& 31)) 8) 0 G) dL_act_498 (by unfold rmP; decide) rfl (Nat.le_of_ble_eq_true rfl) (by omega) ?_
                refine g_goto (tgt := 523) dL_act_501 (by decide) ?_
                exact g_iret dL_act_523 (Or.inl rfl) H
        · have H := H.2 c
          refine g_iload_n dL_act_304 rfl ?_
          refine g_bipush (v := 26) dL_act_305 (by decide) ?_
          refine g_icmp_ge (tgt := 364) dL_act_307 (by decide) (fun c => ?_) (fun c => ?_)
          · have H := H.1 c
            refine g_aload_n dL_act_364 rfl ?_
            refine g_iconst (v := 4) dL_act_365 (by decide) ?_
            refine g_iload dL_act_366 rfl ?_
            refine g_iconst (v := 1) dL_act_368 (by decide) ?_
            refine g_iand dL_act_369 ?_
            refine g_iload dL_act_370 rfl ?_
            refine g_iconst (v := 1) dL_act_372 (by decide) ?_
            refine g_ishr dL_act_373 ?_
            refine g_iload_n dL_act_374 rfl ?_
            refine g_if_eq (tgt := 383) dL_act_375 (by decide) (fun _ => ?_) (fun c => absurd c (by decide))
            refine g_bipush (v := 7) dL_act_383 (by decide) ?_
            refine g_low rfl rfl dL_act_385 (by unfold rmP; decide) (Nat.le_of_ble_eq_true rfl) (by decide) ?_
            refine g_bipush (v := 7) dL_act_388 (by decide) ?_
            refine g_iload dL_act_390 rfl ?_
            refine g_iconst (v := 4) dL_act_392 (by decide) ?_
            refine g_ishr dL_act_393 ?_
            refine g_iconst (v := 3) dL_act_394 (by decide) ?_
            refine g_low rfl rfl dL_act_395 (by unfold rmP; decide) (Nat.le_of_ble_eq_true rfl) (by decide) ?_
            refine g_iadd dL_act_398 ?_
            refine g_iconst (v := 0) dL_act_399 (by decide) ?_
            refine g_iconst (v := 0) dL_act_400 (by decide) ?_
            refine g_does (As := [.ref b, .int 4, .int ((v >>> ((6 : Int32) &&& 31)) &&& (1 : Int32)), .int (lowF ((v >>> ((6 : Int32) &&& 31)) >>> ((1 : Int32) &&& 31)) 7), .int ((7 : Int32) + (lowF ((v >>> ((6 : Int32) &&& 31)) >>> ((4 : Int32) &&& 31)) 3)), .int 0, .int 0]) (st := []) (q := q) (q' := (opN q ((v >>> ((6 : Int32) &&& 31)) &&& (1 : Int32)) (lowF ((v >>> ((6 : Int32) &&& 31)) >>> ((1 : Int32) &&& 31)) 7) ((7 : Int32) + (lowF ((v >>> ((6 : Int32) &&& 31)) >>> ((4 : Int32) &&& 31)) 3)) 0 0 4)) (s' := (opN q ((v >>> ((6 : Int32) &&& 31)) &&& (1 : Int32)) (lowF ((v >>> ((6 : Int32) &&& 31)) >>> ((1 : Int32) &&& 31)) 7) ((7 : Int32) + (lowF ((v >>> ((6 : Int32) &&& 31)) >>> ((4 : Int32) &&& 31)) 3)) 0 0 4)) (k := opK q ((v >>> ((6 : Int32) &&& 31)) &&& (1 : Int32)) (lowF ((v >>> ((6 : Int32) &&& 31)) >>> ((1 : Int32) &&& 31)) 7) ((7 : Int32) + (lowF ((v >>> ((6 : Int32) &&& 31)) >>> ((4 : Int32) &&& 31)) 3)) 0 0 4) (x := opX q ((v >>> ((6 : Int32) &&& 31)) &&& (1 : Int32)) (lowF ((v >>> ((6 : Int32) &&& 31)) >>> ((1 : Int32) &&& 31)) 7) ((7 : Int32) + (lowF ((v >>> ((6 : Int32) &&& 31)) >>> ((4 : Int32) &&& 31)) 3)) 0 0 4) (P1_use hT) P1_next rfl (fun B h1 h2 h3 h4 => ds_4 h1 h2 h3 h4 G ((v >>> ((6 : Int32) &&& 31)) &&& (1 : Int32)) (lowF ((v >>> ((6 : Int32) &&& 31)) >>> ((1 : Int32) &&& 31)) 7) ((7 : Int32) + (lowF ((v >>> ((6 : Int32) &&& 31)) >>> ((4 : Int32) &&& 31)) 3)) 0 0 (Gn ((v >>> ((6 : Int32) &&& 31)) &&& (1 : Int32)) (lowF ((v >>> ((6 : Int32) &&& 31)) >>> ((1 : Int32) &&& 31)) 7) ((7 : Int32) + (lowF ((v >>> ((6 : Int32) &&& 31)) >>> ((4 : Int32) &&& 31)) 3)) 0 0 4)) dL_act_401 (by unfold rmP; decide) rfl (Nat.le_of_ble_eq_true rfl) (by omega) ?_
            exact g_iret dL_act_404 (Or.inl rfl) H
          · have H := H.2 c
            refine g_aload_n dL_act_310 rfl ?_
            refine g_iconst (v := 3) dL_act_311 (by decide) ?_
            refine g_iload_n dL_act_312 rfl ?_
            refine g_if_eq (tgt := 327) dL_act_313 (by decide) (fun _ => ?_) (fun c => absurd c (by decide))
            refine g_iload dL_act_327 rfl ?_
            refine g_iconst (v := 1) dL_act_329 (by decide) ?_
            refine g_iand dL_act_330 ?_
            refine g_iload dL_act_331 rfl ?_
            refine g_iconst (v := 1) dL_act_333 (by decide) ?_
            refine g_ishr dL_act_334 ?_
            refine g_bipush (v := 10) dL_act_335 (by decide) ?_
            refine g_low rfl rfl dL_act_337 (by unfold rmP; decide) (Nat.le_of_ble_eq_true rfl) (by decide) ?_
            refine g_iload dL_act_340 rfl ?_
            refine g_iconst (v := 5) dL_act_342 (by decide) ?_
            refine g_ishr dL_act_343 ?_
            refine g_iload_n dL_act_344 rfl ?_
            refine g_if_eq (tgt := 352) dL_act_345 (by decide) (fun _ => ?_) (fun c => absurd c (by decide))
            refine g_iconst (v := 3) dL_act_352 (by decide) ?_
            refine g_low rfl rfl dL_act_353 (by unfold rmP; decide) (Nat.le_of_ble_eq_true rfl) (by decide) ?_
            refine g_iconst (v := 0) dL_act_356 (by decide) ?_
            refine g_iconst (v := 0) dL_act_357 (by decide) ?_
            refine g_does (As := [.ref b, .int 3, .int ((v >>> ((6 : Int32) &&& 31)) &&& (1 : Int32)), .int (lowF ((v >>> ((6 : Int32) &&& 31)) >>> ((1 : Int32) &&& 31)) 10), .int (lowF ((v >>> ((6 : Int32) &&& 31)) >>> ((5 : Int32) &&& 31)) 3), .int 0, .int 0]) (st := []) (q := q) (q' := (opN q ((v >>> ((6 : Int32) &&& 31)) &&& (1 : Int32)) (lowF ((v >>> ((6 : Int32) &&& 31)) >>> ((1 : Int32) &&& 31)) 10) (lowF ((v >>> ((6 : Int32) &&& 31)) >>> ((5 : Int32) &&& 31)) 3) 0 0 3)) (s' := (opN q ((v >>> ((6 : Int32) &&& 31)) &&& (1 : Int32)) (lowF ((v >>> ((6 : Int32) &&& 31)) >>> ((1 : Int32) &&& 31)) 10) (lowF ((v >>> ((6 : Int32) &&& 31)) >>> ((5 : Int32) &&& 31)) 3) 0 0 3)) (k := opK q ((v >>> ((6 : Int32) &&& 31)) &&& (1 : Int32)) (lowF ((v >>> ((6 : Int32) &&& 31)) >>> ((1 : Int32) &&& 31)) 10) (lowF ((v >>> ((6 : Int32) &&& 31)) >>> ((5 : Int32) &&& 31)) 3) 0 0 3) (x := opX q ((v >>> ((6 : Int32) &&& 31)) &&& (1 : Int32)) (lowF ((v >>> ((6 : Int32) &&& 31)) >>> ((1 : Int32) &&& 31)) 10) (lowF ((v >>> ((6 : Int32) &&& 31)) >>> ((5 : Int32) &&& 31)) 3) 0 0 3) (P1_use hT) P1_next rfl (fun B h1 h2 h3 h4 => ds_3 h1 h2 h3 h4 G ((v >>> ((6 : Int32) &&& 31)) &&& (1 : Int32)) (lowF ((v >>> ((6 : Int32) &&& 31)) >>> ((1 : Int32) &&& 31)) 10) (lowF ((v >>> ((6 : Int32) &&& 31)) >>> ((5 : Int32) &&& 31)) 3) 0 0 (Gn ((v >>> ((6 : Int32) &&& 31)) &&& (1 : Int32)) (lowF ((v >>> ((6 : Int32) &&& 31)) >>> ((1 : Int32) &&& 31)) 10) (lowF ((v >>> ((6 : Int32) &&& 31)) >>> ((5 : Int32) &&& 31)) 3) 0 0 3)) dL_act_358 (by unfold rmP; decide) rfl (Nat.le_of_ble_eq_true rfl) (by omega) ?_
            refine g_goto (tgt := 404) dL_act_361 (by decide) ?_
            exact g_iret dL_act_404 (Or.inl rfl) H
      · have H := H.2 c
        refine g_iload_n dL_act_144 rfl ?_
        refine g_bipush (v := 14) dL_act_145 (by decide) ?_
        refine g_icmp_ge (tgt := 154) dL_act_147 (by decide) (fun c => ?_) (fun c => ?_)
        · have H := H.1 c
          refine g_iload_n dL_act_154 rfl ?_
          refine g_bipush (v := 14) dL_act_155 (by decide) ?_
          refine g_icmp_ne (tgt := 164) dL_act_157 (by decide) (fun c => ?_) (fun c => ?_)
          · have H := H.1 c
            refine g_iload_n dL_act_164 rfl ?_
            refine g_bipush (v := 15) dL_act_165 (by decide) ?_
            refine g_icmp_ne (tgt := 174) dL_act_167 (by decide) (fun c => ?_) (fun c => ?_)
            · have H := H.1 c
              refine g_iload_n dL_act_174 rfl ?_
              refine g_bipush (v := 21) dL_act_175 (by decide) ?_
              refine g_icmp_ge (tgt := 184) dL_act_177 (by decide) (fun c => ?_) (fun c => ?_)
              · have H := H.1 c
                refine g_iload_n dL_act_184 rfl ?_
                refine g_bipush (v := 21) dL_act_185 (by decide) ?_
                refine g_icmp_ne (tgt := 194) dL_act_187 (by decide) (fun c => ?_) (fun c => ?_)
                · have H := H.1 c
                  refine g_iload_n dL_act_194 rfl ?_
                  refine g_bipush (v := 22) dL_act_195 (by decide) ?_
                  refine g_icmp_ne (tgt := 204) dL_act_197 (by decide) (fun c => ?_) (fun c => ?_)
                  · have H := H.1 c
                    refine g_bipush (v := 6) dL_act_204 (by decide) ?_
                    refine gt_istore (L' := [(5, .int 6), (4, .int (v >>> ((6 : Int32) &&& 31))), (3, .int (lowF v 40)), (2, .int 0), (0, .ref b), (1, .int v)]) dL_act_206 (by decide) rfl ?_
                    refine g_aload_n dL_act_208 rfl ?_
                    refine g_iconst (v := 2) dL_act_209 (by decide) ?_
                    refine g_iload dL_act_210 rfl ?_
                    refine g_iload dL_act_212 rfl ?_
                    refine g_if_ne (tgt := 236) dL_act_214 (by decide) (fun _ => ?_) (fun c => absurd c (by decide))
                    refine g_iconst (v := (-1)) dL_act_236 (by decide) ?_
                    refine g_iload dL_act_237 rfl ?_
                    refine g_bipush (v := 6) dL_act_239 (by decide) ?_
                    refine g_icmp_ne (tgt := 250) dL_act_241 (by decide) (fun c => absurd c (by decide)) (fun _ => ?_)
                    refine g_sipush (v := 300) dL_act_244 (by decide) ?_
                    refine g_goto (tgt := 292) dL_act_247 (by decide) ?_
                    refine g_iconst (v := 0) dL_act_292 (by decide) ?_
                    refine g_iconst (v := 0) dL_act_293 (by decide) ?_
                    refine g_does (As := [.ref b, .int 2, .int 6, .int (-1), .int 300, .int 0, .int 0]) (st := []) (q := q) (q' := (opN q 6 (-1) 300 0 0 2)) (s' := (opN q 6 (-1) 300 0 0 2)) (k := opK q 6 (-1) 300 0 0 2) (x := opX q 6 (-1) 300 0 0 2) (P1_use hT) P1_next rfl (fun B h1 h2 h3 h4 => ds_2 h1 h2 h3 h4 G 6 (-1) 300 0 0 (Gn 6 (-1) 300 0 0 2)) dL_act_294 (by unfold rmP; decide) rfl (Nat.le_of_ble_eq_true rfl) (by omega) ?_
                    exact g_iret dL_act_297 (Or.inl rfl) H
                  · have H := H.2 c
                    refine g_iconst (v := 5) dL_act_200 (by decide) ?_
                    refine g_goto (tgt := 206) dL_act_201 (by decide) ?_
                    refine gt_istore (L' := [(5, .int 5), (4, .int (v >>> ((6 : Int32) &&& 31))), (3, .int (lowF v 40)), (2, .int 0), (0, .ref b), (1, .int v)]) dL_act_206 (by decide) rfl ?_
                    refine g_aload_n dL_act_208 rfl ?_
                    refine g_iconst (v := 2) dL_act_209 (by decide) ?_
                    refine g_iload dL_act_210 rfl ?_
                    refine g_iload dL_act_212 rfl ?_
                    refine g_if_ne (tgt := 236) dL_act_214 (by decide) (fun _ => ?_) (fun c => absurd c (by decide))
                    refine g_iconst (v := (-1)) dL_act_236 (by decide) ?_
                    refine g_iload dL_act_237 rfl ?_
                    refine g_bipush (v := 6) dL_act_239 (by decide) ?_
                    refine g_icmp_ne (tgt := 250) dL_act_241 (by decide) (fun _ => ?_) (fun c => absurd c (by decide))
                    refine g_iload dL_act_250 rfl ?_
                    refine g_iconst (v := 3) dL_act_252 (by decide) ?_
                    refine g_icmp_ge (tgt := 270) dL_act_253 (by decide) (fun _ => ?_) (fun c => absurd c (by decide))
                    refine g_bipush (v := 61) dL_act_270 (by decide) ?_
                    refine g_iload dL_act_272 rfl ?_
                    refine g_iconst (v := 4) dL_act_274 (by decide) ?_
                    refine g_ishr dL_act_275 ?_
                    refine g_iload_n dL_act_276 rfl ?_
                    refine g_if_eq (tgt := 286) dL_act_277 (by decide) (fun _ => ?_) (fun c => absurd c (by decide))
                    refine g_bipush (v := 100) dL_act_286 (by decide) ?_
                    refine g_low rfl rfl dL_act_288 (by unfold rmP; decide) (Nat.le_of_ble_eq_true rfl) (by decide) ?_
                    refine g_iadd dL_act_291 ?_
                    refine g_iconst (v := 0) dL_act_292 (by decide) ?_
                    refine g_iconst (v := 0) dL_act_293 (by decide) ?_
                    refine g_does (As := [.ref b, .int 2, .int 5, .int (-1), .int ((61 : Int32) + (lowF ((v >>> ((6 : Int32) &&& 31)) >>> ((4 : Int32) &&& 31)) 100)), .int 0, .int 0]) (st := []) (q := q) (q' := (opN q 5 (-1) ((61 : Int32) + (lowF ((v >>> ((6 : Int32) &&& 31)) >>> ((4 : Int32) &&& 31)) 100)) 0 0 2)) (s' := (opN q 5 (-1) ((61 : Int32) + (lowF ((v >>> ((6 : Int32) &&& 31)) >>> ((4 : Int32) &&& 31)) 100)) 0 0 2)) (k := opK q 5 (-1) ((61 : Int32) + (lowF ((v >>> ((6 : Int32) &&& 31)) >>> ((4 : Int32) &&& 31)) 100)) 0 0 2) (x := opX q 5 (-1) ((61 : Int32) + (lowF ((v >>> ((6 : Int32) &&& 31)) >>> ((4 : Int32) &&& 31)) 100)) 0 0 2) (P1_use hT) P1_next rfl (fun B h1 h2 h3 h4 => ds_2 h1 h2 h3 h4 G 5 (-1) ((61 : Int32) + (lowF ((v >>> ((6 : Int32) &&& 31)) >>> ((4 : Int32) &&& 31)) 100)) 0 0 (Gn 5 (-1) ((61 : Int32) + (lowF ((v >>> ((6 : Int32) &&& 31)) >>> ((4 : Int32) &&& 31)) 100)) 0 0 2)) dL_act_294 (by unfold rmP; decide) rfl (Nat.le_of_ble_eq_true rfl) (by omega) ?_
                    exact g_iret dL_act_297 (Or.inl rfl) H
                · have H := H.2 c
                  refine g_iconst (v := 4) dL_act_190 (by decide) ?_
                  refine g_goto (tgt := 206) dL_act_191 (by decide) ?_
                  refine gt_istore (L' := [(5, .int 4), (4, .int (v >>> ((6 : Int32) &&& 31))), (3, .int (lowF v 40)), (2, .int 0), (0, .ref b), (1, .int v)]) dL_act_206 (by decide) rfl ?_
                  refine g_aload_n dL_act_208 rfl ?_
                  refine g_iconst (v := 2) dL_act_209 (by decide) ?_
                  refine g_iload dL_act_210 rfl ?_
                  refine g_iload dL_act_212 rfl ?_
                  refine g_if_ne (tgt := 236) dL_act_214 (by decide) (fun _ => ?_) (fun c => absurd c (by decide))
                  refine g_iconst (v := (-1)) dL_act_236 (by decide) ?_
                  refine g_iload dL_act_237 rfl ?_
                  refine g_bipush (v := 6) dL_act_239 (by decide) ?_
                  refine g_icmp_ne (tgt := 250) dL_act_241 (by decide) (fun _ => ?_) (fun c => absurd c (by decide))
                  refine g_iload dL_act_250 rfl ?_
                  refine g_iconst (v := 3) dL_act_252 (by decide) ?_
                  refine g_icmp_ge (tgt := 270) dL_act_253 (by decide) (fun _ => ?_) (fun c => absurd c (by decide))
                  refine g_bipush (v := 61) dL_act_270 (by decide) ?_
                  refine g_iload dL_act_272 rfl ?_
                  refine g_iconst (v := 4) dL_act_274 (by decide) ?_
                  refine g_ishr dL_act_275 ?_
                  refine g_iload_n dL_act_276 rfl ?_
                  refine g_if_eq (tgt := 286) dL_act_277 (by decide) (fun _ => ?_) (fun c => absurd c (by decide))
                  refine g_bipush (v := 100) dL_act_286 (by decide) ?_
                  refine g_low rfl rfl dL_act_288 (by unfold rmP; decide) (Nat.le_of_ble_eq_true rfl) (by decide) ?_
                  refine g_iadd dL_act_291 ?_
                  refine g_iconst (v := 0) dL_act_292 (by decide) ?_
                  refine g_iconst (v := 0) dL_act_293 (by decide) ?_
                  refine g_does (As := [.ref b, .int 2, .int 4, .int (-1), .int ((61 : Int32) + (lowF ((v >>> ((6 : Int32) &&& 31)) >>> ((4 : Int32) &&& 31)) 100)), .int 0, .int 0]) (st := []) (q := q) (q' := (opN q 4 (-1) ((61 : Int32) + (lowF ((v >>> ((6 : Int32) &&& 31)) >>> ((4 : Int32) &&& 31)) 100)) 0 0 2)) (s' := (opN q 4 (-1) ((61 : Int32) + (lowF ((v >>> ((6 : Int32) &&& 31)) >>> ((4 : Int32) &&& 31)) 100)) 0 0 2)) (k := opK q 4 (-1) ((61 : Int32) + (lowF ((v >>> ((6 : Int32) &&& 31)) >>> ((4 : Int32) &&& 31)) 100)) 0 0 2) (x := opX q 4 (-1) ((61 : Int32) + (lowF ((v >>> ((6 : Int32) &&& 31)) >>> ((4 : Int32) &&& 31)) 100)) 0 0 2) (P1_use hT) P1_next rfl (fun B h1 h2 h3 h4 => ds_2 h1 h2 h3 h4 G 4 (-1) ((61 : Int32) + (lowF ((v >>> ((6 : Int32) &&& 31)) >>> ((4 : Int32) &&& 31)) 100)) 0 0 (Gn 4 (-1) ((61 : Int32) + (lowF ((v >>> ((6 : Int32) &&& 31)) >>> ((4 : Int32) &&& 31)) 100)) 0 0 2)) dL_act_294 (by unfold rmP; decide) rfl (Nat.le_of_ble_eq_true rfl) (by omega) ?_
                  exact g_iret dL_act_297 (Or.inl rfl) H
              · have H := H.2 c
                refine g_iconst (v := 3) dL_act_180 (by decide) ?_
                refine g_goto (tgt := 206) dL_act_181 (by decide) ?_
                refine gt_istore (L' := [(5, .int 3), (4, .int (v >>> ((6 : Int32) &&& 31))), (3, .int (lowF v 40)), (2, .int 0), (0, .ref b), (1, .int v)]) dL_act_206 (by decide) rfl ?_
                refine g_aload_n dL_act_208 rfl ?_
                refine g_iconst (v := 2) dL_act_209 (by decide) ?_
                refine g_iload dL_act_210 rfl ?_
                refine g_iload dL_act_212 rfl ?_
                refine g_if_ne (tgt := 236) dL_act_214 (by decide) (fun _ => ?_) (fun c => absurd c (by decide))
                refine g_iconst (v := (-1)) dL_act_236 (by decide) ?_
                refine g_iload dL_act_237 rfl ?_
                refine g_bipush (v := 6) dL_act_239 (by decide) ?_
                refine g_icmp_ne (tgt := 250) dL_act_241 (by decide) (fun _ => ?_) (fun c => absurd c (by decide))
                refine g_iload dL_act_250 rfl ?_
                refine g_iconst (v := 3) dL_act_252 (by decide) ?_
                refine g_icmp_ge (tgt := 270) dL_act_253 (by decide) (fun _ => ?_) (fun c => absurd c (by decide))
                refine g_bipush (v := 61) dL_act_270 (by decide) ?_
                refine g_iload dL_act_272 rfl ?_
                refine g_iconst (v := 4) dL_act_274 (by decide) ?_
                refine g_ishr dL_act_275 ?_
                refine g_iload_n dL_act_276 rfl ?_
                refine g_if_eq (tgt := 286) dL_act_277 (by decide) (fun _ => ?_) (fun c => absurd c (by decide))
                refine g_bipush (v := 100) dL_act_286 (by decide) ?_
                refine g_low rfl rfl dL_act_288 (by unfold rmP; decide) (Nat.le_of_ble_eq_true rfl) (by decide) ?_
                refine g_iadd dL_act_291 ?_
                refine g_iconst (v := 0) dL_act_292 (by decide) ?_
                refine g_iconst (v := 0) dL_act_293 (by decide) ?_
                refine g_does (As := [.ref b, .int 2, .int 3, .int (-1), .int ((61 : Int32) + (lowF ((v >>> ((6 : Int32) &&& 31)) >>> ((4 : Int32) &&& 31)) 100)), .int 0, .int 0]) (st := []) (q := q) (q' := (opN q 3 (-1) ((61 : Int32) + (lowF ((v >>> ((6 : Int32) &&& 31)) >>> ((4 : Int32) &&& 31)) 100)) 0 0 2)) (s' := (opN q 3 (-1) ((61 : Int32) + (lowF ((v >>> ((6 : Int32) &&& 31)) >>> ((4 : Int32) &&& 31)) 100)) 0 0 2)) (k := opK q 3 (-1) ((61 : Int32) + (lowF ((v >>> ((6 : Int32) &&& 31)) >>> ((4 : Int32) &&& 31)) 100)) 0 0 2) (x := opX q 3 (-1) ((61 : Int32) + (lowF ((v >>> ((6 : Int32) &&& 31)) >>> ((4 : Int32) &&& 31)) 100)) 0 0 2) (P1_use hT) P1_next rfl (fun B h1 h2 h3 h4 => ds_2 h1 h2 h3 h4 G 3 (-1) ((61 : Int32) + (lowF ((v >>> ((6 : Int32) &&& 31)) >>> ((4 : Int32) &&& 31)) 100)) 0 0 (Gn 3 (-1) ((61 : Int32) + (lowF ((v >>> ((6 : Int32) &&& 31)) >>> ((4 : Int32) &&& 31)) 100)) 0 0 2)) dL_act_294 (by unfold rmP; decide) rfl (Nat.le_of_ble_eq_true rfl) (by omega) ?_
                exact g_iret dL_act_297 (Or.inl rfl) H
            · have H := H.2 c
              refine g_iconst (v := 2) dL_act_170 (by decide) ?_
              refine g_goto (tgt := 206) dL_act_171 (by decide) ?_
              refine gt_istore (L' := [(5, .int 2), (4, .int (v >>> ((6 : Int32) &&& 31))), (3, .int (lowF v 40)), (2, .int 0), (0, .ref b), (1, .int v)]) dL_act_206 (by decide) rfl ?_
              refine g_aload_n dL_act_208 rfl ?_
              refine g_iconst (v := 2) dL_act_209 (by decide) ?_
              refine g_iload dL_act_210 rfl ?_
              refine g_iload dL_act_212 rfl ?_
              refine g_if_ne (tgt := 236) dL_act_214 (by decide) (fun _ => ?_) (fun c => absurd c (by decide))
              refine g_iconst (v := (-1)) dL_act_236 (by decide) ?_
              refine g_iload dL_act_237 rfl ?_
              refine g_bipush (v := 6) dL_act_239 (by decide) ?_
              refine g_icmp_ne (tgt := 250) dL_act_241 (by decide) (fun _ => ?_) (fun c => absurd c (by decide))
              refine g_iload dL_act_250 rfl ?_
              refine g_iconst (v := 3) dL_act_252 (by decide) ?_
              refine g_icmp_ge (tgt := 270) dL_act_253 (by decide) (fun c => absurd c (by decide)) (fun _ => ?_)
              refine g_iconst (v := 1) dL_act_256 (by decide) ?_
              refine g_iload dL_act_257 rfl ?_
              refine g_iconst (v := 4) dL_act_259 (by decide) ?_
              refine g_ishr dL_act_260 ?_
              refine g_bipush (v := 60) dL_act_261 (by decide) ?_
              refine g_low rfl rfl dL_act_263 (by unfold rmP; decide) (Nat.le_of_ble_eq_true rfl) (by decide) ?_
              refine g_iadd dL_act_266 ?_
              refine g_goto (tgt := 292) dL_act_267 (by decide) ?_
              refine g_iconst (v := 0) dL_act_292 (by decide) ?_
              refine g_iconst (v := 0) dL_act_293 (by decide) ?_
              refine g_does (As := [.ref b, .int 2, .int 2, .int (-1), .int ((1 : Int32) + (lowF ((v >>> ((6 : Int32) &&& 31)) >>> ((4 : Int32) &&& 31)) 60)), .int 0, .int 0]) (st := []) (q := q) (q' := (opN q 2 (-1) ((1 : Int32) + (lowF ((v >>> ((6 : Int32) &&& 31)) >>> ((4 : Int32) &&& 31)) 60)) 0 0 2)) (s' := (opN q 2 (-1) ((1 : Int32) + (lowF ((v >>> ((6 : Int32) &&& 31)) >>> ((4 : Int32) &&& 31)) 60)) 0 0 2)) (k := opK q 2 (-1) ((1 : Int32) + (lowF ((v >>> ((6 : Int32) &&& 31)) >>> ((4 : Int32) &&& 31)) 60)) 0 0 2) (x := opX q 2 (-1) ((1 : Int32) + (lowF ((v >>> ((6 : Int32) &&& 31)) >>> ((4 : Int32) &&& 31)) 60)) 0 0 2) (P1_use hT) P1_next rfl (fun B h1 h2 h3 h4 => ds_2 h1 h2 h3 h4 G 2 (-1) ((1 : Int32) + (lowF ((v >>> ((6 : Int32) &&& 31)) >>> ((4 : Int32) &&& 31)) 60)) 0 0 (Gn 2 (-1) ((1 : Int32) + (lowF ((v >>> ((6 : Int32) &&& 31)) >>> ((4 : Int32) &&& 31)) 60)) 0 0 2)) dL_act_294 (by unfold rmP; decide) rfl (Nat.le_of_ble_eq_true rfl) (by omega) ?_
              exact g_iret dL_act_297 (Or.inl rfl) H
          · have H := H.2 c
            refine g_iconst (v := 1) dL_act_160 (by decide) ?_
            refine g_goto (tgt := 206) dL_act_161 (by decide) ?_
            refine gt_istore (L' := [(5, .int 1), (4, .int (v >>> ((6 : Int32) &&& 31))), (3, .int (lowF v 40)), (2, .int 0), (0, .ref b), (1, .int v)]) dL_act_206 (by decide) rfl ?_
            refine g_aload_n dL_act_208 rfl ?_
            refine g_iconst (v := 2) dL_act_209 (by decide) ?_
            refine g_iload dL_act_210 rfl ?_
            refine g_iload dL_act_212 rfl ?_
            refine g_if_ne (tgt := 236) dL_act_214 (by decide) (fun _ => ?_) (fun c => absurd c (by decide))
            refine g_iconst (v := (-1)) dL_act_236 (by decide) ?_
            refine g_iload dL_act_237 rfl ?_
            refine g_bipush (v := 6) dL_act_239 (by decide) ?_
            refine g_icmp_ne (tgt := 250) dL_act_241 (by decide) (fun _ => ?_) (fun c => absurd c (by decide))
            refine g_iload dL_act_250 rfl ?_
            refine g_iconst (v := 3) dL_act_252 (by decide) ?_
            refine g_icmp_ge (tgt := 270) dL_act_253 (by decide) (fun c => absurd c (by decide)) (fun _ => ?_)
            refine g_iconst (v := 1) dL_act_256 (by decide) ?_
            refine g_iload dL_act_257 rfl ?_
            refine g_iconst (v := 4) dL_act_259 (by decide) ?_
            refine g_ishr dL_act_260 ?_
            refine g_bipush (v := 60) dL_act_261 (by decide) ?_
            refine g_low rfl rfl dL_act_263 (by unfold rmP; decide) (Nat.le_of_ble_eq_true rfl) (by decide) ?_
            refine g_iadd dL_act_266 ?_
            refine g_goto (tgt := 292) dL_act_267 (by decide) ?_
            refine g_iconst (v := 0) dL_act_292 (by decide) ?_
            refine g_iconst (v := 0) dL_act_293 (by decide) ?_
            refine g_does (As := [.ref b, .int 2, .int 1, .int (-1), .int ((1 : Int32) + (lowF ((v >>> ((6 : Int32) &&& 31)) >>> ((4 : Int32) &&& 31)) 60)), .int 0, .int 0]) (st := []) (q := q) (q' := (opN q 1 (-1) ((1 : Int32) + (lowF ((v >>> ((6 : Int32) &&& 31)) >>> ((4 : Int32) &&& 31)) 60)) 0 0 2)) (s' := (opN q 1 (-1) ((1 : Int32) + (lowF ((v >>> ((6 : Int32) &&& 31)) >>> ((4 : Int32) &&& 31)) 60)) 0 0 2)) (k := opK q 1 (-1) ((1 : Int32) + (lowF ((v >>> ((6 : Int32) &&& 31)) >>> ((4 : Int32) &&& 31)) 60)) 0 0 2) (x := opX q 1 (-1) ((1 : Int32) + (lowF ((v >>> ((6 : Int32) &&& 31)) >>> ((4 : Int32) &&& 31)) 60)) 0 0 2) (P1_use hT) P1_next rfl (fun B h1 h2 h3 h4 => ds_2 h1 h2 h3 h4 G 1 (-1) ((1 : Int32) + (lowF ((v >>> ((6 : Int32) &&& 31)) >>> ((4 : Int32) &&& 31)) 60)) 0 0 (Gn 1 (-1) ((1 : Int32) + (lowF ((v >>> ((6 : Int32) &&& 31)) >>> ((4 : Int32) &&& 31)) 60)) 0 0 2)) dL_act_294 (by unfold rmP; decide) rfl (Nat.le_of_ble_eq_true rfl) (by omega) ?_
            exact g_iret dL_act_297 (Or.inl rfl) H
        · have H := H.2 c
          refine g_iconst (v := 0) dL_act_150 (by decide) ?_
          refine g_goto (tgt := 206) dL_act_151 (by decide) ?_
          refine gt_istore (L' := [(5, .int 0), (4, .int (v >>> ((6 : Int32) &&& 31))), (3, .int (lowF v 40)), (2, .int 0), (0, .ref b), (1, .int v)]) dL_act_206 (by decide) rfl ?_
          refine g_aload_n dL_act_208 rfl ?_
          refine g_iconst (v := 2) dL_act_209 (by decide) ?_
          refine g_iload dL_act_210 rfl ?_
          refine g_iload dL_act_212 rfl ?_
          refine g_if_ne (tgt := 236) dL_act_214 (by decide) (fun c => absurd c (by decide)) (fun _ => ?_)
          refine g_iload dL_act_217 rfl ?_
          refine g_iload_n dL_act_219 rfl ?_
          refine g_if_eq (tgt := 228) dL_act_220 (by decide) (fun _ => ?_) (fun c => absurd c (by decide))
          refine g_bipush (v := 7) dL_act_228 (by decide) ?_
          refine g_low rfl rfl dL_act_230 (by unfold rmP; decide) (Nat.le_of_ble_eq_true rfl) (by decide) ?_
          refine g_goto (tgt := 237) dL_act_233 (by decide) ?_
          refine g_iload dL_act_237 rfl ?_
          refine g_bipush (v := 6) dL_act_239 (by decide) ?_
          refine g_icmp_ne (tgt := 250) dL_act_241 (by decide) (fun _ => ?_) (fun c => absurd c (by decide))
          refine g_iload dL_act_250 rfl ?_
          refine g_iconst (v := 3) dL_act_252 (by decide) ?_
          refine g_icmp_ge (tgt := 270) dL_act_253 (by decide) (fun c => absurd c (by decide)) (fun _ => ?_)
          refine g_iconst (v := 1) dL_act_256 (by decide) ?_
          refine g_iload dL_act_257 rfl ?_
          refine g_iconst (v := 4) dL_act_259 (by decide) ?_
          refine g_ishr dL_act_260 ?_
          refine g_bipush (v := 60) dL_act_261 (by decide) ?_
          refine g_low rfl rfl dL_act_263 (by unfold rmP; decide) (Nat.le_of_ble_eq_true rfl) (by decide) ?_
          refine g_iadd dL_act_266 ?_
          refine g_goto (tgt := 292) dL_act_267 (by decide) ?_
          refine g_iconst (v := 0) dL_act_292 (by decide) ?_
          refine g_iconst (v := 0) dL_act_293 (by decide) ?_
          refine g_does (As := [.ref b, .int 2, .int 0, .int (lowF (v >>> ((6 : Int32) &&& 31)) 7), .int ((1 : Int32) + (lowF ((v >>> ((6 : Int32) &&& 31)) >>> ((4 : Int32) &&& 31)) 60)), .int 0, .int 0]) (st := []) (q := q) (q' := (opN q 0 (lowF (v >>> ((6 : Int32) &&& 31)) 7) ((1 : Int32) + (lowF ((v >>> ((6 : Int32) &&& 31)) >>> ((4 : Int32) &&& 31)) 60)) 0 0 2)) (s' := (opN q 0 (lowF (v >>> ((6 : Int32) &&& 31)) 7) ((1 : Int32) + (lowF ((v >>> ((6 : Int32) &&& 31)) >>> ((4 : Int32) &&& 31)) 60)) 0 0 2)) (k := opK q 0 (lowF (v >>> ((6 : Int32) &&& 31)) 7) ((1 : Int32) + (lowF ((v >>> ((6 : Int32) &&& 31)) >>> ((4 : Int32) &&& 31)) 60)) 0 0 2) (x := opX q 0 (lowF (v >>> ((6 : Int32) &&& 31)) 7) ((1 : Int32) + (lowF ((v >>> ((6 : Int32) &&& 31)) >>> ((4 : Int32) &&& 31)) 60)) 0 0 2) (P1_use hT) P1_next rfl (fun B h1 h2 h3 h4 => ds_2 h1 h2 h3 h4 G 0 (lowF (v >>> ((6 : Int32) &&& 31)) 7) ((1 : Int32) + (lowF ((v >>> ((6 : Int32) &&& 31)) >>> ((4 : Int32) &&& 31)) 60)) 0 0 (Gn 0 (lowF (v >>> ((6 : Int32) &&& 31)) 7) ((1 : Int32) + (lowF ((v >>> ((6 : Int32) &&& 31)) >>> ((4 : Int32) &&& 31)) 60)) 0 0 2)) dL_act_294 (by unfold rmP; decide) rfl (Nat.le_of_ble_eq_true rfl) (by omega) ?_
          exact g_iret dL_act_297 (Or.inl rfl) H
    · have H := H.2 c
      refine g_iload_n dL_act_37 rfl ?_
      refine g_bipush (v := 7) dL_act_38 (by decide) ?_
      refine g_icmp_ge (tgt := 78) dL_act_40 (by decide) (fun c => ?_) (fun c => ?_)
      · have H := H.1 c
        refine g_aload_n dL_act_78 rfl ?_
        refine g_iconst (v := 0) dL_act_79 (by decide) ?_
        refine g_iload dL_act_80 rfl ?_
        refine g_iload_n dL_act_82 rfl ?_
        refine g_if_eq (tgt := 91) dL_act_83 (by decide) (fun _ => ?_) (fun c => absurd c (by decide))
        refine g_bipush (v := 8) dL_act_91 (by decide) ?_
        refine g_low rfl rfl dL_act_93 (by unfold rmP; decide) (Nat.le_of_ble_eq_true rfl) (by decide) ?_
        refine g_iload dL_act_96 rfl ?_
        refine g_iconst (v := 3) dL_act_98 (by decide) ?_
        refine g_ishr dL_act_99 ?_
        refine g_bipush (v := 8) dL_act_100 (by decide) ?_
        refine g_low rfl rfl dL_act_102 (by unfold rmP; decide) (Nat.le_of_ble_eq_true rfl) (by decide) ?_
        refine g_sipush (v := 300) dL_act_105 (by decide) ?_
        refine g_iload dL_act_108 rfl ?_
        refine g_bipush (v := 6) dL_act_110 (by decide) ?_
        refine g_ishr dL_act_112 ?_
        refine g_sipush (v := 2000) dL_act_113 (by decide) ?_
        refine g_low rfl rfl dL_act_116 (by unfold rmP; decide) (Nat.le_of_ble_eq_true rfl) (by decide) ?_
        refine g_iadd dL_act_119 ?_
        refine g_iload_n dL_act_120 rfl ?_
        refine g_if_eq (tgt := 130) dL_act_121 (by decide) (fun _ => ?_) (fun c => absurd c (by decide))
        refine g_iconst (v := 0) dL_act_130 (by decide) ?_
        refine g_isub dL_act_131 ?_
        refine g_iconst (v := 0) dL_act_132 (by decide) ?_
        refine g_iconst (v := 0) dL_act_133 (by decide) ?_
        refine g_does (As := [.ref b, .int 0, .int (lowF (v >>> ((6 : Int32) &&& 31)) 8), .int (lowF ((v >>> ((6 : Int32) &&& 31)) >>> ((3 : Int32) &&& 31)) 8), .int (((300 : Int32) + (lowF ((v >>> ((6 : Int32) &&& 31)) >>> ((6 : Int32) &&& 31)) 2000)) - (0 : Int32)), .int 0, .int 0]) (st := []) (q := q) (q' := (opN q (lowF (v >>> ((6 : Int32) &&& 31)) 8) (lowF ((v >>> ((6 : Int32) &&& 31)) >>> ((3 : Int32) &&& 31)) 8) (((300 : Int32) + (lowF ((v >>> ((6 : Int32) &&& 31)) >>> ((6 : Int32) &&& 31)) 2000)) - (0 : Int32)) 0 0 0)) (s' := (opN q (lowF (v >>> ((6 : Int32) &&& 31)) 8) (lowF ((v >>> ((6 : Int32) &&& 31)) >>> ((3 : Int32) &&& 31)) 8) (((300 : Int32) + (lowF ((v >>> ((6 : Int32) &&& 31)) >>> ((6 : Int32) &&& 31)) 2000)) - (0 : Int32)) 0 0 0)) (k := opK q (lowF (v >>> ((6 : Int32) &&& 31)) 8) (lowF ((v >>> ((6 : Int32) &&& 31)) >>> ((3 : Int32) &&& 31)) 8) (((300 : Int32) + (lowF ((v >>> ((6 : Int32) &&& 31)) >>> ((6 : Int32) &&& 31)) 2000)) - (0 : Int32)) 0 0 0) (x := opX q (lowF (v >>> ((6 : Int32) &&& 31)) 8) (lowF ((v >>> ((6 : Int32) &&& 31)) >>> ((3 : Int32) &&& 31)) 8) (((300 : Int32) + (lowF ((v >>> ((6 : Int32) &&& 31)) >>> ((6 : Int32) &&& 31)) 2000)) - (0 : Int32)) 0 0 0) (P1_use hT) P1_next rfl (fun B h1 h2 h3 h4 => ds_0 h1 h2 h3 h4 G (lowF (v >>> ((6 : Int32) &&& 31)) 8) (lowF ((v >>> ((6 : Int32) &&& 31)) >>> ((3 : Int32) &&& 31)) 8) (((300 : Int32) + (lowF ((v >>> ((6 : Int32) &&& 31)) >>> ((6 : Int32) &&& 31)) 2000)) - (0 : Int32)) 0 0 (Gn (lowF (v >>> ((6 : Int32) &&& 31)) 8) (lowF ((v >>> ((6 : Int32) &&& 31)) >>> ((3 : Int32) &&& 31)) 8) (((300 : Int32) + (lowF ((v >>> ((6 : Int32) &&& 31)) >>> ((6 : Int32) &&& 31)) 2000)) - (0 : Int32)) 0 0 0)) dL_act_134 (by unfold rmP; decide) rfl (Nat.le_of_ble_eq_true rfl) (by omega) ?_
        exact g_iret dL_act_137 (Or.inl rfl) H
      · have H := H.2 c
        refine g_aload_n dL_act_43 rfl ?_
        refine g_iconst (v := 1) dL_act_44 (by decide) ?_
        refine g_iload_n dL_act_45 rfl ?_
        refine g_if_eq (tgt := 61) dL_act_46 (by decide) (fun _ => ?_) (fun c => absurd c (by decide))
        refine g_iload dL_act_61 rfl ?_
        refine g_bipush (v := 7) dL_act_63 (by decide) ?_
        refine g_low rfl rfl dL_act_65 (by unfold rmP; decide) (Nat.le_of_ble_eq_true rfl) (by decide) ?_
        refine g_iconst (v := 0) dL_act_68 (by decide) ?_
        refine g_iconst (v := 0) dL_act_69 (by decide) ?_
        refine g_iconst (v := 0) dL_act_70 (by decide) ?_
        refine g_iconst (v := 0) dL_act_71 (by decide) ?_
        refine g_does (As := [.ref b, .int 1, .int (lowF (v >>> ((6 : Int32) &&& 31)) 7), .int 0, .int 0, .int 0, .int 0]) (st := []) (q := q) (q' := (opN q (lowF (v >>> ((6 : Int32) &&& 31)) 7) 0 0 0 0 1)) (s' := (opN q (lowF (v >>> ((6 : Int32) &&& 31)) 7) 0 0 0 0 1)) (k := opK q (lowF (v >>> ((6 : Int32) &&& 31)) 7) 0 0 0 0 1) (x := opX q (lowF (v >>> ((6 : Int32) &&& 31)) 7) 0 0 0 0 1) (P1_use hT) P1_next rfl (fun B h1 h2 h3 h4 => ds_1 h1 h2 h3 h4 G (lowF (v >>> ((6 : Int32) &&& 31)) 7) 0 0 0 0 (Gn (lowF (v >>> ((6 : Int32) &&& 31)) 7) 0 0 0 0 1)) dL_act_72 (by unfold rmP; decide) rfl (Nat.le_of_ble_eq_true rfl) (by omega) ?_
        refine g_goto (tgt := 137) dL_act_75 (by decide) ?_
        exact g_iret dL_act_137 (Or.inl rfl) H
  · have H := H.2 c
    refine g_iconst (v := 1) dL_act_12 (by decide) ?_
    refine g_goto (tgt := 17) dL_act_13 (by decide) ?_
    refine gt_istore_n (L' := [(2, .int 1), (0, .ref b), (1, .int v)]) dL_act_17 (by decide) rfl ?_
    refine g_iload_n dL_act_18 rfl ?_
    refine g_bipush (v := 40) dL_act_19 (by decide) ?_
    refine g_low rfl rfl dL_act_21 (by unfold rmP; decide) (Nat.le_of_ble_eq_true rfl) (by decide) ?_
    refine gt_istore_n (L' := [(3, .int (lowF v 40)), (2, .int 1), (0, .ref b), (1, .int v)]) dL_act_24 (by decide) rfl ?_
    refine g_iload_n dL_act_25 rfl ?_
    refine g_bipush (v := 6) dL_act_26 (by decide) ?_
    refine g_ishr dL_act_28 ?_
    refine gt_istore (L' := [(4, .int (v >>> ((6 : Int32) &&& 31))), (3, .int (lowF v 40)), (2, .int 1), (0, .ref b), (1, .int v)]) dL_act_29 (by decide) rfl ?_
    refine g_iload_n dL_act_31 rfl ?_
    refine g_bipush (v := 8) dL_act_32 (by decide) ?_
    refine g_icmp_ge (tgt := 138) dL_act_34 (by decide) (fun c => ?_) (fun c => ?_)
    · have H := H.1 c
      refine g_iload_n dL_act_138 rfl ?_
      refine g_bipush (v := 24) dL_act_139 (by decide) ?_
      refine g_icmp_ge (tgt := 298) dL_act_141 (by decide) (fun c => ?_) (fun c => ?_)
      · have H := H.1 c
        refine g_iload_n dL_act_298 rfl ?_
        refine g_bipush (v := 28) dL_act_299 (by decide) ?_
        refine g_icmp_ge (tgt := 405) dL_act_301 (by decide) (fun c => ?_) (fun c => ?_)
        · have H := H.1 c
          refine g_iload_n dL_act_405 rfl ?_
          refine g_bipush (v := 32) dL_act_406 (by decide) ?_
          refine g_icmp_ge (tgt := 524) dL_act_408 (by decide) (fun c => ?_) (fun c => ?_)
          · have H := H.1 c
            refine g_iload_n dL_act_524 rfl ?_
            refine g_bipush (v := 35) dL_act_525 (by decide) ?_
            refine g_icmp_ge (tgt := 593) dL_act_527 (by decide) (fun c => ?_) (fun c => ?_)
            · have H := H.1 c
              refine g_iload_n dL_act_593 rfl ?_
              refine g_bipush (v := 35) dL_act_594 (by decide) ?_
              refine g_icmp_ne (tgt := 636) dL_act_596 (by decide) (fun c => ?_) (fun c => ?_)
              · have H := H.1 c
                refine g_iload_n dL_act_636 rfl ?_
                refine g_bipush (v := 36) dL_act_637 (by decide) ?_
                refine g_icmp_ne (tgt := 671) dL_act_639 (by decide) (fun c => ?_) (fun c => ?_)
                · have H := H.1 c
                  refine g_iload_n dL_act_671 rfl ?_
                  refine g_bipush (v := 37) dL_act_672 (by decide) ?_
                  refine g_icmp_ne (tgt := 725) dL_act_674 (by decide) (fun c => ?_) (fun c => ?_)
                  · have H := H.1 c
                    refine g_iload_n dL_act_725 rfl ?_
                    refine g_bipush (v := 38) dL_act_726 (by decide) ?_
                    refine g_icmp_ne (tgt := 745) dL_act_728 (by decide) (fun c => ?_) (fun c => ?_)
                    · have H := H.1 c
                      refine g_aload_n dL_act_745 rfl ?_
                      refine g_bipush (v := 28) dL_act_746 (by decide) ?_
                      refine g_iload dL_act_748 rfl ?_
                      refine g_iconst (v := 1) dL_act_750 (by decide) ?_
                      refine g_iand dL_act_751 ?_
                      refine g_iconst (v := 0) dL_act_752 (by decide) ?_
                      refine g_iconst (v := 0) dL_act_753 (by decide) ?_
                      refine g_iconst (v := 0) dL_act_754 (by decide) ?_
                      refine g_iconst (v := 0) dL_act_755 (by decide) ?_
                      refine g_does (As := [.ref b, .int 28, .int ((v >>> ((6 : Int32) &&& 31)) &&& (1 : Int32)), .int 0, .int 0, .int 0, .int 0]) (st := []) (q := q) (q' := (opN q ((v >>> ((6 : Int32) &&& 31)) &&& (1 : Int32)) 0 0 0 0 28)) (s' := (opN q ((v >>> ((6 : Int32) &&& 31)) &&& (1 : Int32)) 0 0 0 0 28)) (k := opK q ((v >>> ((6 : Int32) &&& 31)) &&& (1 : Int32)) 0 0 0 0 28) (x := opX q ((v >>> ((6 : Int32) &&& 31)) &&& (1 : Int32)) 0 0 0 0 28) (P1_use hT) P1_next rfl (fun B h1 h2 h3 h4 => ds_28 h1 h2 h3 h4 G ((v >>> ((6 : Int32) &&& 31)) &&& (1 : Int32)) 0 0 0 0 (Gn ((v >>> ((6 : Int32) &&& 31)) &&& (1 : Int32)) 0 0 0 0 28)) dL_act_756 (by unfold rmP; decide) rfl (Nat.le_of_ble_eq_true rfl) (by omega) ?_
                      exact g_iret dL_act_759 (Or.inl rfl) H
                    · have H := H.2 c
                      refine g_aload_n dL_act_731 rfl ?_
                      refine g_bipush (v := 27) dL_act_732 (by decide) ?_
                      refine g_iconst (v := 0) dL_act_734 (by decide) ?_
                      refine g_iconst (v := 0) dL_act_735 (by decide) ?_
                      refine g_iconst (v := 0) dL_act_736 (by decide) ?_
                      refine g_iconst (v := 0) dL_act_737 (by decide) ?_
                      refine g_iconst (v := 0) dL_act_738 (by decide) ?_
                      refine g_does (As := [.ref b, .int 27, .int 0, .int 0, .int 0, .int 0, .int 0]) (st := []) (q := q) (q' := (opN q 0 0 0 0 0 27)) (s' := (opN q 0 0 0 0 0 27)) (k := opK q 0 0 0 0 0 27) (x := opX q 0 0 0 0 0 27) (P1_use hT) P1_next rfl (fun B h1 h2 h3 h4 => ds_27 h1 h2 h3 h4 G 0 0 0 0 0 (Gn 0 0 0 0 0 27)) dL_act_739 (by unfold rmP; decide) rfl (Nat.le_of_ble_eq_true rfl) (by omega) ?_
                      refine g_goto (tgt := 759) dL_act_742 (by decide) ?_
                      exact g_iret dL_act_759 (Or.inl rfl) H
                  · have H := H.2 c
                    refine g_aload_n dL_act_677 rfl ?_
                    refine g_bipush (v := 26) dL_act_678 (by decide) ?_
                    refine g_iload dL_act_680 rfl ?_
                    refine g_bipush (v := 8) dL_act_682 (by decide) ?_
                    refine g_low rfl rfl dL_act_684 (by unfold rmP; decide) (Nat.le_of_ble_eq_true rfl) (by decide) ?_
                    refine g_iload_n dL_act_687 rfl ?_
                    refine g_if_eq (tgt := 704) dL_act_688 (by decide) (fun c => absurd c (by decide)) (fun _ => ?_)
                    refine g_iload dL_act_691 rfl ?_
                    refine g_iconst (v := 3) dL_act_693 (by decide) ?_
                    refine g_ishr dL_act_694 ?_
                    refine g_sipush (v := 1200) dL_act_695 (by decide) ?_
                    refine g_low rfl rfl dL_act_698 (by unfold rmP; decide) (Nat.le_of_ble_eq_true rfl) (by decide) ?_
                    refine g_goto (tgt := 716) dL_act_701 (by decide) ?_
                    refine g_iconst (v := 0) dL_act_716 (by decide) ?_
                    refine g_iconst (v := 0) dL_act_717 (by decide) ?_
                    refine g_iconst (v := 0) dL_act_718 (by decide) ?_
                    refine g_does (As := [.ref b, .int 26, .int (lowF (v >>> ((6 : Int32) &&& 31)) 8), .int (lowF ((v >>> ((6 : Int32) &&& 31)) >>> ((3 : Int32) &&& 31)) 1200), .int 0, .int 0, .int 0]) (st := []) (q := q) (q' := (opN q (lowF (v >>> ((6 : Int32) &&& 31)) 8) (lowF ((v >>> ((6 : Int32) &&& 31)) >>> ((3 : Int32) &&& 31)) 1200) 0 0 0 26)) (s' := (opN q (lowF (v >>> ((6 : Int32) &&& 31)) 8) (lowF ((v >>> ((6 : Int32) &&& 31)) >>> ((3 : Int32) &&& 31)) 1200) 0 0 0 26)) (k := opK q (lowF (v >>> ((6 : Int32) &&& 31)) 8) (lowF ((v >>> ((6 : Int32) &&& 31)) >>> ((3 : Int32) &&& 31)) 1200) 0 0 0 26) (x := opX q (lowF (v >>> ((6 : Int32) &&& 31)) 8) (lowF ((v >>> ((6 : Int32) &&& 31)) >>> ((3 : Int32) &&& 31)) 1200) 0 0 0 26) (P1_use hT) P1_next rfl (fun B h1 h2 h3 h4 => ds_26 h1 h2 h3 h4 G (lowF (v >>> ((6 : Int32) &&& 31)) 8) (lowF ((v >>> ((6 : Int32) &&& 31)) >>> ((3 : Int32) &&& 31)) 1200) 0 0 0 (Gn (lowF (v >>> ((6 : Int32) &&& 31)) 8) (lowF ((v >>> ((6 : Int32) &&& 31)) >>> ((3 : Int32) &&& 31)) 1200) 0 0 0 26)) dL_act_719 (by unfold rmP; decide) rfl (Nat.le_of_ble_eq_true rfl) (by omega) ?_
                    refine g_goto (tgt := 759) dL_act_722 (by decide) ?_
                    exact g_iret dL_act_759 (Or.inl rfl) H
                · have H := H.2 c
                  refine g_aload_n dL_act_642 rfl ?_
                  refine g_bipush (v := 25) dL_act_643 (by decide) ?_
                  refine g_iload dL_act_645 rfl ?_
                  refine g_iload_n dL_act_647 rfl ?_
                  refine g_if_eq (tgt := 656) dL_act_648 (by decide) (fun c => absurd c (by decide)) (fun _ => ?_)
                  refine g_bipush (v := 30) dL_act_651 (by decide) ?_
                  refine g_goto (tgt := 658) dL_act_653 (by decide) ?_
                  refine g_low rfl rfl dL_act_658 (by unfold rmP; decide) (Nat.le_of_ble_eq_true rfl) (by decide) ?_
                  refine g_iconst (v := 0) dL_act_661 (by decide) ?_
                  refine g_iconst (v := 0) dL_act_662 (by decide) ?_
                  refine g_iconst (v := 0) dL_act_663 (by decide) ?_
                  refine g_iconst (v := 0) dL_act_664 (by decide) ?_
                  refine g_does (As := [.ref b, .int 25, .int (lowF (v >>> ((6 : Int32) &&& 31)) 30), .int 0, .int 0, .int 0, .int 0]) (st := []) (q := q) (q' := (opN q (lowF (v >>> ((6 : Int32) &&& 31)) 30) 0 0 0 0 25)) (s' := (opN q (lowF (v >>> ((6 : Int32) &&& 31)) 30) 0 0 0 0 25)) (k := opK q (lowF (v >>> ((6 : Int32) &&& 31)) 30) 0 0 0 0 25) (x := opX q (lowF (v >>> ((6 : Int32) &&& 31)) 30) 0 0 0 0 25) (P1_use hT) P1_next rfl (fun B h1 h2 h3 h4 => ds_25 h1 h2 h3 h4 G (lowF (v >>> ((6 : Int32) &&& 31)) 30) 0 0 0 0 (Gn (lowF (v >>> ((6 : Int32) &&& 31)) 30) 0 0 0 0 25)) dL_act_665 (by unfold rmP; decide) rfl (Nat.le_of_ble_eq_true rfl) (by omega) ?_
                  refine g_goto (tgt := 759) dL_act_668 (by decide) ?_
                  exact g_iret dL_act_759 (Or.inl rfl) H
              · have H := H.2 c
                refine g_aload_n dL_act_599 rfl ?_
                refine g_bipush (v := 24) dL_act_600 (by decide) ?_
                refine g_iload dL_act_602 rfl ?_
                refine g_iload_n dL_act_604 rfl ?_
                refine g_if_eq (tgt := 613) dL_act_605 (by decide) (fun c => absurd c (by decide)) (fun _ => ?_)
                refine g_bipush (v := 10) dL_act_608 (by decide) ?_
                refine g_goto (tgt := 615) dL_act_610 (by decide) ?_
                refine g_low rfl rfl dL_act_615 (by unfold rmP; decide) (Nat.le_of_ble_eq_true rfl) (by decide) ?_
                refine g_iload dL_act_618 rfl ?_
                refine g_iconst (v := 3) dL_act_620 (by decide) ?_
                refine g_ishr dL_act_621 ?_
                refine g_bipush (v := 24) dL_act_622 (by decide) ?_
                refine g_low rfl rfl dL_act_624 (by unfold rmP; decide) (Nat.le_of_ble_eq_true rfl) (by decide) ?_
                refine g_iconst (v := 0) dL_act_627 (by decide) ?_
                refine g_iconst (v := 0) dL_act_628 (by decide) ?_
                refine g_iconst (v := 0) dL_act_629 (by decide) ?_
                refine g_does (As := [.ref b, .int 24, .int (lowF (v >>> ((6 : Int32) &&& 31)) 10), .int (lowF ((v >>> ((6 : Int32) &&& 31)) >>> ((3 : Int32) &&& 31)) 24), .int 0, .int 0, .int 0]) (st := []) (q := q) (q' := (opN q (lowF (v >>> ((6 : Int32) &&& 31)) 10) (lowF ((v >>> ((6 : Int32) &&& 31)) >>> ((3 : Int32) &&& 31)) 24) 0 0 0 24)) (s' := (opN q (lowF (v >>> ((6 : Int32) &&& 31)) 10) (lowF ((v >>> ((6 : Int32) &&& 31)) >>> ((3 : Int32) &&& 31)) 24) 0 0 0 24)) (k := opK q (lowF (v >>> ((6 : Int32) &&& 31)) 10) (lowF ((v >>> ((6 : Int32) &&& 31)) >>> ((3 : Int32) &&& 31)) 24) 0 0 0 24) (x := opX q (lowF (v >>> ((6 : Int32) &&& 31)) 10) (lowF ((v >>> ((6 : Int32) &&& 31)) >>> ((3 : Int32) &&& 31)) 24) 0 0 0 24) (P1_use hT) P1_next rfl (fun B h1 h2 h3 h4 => ds_24 h1 h2 h3 h4 G (lowF (v >>> ((6 : Int32) &&& 31)) 10) (lowF ((v >>> ((6 : Int32) &&& 31)) >>> ((3 : Int32) &&& 31)) 24) 0 0 0 (Gn (lowF (v >>> ((6 : Int32) &&& 31)) 10) (lowF ((v >>> ((6 : Int32) &&& 31)) >>> ((3 : Int32) &&& 31)) 24) 0 0 0 24)) dL_act_630 (by unfold rmP; decide) rfl (Nat.le_of_ble_eq_true rfl) (by omega) ?_
                refine g_goto (tgt := 759) dL_act_633 (by decide) ?_
                exact g_iret dL_act_759 (Or.inl rfl) H
            · have H := H.2 c
              refine g_iload_n dL_act_530 rfl ?_
              refine g_bipush (v := 32) dL_act_531 (by decide) ?_
              refine g_icmp_ne (tgt := 556) dL_act_533 (by decide) (fun c => ?_) (fun c => ?_)
              · have H := H.1 c
                refine g_iload_n dL_act_556 rfl ?_
                refine g_bipush (v := 33) dL_act_557 (by decide) ?_
                refine g_icmp_ne (tgt := 576) dL_act_559 (by decide) (fun c => ?_) (fun c => ?_)
                · have H := H.1 c
                  refine g_aload_n dL_act_576 rfl ?_
                  refine g_iconst (v := 1) dL_act_577 (by decide) ?_
                  refine g_iload dL_act_578 rfl ?_
                  refine g_bipush (v := 10) dL_act_580 (by decide) ?_
                  refine g_low rfl rfl dL_act_582 (by unfold rmP; decide) (Nat.le_of_ble_eq_true rfl) (by decide) ?_
                  refine g_iconst (v := 0) dL_act_585 (by decide) ?_
                  refine g_iconst (v := 0) dL_act_586 (by decide) ?_
                  refine g_iconst (v := 0) dL_act_587 (by decide) ?_
                  refine g_iconst (v := 0) dL_act_588 (by decide) ?_
                  refine g_does (As := [.ref b, .int 1, .int (lowF (v >>> ((6 : Int32) &&& 31)) 10), .int 0, .int 0, .int 0, .int 0]) (st := []) (q := q) (q' := (opN q (lowF (v >>> ((6 : Int32) &&& 31)) 10) 0 0 0 0 1)) (s' := (opN q (lowF (v >>> ((6 : Int32) &&& 31)) 10) 0 0 0 0 1)) (k := opK q (lowF (v >>> ((6 : Int32) &&& 31)) 10) 0 0 0 0 1) (x := opX q (lowF (v >>> ((6 : Int32) &&& 31)) 10) 0 0 0 0 1) (P1_use hT) P1_next rfl (fun B h1 h2 h3 h4 => ds_1 h1 h2 h3 h4 G (lowF (v >>> ((6 : Int32) &&& 31)) 10) 0 0 0 0 (Gn (lowF (v >>> ((6 : Int32) &&& 31)) 10) 0 0 0 0 1)) dL_act_589 (by unfold rmP; decide) rfl (Nat.le_of_ble_eq_true rfl) (by omega) ?_
                  exact g_iret dL_act_592 (Or.inl rfl) H
                · have H := H.2 c
                  refine g_aload_n dL_act_562 rfl ?_
                  refine g_bipush (v := 8) dL_act_563 (by decide) ?_
                  refine g_iconst (v := 0) dL_act_565 (by decide) ?_
                  refine g_iconst (v := 0) dL_act_566 (by decide) ?_
                  refine g_iconst (v := 0) dL_act_567 (by decide) ?_
                  refine g_iconst (v := 0) dL_act_568 (by decide) ?_
                  refine g_iconst (v := 0) dL_act_569 (by decide) ?_
                  refine g_does (As := [.ref b, .int 8, .int 0, .int 0, .int 0, .int 0, .int 0]) (st := []) (q := q) (q' := (opN q 0 0 0 0 0 8)) (s' := (opN q 0 0 0 0 0 8)) (k := opK q 0 0 0 0 0 8) (x := opX q 0 0 0 0 0 8) (P1_use hT) P1_next rfl (fun B h1 h2 h3 h4 => ds_8 h1 h2 h3 h4 G 0 0 0 0 0 (Gn 0 0 0 0 0 8)) dL_act_570 (by unfold rmP; decide) rfl (Nat.le_of_ble_eq_true rfl) (by omega) ?_
                  refine g_goto (tgt := 592) dL_act_573 (by decide) ?_
                  exact g_iret dL_act_592 (Or.inl rfl) H
              · have H := H.2 c
                refine g_aload_n dL_act_536 rfl ?_
                refine g_bipush (v := 7) dL_act_537 (by decide) ?_
                refine g_iload dL_act_539 rfl ?_
                refine g_bipush (v := 60) dL_act_541 (by decide) ?_
                refine g_low rfl rfl dL_act_543 (by unfold rmP; decide) (Nat.le_of_ble_eq_true rfl) (by decide) ?_
                refine g_iconst (v := 0) dL_act_546 (by decide) ?_
                refine g_iconst (v := 0) dL_act_547 (by decide) ?_
                refine g_iconst (v := 0) dL_act_548 (by decide) ?_
                refine g_iconst (v := 0) dL_act_549 (by decide) ?_
                refine g_does (As := [.ref b, .int 7, .int (lowF (v >>> ((6 : Int32) &&& 31)) 60), .int 0, .int 0, .int 0, .int 0]) (st := []) (q := q) (q' := (opN q (lowF (v >>> ((6 : Int32) &&& 31)) 60) 0 0 0 0 7)) (s' := (opN q (lowF (v >>> ((6 : Int32) &&& 31)) 60) 0 0 0 0 7)) (k := opK q (lowF (v >>> ((6 : Int32) &&& 31)) 60) 0 0 0 0 7) (x := opX q (lowF (v >>> ((6 : Int32) &&& 31)) 60) 0 0 0 0 7) (P1_use hT) P1_next rfl (fun B h1 h2 h3 h4 => ds_7 h1 h2 h3 h4 G (lowF (v >>> ((6 : Int32) &&& 31)) 60) 0 0 0 0 (Gn (lowF (v >>> ((6 : Int32) &&& 31)) 60) 0 0 0 0 7)) dL_act_550 (by unfold rmP; decide) rfl (Nat.le_of_ble_eq_true rfl) (by omega) ?_
                refine g_goto (tgt := 592) dL_act_553 (by decide) ?_
                exact g_iret dL_act_592 (Or.inl rfl) H
          · have H := H.2 c
            refine g_iload dL_act_411 rfl ?_
            refine g_iload_n dL_act_413 rfl ?_
            refine g_if_eq (tgt := 422) dL_act_414 (by decide) (fun c => absurd c (by decide)) (fun _ => ?_)
            refine g_bipush (v := 8) dL_act_417 (by decide) ?_
            refine g_goto (tgt := 424) dL_act_419 (by decide) ?_
            refine g_low rfl rfl dL_act_424 (by unfold rmP; decide) (Nat.le_of_ble_eq_true rfl) (by decide) ?_
            refine gt_istore (L' := [(5, .int (lowF (v >>> ((6 : Int32) &&& 31)) 8)), (4, .int (v >>> ((6 : Int32) &&& 31))), (3, .int (lowF v 40)), (2, .int 1), (0, .ref b), (1, .int v)]) dL_act_427 (by decide) rfl ?_
            refine g_iload dL_act_429 rfl ?_
            refine g_iconst (v := 3) dL_act_431 (by decide) ?_
            refine g_ishr dL_act_432 ?_
            refine g_bipush (v := 30) dL_act_433 (by decide) ?_
            refine g_low rfl rfl dL_act_435 (by unfold rmP; decide) (Nat.le_of_ble_eq_true rfl) (by decide) ?_
            refine gt_istore (L' := [(6, .int (lowF ((v >>> ((6 : Int32) &&& 31)) >>> ((3 : Int32) &&& 31)) 30)), (5, .int (lowF (v >>> ((6 : Int32) &&& 31)) 8)), (4, .int (v >>> ((6 : Int32) &&& 31))), (3, .int (lowF v 40)), (2, .int 1), (0, .ref b), (1, .int v)]) dL_act_438 (by decide) rfl ?_
            refine g_iload dL_act_440 rfl ?_
            refine g_bipush (v := 6) dL_act_442 (by decide) ?_
            refine g_ishr dL_act_444 ?_
            refine g_iconst (v := 3) dL_act_445 (by decide) ?_
            refine g_low rfl rfl dL_act_446 (by unfold rmP; decide) (Nat.le_of_ble_eq_true rfl) (by decide) ?_
            refine gt_istore (L' := [(7, .int (lowF ((v >>> ((6 : Int32) &&& 31)) >>> ((6 : Int32) &&& 31)) 3)), (6, .int (lowF ((v >>> ((6 : Int32) &&& 31)) >>> ((3 : Int32) &&& 31)) 30)), (5, .int (lowF (v >>> ((6 : Int32) &&& 31)) 8)), (4, .int (v >>> ((6 : Int32) &&& 31))), (3, .int (lowF v 40)), (2, .int 1), (0, .ref b), (1, .int v)]) dL_act_449 (by decide) rfl ?_
            refine g_iload dL_act_451 rfl ?_
            refine g_if_ne (tgt := 469) dL_act_453 (by decide) (fun c => ?_) (fun c => ?_)
            · have H := H.1 c
              refine g_iload_n dL_act_469 rfl ?_
              refine g_if_eq (tgt := 477) dL_act_470 (by decide) (fun c => absurd c (by decide)) (fun _ => ?_)
              refine g_iconst (v := 0) dL_act_473 (by decide) ?_
              refine g_goto (tgt := 478) dL_act_474 (by decide) ?_
              refine gt_istore (L' := [(8, .int 0), (7, .int (lowF ((v >>> ((6 : Int32) &&& 31)) >>> ((6 : Int32) &&& 31)) 3)), (6, .int (lowF ((v >>> ((6 : Int32) &&& 31)) >>> ((3 : Int32) &&& 31)) 30)), (5, .int (lowF (v >>> ((6 : Int32) &&& 31)) 8)), (4, .int (v >>> ((6 : Int32) &&& 31))), (3, .int (lowF v 40)), (2, .int 1), (0, .ref b), (1, .int v)]) dL_act_478 (by decide) rfl ?_
              refine g_iload_n dL_act_480 rfl ?_
              refine g_bipush (v := 30) dL_act_481 (by decide) ?_
              refine g_icmp_ge (tgt := 504) dL_act_483 (by decide) (fun c => ?_) (fun c => ?_)
              · have H := H.1 c
                refine g_aload_n dL_act_504 rfl ?_
                refine g_iconst (v := 5) dL_act_505 (by decide) ?_
                refine g_iload dL_act_506 rfl ?_
                refine g_iconst (v := 2) dL_act_508 (by decide) ?_
                refine g_ishr dL_act_509 ?_
                refine g_iconst (v := 1) dL_act_510 (by decide) ?_
                refine g_iand dL_act_511 ?_
                refine g_iload dL_act_512 rfl ?_
                refine g_iload dL_act_514 rfl ?_
                refine g_iload dL_act_516 rfl ?_
                refine g_iload dL_act_518 rfl ?_
                refine g_does (As := [.ref b, .int 5, .int (((v >>> ((6 : Int32) &&& 31)) >>> ((2 : Int32) &&& 31)) &&& (1 : Int32)), .int (lowF ((v >>> ((6 : Int32) &&& 31)) >>> ((3 : Int32) &&& 31)) 30), .int (lowF ((v >>> ((6 : Int32) &&& 31)) >>> ((6 : Int32) &&& 31)) 3), .int (lowF (v >>> ((6 : Int32) &&& 31)) 8), .int 0]) (st := []) (q := q) (q' := (opN q (((v >>> ((6 : Int32) &&& 31)) >>> ((2 : Int32) &&& 31)) &&& (1 : Int32)) (lowF ((v >>> ((6 : Int32) &&& 31)) >>> ((3 : Int32) &&& 31)) 30) (lowF ((v >>> ((6 : Int32) &&& 31)) >>> ((6 : Int32) &&& 31)) 3) (lowF (v >>> ((6 : Int32) &&& 31)) 8) 0 5)) (s' := (opN q (((v >>> ((6 : Int32) &&& 31)) >>> ((2 : Int32) &&& 31)) &&& (1 : Int32)) (lowF ((v >>> ((6 : Int32) &&& 31)) >>> ((3 : Int32) &&& 31)) 30) (lowF ((v >>> ((6 : Int32) &&& 31)) >>> ((6 : Int32) &&& 31)) 3) (lowF (v >>> ((6 : Int32) &&& 31)) 8) 0 5)) (k := opK q (((v >>> ((6 : Int32) &&& 31)) >>> ((2 : Int32) &&& 31)) &&& (1 : Int32)) (lowF ((v >>> ((6 : Int32) &&& 31)) >>> ((3 : Int32) &&& 31)) 30) (lowF ((v >>> ((6 : Int32) &&& 31)) >>> ((6 : Int32) &&& 31)) 3) (lowF (v >>> ((6 : Int32) &&& 31)) 8) 0 5) (x := opX q (((v >>> ((6 : Int32) &&& 31)) >>> ((2 : Int32) &&& 31)) &&& (1 : Int32)) (lowF ((v >>> ((6 : Int32) &&& 31)) >>> ((3 : Int32) &&& 31)) 30) (lowF ((v >>> ((6 : Int32) &&& 31)) >>> ((6 : Int32) &&& 31)) 3) (lowF (v >>> ((6 : Int32) &&& 31)) 8) 0 5) (P1_use hT) P1_next rfl (fun B h1 h2 h3 h4 => ds_5 h1 h2 h3 h4 G (((v >>> ((6 : Int32) &&& 31)) >>> ((2 : Int32) &&& 31)) &&& (1 : Int32)) (lowF ((v >>> ((6 : Int32) &&& 31)) >>> ((3 : Int32) &&& 31)) 30) (lowF ((v >>> ((6 : Int32) &&& 31)) >>> ((6 : Int32) &&& 31)) 3) (lowF (v >>> ((6 : Int32) &&& 31)) 8) 0 (Gn (((v >>> ((6 : Int32) &&& 31)) >>> ((2 : Int32) &&& 31)) &&& (1 : Int32)) (lowF ((v >>> ((6 : Int32) &&& 31)) >>> ((3 : Int32) &&& 31)) 30) (lowF ((v >>> ((6 : Int32) &&& 31)) >>> ((6 : Int32) &&& 31)) 3) (lowF (v >>> ((6 : Int32) &&& 31)) 8) 0 5)) dL_act_520 (by unfold rmP; decide) rfl (Nat.le_of_ble_eq_true rfl) (by omega) ?_
                exact g_iret dL_act_523 (Or.inl rfl) H
              · have H := H.2 c
                refine g_aload_n dL_act_486 rfl ?_
                refine g_bipush (v := 6) dL_act_487 (by decide) ?_
                refine g_iload dL_act_489 rfl ?_
                refine g_iload dL_act_491 rfl ?_
                refine g_iload dL_act_493 rfl ?_
                refine g_iload dL_act_495 rfl ?_
                refine g_iconst (v := 0) dL_act_497 (by decide) ?_
                refine g_does (As := [.ref b, .int 6, .int (lowF ((v >>> ((6 : Int32) &&& 31)) >>> ((3 : Int32) &&& 31)) 30), .int (lowF ((v >>> ((6 : Int32) &&& 31)) >>> ((6 : Int32) &&& 31)) 3), .int (lowF (v >>> ((6 : Int32) &&& 31)) 8), .int 0, .int 0]) (st := []) (q := q) (q' := q) (s' := q) (k := opK q (lowF ((v >>> ((6 : Int32) &&& 31)) >>> ((3 : Int32) &&& 31)) 30) (lowF ((v >>> ((6 : Int32) &&& 31)) >>> ((6 : Int32) &&& 31)) 3) (lowF (v >>> ((6 : Int32) &&& 31)) 8) 0 0 6) (x := opX q (lowF ((v >>> ((6 : Int32) &&& 31)) >>> ((3 : Int32) &&& 31)) 30) (lowF ((v >>> ((6 : Int32) &&& 31)) >>> ((6 : Int32) &&& 31)) 3) (lowF (v >>> ((6 : Int32) &&& 31)) 8) 0 0 6) (P1_use hT) P1_next rfl (fun B h1 h2 h3 h4 => ds_6 h1 h2 h3 h4 G (lowF ((v >>> ((6 : Int32) &&& 31)) >>> ((3 : Int32) &&& 31)) 30) (lowF ((v >>> ((6 : Int32) &&& 31)) >>> ((6 : Int32) &&& 31)) 3) (lowF (v >>> ((6 : Int32) &&& 31)) 8) 0 0 G) dL_act_498 (by unfold rmP; decide) rfl (Nat.le_of_ble_eq_true rfl) (by omega) ?_
                refine g_goto (tgt := 523) dL_act_501 (by decide) ?_
                exact g_iret dL_act_523 (Or.inl rfl) H
            · have H := H.2 c
              refine g_iload dL_act_456 rfl ?_
              refine g_bipush (v := 8) dL_act_458 (by decide) ?_
              refine g_ishr dL_act_460 ?_
              refine g_bipush (v := 8) dL_act_461 (by decide) ?_
              refine g_low rfl rfl dL_act_463 (by unfold rmP; decide) (Nat.le_of_ble_eq_true rfl) (by decide) ?_
              refine g_goto (tgt := 478) dL_act_466 (by decide) ?_
              refine gt_istore (L' := [(8, .int (lowF ((v >>> ((6 : Int32) &&& 31)) >>> ((8 : Int32) &&& 31)) 8)), (7, .int (lowF ((v >>> ((6 : Int32) &&& 31)) >>> ((6 : Int32) &&& 31)) 3)), (6, .int (lowF ((v >>> ((6 : Int32) &&& 31)) >>> ((3 : Int32) &&& 31)) 30)), (5, .int (lowF (v >>> ((6 : Int32) &&& 31)) 8)), (4, .int (v >>> ((6 : Int32) &&& 31))), (3, .int (lowF v 40)), (2, .int 1), (0, .ref b), (1, .int v)]) dL_act_478 (by decide) rfl ?_
              refine g_iload_n dL_act_480 rfl ?_
              refine g_bipush (v := 30) dL_act_481 (by decide) ?_
              refine g_icmp_ge (tgt := 504) dL_act_483 (by decide) (fun c => ?_) (fun c => ?_)
              · have H := H.1 c
                refine g_aload_n dL_act_504 rfl ?_
                refine g_iconst (v := 5) dL_act_505 (by decide) ?_
                refine g_iload dL_act_506 rfl ?_
                refine g_iconst (v := 2) dL_act_508 (by decide) ?_
                refine g_ishr dL_act_509 ?_
                refine g_iconst (v := 1) dL_act_510 (by decide) ?_
                refine g_iand dL_act_511 ?_
                refine g_iload dL_act_512 rfl ?_
                refine g_iload dL_act_514 rfl ?_
                refine g_iload dL_act_516 rfl ?_
                refine g_iload dL_act_518 rfl ?_
                refine g_does (As := [.ref b, .int 5, .int (((v >>> ((6 : Int32) &&& 31)) >>> ((2 : Int32) &&& 31)) &&& (1 : Int32)), .int (lowF ((v >>> ((6 : Int32) &&& 31)) >>> ((3 : Int32) &&& 31)) 30), .int (lowF ((v >>> ((6 : Int32) &&& 31)) >>> ((6 : Int32) &&& 31)) 3), .int (lowF (v >>> ((6 : Int32) &&& 31)) 8), .int (lowF ((v >>> ((6 : Int32) &&& 31)) >>> ((8 : Int32) &&& 31)) 8)]) (st := []) (q := q) (q' := (opN q (((v >>> ((6 : Int32) &&& 31)) >>> ((2 : Int32) &&& 31)) &&& (1 : Int32)) (lowF ((v >>> ((6 : Int32) &&& 31)) >>> ((3 : Int32) &&& 31)) 30) (lowF ((v >>> ((6 : Int32) &&& 31)) >>> ((6 : Int32) &&& 31)) 3) (lowF (v >>> ((6 : Int32) &&& 31)) 8) (lowF ((v >>> ((6 : Int32) &&& 31)) >>> ((8 : Int32) &&& 31)) 8) 5)) (s' := (opN q (((v >>> ((6 : Int32) &&& 31)) >>> ((2 : Int32) &&& 31)) &&& (1 : Int32)) (lowF ((v >>> ((6 : Int32) &&& 31)) >>> ((3 : Int32) &&& 31)) 30) (lowF ((v >>> ((6 : Int32) &&& 31)) >>> ((6 : Int32) &&& 31)) 3) (lowF (v >>> ((6 : Int32) &&& 31)) 8) (lowF ((v >>> ((6 : Int32) &&& 31)) >>> ((8 : Int32) &&& 31)) 8) 5)) (k := opK q (((v >>> ((6 : Int32) &&& 31)) >>> ((2 : Int32) &&& 31)) &&& (1 : Int32)) (lowF ((v >>> ((6 : Int32) &&& 31)) >>> ((3 : Int32) &&& 31)) 30) (lowF ((v >>> ((6 : Int32) &&& 31)) >>> ((6 : Int32) &&& 31)) 3) (lowF (v >>> ((6 : Int32) &&& 31)) 8) (lowF ((v >>> ((6 : Int32) &&& 31)) >>> ((8 : Int32) &&& 31)) 8) 5) (x := opX q (((v >>> ((6 : Int32) &&& 31)) >>> ((2 : Int32) &&& 31)) &&& (1 : Int32)) (lowF ((v >>> ((6 : Int32) &&& 31)) >>> ((3 : Int32) &&& 31)) 30) (lowF ((v >>> ((6 : Int32) &&& 31)) >>> ((6 : Int32) &&& 31)) 3) (lowF (v >>> ((6 : Int32) &&& 31)) 8) (lowF ((v >>> ((6 : Int32) &&& 31)) >>> ((8 : Int32) &&& 31)) 8) 5) (P1_use hT) P1_next rfl (fun B h1 h2 h3 h4 => ds_5 h1 h2 h3 h4 G (((v >>> ((6 : Int32) &&& 31)) >>> ((2 : Int32) &&& 31)) &&& (1 : Int32)) (lowF ((v >>> ((6 : Int32) &&& 31)) >>> ((3 : Int32) &&& 31)) 30) (lowF ((v >>> ((6 : Int32) &&& 31)) >>> ((6 : Int32) &&& 31)) 3) (lowF (v >>> ((6 : Int32) &&& 31)) 8) (lowF ((v >>> ((6 : Int32) &&& 31)) >>> ((8 : Int32) &&& 31)) 8) (Gn (((v >>> ((6 : Int32) &&& 31)) >>> ((2 : Int32) &&& 31)) &&& (1 : Int32)) (lowF ((v >>> ((6 : Int32) &&& 31)) >>> ((3 : Int32) &&& 31)) 30) (lowF ((v >>> ((6 : Int32) &&& 31)) >>> ((6 : Int32) &&& 31)) 3) (lowF (v >>> ((6 : Int32) &&& 31)) 8) (lowF ((v >>> ((6 : Int32) &&& 31)) >>> ((8 : Int32) &&& 31)) 8) 5)) dL_act_520 (by unfold rmP; decide) rfl (Nat.le_of_ble_eq_true rfl) (by omega) ?_
                exact g_iret dL_act_523 (Or.inl rfl) H
              · have H := H.2 c
                refine g_aload_n dL_act_486 rfl ?_
                refine g_bipush (v := 6) dL_act_487 (by decide) ?_
                refine g_iload dL_act_489 rfl ?_
                refine g_iload dL_act_491 rfl ?_
                refine g_iload dL_act_493 rfl ?_
                refine g_iload dL_act_495 rfl ?_
                refine g_iconst (v := 0) dL_act_497 (by decide) ?_
                refine g_does (As := [.ref b, .int 6, .int (lowF ((v >>> ((6 : Int32) &&& 31)) >>> ((3 : Int32) &&& 31)) 30), .int (lowF ((v >>> ((6 : Int32) &&& 31)) >>> ((6 : Int32) &&& 31)) 3), .int (lowF (v >>> ((6 : Int32) &&& 31)) 8), .int (lowF ((v >>> ((6 : Int32) &&& 31)) >>> ((8 : Int32) &&& 31)) 8), .int 0]) (st := []) (q := q) (q' := q) (s' := q) (k := opK q (lowF ((v >>> ((6 : Int32) &&& 31)) >>> ((3 : Int32) &&& 31)) 30) (lowF ((v >>> ((6 : Int32) &&& 31)) >>> ((6 : Int32) &&& 31)) 3) (lowF (v >>> ((6 : Int32) &&& 31)) 8) (lowF ((v >>> ((6 : Int32) &&& 31)) >>> ((8 : Int32) &&& 31)) 8) 0 6) (x := opX q (lowF ((v >>> ((6 : Int32) &&& 31)) >>> ((3 : Int32) &&& 31)) 30) (lowF ((v >>> ((6 : Int32) &&& 31)) >>> ((6 : Int32) &&& 31)) 3) (lowF (v >>> ((6 : Int32) &&& 31)) 8) (lowF ((v >>> ((6 : Int32) &&& 31)) >>> ((8 : Int32) &&& 31)) 8) 0 6) (P1_use hT) P1_next rfl (fun B h1 h2 h3 h4 => ds_6 h1 h2 h3 h4 G (lowF ((v >>> ((6 : Int32) &&& 31)) >>> ((3 : Int32) &&& 31)) 30) (lowF ((v >>> ((6 : Int32) &&& 31)) >>> ((6 : Int32) &&& 31)) 3) (lowF (v >>> ((6 : Int32) &&& 31)) 8) (lowF ((v >>> ((6 : Int32) &&& 31)) >>> ((8 : Int32) &&& 31)) 8) 0 G) dL_act_498 (by unfold rmP; decide) rfl (Nat.le_of_ble_eq_true rfl) (by omega) ?_
                refine g_goto (tgt := 523) dL_act_501 (by decide) ?_
                exact g_iret dL_act_523 (Or.inl rfl) H
        · have H := H.2 c
          refine g_iload_n dL_act_304 rfl ?_
          refine g_bipush (v := 26) dL_act_305 (by decide) ?_
          refine g_icmp_ge (tgt := 364) dL_act_307 (by decide) (fun c => ?_) (fun c => ?_)
          · have H := H.1 c
            refine g_aload_n dL_act_364 rfl ?_
            refine g_iconst (v := 4) dL_act_365 (by decide) ?_
            refine g_iload dL_act_366 rfl ?_
            refine g_iconst (v := 1) dL_act_368 (by decide) ?_
            refine g_iand dL_act_369 ?_
            refine g_iload dL_act_370 rfl ?_
            refine g_iconst (v := 1) dL_act_372 (by decide) ?_
            refine g_ishr dL_act_373 ?_
            refine g_iload_n dL_act_374 rfl ?_
            refine g_if_eq (tgt := 383) dL_act_375 (by decide) (fun c => absurd c (by decide)) (fun _ => ?_)
            refine g_bipush (v := 12) dL_act_378 (by decide) ?_
            refine g_goto (tgt := 385) dL_act_380 (by decide) ?_
            refine g_low rfl rfl dL_act_385 (by unfold rmP; decide) (Nat.le_of_ble_eq_true rfl) (by decide) ?_
            refine g_bipush (v := 7) dL_act_388 (by decide) ?_
            refine g_iload dL_act_390 rfl ?_
            refine g_iconst (v := 4) dL_act_392 (by decide) ?_
            refine g_ishr dL_act_393 ?_
            refine g_iconst (v := 3) dL_act_394 (by decide) ?_
            refine g_low rfl rfl dL_act_395 (by unfold rmP; decide) (Nat.le_of_ble_eq_true rfl) (by decide) ?_
            refine g_iadd dL_act_398 ?_
            refine g_iconst (v := 0) dL_act_399 (by decide) ?_
            refine g_iconst (v := 0) dL_act_400 (by decide) ?_
            refine g_does (As := [.ref b, .int 4, .int ((v >>> ((6 : Int32) &&& 31)) &&& (1 : Int32)), .int (lowF ((v >>> ((6 : Int32) &&& 31)) >>> ((1 : Int32) &&& 31)) 12), .int ((7 : Int32) + (lowF ((v >>> ((6 : Int32) &&& 31)) >>> ((4 : Int32) &&& 31)) 3)), .int 0, .int 0]) (st := []) (q := q) (q' := (opN q ((v >>> ((6 : Int32) &&& 31)) &&& (1 : Int32)) (lowF ((v >>> ((6 : Int32) &&& 31)) >>> ((1 : Int32) &&& 31)) 12) ((7 : Int32) + (lowF ((v >>> ((6 : Int32) &&& 31)) >>> ((4 : Int32) &&& 31)) 3)) 0 0 4)) (s' := (opN q ((v >>> ((6 : Int32) &&& 31)) &&& (1 : Int32)) (lowF ((v >>> ((6 : Int32) &&& 31)) >>> ((1 : Int32) &&& 31)) 12) ((7 : Int32) + (lowF ((v >>> ((6 : Int32) &&& 31)) >>> ((4 : Int32) &&& 31)) 3)) 0 0 4)) (k := opK q ((v >>> ((6 : Int32) &&& 31)) &&& (1 : Int32)) (lowF ((v >>> ((6 : Int32) &&& 31)) >>> ((1 : Int32) &&& 31)) 12) ((7 : Int32) + (lowF ((v >>> ((6 : Int32) &&& 31)) >>> ((4 : Int32) &&& 31)) 3)) 0 0 4) (x := opX q ((v >>> ((6 : Int32) &&& 31)) &&& (1 : Int32)) (lowF ((v >>> ((6 : Int32) &&& 31)) >>> ((1 : Int32) &&& 31)) 12) ((7 : Int32) + (lowF ((v >>> ((6 : Int32) &&& 31)) >>> ((4 : Int32) &&& 31)) 3)) 0 0 4) (P1_use hT) P1_next rfl (fun B h1 h2 h3 h4 => ds_4 h1 h2 h3 h4 G ((v >>> ((6 : Int32) &&& 31)) &&& (1 : Int32)) (lowF ((v >>> ((6 : Int32) &&& 31)) >>> ((1 : Int32) &&& 31)) 12) ((7 : Int32) + (lowF ((v >>> ((6 : Int32) &&& 31)) >>> ((4 : Int32) &&& 31)) 3)) 0 0 (Gn ((v >>> ((6 : Int32) &&& 31)) &&& (1 : Int32)) (lowF ((v >>> ((6 : Int32) &&& 31)) >>> ((1 : Int32) &&& 31)) 12) ((7 : Int32) + (lowF ((v >>> ((6 : Int32) &&& 31)) >>> ((4 : Int32) &&& 31)) 3)) 0 0 4)) dL_act_401 (by unfold rmP; decide) rfl (Nat.le_of_ble_eq_true rfl) (by omega) ?_
            exact g_iret dL_act_404 (Or.inl rfl) H
          · have H := H.2 c
            refine g_aload_n dL_act_310 rfl ?_
            refine g_iconst (v := 3) dL_act_311 (by decide) ?_
            refine g_iload_n dL_act_312 rfl ?_
            refine g_if_eq (tgt := 327) dL_act_313 (by decide) (fun c => absurd c (by decide)) (fun _ => ?_)
            refine g_iload dL_act_316 rfl ?_
            refine g_iconst (v := 4) dL_act_318 (by decide) ?_
            refine g_low rfl rfl dL_act_319 (by unfold rmP; decide) (Nat.le_of_ble_eq_true rfl) (by decide) ?_
            refine g_iconst (v := 1) dL_act_322 (by decide) ?_
            refine g_isub dL_act_323 ?_
            refine g_goto (tgt := 331) dL_act_324 (by decide) ?_
            refine g_iload dL_act_331 rfl ?_
            refine g_iconst (v := 1) dL_act_333 (by decide) ?_
            refine g_ishr dL_act_334 ?_
            refine g_bipush (v := 10) dL_act_335 (by decide) ?_
            refine g_low rfl rfl dL_act_337 (by unfold rmP; decide) (Nat.le_of_ble_eq_true rfl) (by decide) ?_
            refine g_iload dL_act_340 rfl ?_
            refine g_iconst (v := 5) dL_act_342 (by decide) ?_
            refine g_ishr dL_act_343 ?_
            refine g_iload_n dL_act_344 rfl ?_
            refine g_if_eq (tgt := 352) dL_act_345 (by decide) (fun c => absurd c (by decide)) (fun _ => ?_)
            refine g_iconst (v := 5) dL_act_348 (by decide) ?_
            refine g_goto (tgt := 353) dL_act_349 (by decide) ?_
            refine g_low rfl rfl dL_act_353 (by unfold rmP; decide) (Nat.le_of_ble_eq_true rfl) (by decide) ?_
            refine g_iconst (v := 0) dL_act_356 (by decide) ?_
            refine g_iconst (v := 0) dL_act_357 (by decide) ?_
            refine g_does (As := [.ref b, .int 3, .int ((lowF (v >>> ((6 : Int32) &&& 31)) 4) - (1 : Int32)), .int (lowF ((v >>> ((6 : Int32) &&& 31)) >>> ((1 : Int32) &&& 31)) 10), .int (lowF ((v >>> ((6 : Int32) &&& 31)) >>> ((5 : Int32) &&& 31)) 5), .int 0, .int 0]) (st := []) (q := q) (q' := (opN q ((lowF (v >>> ((6 : Int32) &&& 31)) 4) - (1 : Int32)) (lowF ((v >>> ((6 : Int32) &&& 31)) >>> ((1 : Int32) &&& 31)) 10) (lowF ((v >>> ((6 : Int32) &&& 31)) >>> ((5 : Int32) &&& 31)) 5) 0 0 3)) (s' := (opN q ((lowF (v >>> ((6 : Int32) &&& 31)) 4) - (1 : Int32)) (lowF ((v >>> ((6 : Int32) &&& 31)) >>> ((1 : Int32) &&& 31)) 10) (lowF ((v >>> ((6 : Int32) &&& 31)) >>> ((5 : Int32) &&& 31)) 5) 0 0 3)) (k := opK q ((lowF (v >>> ((6 : Int32) &&& 31)) 4) - (1 : Int32)) (lowF ((v >>> ((6 : Int32) &&& 31)) >>> ((1 : Int32) &&& 31)) 10) (lowF ((v >>> ((6 : Int32) &&& 31)) >>> ((5 : Int32) &&& 31)) 5) 0 0 3) (x := opX q ((lowF (v >>> ((6 : Int32) &&& 31)) 4) - (1 : Int32)) (lowF ((v >>> ((6 : Int32) &&& 31)) >>> ((1 : Int32) &&& 31)) 10) (lowF ((v >>> ((6 : Int32) &&& 31)) >>> ((5 : Int32) &&& 31)) 5) 0 0 3) (P1_use hT) P1_next rfl (fun B h1 h2 h3 h4 => ds_3 h1 h2 h3 h4 G ((lowF (v >>> ((6 : Int32) &&& 31)) 4) - (1 : Int32)) (lowF ((v >>> ((6 : Int32) &&& 31)) >>> ((1 : Int32) &&& 31)) 10) (lowF ((v >>> ((6 : Int32) &&& 31)) >>> ((5 : Int32) &&& 31)) 5) 0 0 (Gn ((lowF (v >>> ((6 : Int32) &&& 31)) 4) - (1 : Int32)) (lowF ((v >>> ((6 : Int32) &&& 31)) >>> ((1 : Int32) &&& 31)) 10) (lowF ((v >>> ((6 : Int32) &&& 31)) >>> ((5 : Int32) &&& 31)) 5) 0 0 3)) dL_act_358 (by unfold rmP; decide) rfl (Nat.le_of_ble_eq_true rfl) (by omega) ?_
            refine g_goto (tgt := 404) dL_act_361 (by decide) ?_
            exact g_iret dL_act_404 (Or.inl rfl) H
      · have H := H.2 c
        refine g_iload_n dL_act_144 rfl ?_
        refine g_bipush (v := 14) dL_act_145 (by decide) ?_
        refine g_icmp_ge (tgt := 154) dL_act_147 (by decide) (fun c => ?_) (fun c => ?_)
        · have H := H.1 c
          refine g_iload_n dL_act_154 rfl ?_
          refine g_bipush (v := 14) dL_act_155 (by decide) ?_
          refine g_icmp_ne (tgt := 164) dL_act_157 (by decide) (fun c => ?_) (fun c => ?_)
          · have H := H.1 c
            refine g_iload_n dL_act_164 rfl ?_
            refine g_bipush (v := 15) dL_act_165 (by decide) ?_
            refine g_icmp_ne (tgt := 174) dL_act_167 (by decide) (fun c => ?_) (fun c => ?_)
            · have H := H.1 c
              refine g_iload_n dL_act_174 rfl ?_
              refine g_bipush (v := 21) dL_act_175 (by decide) ?_
              refine g_icmp_ge (tgt := 184) dL_act_177 (by decide) (fun c => ?_) (fun c => ?_)
              · have H := H.1 c
                refine g_iload_n dL_act_184 rfl ?_
                refine g_bipush (v := 21) dL_act_185 (by decide) ?_
                refine g_icmp_ne (tgt := 194) dL_act_187 (by decide) (fun c => ?_) (fun c => ?_)
                · have H := H.1 c
                  refine g_iload_n dL_act_194 rfl ?_
                  refine g_bipush (v := 22) dL_act_195 (by decide) ?_
                  refine g_icmp_ne (tgt := 204) dL_act_197 (by decide) (fun c => ?_) (fun c => ?_)
                  · have H := H.1 c
                    refine g_bipush (v := 6) dL_act_204 (by decide) ?_
                    refine gt_istore (L' := [(5, .int 6), (4, .int (v >>> ((6 : Int32) &&& 31))), (3, .int (lowF v 40)), (2, .int 1), (0, .ref b), (1, .int v)]) dL_act_206 (by decide) rfl ?_
                    refine g_aload_n dL_act_208 rfl ?_
                    refine g_iconst (v := 2) dL_act_209 (by decide) ?_
                    refine g_iload dL_act_210 rfl ?_
                    refine g_iload dL_act_212 rfl ?_
                    refine g_if_ne (tgt := 236) dL_act_214 (by decide) (fun _ => ?_) (fun c => absurd c (by decide))
                    refine g_iconst (v := (-1)) dL_act_236 (by decide) ?_
                    refine g_iload dL_act_237 rfl ?_
                    refine g_bipush (v := 6) dL_act_239 (by decide) ?_
                    refine g_icmp_ne (tgt := 250) dL_act_241 (by decide) (fun c => absurd c (by decide)) (fun _ => ?_)
                    refine g_sipush (v := 300) dL_act_244 (by decide) ?_
                    refine g_goto (tgt := 292) dL_act_247 (by decide) ?_
                    refine g_iconst (v := 0) dL_act_292 (by decide) ?_
                    refine g_iconst (v := 0) dL_act_293 (by decide) ?_
                    refine g_does (As := [.ref b, .int 2, .int 6, .int (-1), .int 300, .int 0, .int 0]) (st := []) (q := q) (q' := (opN q 6 (-1) 300 0 0 2)) (s' := (opN q 6 (-1) 300 0 0 2)) (k := opK q 6 (-1) 300 0 0 2) (x := opX q 6 (-1) 300 0 0 2) (P1_use hT) P1_next rfl (fun B h1 h2 h3 h4 => ds_2 h1 h2 h3 h4 G 6 (-1) 300 0 0 (Gn 6 (-1) 300 0 0 2)) dL_act_294 (by unfold rmP; decide) rfl (Nat.le_of_ble_eq_true rfl) (by omega) ?_
                    exact g_iret dL_act_297 (Or.inl rfl) H
                  · have H := H.2 c
                    refine g_iconst (v := 5) dL_act_200 (by decide) ?_
                    refine g_goto (tgt := 206) dL_act_201 (by decide) ?_
                    refine gt_istore (L' := [(5, .int 5), (4, .int (v >>> ((6 : Int32) &&& 31))), (3, .int (lowF v 40)), (2, .int 1), (0, .ref b), (1, .int v)]) dL_act_206 (by decide) rfl ?_
                    refine g_aload_n dL_act_208 rfl ?_
                    refine g_iconst (v := 2) dL_act_209 (by decide) ?_
                    refine g_iload dL_act_210 rfl ?_
                    refine g_iload dL_act_212 rfl ?_
                    refine g_if_ne (tgt := 236) dL_act_214 (by decide) (fun _ => ?_) (fun c => absurd c (by decide))
                    refine g_iconst (v := (-1)) dL_act_236 (by decide) ?_
                    refine g_iload dL_act_237 rfl ?_
                    refine g_bipush (v := 6) dL_act_239 (by decide) ?_
                    refine g_icmp_ne (tgt := 250) dL_act_241 (by decide) (fun _ => ?_) (fun c => absurd c (by decide))
                    refine g_iload dL_act_250 rfl ?_
                    refine g_iconst (v := 3) dL_act_252 (by decide) ?_
                    refine g_icmp_ge (tgt := 270) dL_act_253 (by decide) (fun _ => ?_) (fun c => absurd c (by decide))
                    refine g_bipush (v := 61) dL_act_270 (by decide) ?_
                    refine g_iload dL_act_272 rfl ?_
                    refine g_iconst (v := 4) dL_act_274 (by decide) ?_
                    refine g_ishr dL_act_275 ?_
                    refine g_iload_n dL_act_276 rfl ?_
                    refine g_if_eq (tgt := 286) dL_act_277 (by decide) (fun c => absurd c (by decide)) (fun _ => ?_)
                    refine g_sipush (v := 300) dL_act_280 (by decide) ?_
                    refine g_goto (tgt := 288) dL_act_283 (by decide) ?_
                    refine g_low rfl rfl dL_act_288 (by unfold rmP; decide) (Nat.le_of_ble_eq_true rfl) (by decide) ?_
                    refine g_iadd dL_act_291 ?_
                    refine g_iconst (v := 0) dL_act_292 (by decide) ?_
                    refine g_iconst (v := 0) dL_act_293 (by decide) ?_
                    refine g_does (As := [.ref b, .int 2, .int 5, .int (-1), .int ((61 : Int32) + (lowF ((v >>> ((6 : Int32) &&& 31)) >>> ((4 : Int32) &&& 31)) 300)), .int 0, .int 0]) (st := []) (q := q) (q' := (opN q 5 (-1) ((61 : Int32) + (lowF ((v >>> ((6 : Int32) &&& 31)) >>> ((4 : Int32) &&& 31)) 300)) 0 0 2)) (s' := (opN q 5 (-1) ((61 : Int32) + (lowF ((v >>> ((6 : Int32) &&& 31)) >>> ((4 : Int32) &&& 31)) 300)) 0 0 2)) (k := opK q 5 (-1) ((61 : Int32) + (lowF ((v >>> ((6 : Int32) &&& 31)) >>> ((4 : Int32) &&& 31)) 300)) 0 0 2) (x := opX q 5 (-1) ((61 : Int32) + (lowF ((v >>> ((6 : Int32) &&& 31)) >>> ((4 : Int32) &&& 31)) 300)) 0 0 2) (P1_use hT) P1_next rfl (fun B h1 h2 h3 h4 => ds_2 h1 h2 h3 h4 G 5 (-1) ((61 : Int32) + (lowF ((v >>> ((6 : Int32) &&& 31)) >>> ((4 : Int32) &&& 31)) 300)) 0 0 (Gn 5 (-1) ((61 : Int32) + (lowF ((v >>> ((6 : Int32) &&& 31)) >>> ((4 : Int32) &&& 31)) 300)) 0 0 2)) dL_act_294 (by unfold rmP; decide) rfl (Nat.le_of_ble_eq_true rfl) (by omega) ?_
                    exact g_iret dL_act_297 (Or.inl rfl) H
                · have H := H.2 c
                  refine g_iconst (v := 4) dL_act_190 (by decide) ?_
                  refine g_goto (tgt := 206) dL_act_191 (by decide) ?_
                  refine gt_istore (L' := [(5, .int 4), (4, .int (v >>> ((6 : Int32) &&& 31))), (3, .int (lowF v 40)), (2, .int 1), (0, .ref b), (1, .int v)]) dL_act_206 (by decide) rfl ?_
                  refine g_aload_n dL_act_208 rfl ?_
                  refine g_iconst (v := 2) dL_act_209 (by decide) ?_
                  refine g_iload dL_act_210 rfl ?_
                  refine g_iload dL_act_212 rfl ?_
                  refine g_if_ne (tgt := 236) dL_act_214 (by decide) (fun _ => ?_) (fun c => absurd c (by decide))
                  refine g_iconst (v := (-1)) dL_act_236 (by decide) ?_
                  refine g_iload dL_act_237 rfl ?_
                  refine g_bipush (v := 6) dL_act_239 (by decide) ?_
                  refine g_icmp_ne (tgt := 250) dL_act_241 (by decide) (fun _ => ?_) (fun c => absurd c (by decide))
                  refine g_iload dL_act_250 rfl ?_
                  refine g_iconst (v := 3) dL_act_252 (by decide) ?_
                  refine g_icmp_ge (tgt := 270) dL_act_253 (by decide) (fun _ => ?_) (fun c => absurd c (by decide))
                  refine g_bipush (v := 61) dL_act_270 (by decide) ?_
                  refine g_iload dL_act_272 rfl ?_
                  refine g_iconst (v := 4) dL_act_274 (by decide) ?_
                  refine g_ishr dL_act_275 ?_
                  refine g_iload_n dL_act_276 rfl ?_
                  refine g_if_eq (tgt := 286) dL_act_277 (by decide) (fun c => absurd c (by decide)) (fun _ => ?_)
                  refine g_sipush (v := 300) dL_act_280 (by decide) ?_
                  refine g_goto (tgt := 288) dL_act_283 (by decide) ?_
                  refine g_low rfl rfl dL_act_288 (by unfold rmP; decide) (Nat.le_of_ble_eq_true rfl) (by decide) ?_
                  refine g_iadd dL_act_291 ?_
                  refine g_iconst (v := 0) dL_act_292 (by decide) ?_
                  refine g_iconst (v := 0) dL_act_293 (by decide) ?_
                  refine g_does (As := [.ref b, .int 2, .int 4, .int (-1), .int ((61 : Int32) + (lowF ((v >>> ((6 : Int32) &&& 31)) >>> ((4 : Int32) &&& 31)) 300)), .int 0, .int 0]) (st := []) (q := q) (q' := (opN q 4 (-1) ((61 : Int32) + (lowF ((v >>> ((6 : Int32) &&& 31)) >>> ((4 : Int32) &&& 31)) 300)) 0 0 2)) (s' := (opN q 4 (-1) ((61 : Int32) + (lowF ((v >>> ((6 : Int32) &&& 31)) >>> ((4 : Int32) &&& 31)) 300)) 0 0 2)) (k := opK q 4 (-1) ((61 : Int32) + (lowF ((v >>> ((6 : Int32) &&& 31)) >>> ((4 : Int32) &&& 31)) 300)) 0 0 2) (x := opX q 4 (-1) ((61 : Int32) + (lowF ((v >>> ((6 : Int32) &&& 31)) >>> ((4 : Int32) &&& 31)) 300)) 0 0 2) (P1_use hT) P1_next rfl (fun B h1 h2 h3 h4 => ds_2 h1 h2 h3 h4 G 4 (-1) ((61 : Int32) + (lowF ((v >>> ((6 : Int32) &&& 31)) >>> ((4 : Int32) &&& 31)) 300)) 0 0 (Gn 4 (-1) ((61 : Int32) + (lowF ((v >>> ((6 : Int32) &&& 31)) >>> ((4 : Int32) &&& 31)) 300)) 0 0 2)) dL_act_294 (by unfold rmP; decide) rfl (Nat.le_of_ble_eq_true rfl) (by omega) ?_
                  exact g_iret dL_act_297 (Or.inl rfl) H
              · have H := H.2 c
                refine g_iconst (v := 3) dL_act_180 (by decide) ?_
                refine g_goto (tgt := 206) dL_act_181 (by decide) ?_
                refine gt_istore (L' := [(5, .int 3), (4, .int (v >>> ((6 : Int32) &&& 31))), (3, .int (lowF v 40)), (2, .int 1), (0, .ref b), (1, .int v)]) dL_act_206 (by decide) rfl ?_
                refine g_aload_n dL_act_208 rfl ?_
                refine g_iconst (v := 2) dL_act_209 (by decide) ?_
                refine g_iload dL_act_210 rfl ?_
                refine g_iload dL_act_212 rfl ?_
                refine g_if_ne (tgt := 236) dL_act_214 (by decide) (fun _ => ?_) (fun c => absurd c (by decide))
                refine g_iconst (v := (-1)) dL_act_236 (by decide) ?_
                refine g_iload dL_act_237 rfl ?_
                refine g_bipush (v := 6) dL_act_239 (by decide) ?_
                refine g_icmp_ne (tgt := 250) dL_act_241 (by decide) (fun _ => ?_) (fun c => absurd c (by decide))
                refine g_iload dL_act_250 rfl ?_
                refine g_iconst (v := 3) dL_act_252 (by decide) ?_
                refine g_icmp_ge (tgt := 270) dL_act_253 (by decide) (fun _ => ?_) (fun c => absurd c (by decide))
                refine g_bipush (v := 61) dL_act_270 (by decide) ?_
                refine g_iload dL_act_272 rfl ?_
                refine g_iconst (v := 4) dL_act_274 (by decide) ?_
                refine g_ishr dL_act_275 ?_
                refine g_iload_n dL_act_276 rfl ?_
                refine g_if_eq (tgt := 286) dL_act_277 (by decide) (fun c => absurd c (by decide)) (fun _ => ?_)
                refine g_sipush (v := 300) dL_act_280 (by decide) ?_
                refine g_goto (tgt := 288) dL_act_283 (by decide) ?_
                refine g_low rfl rfl dL_act_288 (by unfold rmP; decide) (Nat.le_of_ble_eq_true rfl) (by decide) ?_
                refine g_iadd dL_act_291 ?_
                refine g_iconst (v := 0) dL_act_292 (by decide) ?_
                refine g_iconst (v := 0) dL_act_293 (by decide) ?_
                refine g_does (As := [.ref b, .int 2, .int 3, .int (-1), .int ((61 : Int32) + (lowF ((v >>> ((6 : Int32) &&& 31)) >>> ((4 : Int32) &&& 31)) 300)), .int 0, .int 0]) (st := []) (q := q) (q' := (opN q 3 (-1) ((61 : Int32) + (lowF ((v >>> ((6 : Int32) &&& 31)) >>> ((4 : Int32) &&& 31)) 300)) 0 0 2)) (s' := (opN q 3 (-1) ((61 : Int32) + (lowF ((v >>> ((6 : Int32) &&& 31)) >>> ((4 : Int32) &&& 31)) 300)) 0 0 2)) (k := opK q 3 (-1) ((61 : Int32) + (lowF ((v >>> ((6 : Int32) &&& 31)) >>> ((4 : Int32) &&& 31)) 300)) 0 0 2) (x := opX q 3 (-1) ((61 : Int32) + (lowF ((v >>> ((6 : Int32) &&& 31)) >>> ((4 : Int32) &&& 31)) 300)) 0 0 2) (P1_use hT) P1_next rfl (fun B h1 h2 h3 h4 => ds_2 h1 h2 h3 h4 G 3 (-1) ((61 : Int32) + (lowF ((v >>> ((6 : Int32) &&& 31)) >>> ((4 : Int32) &&& 31)) 300)) 0 0 (Gn 3 (-1) ((61 : Int32) + (lowF ((v >>> ((6 : Int32) &&& 31)) >>> ((4 : Int32) &&& 31)) 300)) 0 0 2)) dL_act_294 (by unfold rmP; decide) rfl (Nat.le_of_ble_eq_true rfl) (by omega) ?_
                exact g_iret dL_act_297 (Or.inl rfl) H
            · have H := H.2 c
              refine g_iconst (v := 2) dL_act_170 (by decide) ?_
              refine g_goto (tgt := 206) dL_act_171 (by decide) ?_
              refine gt_istore (L' := [(5, .int 2), (4, .int (v >>> ((6 : Int32) &&& 31))), (3, .int (lowF v 40)), (2, .int 1), (0, .ref b), (1, .int v)]) dL_act_206 (by decide) rfl ?_
              refine g_aload_n dL_act_208 rfl ?_
              refine g_iconst (v := 2) dL_act_209 (by decide) ?_
              refine g_iload dL_act_210 rfl ?_
              refine g_iload dL_act_212 rfl ?_
              refine g_if_ne (tgt := 236) dL_act_214 (by decide) (fun _ => ?_) (fun c => absurd c (by decide))
              refine g_iconst (v := (-1)) dL_act_236 (by decide) ?_
              refine g_iload dL_act_237 rfl ?_
              refine g_bipush (v := 6) dL_act_239 (by decide) ?_
              refine g_icmp_ne (tgt := 250) dL_act_241 (by decide) (fun _ => ?_) (fun c => absurd c (by decide))
              refine g_iload dL_act_250 rfl ?_
              refine g_iconst (v := 3) dL_act_252 (by decide) ?_
              refine g_icmp_ge (tgt := 270) dL_act_253 (by decide) (fun c => absurd c (by decide)) (fun _ => ?_)
              refine g_iconst (v := 1) dL_act_256 (by decide) ?_
              refine g_iload dL_act_257 rfl ?_
              refine g_iconst (v := 4) dL_act_259 (by decide) ?_
              refine g_ishr dL_act_260 ?_
              refine g_bipush (v := 60) dL_act_261 (by decide) ?_
              refine g_low rfl rfl dL_act_263 (by unfold rmP; decide) (Nat.le_of_ble_eq_true rfl) (by decide) ?_
              refine g_iadd dL_act_266 ?_
              refine g_goto (tgt := 292) dL_act_267 (by decide) ?_
              refine g_iconst (v := 0) dL_act_292 (by decide) ?_
              refine g_iconst (v := 0) dL_act_293 (by decide) ?_
              refine g_does (As := [.ref b, .int 2, .int 2, .int (-1), .int ((1 : Int32) + (lowF ((v >>> ((6 : Int32) &&& 31)) >>> ((4 : Int32) &&& 31)) 60)), .int 0, .int 0]) (st := []) (q := q) (q' := (opN q 2 (-1) ((1 : Int32) + (lowF ((v >>> ((6 : Int32) &&& 31)) >>> ((4 : Int32) &&& 31)) 60)) 0 0 2)) (s' := (opN q 2 (-1) ((1 : Int32) + (lowF ((v >>> ((6 : Int32) &&& 31)) >>> ((4 : Int32) &&& 31)) 60)) 0 0 2)) (k := opK q 2 (-1) ((1 : Int32) + (lowF ((v >>> ((6 : Int32) &&& 31)) >>> ((4 : Int32) &&& 31)) 60)) 0 0 2) (x := opX q 2 (-1) ((1 : Int32) + (lowF ((v >>> ((6 : Int32) &&& 31)) >>> ((4 : Int32) &&& 31)) 60)) 0 0 2) (P1_use hT) P1_next rfl (fun B h1 h2 h3 h4 => ds_2 h1 h2 h3 h4 G 2 (-1) ((1 : Int32) + (lowF ((v >>> ((6 : Int32) &&& 31)) >>> ((4 : Int32) &&& 31)) 60)) 0 0 (Gn 2 (-1) ((1 : Int32) + (lowF ((v >>> ((6 : Int32) &&& 31)) >>> ((4 : Int32) &&& 31)) 60)) 0 0 2)) dL_act_294 (by unfold rmP; decide) rfl (Nat.le_of_ble_eq_true rfl) (by omega) ?_
              exact g_iret dL_act_297 (Or.inl rfl) H
          · have H := H.2 c
            refine g_iconst (v := 1) dL_act_160 (by decide) ?_
            refine g_goto (tgt := 206) dL_act_161 (by decide) ?_
            refine gt_istore (L' := [(5, .int 1), (4, .int (v >>> ((6 : Int32) &&& 31))), (3, .int (lowF v 40)), (2, .int 1), (0, .ref b), (1, .int v)]) dL_act_206 (by decide) rfl ?_
            refine g_aload_n dL_act_208 rfl ?_
            refine g_iconst (v := 2) dL_act_209 (by decide) ?_
            refine g_iload dL_act_210 rfl ?_
            refine g_iload dL_act_212 rfl ?_
            refine g_if_ne (tgt := 236) dL_act_214 (by decide) (fun _ => ?_) (fun c => absurd c (by decide))
            refine g_iconst (v := (-1)) dL_act_236 (by decide) ?_
            refine g_iload dL_act_237 rfl ?_
            refine g_bipush (v := 6) dL_act_239 (by decide) ?_
            refine g_icmp_ne (tgt := 250) dL_act_241 (by decide) (fun _ => ?_) (fun c => absurd c (by decide))
            refine g_iload dL_act_250 rfl ?_
            refine g_iconst (v := 3) dL_act_252 (by decide) ?_
            refine g_icmp_ge (tgt := 270) dL_act_253 (by decide) (fun c => absurd c (by decide)) (fun _ => ?_)
            refine g_iconst (v := 1) dL_act_256 (by decide) ?_
            refine g_iload dL_act_257 rfl ?_
            refine g_iconst (v := 4) dL_act_259 (by decide) ?_
            refine g_ishr dL_act_260 ?_
            refine g_bipush (v := 60) dL_act_261 (by decide) ?_
            refine g_low rfl rfl dL_act_263 (by unfold rmP; decide) (Nat.le_of_ble_eq_true rfl) (by decide) ?_
            refine g_iadd dL_act_266 ?_
            refine g_goto (tgt := 292) dL_act_267 (by decide) ?_
            refine g_iconst (v := 0) dL_act_292 (by decide) ?_
            refine g_iconst (v := 0) dL_act_293 (by decide) ?_
            refine g_does (As := [.ref b, .int 2, .int 1, .int (-1), .int ((1 : Int32) + (lowF ((v >>> ((6 : Int32) &&& 31)) >>> ((4 : Int32) &&& 31)) 60)), .int 0, .int 0]) (st := []) (q := q) (q' := (opN q 1 (-1) ((1 : Int32) + (lowF ((v >>> ((6 : Int32) &&& 31)) >>> ((4 : Int32) &&& 31)) 60)) 0 0 2)) (s' := (opN q 1 (-1) ((1 : Int32) + (lowF ((v >>> ((6 : Int32) &&& 31)) >>> ((4 : Int32) &&& 31)) 60)) 0 0 2)) (k := opK q 1 (-1) ((1 : Int32) + (lowF ((v >>> ((6 : Int32) &&& 31)) >>> ((4 : Int32) &&& 31)) 60)) 0 0 2) (x := opX q 1 (-1) ((1 : Int32) + (lowF ((v >>> ((6 : Int32) &&& 31)) >>> ((4 : Int32) &&& 31)) 60)) 0 0 2) (P1_use hT) P1_next rfl (fun B h1 h2 h3 h4 => ds_2 h1 h2 h3 h4 G 1 (-1) ((1 : Int32) + (lowF ((v >>> ((6 : Int32) &&& 31)) >>> ((4 : Int32) &&& 31)) 60)) 0 0 (Gn 1 (-1) ((1 : Int32) + (lowF ((v >>> ((6 : Int32) &&& 31)) >>> ((4 : Int32) &&& 31)) 60)) 0 0 2)) dL_act_294 (by unfold rmP; decide) rfl (Nat.le_of_ble_eq_true rfl) (by omega) ?_
            exact g_iret dL_act_297 (Or.inl rfl) H
        · have H := H.2 c
          refine g_iconst (v := 0) dL_act_150 (by decide) ?_
          refine g_goto (tgt := 206) dL_act_151 (by decide) ?_
          refine gt_istore (L' := [(5, .int 0), (4, .int (v >>> ((6 : Int32) &&& 31))), (3, .int (lowF v 40)), (2, .int 1), (0, .ref b), (1, .int v)]) dL_act_206 (by decide) rfl ?_
          refine g_aload_n dL_act_208 rfl ?_
          refine g_iconst (v := 2) dL_act_209 (by decide) ?_
          refine g_iload dL_act_210 rfl ?_
          refine g_iload dL_act_212 rfl ?_
          refine g_if_ne (tgt := 236) dL_act_214 (by decide) (fun c => absurd c (by decide)) (fun _ => ?_)
          refine g_iload dL_act_217 rfl ?_
          refine g_iload_n dL_act_219 rfl ?_
          refine g_if_eq (tgt := 228) dL_act_220 (by decide) (fun c => absurd c (by decide)) (fun _ => ?_)
          refine g_bipush (v := 12) dL_act_223 (by decide) ?_
          refine g_goto (tgt := 230) dL_act_225 (by decide) ?_
          refine g_low rfl rfl dL_act_230 (by unfold rmP; decide) (Nat.le_of_ble_eq_true rfl) (by decide) ?_
          refine g_goto (tgt := 237) dL_act_233 (by decide) ?_
          refine g_iload dL_act_237 rfl ?_
          refine g_bipush (v := 6) dL_act_239 (by decide) ?_
          refine g_icmp_ne (tgt := 250) dL_act_241 (by decide) (fun _ => ?_) (fun c => absurd c (by decide))
          refine g_iload dL_act_250 rfl ?_
          refine g_iconst (v := 3) dL_act_252 (by decide) ?_
          refine g_icmp_ge (tgt := 270) dL_act_253 (by decide) (fun c => absurd c (by decide)) (fun _ => ?_)
          refine g_iconst (v := 1) dL_act_256 (by decide) ?_
          refine g_iload dL_act_257 rfl ?_
          refine g_iconst (v := 4) dL_act_259 (by decide) ?_
          refine g_ishr dL_act_260 ?_
          refine g_bipush (v := 60) dL_act_261 (by decide) ?_
          refine g_low rfl rfl dL_act_263 (by unfold rmP; decide) (Nat.le_of_ble_eq_true rfl) (by decide) ?_
          refine g_iadd dL_act_266 ?_
          refine g_goto (tgt := 292) dL_act_267 (by decide) ?_
          refine g_iconst (v := 0) dL_act_292 (by decide) ?_
          refine g_iconst (v := 0) dL_act_293 (by decide) ?_
          refine g_does (As := [.ref b, .int 2, .int 0, .int (lowF (v >>> ((6 : Int32) &&& 31)) 12), .int ((1 : Int32) + (lowF ((v >>> ((6 : Int32) &&& 31)) >>> ((4 : Int32) &&& 31)) 60)), .int 0, .int 0]) (st := []) (q := q) (q' := (opN q 0 (lowF (v >>> ((6 : Int32) &&& 31)) 12) ((1 : Int32) + (lowF ((v >>> ((6 : Int32) &&& 31)) >>> ((4 : Int32) &&& 31)) 60)) 0 0 2)) (s' := (opN q 0 (lowF (v >>> ((6 : Int32) &&& 31)) 12) ((1 : Int32) + (lowF ((v >>> ((6 : Int32) &&& 31)) >>> ((4 : Int32) &&& 31)) 60)) 0 0 2)) (k := opK q 0 (lowF (v >>> ((6 : Int32) &&& 31)) 12) ((1 : Int32) + (lowF ((v >>> ((6 : Int32) &&& 31)) >>> ((4 : Int32) &&& 31)) 60)) 0 0 2) (x := opX q 0 (lowF (v >>> ((6 : Int32) &&& 31)) 12) ((1 : Int32) + (lowF ((v >>> ((6 : Int32) &&& 31)) >>> ((4 : Int32) &&& 31)) 60)) 0 0 2) (P1_use hT) P1_next rfl (fun B h1 h2 h3 h4 => ds_2 h1 h2 h3 h4 G 0 (lowF (v >>> ((6 : Int32) &&& 31)) 12) ((1 : Int32) + (lowF ((v >>> ((6 : Int32) &&& 31)) >>> ((4 : Int32) &&& 31)) 60)) 0 0 (Gn 0 (lowF (v >>> ((6 : Int32) &&& 31)) 12) ((1 : Int32) + (lowF ((v >>> ((6 : Int32) &&& 31)) >>> ((4 : Int32) &&& 31)) 60)) 0 0 2)) dL_act_294 (by unfold rmP; decide) rfl (Nat.le_of_ble_eq_true rfl) (by omega) ?_
          exact g_iret dL_act_297 (Or.inl rfl) H
    · have H := H.2 c
      refine g_iload_n dL_act_37 rfl ?_
      refine g_bipush (v := 7) dL_act_38 (by decide) ?_
      refine g_icmp_ge (tgt := 78) dL_act_40 (by decide) (fun c => ?_) (fun c => ?_)
      · have H := H.1 c
        refine g_aload_n dL_act_78 rfl ?_
        refine g_iconst (v := 0) dL_act_79 (by decide) ?_
        refine g_iload dL_act_80 rfl ?_
        refine g_iload_n dL_act_82 rfl ?_
        refine g_if_eq (tgt := 91) dL_act_83 (by decide) (fun c => absurd c (by decide)) (fun _ => ?_)
        refine g_bipush (v := 10) dL_act_86 (by decide) ?_
        refine g_goto (tgt := 93) dL_act_88 (by decide) ?_
        refine g_low rfl rfl dL_act_93 (by unfold rmP; decide) (Nat.le_of_ble_eq_true rfl) (by decide) ?_
        refine g_iload dL_act_96 rfl ?_
        refine g_iconst (v := 3) dL_act_98 (by decide) ?_
        refine g_ishr dL_act_99 ?_
        refine g_bipush (v := 8) dL_act_100 (by decide) ?_
        refine g_low rfl rfl dL_act_102 (by unfold rmP; decide) (Nat.le_of_ble_eq_true rfl) (by decide) ?_
        refine g_sipush (v := 300) dL_act_105 (by decide) ?_
        refine g_iload dL_act_108 rfl ?_
        refine g_bipush (v := 6) dL_act_110 (by decide) ?_
        refine g_ishr dL_act_112 ?_
        refine g_sipush (v := 2000) dL_act_113 (by decide) ?_
        refine g_low rfl rfl dL_act_116 (by unfold rmP; decide) (Nat.le_of_ble_eq_true rfl) (by decide) ?_
        refine g_iadd dL_act_119 ?_
        refine g_iload_n dL_act_120 rfl ?_
        refine g_if_eq (tgt := 130) dL_act_121 (by decide) (fun c => absurd c (by decide)) (fun _ => ?_)
        refine g_sipush (v := 200) dL_act_124 (by decide) ?_
        refine g_goto (tgt := 131) dL_act_127 (by decide) ?_
        refine g_isub dL_act_131 ?_
        refine g_iconst (v := 0) dL_act_132 (by decide) ?_
        refine g_iconst (v := 0) dL_act_133 (by decide) ?_
        refine g_does (As := [.ref b, .int 0, .int (lowF (v >>> ((6 : Int32) &&& 31)) 10), .int (lowF ((v >>> ((6 : Int32) &&& 31)) >>> ((3 : Int32) &&& 31)) 8), .int (((300 : Int32) + (lowF ((v >>> ((6 : Int32) &&& 31)) >>> ((6 : Int32) &&& 31)) 2000)) - (200 : Int32)), .int 0, .int 0]) (st := []) (q := q) (q' := (opN q (lowF (v >>> ((6 : Int32) &&& 31)) 10) (lowF ((v >>> ((6 : Int32) &&& 31)) >>> ((3 : Int32) &&& 31)) 8) (((300 : Int32) + (lowF ((v >>> ((6 : Int32) &&& 31)) >>> ((6 : Int32) &&& 31)) 2000)) - (200 : Int32)) 0 0 0)) (s' := (opN q (lowF (v >>> ((6 : Int32) &&& 31)) 10) (lowF ((v >>> ((6 : Int32) &&& 31)) >>> ((3 : Int32) &&& 31)) 8) (((300 : Int32) + (lowF ((v >>> ((6 : Int32) &&& 31)) >>> ((6 : Int32) &&& 31)) 2000)) - (200 : Int32)) 0 0 0)) (k := opK q (lowF (v >>> ((6 : Int32) &&& 31)) 10) (lowF ((v >>> ((6 : Int32) &&& 31)) >>> ((3 : Int32) &&& 31)) 8) (((300 : Int32) + (lowF ((v >>> ((6 : Int32) &&& 31)) >>> ((6 : Int32) &&& 31)) 2000)) - (200 : Int32)) 0 0 0) (x := opX q (lowF (v >>> ((6 : Int32) &&& 31)) 10) (lowF ((v >>> ((6 : Int32) &&& 31)) >>> ((3 : Int32) &&& 31)) 8) (((300 : Int32) + (lowF ((v >>> ((6 : Int32) &&& 31)) >>> ((6 : Int32) &&& 31)) 2000)) - (200 : Int32)) 0 0 0) (P1_use hT) P1_next rfl (fun B h1 h2 h3 h4 => ds_0 h1 h2 h3 h4 G (lowF (v >>> ((6 : Int32) &&& 31)) 10) (lowF ((v >>> ((6 : Int32) &&& 31)) >>> ((3 : Int32) &&& 31)) 8) (((300 : Int32) + (lowF ((v >>> ((6 : Int32) &&& 31)) >>> ((6 : Int32) &&& 31)) 2000)) - (200 : Int32)) 0 0 (Gn (lowF (v >>> ((6 : Int32) &&& 31)) 10) (lowF ((v >>> ((6 : Int32) &&& 31)) >>> ((3 : Int32) &&& 31)) 8) (((300 : Int32) + (lowF ((v >>> ((6 : Int32) &&& 31)) >>> ((6 : Int32) &&& 31)) 2000)) - (200 : Int32)) 0 0 0)) dL_act_134 (by unfold rmP; decide) rfl (Nat.le_of_ble_eq_true rfl) (by omega) ?_
        exact g_iret dL_act_137 (Or.inl rfl) H
      · have H := H.2 c
        refine g_aload_n dL_act_43 rfl ?_
        refine g_iconst (v := 1) dL_act_44 (by decide) ?_
        refine g_iload_n dL_act_45 rfl ?_
        refine g_if_eq (tgt := 61) dL_act_46 (by decide) (fun c => absurd c (by decide)) (fun _ => ?_)
        refine g_iload dL_act_49 rfl ?_
        refine g_bipush (v := 13) dL_act_51 (by decide) ?_
        refine g_low rfl rfl dL_act_53 (by unfold rmP; decide) (Nat.le_of_ble_eq_true rfl) (by decide) ?_
        refine g_iconst (v := 1) dL_act_56 (by decide) ?_
        refine g_isub dL_act_57 ?_
        refine g_goto (tgt := 68) dL_act_58 (by decide) ?_
        refine g_iconst (v := 0) dL_act_68 (by decide) ?_
        refine g_iconst (v := 0) dL_act_69 (by decide) ?_
        refine g_iconst (v := 0) dL_act_70 (by decide) ?_
        refine g_iconst (v := 0) dL_act_71 (by decide) ?_
        refine g_does (As := [.ref b, .int 1, .int ((lowF (v >>> ((6 : Int32) &&& 31)) 13) - (1 : Int32)), .int 0, .int 0, .int 0, .int 0]) (st := []) (q := q) (q' := (opN q ((lowF (v >>> ((6 : Int32) &&& 31)) 13) - (1 : Int32)) 0 0 0 0 1)) (s' := (opN q ((lowF (v >>> ((6 : Int32) &&& 31)) 13) - (1 : Int32)) 0 0 0 0 1)) (k := opK q ((lowF (v >>> ((6 : Int32) &&& 31)) 13) - (1 : Int32)) 0 0 0 0 1) (x := opX q ((lowF (v >>> ((6 : Int32) &&& 31)) 13) - (1 : Int32)) 0 0 0 0 1) (P1_use hT) P1_next rfl (fun B h1 h2 h3 h4 => ds_1 h1 h2 h3 h4 G ((lowF (v >>> ((6 : Int32) &&& 31)) 13) - (1 : Int32)) 0 0 0 0 (Gn ((lowF (v >>> ((6 : Int32) &&& 31)) 13) - (1 : Int32)) 0 0 0 0 1)) dL_act_72 (by unfold rmP; decide) rfl (Nat.le_of_ble_eq_true rfl) (by omega) ?_
        refine g_goto (tgt := 137) dL_act_75 (by decide) ?_
        exact g_iret dL_act_137 (Or.inl rfl) H
