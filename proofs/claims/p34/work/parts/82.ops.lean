/-! one hall: its state, its calls -/
abbrev HS : Type := St × Au × Lg
/-- what lies in the cells -/
def clH (V : Mem) (q : HS) : Prop := clX V q.1 ∧ clA V q.2.1 ∧ clL V q.2.2
/-- what holds of it -/
def GdH (q : HS) : Prop := GdX q.1 ∧ GdA q.2.1 ∧ bddL q.2.2 1000000000
theorem clH_m {V V' : Mem} {q : HS} {X' : St} (G : GdH q) (I : clH V q) (f : offF V V' 1 388) (h : clX V' X') : clH V' (X', q.2) := ⟨h, clA_off I.2.1 (fun x h1 h2 => f x (by omega)), clL_off I.2.2 (fun x h1 h2 => f x (by omega))⟩
theorem clH_a {V V' : Mem} {q : HS} {u' : Au} (G : GdH q) (I : clH V q) (f : offF V V' 398 7) (h : clA V' u') : clH V' (q.1, u', q.2.2) := ⟨clM_off I.1 G.1.2.2.1 (fun x hx => f x (by omega)), h, clL_off I.2.2 (fun x h1 h2 => f x (by omega))⟩
theorem clH_l {V V' : Mem} {q : HS} (G : GdH q) (I : clH V q) (f : offF V V' 391 7) (h : clL V' q.2.2) : clH V' q := ⟨clM_off I.1 G.1.2.2.1 (fun x hx => f x (by omega)), clA_off I.2.1 (fun x h1 h2 => f x (by omega)), h⟩
theorem clH_e {V V' : Mem} {q : HS} {X' : St} {g' : Lg} (G : GdH q) (I : clH V q) (f : offF V V' 1 397) (h : clX V' X') (hg : clL V' g') : clH V' (X', q.2.1, g') := ⟨h, clA_off I.2.1 (fun x h1 h2 => f x (by omega)), hg⟩
/-- a call, at a hall that lies first -/
def OpH (d7 : pD) (as : List Value) (xs : List (Nat × String)) (q : HS) (k : Nat) (x : Int32) (q' : HS) : Prop := ∀ (J : Nat → Nat → Int64) (V : Mem), clH V q → CTc J d7 (.ref 0 :: as) V (fun r V' => k = 0 ∧ r = some (.int x) ∧ clH V' q') (fun X V' => k ≠ 0 ∧ (k, X) ∈ xs ∧ clH V' q')
theorem op_of {J : Nat → Nat → Int64} {d : pD} {as : List Value} {V : Mem} {lo n : Nat} {xs : List (Nat × String)} {k : Nat} {x : Int32} {P : Mem → Prop} {q' : HS} (h : CR J d as V lo n xs k x P) (hP : ∀ V', offF V V' lo n → P V' → clH V' q') : CTc J d as V (fun r V' => k = 0 ∧ r = some (.int x) ∧ clH V' q') (fun X V' => k ≠ 0 ∧ (k, X) ∈ xs ∧ clH V' q') :=
  CTc_mono h (fun v V' z => ⟨z.1, z.2.1, hP V' z.2.2.1 z.2.2.2⟩) (fun E V' z => ⟨z.1, z.2.1, hP V' z.2.2.1 z.2.2.2⟩)
/-- .. by its number -/
def opK (q : HS) (a b c d e : Int32) : Nat → Nat
  | 0 => beginK q.1.1 a b c
  | 1 => raidK q.1.1 q.1.2 a
  | 2 => stepK q.1.1 q.1.2 a b c
  | 3 => cardK q.1.1 q.1.2 a b c
  | 4 => swapK q.1.1 q.1.2 a b c
  | 5 => revK q.1.1 q.1.2 a b c d e
  | 6 => fallsK q.1.1 q.1.2 a b c d
  | 7 => backK q.1.1 a
  | 8 => entK q.1.1 q.1.2
  | 13 => viewK q.1.1 (isIx a 2 && isIx b 10)
  | 14 => viewK q.1.1 (isIx a 2 && !decide (b < 0))
  | 15 => viewK q.1.1 (isIx a 2)
  | 16 => viewK q.1.1 (isIx a 2)
  | 17 => viewK q.1.1 (isIx a 8)
  | 18 => viewK q.1.1 (isIx a 2)
  | 19 => endK q.1.1 a b
  | 20 => endK q.1.1 a b
  | 21 => endK q.1.1 a b
  | 22 => viewK q.1.1 (isIx a 2 && isIx b 10)
  | 23 => twoK (isIx a 8) (isIx b 7)
  | 24 => rightK q.2.1 a b
  | 25 => callK q.2.1 a
  | 26 => bidK q.2.1 a b
  | 27 => hamK q.2.1
  | 28 => ansK q.2.1
  | 29 => twoK (isIx a 24) (isIx b 4)
  | 30 => twoK (isIx a 8) (isIx b 3)
  | _ => 1
/-- .. by its number -/
def opX (q : HS) (a b c d e : Int32) : Nat → Int32
  | 0 => nI (q.1.1 6 + 1)
  | 1 => nI (q.1.1 2)
  | 2 => stepV q.1.1 q.1.2 a b c
  | 3 => cardV q.1.1 q.1.2 a b c
  | 4 => swapV q.1.1 q.1.2 a
  | 5 => revV q.1.1 q.1.2 a b c d e
  | 6 => fallsV q.1.1 q.1.2 a b c d
  | 7 => nI (q.1.1 2 - a.toNatClampNeg)
  | 8 => entV q.1.1 q.1.2
  | 13 => nI (nowF q.1.1 q.1.2 (10 * a.toNatClampNeg + b.toNatClampNeg))
  | 14 => outV q.1.1 q.1.2 a.toNatClampNeg b
  | 15 => outV q.1.1 q.1.2 a.toNatClampNeg 0
  | 16 => nI (nowF q.1.1 q.1.2 (104 + a.toNatClampNeg))
  | 17 => tellV q.1.1 q.1.2 a.toNatClampNeg
  | 18 => bI (decide (q.1.1 (7 + a.toNatClampNeg) = 0))
  | 19 => nI (bits (runE q.1.2 (a.toNatClampNeg + 1)) b.toNatClampNeg)
  | 20 => nI (bits (runE q.1.2 (a.toNatClampNeg + 1)) b.toNatClampNeg)
  | 21 => nI (runE q.1.2 (a.toNatClampNeg + 1) (104 + b.toNatClampNeg))
  | 22 => nI (nowF q.1.1 q.1.2 (60 + 10 * a.toNatClampNeg + b.toNatClampNeg))
  | 23 => lgV q.2.2 a.toNatClampNeg b.toNatClampNeg
  | 24 => q.2.1 (90 + b.toNatClampNeg)
  | 25 => nI (baseF a.toNatClampNeg)
  | 26 => q.2.1 121 + 1
  | 27 => strikeV q.2.1
  | 28 => settleC q.2.1 (decide (a = 1))
  | 29 => lotV q.2.1 a.toNatClampNeg b.toNatClampNeg
  | 30 => q.2.1 (10 * b.toNatClampNeg + a.toNatClampNeg)
  | _ => 0
/-- .. by its number -/
def opN (q : HS) (a b c d e : Int32) : Nat → HS
  | 0 => (beginN q.1.1 q.1.2 a b c, q.2)
  | 1 => (raidN q.1.1 q.1.2 a, q.2)
  | 2 => (stepN q.1.1 q.1.2 a b c, q.2)
  | 3 => (cardN q.1.1 q.1.2 a b c, q.2)
  | 4 => (swapN q.1.1 q.1.2 a b c, q.2)
  | 5 => (revN q.1.1 q.1.2 a b c d e, q.2)
  | 6 => q
  | 7 => (backN q.1.1 q.1.2 a, q.2)
  | 8 => (entN q.1.1 q.1.2, q.2.1, entG q.1.1 q.1.2 q.2.2)
  | 13 => q
  | 14 => q
  | 15 => q
  | 16 => q
  | 17 => q
  | 18 => q
  | 19 => q
  | 20 => q
  | 21 => q
  | 22 => q
  | 23 => q
  | 24 => (q.1, rightN q.2.1 a b, q.2.2)
  | 25 => (q.1, callN q.2.1 a, q.2.2)
  | 26 => (q.1, bidN q.2.1 a b, q.2.2)
  | 27 => (q.1, hamN q.2.1, q.2.2)
  | 28 => (q.1, ansN q.2.1 (decide (a = 1)), q.2.2)
  | 29 => q
  | 30 => q
  | _ => q
theorem op_begin {q : HS} (G : GdH q) (a b c d e : Int32) : OpH mX7_begin [.int a, .int b, .int c] xs3 q (opK q a b c d e 0) (opX q a b c d e 0) (opN q a b c d e 0) := fun J V I => op_of (h_begin I.1 G.1 a b c) (fun V' f z => clH_m G I f z)
theorem op_raid {q : HS} (G : GdH q) (a b c d e : Int32) : OpH mX7_raid [.int a] xsB q (opK q a b c d e 1) (opX q a b c d e 1) (opN q a b c d e 1) := fun J V I => op_of (h_raid I.1 G.1 a) (fun V' f z => clH_m G I f z.1)
theorem op_step {q : HS} (G : GdH q) (a b c d e : Int32) : OpH mX7_step [.int a, .int b, .int c] xsC q (opK q a b c d e 2) (opX q a b c d e 2) (opN q a b c d e 2) := fun J V I => op_of (h_step I.1 G.1 a b c) (fun V' f z => clH_m G I f z.1)
theorem op_card {q : HS} (G : GdH q) (a b c d e : Int32) : OpH mX7_card [.int a, .int b, .int c] xs3 q (opK q a b c d e 3) (opX q a b c d e 3) (opN q a b c d e 3) := fun J V I => op_of (h_card I.1 G.1 a b c) (fun V' f z => clH_m G I f z.1)
theorem op_change {q : HS} (G : GdH q) (a b c d e : Int32) : OpH mX7_change [.int a, .int b, .int c] xsB q (opK q a b c d e 4) (opX q a b c d e 4) (opN q a b c d e 4) := fun J V I => op_of (h_change I.1 G.1 a b c) (fun V' f z => clH_m G I f z.1)
theorem op_review {q : HS} (G : GdH q) (a b c d e : Int32) : OpH mX7_review [.int a, .int b, .int c, .int d, .int e] xs3 q (opK q a b c d e 5) (opX q a b c d e 5) (opN q a b c d e 5) := fun J V I => op_of (h_review I.1 G.1 a b c d e) (fun V' f z => clH_m G I f z.1)
theorem op_wouldFall {q : HS} (G : GdH q) (a b c d e : Int32) : OpH mX7_wouldFall [.int a, .int b, .int c, .int d] xsD q (opK q a b c d e 6) (opX q a b c d e 6) (opN q a b c d e 6) := fun J V I => op_of (h_wouldFall I.1 G.1 a b c d) (fun V' f z => clH_m G I f z)
theorem op_takeBack {q : HS} (G : GdH q) (a b c d e : Int32) : OpH mX7_takeBack [.int a] xsE q (opK q a b c d e 7) (opX q a b c d e 7) (opN q a b c d e 7) := fun J V I => op_of (h_takeBack I.1 G.1 a) (fun V' f z => clH_m G I f z.1)
theorem op_enter {q : HS} (G : GdH q) (a b c d e : Int32) : OpH mX7_enter [] xsF q (opK q a b c d e 8) (opX q a b c d e 8) (opN q a b c d e 8) := fun J V I => op_of (h_enter I.1 G.1 I.2.2) (fun V' f z => clH_e G I f z.1 z.2.2)
theorem op_player {q : HS} (G : GdH q) (a b c d e : Int32) : OpH mX7_player [.int a, .int b] xsB q (opK q a b c d e 13) (opX q a b c d e 13) (opN q a b c d e 13) := fun J V I => op_of (h_player I.1 G.1 a b) (fun V' f z => clH_m G I f z)
theorem op_out {q : HS} (G : GdH q) (a b c d e : Int32) : OpH mX7_out [.int a, .int b] xsB q (opK q a b c d e 14) (opX q a b c d e 14) (opN q a b c d e 14) := fun J V I => op_of (h_out I.1 G.1 a b) (fun V' f z => clH_m G I f z)
theorem op_next {q : HS} (G : GdH q) (a b c d e : Int32) : OpH mX7_next [.int a] xsB q (opK q a b c d e 15) (opX q a b c d e 15) (opN q a b c d e 15) := fun J V I => op_of (h_next I.1 G.1 a) (fun V' f z => clH_m G I f z)
theorem op_points {q : HS} (G : GdH q) (a b c d e : Int32) : OpH mX7_points [.int a] xsB q (opK q a b c d e 16) (opX q a b c d e 16) (opN q a b c d e 16) := fun J V I => op_of (h_points I.1 G.1 a) (fun V' f z => clH_m G I f z)
theorem op_match {q : HS} (G : GdH q) (a b c d e : Int32) : OpH mX7_match [.int a] xsC q (opK q a b c d e 17) (opX q a b c d e 17) (opN q a b c d e 17) := fun J V I => op_of (h_match I.1 G.1 a) (fun V' f z => clH_m G I f z)
theorem op_hasReview {q : HS} (G : GdH q) (a b c d e : Int32) : OpH mX7_hasReview [.int a] xsB q (opK q a b c d e 18) (opX q a b c d e 18) (opN q a b c d e 18) := fun J V I => op_of (h_hasReview I.1 G.1 a) (fun V' f z => clH_m G I f z)
theorem op_matAfter {q : HS} (G : GdH q) (a b c d e : Int32) : OpH mX7_matAfter [.int a, .int b] xsE q (opK q a b c d e 19) (opX q a b c d e 19) (opN q a b c d e 19) := fun J V I => op_of (h_matAfter I.1 G.1 a b) (fun V' f z => clH_m G I f z)
theorem op_matAnew {q : HS} (G : GdH q) (a b c d e : Int32) : OpH mX7_matAnew [.int a, .int b] xsE q (opK q a b c d e 20) (opX q a b c d e 20) (opN q a b c d e 20) := fun J V I => op_of (h_matAnew I.1 G.1 a b) (fun V' f z => clH_m G I f z)
theorem op_pointsAfter {q : HS} (G : GdH q) (a b c d e : Int32) : OpH mX7_pointsAfter [.int a, .int b] xsE q (opK q a b c d e 21) (opX q a b c d e 21) (opN q a b c d e 21) := fun J V I => op_of (h_pointsAfter I.1 G.1 a b) (fun V' f z => clH_m G I f z)
theorem op_raidPoints {q : HS} (G : GdH q) (a b c d e : Int32) : OpH mX7_raidPoints [.int a, .int b] xsB q (opK q a b c d e 22) (opX q a b c d e 22) (opN q a b c d e 22) := fun J V I => op_of (h_raidPoints I.1 G.1 a b) (fun V' f z => clH_m G I f z)
theorem op_club {q : HS} (G : GdH q) (a b c d e : Int32) : OpH mX7_club [.int a, .int b] xsD q (opK q a b c d e 23) (opX q a b c d e 23) (opN q a b c d e 23) := fun J V I => op_of (h_club I.2.2 G.2.2 a b) (fun V' f z => clH_l G I f z)
theorem op_right {q : HS} (G : GdH q) (a b c d e : Int32) : OpH mX7_right [.int a, .int b] xsB q (opK q a b c d e 24) (opX q a b c d e 24) (opN q a b c d e 24) := fun J V I => op_of (h_right I.2.1 G.2.1 a b) (fun V' f z => clH_a G I f z.1)
theorem op_call {q : HS} (G : GdH q) (a b c d e : Int32) : OpH mX7_call [.int a] xsB q (opK q a b c d e 25) (opX q a b c d e 25) (opN q a b c d e 25) := fun J V I => op_of (h_call I.2.1 G.2.1 a) (fun V' f z => clH_a G I f z.1)
theorem op_bid {q : HS} (G : GdH q) (a b c d e : Int32) : OpH mX7_bid [.int a, .int b] xs3 q (opK q a b c d e 26) (opX q a b c d e 26) (opN q a b c d e 26) := fun J V I => op_of (h_bid I.2.1 G.2.1 a b) (fun V' f z => clH_a G I f z.1)
theorem op_hammer {q : HS} (G : GdH q) (a b c d e : Int32) : OpH mX7_hammer [] xsF q (opK q a b c d e 27) (opX q a b c d e 27) (opN q a b c d e 27) := fun J V I => op_of (h_hammer I.2.1 G.2.1 ) (fun V' f z => clH_a G I f z.1)
theorem op_answer {q : HS} (G : GdH q) (a b c d e : Int32) : OpH mX7_answer [.int (bI (decide (a = 1)))] xsF q (opK q a b c d e 28) (opX q a b c d e 28) (opN q a b c d e 28) := fun J V I => op_of (h_answer I.2.1 G.2.1 (decide (a = 1))) (fun V' f z => clH_a G I f z.1)
theorem op_lot {q : HS} (G : GdH q) (a b c d e : Int32) : OpH mX7_lot [.int a, .int b] xsD q (opK q a b c d e 29) (opX q a b c d e 29) (opN q a b c d e 29) := fun J V I => op_of (h_lot I.2.1 G.2.1 a b) (fun V' f z => clH_a G I f z.1)
theorem op_squad {q : HS} (G : GdH q) (a b c d e : Int32) : OpH mX7_squad [.int a, .int b] xsD q (opK q a b c d e 30) (opX q a b c d e 30) (opN q a b c d e 30) := fun J V I => op_of (h_squad I.2.1 G.2.1 a b) (fun V' f z => clH_a G I f z.1)
