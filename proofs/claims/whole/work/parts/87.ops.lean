/-- a call, both sides -/
def Op (d7 d8 : pD) (as : List Value) (xs : List (Nat × String)) (q : LSt) (k : Nat) (x : Int32) (q' : LSt) : Prop :=
  (∀ J V, clS V q → rfS V q → CLs J d7 (.ref 0 :: as) V xs k x q q') ∧ (∀ J V, clS V q' → rfS V q → RLs J d8 (.ref 405 :: as) V k x q') ∧ (∀ B, bddL q.2.2.1 B → bddL q'.2.2.1 (B + 400000))
theorem bddL_m {g : Lg} {B : Nat} (h : bddL g B) : bddL g (B + 400000) := fun k hk => Nat.le_trans (h k hk) (Nat.le_add_right _ _)
section Ops
variable (q : LSt)
theorem op_begin (G : GdX q.1) (x y t : Int32) : Op mX7_begin mX8_begin [.int x, .int y, .int t] xs3 q (beginK q.1.1 x y t) (nI (q.1.1 6 + 1)) (beginN q.1.1 q.1.2 x y t, q.2) :=
  ⟨fun J V I R => CLs_of (h_begin I.1.1 G x y t) (fun V' f z => cl_M I R f z (Gd_begin G x y t)), fun J V I R => RLs_of (m_begin R.1 G x y t) (fun V' f z => rf_M I R f z), fun B h => bddL_m h⟩
theorem op_raid (G : GdX q.1) (p : Int32) : Op mX7_raid mX8_raid [.int p] xsB q (raidK q.1.1 q.1.2 p) (nI (q.1.1 2)) (raidN q.1.1 q.1.2 p, q.2) :=
  ⟨fun J V I R => CLs_of (h_raid I.1.1 G p) (fun V' f z => cl_M I R f z.1 z.2), fun J V I R => RLs_of (m_raid R.1 G p) (fun V' f z => rf_M I R f z), fun B h => bddL_m h⟩
theorem op_step (G : GdX q.1) (k w t : Int32) : Op mX7_step mX8_step [.int k, .int w, .int t] xsC q (stepK q.1.1 q.1.2 k w t) (stepV q.1.1 q.1.2 k w t) (stepN q.1.1 q.1.2 k w t, q.2) :=
  ⟨fun J V I R => CLs_of (h_step I.1.1 G k w t) (fun V' f z => cl_M I R f z.1 z.2), fun J V I R => RLs_of (m_step R.1 G k w t) (fun V' f z => rf_M I R f z), fun B h => bddL_m h⟩
theorem op_card (G : GdX q.1) (a p k : Int32) : Op mX7_card mX8_card [.int a, .int p, .int k] xs3 q (cardK q.1.1 q.1.2 a p k) (cardV q.1.1 q.1.2 a p k) (cardN q.1.1 q.1.2 a p k, q.2) :=
  ⟨fun J V I R => CLs_of (h_card I.1.1 G a p k) (fun V' f z => cl_M I R f z.1 z.2), fun J V I R => RLs_of (m_card R.1 G a p k) (fun V' f z => rf_M I R f z), fun B h => bddL_m h⟩
theorem op_change (G : GdX q.1) (a x y : Int32) : Op mX7_change mX8_change [.int a, .int x, .int y] xsB q (swapK q.1.1 q.1.2 a x y) (swapV q.1.1 q.1.2 a) (swapN q.1.1 q.1.2 a x y, q.2) :=
  ⟨fun J V I R => CLs_of (h_change I.1.1 G a x y) (fun V' f z => cl_M I R f z.1 z.2), fun J V I R => RLs_of (m_change R.1 G a x y) (fun V' f z => rf_M I R f z), fun B h => bddL_m h⟩
theorem op_review (G : GdX q.1) (a n p k w : Int32) : Op mX7_review mX8_review [.int a, .int n, .int p, .int k, .int w] xs3 q (revK q.1.1 q.1.2 a n p k w) (revV q.1.1 q.1.2 a n p k w) (revN q.1.1 q.1.2 a n p k w, q.2) :=
  ⟨fun J V I R => CLs_of (h_review I.1.1 G a n p k w) (fun V' f z => cl_M I R f z.1 z.2), fun J V I R => RLs_of (m_review R.1 G a n p k w) (fun V' f z => rf_M I R f z), fun B h => bddL_m h⟩
theorem op_wouldFall (G : GdX q.1) (n p k w : Int32) : Op mX7_wouldFall mX8_wouldFall [.int n, .int p, .int k, .int w] xsD q (fallsK q.1.1 q.1.2 n p k w) (fallsV q.1.1 q.1.2 n p k w) (q.1, q.2) :=
  ⟨fun J V I R => CLs_of (h_wouldFall I.1.1 G n p k w) (fun V' f z => cl_M I R f z G), fun J V I R => RLs_of (m_wouldFall R.1 G n p k w) (fun V' f z => rf_M I R f z), fun B h => bddL_m h⟩
theorem op_takeBack (G : GdX q.1) (n : Int32) : Op mX7_takeBack mX8_takeBack [.int n] xsE q (backK q.1.1 n) (nI (q.1.1 2 - n.toNatClampNeg)) (backN q.1.1 q.1.2 n, q.2) :=
  ⟨fun J V I R => CLs_of (h_takeBack I.1.1 G n) (fun V' f z => cl_M I R f z.1 z.2), fun J V I R => RLs_of (m_takeBack R.1 G n) (fun V' f z => rf_M I R f z), fun B h => bddL_m h⟩
theorem op_player (G : GdX q.1) (a p : Int32) : Op mX7_player mX8_player [.int a, .int p] xsB q (viewK q.1.1 (isIx a 2 && isIx p 10)) (nI (nowF q.1.1 q.1.2 (10 * a.toNatClampNeg + p.toNatClampNeg))) (q.1, q.2) :=
  ⟨fun J V I R => CLs_of (h_player I.1.1 G a p) (fun V' f z => cl_M I R f z G), fun J V I R => RLs_of (m_player R.1 G a p) (fun V' f z => rf_M I R f z), fun B h => bddL_m h⟩
theorem op_out (G : GdX q.1) (a p : Int32) : Op mX7_out mX8_out [.int a, .int p] xsB q (viewK q.1.1 (isIx a 2 && !decide (p < 0))) (outV q.1.1 q.1.2 a.toNatClampNeg p) (q.1, q.2) :=
  ⟨fun J V I R => CLs_of (h_out I.1.1 G a p) (fun V' f z => cl_M I R f z G), fun J V I R => RLs_of (m_out R.1 G a p) (fun V' f z => rf_M I R f z), fun B h => bddL_m h⟩
theorem op_next (G : GdX q.1) (a : Int32) : Op mX7_next mX8_next [.int a] xsB q (viewK q.1.1 (isIx a 2)) (outV q.1.1 q.1.2 a.toNatClampNeg 0) (q.1, q.2) :=
  ⟨fun J V I R => CLs_of (h_next I.1.1 G a) (fun V' f z => cl_M I R f z G), fun J V I R => RLs_of (m_next R.1 G a) (fun V' f z => rf_M I R f z), fun B h => bddL_m h⟩
theorem op_points (G : GdX q.1) (a : Int32) : Op mX7_points mX8_points [.int a] xsB q (viewK q.1.1 (isIx a 2)) (nI (nowF q.1.1 q.1.2 (104 + a.toNatClampNeg))) (q.1, q.2) :=
  ⟨fun J V I R => CLs_of (h_points I.1.1 G a) (fun V' f z => cl_M I R f z G), fun J V I R => RLs_of (m_points R.1 G a) (fun V' f z => rf_M I R f z), fun B h => bddL_m h⟩
theorem op_match (G : GdX q.1) (y : Int32) : Op mX7_match mX8_match [.int y] xsC q (viewK q.1.1 (isIx y 8)) (tellV q.1.1 q.1.2 y.toNatClampNeg) (q.1, q.2) :=
  ⟨fun J V I R => CLs_of (h_match I.1.1 G y) (fun V' f z => cl_M I R f z G), fun J V I R => RLs_of (m_match R.1 G y) (fun V' f z => rf_M I R f z), fun B h => bddL_m h⟩
theorem op_hasReview (G : GdX q.1) (a : Int32) : Op mX7_hasReview mX8_hasReview [.int a] xsB q (viewK q.1.1 (isIx a 2)) (bI (decide (q.1.1 (7 + a.toNatClampNeg) = 0))) (q.1, q.2) :=
  ⟨fun J V I R => CLs_of (h_hasReview I.1.1 G a) (fun V' f z => cl_M I R f z G), fun J V I R => RLs_of (m_hasReview R.1 G a) (fun V' f z => rf_M I R f z), fun B h => bddL_m h⟩
theorem op_matAfter (G : GdX q.1) (n a : Int32) : Op mX7_matAfter mX8_matAfter [.int n, .int a] xsE q (endK q.1.1 n a) (nI (bits (runE q.1.2 (n.toNatClampNeg + 1)) a.toNatClampNeg)) (q.1, q.2) :=
  ⟨fun J V I R => CLs_of (h_matAfter I.1.1 G n a) (fun V' f z => cl_M I R f z G), fun J V I R => RLs_of (m_matAfter R.1 G n a) (fun V' f z => rf_M I R f z), fun B h => bddL_m h⟩
theorem op_matAnew (G : GdX q.1) (n a : Int32) : Op mX7_matAnew mX8_matAnew [.int n, .int a] xsE q (endK q.1.1 n a) (nI (bits (runE q.1.2 (n.toNatClampNeg + 1)) a.toNatClampNeg)) (q.1, q.2) :=
  ⟨fun J V I R => CLs_of (h_matAnew I.1.1 G n a) (fun V' f z => cl_M I R f z G), fun J V I R => RLs_of (m_matAnew R.1 G n a) (fun V' f z => rf_M I R f z), fun B h => bddL_m h⟩
theorem op_pointsAfter (G : GdX q.1) (n a : Int32) : Op mX7_pointsAfter mX8_pointsAfter [.int n, .int a] xsE q (endK q.1.1 n a) (nI (runE q.1.2 (n.toNatClampNeg + 1) (104 + a.toNatClampNeg))) (q.1, q.2) :=
  ⟨fun J V I R => CLs_of (h_pointsAfter I.1.1 G n a) (fun V' f z => cl_M I R f z G), fun J V I R => RLs_of (m_pointsAfter R.1 G n a) (fun V' f z => rf_M I R f z), fun B h => bddL_m h⟩
theorem op_raidPoints (G : GdX q.1) (a p : Int32) : Op mX7_raidPoints mX8_raidPoints [.int a, .int p] xsB q (viewK q.1.1 (isIx a 2 && isIx p 10)) (nI (nowF q.1.1 q.1.2 (60 + 10 * a.toNatClampNeg + p.toNatClampNeg))) (q.1, q.2) :=
  ⟨fun J V I R => CLs_of (h_raidPoints I.1.1 G a p) (fun V' f z => cl_M I R f z G), fun J V I R => RLs_of (m_raidPoints R.1 G a p) (fun V' f z => rf_M I R f z), fun B h => bddL_m h⟩
theorem op_right (GA : GdA q.2.1) (c l : Int32) : Op mX7_right mX8_right [.int c, .int l] xsB q (rightK q.2.1 c l) (q.2.1 (90 + l.toNatClampNeg)) (q.1, rightN q.2.1 c l, q.2.2) :=
  ⟨fun J V I R => CLs_of (h_right I.2.1.1 GA c l) (fun V' f z => cl_A I R f z), fun J V I R => RLs_of (m_right R.2.1 GA c l) (fun V' f z => rf_A I R f z), fun B h => bddL_m h⟩
theorem op_call (GA : GdA q.2.1) (l : Int32) : Op mX7_call mX8_call [.int l] xsB q (callK q.2.1 l) (nI (baseF l.toNatClampNeg)) (q.1, callN q.2.1 l, q.2.2) :=
  ⟨fun J V I R => CLs_of (h_call I.2.1.1 GA l) (fun V' f z => cl_A I R f z), fun J V I R => RLs_of (m_call R.2.1 GA l) (fun V' f z => rf_A I R f z), fun B h => bddL_m h⟩
theorem op_bid (GA : GdA q.2.1) (c x : Int32) : Op mX7_bid mX8_bid [.int c, .int x] xs3 q (bidK q.2.1 c x) (q.2.1 121 + 1) (q.1, bidN q.2.1 c x, q.2.2) :=
  ⟨fun J V I R => CLs_of (h_bid I.2.1.1 GA c x) (fun V' f z => cl_A I R f z), fun J V I R => RLs_of (m_bid R.2.1 GA c x) (fun V' f z => rf_A I R f z), fun B h => bddL_m h⟩
theorem op_hammer (GA : GdA q.2.1) : Op mX7_hammer mX8_hammer [] xsF q (hamK q.2.1) (strikeV q.2.1) (q.1, hamN q.2.1, q.2.2) :=
  ⟨fun J V I R => CLs_of (h_hammer I.2.1.1 GA ) (fun V' f z => cl_A I R f z), fun J V I R => RLs_of (m_hammer R.2.1 GA ) (fun V' f z => rf_A I R f z), fun B h => bddL_m h⟩
theorem op_answer (GA : GdA q.2.1) (t : Bool) : Op mX7_answer mX8_answer [.int (bI t)] xsF q (ansK q.2.1) (settleC q.2.1 t) (q.1, ansN q.2.1 t, q.2.2) :=
  ⟨fun J V I R => CLs_of (h_answer I.2.1.1 GA t) (fun V' f z => cl_A I R f z), fun J V I R => RLs_of (m_answer R.2.1 GA t) (fun V' f z => rf_A I R f z), fun B h => bddL_m h⟩
theorem op_lot (GA : GdA q.2.1) (l k : Int32) : Op mX7_lot mX8_lot [.int l, .int k] xsD q (twoK (isIx l 24) (isIx k 4)) (lotV q.2.1 l.toNatClampNeg k.toNatClampNeg) (q.1, q.2.1, q.2.2) :=
  ⟨fun J V I R => CLs_of (h_lot I.2.1.1 GA l k) (fun V' f z => cl_A I R f z), fun J V I R => RLs_of (m_lot R.2.1 GA l k) (fun V' f z => rf_A I R f z), fun B h => bddL_m h⟩
theorem op_squad (GA : GdA q.2.1) (c k : Int32) : Op mX7_squad mX8_squad [.int c, .int k] xsD q (twoK (isIx c 8) (isIx k 3)) (q.2.1 (10 * k.toNatClampNeg + c.toNatClampNeg)) (q.1, q.2.1, q.2.2) :=
  ⟨fun J V I R => CLs_of (h_squad I.2.1.1 GA c k) (fun V' f z => cl_A I R f z), fun J V I R => RLs_of (m_squad R.2.1  c k) (fun V' f z => rf_A I R f z), fun B h => bddL_m h⟩
theorem op_club (hb : bddL q.2.2.1 1000000000) (c k : Int32) : Op mX7_club mX8_club [.int c, .int k] xsD q (twoK (isIx c 8) (isIx k 7)) (lgV q.2.2.1 c.toNatClampNeg k.toNatClampNeg) q :=
  ⟨fun J V I R => CLs_of (h_club I.2.2.1 hb c k) (fun V' f z => cl_L I R f z), fun J V I R => RLs_of (m_club2 R.2.2.1 hb c k) (fun V' f z => rf_L I R f z), fun B h => bddL_m h⟩
theorem op_enter (G : GdX q.1) : Op mX7_enter mX8_enter [] xsF q (entK q.1.1 q.1.2) (entV q.1.1 q.1.2) (entN q.1.1 q.1.2, q.2.1, entG q.1.1 q.1.2 q.2.2.1, q.2.2.2) :=
  ⟨fun J V I R => CLs_of (h_enter2 I.1.1 G I.2.2.1) (fun V' f z => cl_E I R f z.1.1 z.1.2.1 z.1.2.2 z.2.1 z.2.2), fun J V I R => RLs_of (m_enter R.1 G R.2.2.1) (fun V' f z => rf_E I R f z.1 z.2), fun B h k hk => Nat.le_trans (bddL_ent G h k hk) (by omega)⟩
theorem op_type (x : Int32) : Op mX7_type mX8_type [.int x] xsC q (typeK q.2.2.2.1 x) (nI (q.2.2.2.1 + 1)) (q.1, q.2.1, q.2.2.1, typeN q.2.2.2.1 x, typeS q.2.2.2.2 q.2.2.2.1 x) :=
  ⟨fun J V I R => CLs_of (h_type I.2.2.2 x) (fun V' f z => cl_P I R f z), fun J V I R => RLs_of (m_type R.2.2.2 x) (fun V' f z => rf_Q I R f z), fun B h => bddL_m h⟩
theorem op_run (G : GdX q.1) : Op mX7_run mX8_run [] xsF q (runK q.2.2.2.2 q.2.2.2.1) (nI (runF q.2.2.2.2 q.2.2.2.1 60 0 (q.1.1, q.1.2)).1) (runN q.2.2.2.2 q.2.2.2.1 q.1.1 q.1.2, q.2) :=
  ⟨fun J V I R => CLs_of (lo := 1) (n := 390) (P := fun V' => clP V' q.2.2.2.1 q.2.2.2.2 ∧ clX V' (runN q.2.2.2.2 q.2.2.2.1 q.1.1 q.1.2) ∧ GdX (runN q.2.2.2.2 q.2.2.2.1 q.1.1 q.1.2)) (h_run I.2.2.2 I.1.1 G) (fun V' f z => cl_R I R f z.2.1 z.2.2 z.1), fun J V I R => RLs_of (m_run R.2.2.2 R.1 G) (fun V' f z => rf_R I R f z.1 z.2), fun B h => bddL_m h⟩
theorem op_clear : (∀ J V, clS V q → rfS V q → CTc J mX7_clear [.ref 0] V (fun r V' => r = some (.int (nI q.2.2.2.1)) ∧ clS V' (q.1, q.2.1, q.2.2.1, 0, fun _ => -1) ∧ rfS V' q) NX) ∧ (∀ J V, clS V (q.1, q.2.1, q.2.2.1, 0, fun _ => -1) → rfS V q → RLs J mX8_clear [.ref 405] V 0 (nI q.2.2.2.1) (q.1, q.2.1, q.2.2.1, 0, fun _ => -1)) :=
  ⟨fun J V I R => CTc_mono (h_clear I.2.2.2) (fun v V' z => ⟨z.1, cl_P I R z.2.1 z.2.2⟩) (fun _ _ z => z), fun J V I R => RLs_of (m_clear R.2.2.2) (fun V' f z => rf_Q I R f z)⟩
theorem op_fault : (∀ J V, clS V q → rfS V q → CTc J mX7_fault [.ref 0] V (fun r V' => r = some (.int (fI (fltF q.2.2.2.2 q.2.2.2.1 60 0))) ∧ clS V' q ∧ rfS V' q) NX) ∧ (∀ J V, clS V q → rfS V q → RLs J mX8_fault [.ref 405] V 0 (fI (fltF q.2.2.2.2 q.2.2.2.1 60 0)) q) :=
  ⟨fun J V I R => CTc_mono (h_fault I.2.2.2) (fun v V' z => ⟨z.1, cl_P I R z.2.1 z.2.2⟩) (fun _ _ z => z), fun J V I R => RLs_of (m_fault R.2.2.2) (fun V' f z => rf_Q I R f z)⟩
end Ops
