def f_X2_begin_E66 (p1_places_ : Int32) (a14 a15 : Nat → Int32) : Option (Int32 × (Nat → Int32) × (Nat → Int32)) :=
  some (p1_places_, a14, a15)
def f_X2_begin_E60 (b12 : Int32 → (Nat → Int32) → (Nat → Int32) → Option (Int32 × (Nat → Int32) × (Nat → Int32))) (x1 : Int32) (a2 : Nat → Int32) (a10 : Nat → Int32) : Option (Int32 × (Nat → Int32) × (Nat → Int32)) :=
  b12 (x1 + (1 : Int32)) (upd a2 (x1).toNatClampNeg ((1 : Int32) <<< (x1 &&& (31 : Int32)))) a10
def f_X2_begin_L29 (p1_places_ x1 : Int32) (p1_weights_ : Nat → Int32) (k7 : (Nat → Int32) → Option (Int32 × (Nat → Int32) × (Nat → Int32))) : Nat → Int32 → (Nat → Int32) → Option (Int32 × (Nat → Int32) × (Nat → Int32))
  | 0, _, _ => none
  | n9 + 1, x4, a5 => if p1_places_ ≤ x4 then k7 a5 else bd1 (f_X4_tieOf x1 x4 p1_places_ p1_weights_) (fun r6 => chk ((x1 * (10 : Int32)) + x4) 100 ((f_X2_begin_L29 p1_places_ x1 p1_weights_ k7 n9) (x4 + (1 : Int32)) (upd a5 (((x1 * (10 : Int32)) + x4)).toNatClampNeg r6)))
def f_X2_begin_L10 (N : Nat) (p1_places_ : Int32) (p1_weights_ : Nat → Int32) (k11 : (Nat → Int32) → (Nat → Int32) → Option (Int32 × (Nat → Int32) × (Nat → Int32))) : Nat → Int32 → (Nat → Int32) → (Nat → Int32) → Option (Int32 × (Nat → Int32) × (Nat → Int32))
  | 0, _, _, _ => none
  | n13 + 1, x1, a2, a3 => if p1_places_ ≤ x1 then k11 a2 a3 else chk x1 10 (f_X2_begin_L29 p1_places_ x1 p1_weights_ (fun a10 => f_X2_begin_E60 (f_X2_begin_L10 N p1_places_ p1_weights_ k11 n13) x1 a2 a10) N (0 : Int32) a3)
def f_X2_begin (N : Nat) (members_ ties_ : Nat → Int32) (p1_places_ : Int32) (p1_weights_ : Nat → Int32) : Option (Int32 × (Nat → Int32) × (Nat → Int32)) :=
  f_X2_begin_L10 N p1_places_ p1_weights_ (fun a14 a15 => f_X2_begin_E66 p1_places_ a14 a15) N (0 : Int32) members_ ties_
def f_X2_nameOfLumpWith_E31 : Option (Int32) :=
  some (0 : Int32)
def f_X2_nameOfLumpWith_L2 (places_ : Int32) (members_ : Nat → Int32) (p1 : Int32) (k3 : Option (Int32)) : Nat → Int32 → Option (Int32)
  | 0, _ => none
  | n5 + 1, x1 => if places_ ≤ x1 then k3 else chk x1 10 (bd1 (f_X5_holds (members_ (x1).toNatClampNeg) p1) (fun r2 => if r2 = (0 : Int32) then (f_X2_nameOfLumpWith_L2 places_ members_ p1 k3 n5) (x1 + (1 : Int32)) else some x1))
def f_X2_nameOfLumpWith (N : Nat) (p1 places_ : Int32) (members_ : Nat → Int32) : Option (Int32) :=
  f_X2_nameOfLumpWith_L2 places_ members_ p1 (f_X2_nameOfLumpWith_E31) N (0 : Int32)
def f_X2_lumpsIn (p1 places_ : Int32) : Option (Int32) :=
  some (places_ - p1)
def f_X2_drawNearer_E44 (a8 : Nat → Int32) : Option ((Nat → Int32)) :=
  some a8
def f_X2_drawNearer_J38 (b6 : Int32 → (Nat → Int32) → Option ((Nat → Int32))) (x1 : Int32) (a4 : Nat → Int32) : Option ((Nat → Int32)) :=
  b6 (x1 + (1 : Int32)) a4
def f_X2_drawNearer_L2 (places_ p1 p2 : Int32) (ties_ : Nat → Int32) (k5 : (Nat → Int32) → Option ((Nat → Int32))) : Nat → Int32 → (Nat → Int32) → Option ((Nat → Int32))
  | 0, _, _ => none
  | n7 + 1, x1, a2 => if places_ ≤ x1 then k5 a2 else bd1 (f_X5_holds p1 x1) (fun r3 => if r3 = (0 : Int32) then f_X2_drawNearer_J38 (f_X2_drawNearer_L2 places_ p1 p2 ties_ k5 n7) x1 a2 else chk x1 10 (chk ((p2 * (10 : Int32)) + x1) 100 (chk x1 10 (f_X2_drawNearer_J38 (f_X2_drawNearer_L2 places_ p1 p2 ties_ k5 n7) x1 (upd a2 (x1).toNatClampNeg ((a2 (x1).toNatClampNeg) + (ties_ (((p2 * (10 : Int32)) + x1)).toNatClampNeg)))))))
def f_X2_drawNearer (N : Nat) (p1 p2 places_ : Int32) (ties_ nears_ : Nat → Int32) : Option ((Nat → Int32)) :=
  f_X2_drawNearer_L2 places_ p1 p2 ties_ (fun a8 => f_X2_drawNearer_E44 a8) N (0 : Int32) nears_
def f_X2_nearestOf_E53 (x10 : Int32) : Option (Int32) :=
  some x10
def f_X2_nearestOf_J47 (b8 : Int32 → Int32 → Int32 → Option (Int32)) (x3 : Int32) (x5 x6 : Int32) : Option (Int32) :=
  b8 x5 x6 (x3 + (1 : Int32))
def f_X2_nearestOf_L7 (places_ p1 : Int32) (nears_ : Nat → Int32) (k7 : Int32 → Option (Int32)) : Nat → Int32 → Int32 → Int32 → Option (Int32)
  | 0, _, _, _ => none
  | n9 + 1, x1, x2, x3 => if places_ ≤ x3 then k7 x1 else bd1 (f_X5_holds p1 x3) (fun r4 => if r4 = (0 : Int32) then f_X2_nearestOf_J47 (f_X2_nearestOf_L7 places_ p1 nears_ k7 n9) x3 x1 x2 else chk x3 10 (if (nears_ (x3).toNatClampNeg) ≤ x2 then f_X2_nearestOf_J47 (f_X2_nearestOf_L7 places_ p1 nears_ k7 n9) x3 x1 x2 else chk x3 10 (f_X2_nearestOf_J47 (f_X2_nearestOf_L7 places_ p1 nears_ k7 n9) x3 x3 (nears_ (x3).toNatClampNeg))))
def f_X2_nearestOf (N : Nat) (p1 places_ : Int32) (nears_ : Nat → Int32) : Option (Int32) :=
  f_X2_nearestOf_L7 places_ p1 nears_ (fun x10 => f_X2_nearestOf_E53 x10) N (0 : Int32) (-1 : Int32) (0 : Int32)
def f_X2_swallowAll_E123 (a22 a23 a24 : Nat → Int32) : Option ((Nat → Int32) × (Nat → Int32) × (Nat → Int32)) :=
  some (a22, a23, a24)
def f_X2_swallowAll_L51 (N : Nat) (p1 places_ : Int32) (ties_ : Nat → Int32) (k19 : (Nat → Int32) → (Nat → Int32) → (Nat → Int32) → Option ((Nat → Int32) × (Nat → Int32) × (Nat → Int32))) : Nat → Int32 → Int32 → Int32 → (Nat → Int32) → (Nat → Int32) → (Nat → Int32) → Option ((Nat → Int32) × (Nat → Int32) × (Nat → Int32))
  | 0, _, _, _, _, _, _ => none
  | n21 + 1, x10, x11, x12, a13, a14, a15 => bd1 (f_X2_lumpsIn p1 places_) (fun r16 => if r16 ≤ x12 then k19 a13 a14 a15 else chk ((p1 * (10 : Int32)) + x12) 90 (chk x11 10 (chk ((p1 * (10 : Int32)) + x12) 90 (bd1 (f_X2_drawNearer N (x10 &&& (((1 : Int32) <<< (x11 &&& (31 : Int32))) ^^^ (-1 : Int32))) x11 places_ ties_ a13) (fun a17 => bd1 (f_X2_nearestOf N (x10 &&& (((1 : Int32) <<< (x11 &&& (31 : Int32))) ^^^ (-1 : Int32))) places_ a17) (fun r18 => (f_X2_swallowAll_L51 N p1 places_ ties_ k19 n21) (x10 &&& (((1 : Int32) <<< (x11 &&& (31 : Int32))) ^^^ (-1 : Int32))) r18 (x12 + (1 : Int32)) a17 (upd a14 (((p1 * (10 : Int32)) + x12)).toNatClampNeg x11) (upd a15 (((p1 * (10 : Int32)) + x12)).toNatClampNeg (a13 (x11).toNatClampNeg))))))))
def f_X2_swallowAll_E45 (N : Nat) (p1 places_ : Int32) (ties_ : Nat → Int32) (p2 : Int32) (names_ nearnesses_ : Nat → Int32) (x8 : Int32) (a9 : Nat → Int32) : Option ((Nat → Int32) × (Nat → Int32) × (Nat → Int32)) :=
  f_X2_swallowAll_L51 N p1 places_ ties_ (fun a22 a23 a24 => f_X2_swallowAll_E123 a22 a23 a24) N x8 p2 (0 : Int32) a9 names_ nearnesses_
def f_X2_swallowAll_J39 (b6 : Int32 → Int32 → (Nat → Int32) → Option ((Nat → Int32) × (Nat → Int32) × (Nat → Int32))) (x2 : Int32) (a3 : Nat → Int32) (x4 : Int32) : Option ((Nat → Int32) × (Nat → Int32) × (Nat → Int32)) :=
  b6 x4 (x2 + (1 : Int32)) (upd a3 (x2).toNatClampNeg (0 : Int32))
def f_X2_swallowAll_L5 (places_ : Int32) (members_ : Nat → Int32) (k5 : Int32 → (Nat → Int32) → Option ((Nat → Int32) × (Nat → Int32) × (Nat → Int32))) : Nat → Int32 → Int32 → (Nat → Int32) → Option ((Nat → Int32) × (Nat → Int32) × (Nat → Int32))
  | 0, _, _, _ => none
  | n7 + 1, x1, x2, a3 => if places_ ≤ x2 then k5 x1 a3 else chk x2 10 (chk x2 10 (if (members_ (x2).toNatClampNeg) = (0 : Int32) then f_X2_swallowAll_J39 (f_X2_swallowAll_L5 places_ members_ k5 n7) x2 a3 x1 else f_X2_swallowAll_J39 (f_X2_swallowAll_L5 places_ members_ k5 n7) x2 a3 (x1 ||| ((1 : Int32) <<< (x2 &&& (31 : Int32))))))
def f_X2_swallowAll (N : Nat) (p1 p2 places_ : Int32) (members_ ties_ nears_ names_ nearnesses_ : Nat → Int32) : Option ((Nat → Int32) × (Nat → Int32) × (Nat → Int32)) :=
  f_X2_swallowAll_L5 places_ members_ (fun x8 a9 => f_X2_swallowAll_E45 N p1 places_ ties_ p2 names_ nearnesses_ x8 a9) N (0 : Int32) (0 : Int32) nears_
def f_X2_isPhase (p1 places_ : Int32) : Option (Int32) :=
  if p1 < (0 : Int32) then some (0 : Int32) else if (places_ - (1 : Int32)) ≤ p1 then some (0 : Int32) else some (1 : Int32)
def f_X2_isRank (p1 p2 places_ : Int32) : Option (Int32) :=
  bd1 (f_X2_isPhase p1 places_) (fun r1 => if r1 = (0 : Int32) then some (0 : Int32) else if p2 < (0 : Int32) then some (0 : Int32) else bd1 (f_X2_lumpsIn p1 places_) (fun r2 => if r2 ≤ p2 then some (0 : Int32) else some (1 : Int32)))
def f_X2_nameAt (p1 p2 places_ : Int32) (names_ : Nat → Int32) : Option (Int32) :=
  bd1 (f_X2_isRank p1 p2 places_) (fun r1 => if r1 = (0 : Int32) then some (0 : Int32) else chk ((p1 * (10 : Int32)) + p2) 90 (some (names_ (((p1 * (10 : Int32)) + p2)).toNatClampNeg)))
def f_X2_unite_E89 (members_ : Nat → Int32) (p1 p2 : Int32) (a6 : Nat → Int32) : Option ((Nat → Int32) × (Nat → Int32)) :=
  some ((upd (upd members_ (p1).toNatClampNeg ((members_ (p1).toNatClampNeg) ||| (members_ (p2).toNatClampNeg))) (p2).toNatClampNeg (0 : Int32)), a6)
def f_X2_unite_L24 (places_ p1 p2 : Int32) (k3 : (Nat → Int32) → Option ((Nat → Int32) × (Nat → Int32))) : Nat → Int32 → (Nat → Int32) → Option ((Nat → Int32) × (Nat → Int32))
  | 0, _, _ => none
  | n5 + 1, x1, a2 => if places_ ≤ x1 then k3 a2 else chk ((p1 * (10 : Int32)) + x1) 100 (chk ((p2 * (10 : Int32)) + x1) 100 (chk ((p1 * (10 : Int32)) + x1) 100 (chk ((x1 * (10 : Int32)) + p1) 100 ((f_X2_unite_L24 places_ p1 p2 k3 n5) (x1 + (1 : Int32)) (upd (upd a2 (((p1 * (10 : Int32)) + x1)).toNatClampNeg ((a2 (((p1 * (10 : Int32)) + x1)).toNatClampNeg) + (a2 (((p2 * (10 : Int32)) + x1)).toNatClampNeg))) (((x1 * (10 : Int32)) + p1)).toNatClampNeg ((a2 (((p1 * (10 : Int32)) + x1)).toNatClampNeg) + (a2 (((p2 * (10 : Int32)) + x1)).toNatClampNeg)))))))
def f_X2_unite (N : Nat) (p1 p2 places_ : Int32) (members_ ties_ : Nat → Int32) : Option ((Nat → Int32) × (Nat → Int32)) :=
  chk p1 10 (chk p2 10 (chk p1 10 (chk p2 10 (f_X2_unite_L24 places_ p1 p2 (fun a6 => f_X2_unite_E89 members_ p1 p2 a6) N (0 : Int32) ties_))))
def f_X2_endPhase_J74 (N : Nat) (p1 r4 r2 places_ : Int32) (members_ ties_ partings_ unions_ : Nat → Int32) (x6 : Int32) : Option ((Nat → Int32) × (Nat → Int32) × (Nat → Int32) × (Nat → Int32)) :=
  chk p1 9 (bd2 (f_X2_unite N (if r4 < r2 then r4 else r2) (if r2 < r4 then r4 else r2) places_ members_ ties_) (fun a7 a8 => chk (if r4 < r2 then r4 else r2) 10 (chk p1 9 (some (a7, a8, (upd partings_ (p1).toNatClampNeg x6), (upd unions_ (p1).toNatClampNeg (a7 ((if r4 < r2 then r4 else r2)).toNatClampNeg)))))))
def f_X2_endPhase (N : Nat) (p1 places_ : Int32) (members_ ties_ names_ partings_ unions_ : Nat → Int32) : Option ((Nat → Int32) × (Nat → Int32) × (Nat → Int32) × (Nat → Int32)) :=
  bd1 (f_X2_lumpsIn p1 places_) (fun r1 => bd1 (f_X2_nameAt p1 (r1 - (1 : Int32)) places_ names_) (fun r2 => bd1 (f_X2_lumpsIn p1 places_) (fun r3 => bd1 (f_X2_nameAt p1 (r3 - (2 : Int32)) places_ names_) (fun r4 => chk r2 10 (bd1 (f_X5_holds (members_ (r2).toNatClampNeg) (0 : Int32)) (fun r5 => if r5 = (0 : Int32) then chk r2 10 (f_X2_endPhase_J74 N p1 r4 r2 places_ members_ ties_ partings_ unions_ (members_ (r2).toNatClampNeg)) else chk r2 10 (f_X2_endPhase_J74 N p1 r4 r2 places_ members_ ties_ partings_ unions_ ((((1 : Int32) <<< (places_ &&& (31 : Int32))) - (1 : Int32)) &&& ((members_ (r2).toNatClampNeg) ^^^ (-1 : Int32))))))))))
def f_X2_run_E41 (x1 : Int32) (a23 a24 a25 a26 a27 a28 a29 : Nat → Int32) : Option (Int32 × (Nat → Int32) × (Nat → Int32) × (Nat → Int32) × (Nat → Int32) × (Nat → Int32) × (Nat → Int32) × (Nat → Int32)) :=
  some (x1, a23, a24, a25, a26, a27, a28, a29)
def f_X2_run_L7 (N : Nat) (x1 p1_start_ : Int32) (k20 : (Nat → Int32) → (Nat → Int32) → (Nat → Int32) → (Nat → Int32) → (Nat → Int32) → (Nat → Int32) → (Nat → Int32) → Option (Int32 × (Nat → Int32) × (Nat → Int32) × (Nat → Int32) × (Nat → Int32) × (Nat → Int32) × (Nat → Int32) × (Nat → Int32))) : Nat → Int32 → (Nat → Int32) → (Nat → Int32) → (Nat → Int32) → (Nat → Int32) → (Nat → Int32) → (Nat → Int32) → (Nat → Int32) → Option (Int32 × (Nat → Int32) × (Nat → Int32) × (Nat → Int32) × (Nat → Int32) × (Nat → Int32) × (Nat → Int32) × (Nat → Int32))
  | 0, _, _, _, _, _, _, _, _ => none
  | n22 + 1, x4, a5, a6, a7, a8, a9, a10, a11 => if (x1 - (1 : Int32)) ≤ x4 then k20 a5 a6 a7 a8 a9 a10 a11 else bd1 (f_X2_nameOfLumpWith N p1_start_ x1 a5) (fun r12 => bd3 (f_X2_swallowAll N x4 r12 x1 a5 a6 a7 a8 a9) (fun a13 a14 a15 => bd4 (f_X2_endPhase N x4 x1 a5 a6 a14 a10 a11) (fun a16 a17 a18 a19 => (f_X2_run_L7 N x1 p1_start_ k20 n22) (x4 + (1 : Int32)) a16 a17 a13 a14 a15 a18 a19)))
def f_X2_run (N : Nat) (members_ ties_ nears_ names_ nearnesses_ partings_ unions_ : Nat → Int32) (p1_places_ p1_start_ : Int32) (p1_weights_ : Nat → Int32) : Option (Int32 × (Nat → Int32) × (Nat → Int32) × (Nat → Int32) × (Nat → Int32) × (Nat → Int32) × (Nat → Int32) × (Nat → Int32)) :=
  bd3 (f_X2_begin N members_ ties_ p1_places_ p1_weights_) (fun x1 a2 a3 => f_X2_run_L7 N x1 p1_start_ (fun a23 a24 a25 a26 a27 a28 a29 => f_X2_run_E41 x1 a23 a24 a25 a26 a27 a28 a29) N (0 : Int32) a2 a3 nears_ names_ nearnesses_ partings_ unions_)
def f_X2_partingOf (p1 places_ : Int32) (partings_ : Nat → Int32) : Option (Int32) :=
  bd1 (f_X2_isPhase p1 places_) (fun r1 => if r1 = (0 : Int32) then some (0 : Int32) else chk p1 9 (some (partings_ (p1).toNatClampNeg)))
def f_X2_unionIn (p1 places_ : Int32) (unions_ : Nat → Int32) : Option (Int32) :=
  bd1 (f_X2_isPhase p1 places_) (fun r1 => if r1 = (0 : Int32) then some (0 : Int32) else chk p1 9 (some (unions_ (p1).toNatClampNeg)))
def f_X2_nearnessAt (p1 p2 places_ : Int32) (nearnesses_ : Nat → Int32) : Option (Int32) :=
  bd1 (f_X2_isRank p1 p2 places_) (fun r1 => if r1 = (0 : Int32) then some (0 : Int32) else chk ((p1 * (10 : Int32)) + p2) 90 (some (nearnesses_ (((p1 * (10 : Int32)) + p2)).toNatClampNeg)))
def f_X2_weightIn (p1 places_ : Int32) (nearnesses_ : Nat → Int32) : Option (Int32) :=
  bd1 (f_X2_lumpsIn p1 places_) (fun r1 => bd1 (f_X2_nearnessAt p1 (r1 - (1 : Int32)) places_ nearnesses_) (fun r2 => some r2))
def f_X2_firstRankOf_E30 (x8 : Int32) : Option (Int32) :=
  some x8
def f_X2_firstRankOf_J24 (b6 : Int32 → Int32 → Option (Int32)) (x2 : Int32) (x4 : Int32) : Option (Int32) :=
  b6 x4 (x2 + (1 : Int32))
def f_X2_firstRankOf_L4 (places_ : Int32) (names_ : Nat → Int32) (p1 : Int32) (k5 : Int32 → Option (Int32)) : Nat → Int32 → Int32 → Option (Int32)
  | 0, _, _ => none
  | n7 + 1, x1, x2 => if places_ ≤ x2 then k5 x1 else bd1 (f_X2_nameAt (0 : Int32) x2 places_ names_) (fun r3 => if r3 = p1 then f_X2_firstRankOf_J24 (f_X2_firstRankOf_L4 places_ names_ p1 k5 n7) x2 x2 else f_X2_firstRankOf_J24 (f_X2_firstRankOf_L4 places_ names_ p1 k5 n7) x2 x1)
def f_X2_firstRankOf (N : Nat) (p1 places_ : Int32) (names_ : Nat → Int32) : Option (Int32) :=
  f_X2_firstRankOf_L4 places_ names_ p1 (fun x8 => f_X2_firstRankOf_E30 x8) N (0 : Int32) (0 : Int32)
def f_X2_leastPhase_E35 (x9 : Int32) : Option (Int32) :=
  some x9
def f_X2_leastPhase_J29 (b7 : Int32 → Int32 → Option (Int32)) (x2 : Int32) (x5 : Int32) : Option (Int32) :=
  b7 x5 (x2 + (1 : Int32))
def f_X2_leastPhase_L4 (places_ : Int32) (nearnesses_ : Nat → Int32) (k6 : Int32 → Option (Int32)) : Nat → Int32 → Int32 → Option (Int32)
  | 0, _, _ => none
  | n8 + 1, x1, x2 => if (places_ - (1 : Int32)) ≤ x2 then k6 x1 else bd1 (f_X2_weightIn x2 places_ nearnesses_) (fun r3 => bd1 (f_X2_weightIn x1 places_ nearnesses_) (fun r4 => if r4 ≤ r3 then f_X2_leastPhase_J29 (f_X2_leastPhase_L4 places_ nearnesses_ k6 n8) x2 x1 else f_X2_leastPhase_J29 (f_X2_leastPhase_L4 places_ nearnesses_ k6 n8) x2 x2))
def f_X2_leastPhase (N : Nat) (places_ : Int32) (nearnesses_ : Nat → Int32) : Option (Int32) :=
  f_X2_leastPhase_L4 places_ nearnesses_ (fun x9 => f_X2_leastPhase_E35 x9) N (0 : Int32) (1 : Int32)
