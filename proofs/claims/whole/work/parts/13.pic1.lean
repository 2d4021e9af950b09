def f_X1_measurePulls_E59 (a13 : Nat → Int32) : Option ((Nat → Int32)) :=
  some a13
def f_X1_measurePulls_E53 (b11 : Int32 → (Nat → Int32) → Option ((Nat → Int32))) (x1 : Int32) (a9 : Nat → Int32) : Option ((Nat → Int32)) :=
  b11 (x1 + (1 : Int32)) a9
def f_X1_measurePulls_L18 (x1 r3 : Int32) (k6 : (Nat → Int32) → Option ((Nat → Int32))) : Nat → Int32 → (Nat → Int32) → Option ((Nat → Int32))
  | 0, _, _ => none
  | n8 + 1, x4, a5 => if ((1 : Int32) <<< (x1 &&& (31 : Int32))) ≤ x4 then k6 a5 else chk x4 512 (chk (x4 ||| ((1 : Int32) <<< (x1 &&& (31 : Int32)))) 512 ((f_X1_measurePulls_L18 x1 r3 k6 n8) (x4 + (2 : Int32)) (upd a5 ((x4 ||| ((1 : Int32) <<< (x1 &&& (31 : Int32))))).toNatClampNeg ((a5 (x4).toNatClampNeg) + r3))))
def f_X1_measurePulls_L2 (N : Nat) (p2 p1_places_ : Int32) (p1_weights_ : Nat → Int32) (k10 : (Nat → Int32) → Option ((Nat → Int32))) : Nat → Int32 → (Nat → Int32) → Option ((Nat → Int32))
  | 0, _, _ => none
  | n12 + 1, x1, a2 => if p2 ≤ x1 then k10 a2 else bd1 (f_X4_tieOf x1 p2 p1_places_ p1_weights_) (fun r3 => f_X1_measurePulls_L18 x1 r3 (fun a9 => f_X1_measurePulls_E53 (f_X1_measurePulls_L2 N p2 p1_places_ p1_weights_ k10 n12) x1 a9) N (0 : Int32) a2)
def f_X1_measurePulls (N : Nat) (p2 : Int32) (pulls_ : Nat → Int32) (p1_places_ : Int32) (p1_weights_ : Nat → Int32) : Option ((Nat → Int32)) :=
  f_X1_measurePulls_L2 N p2 p1_places_ p1_weights_ (fun a13 => f_X1_measurePulls_E59 a13) N (1 : Int32) pulls_
def f_X1_measureWith_E53 (a7 : Nat → Int32) : Option ((Nat → Int32)) :=
  some a7
def f_X1_measureWith_L9 (p2 r1 : Int32) (pulls_ : Nat → Int32) (k4 : (Nat → Int32) → Option ((Nat → Int32))) : Nat → Int32 → (Nat → Int32) → Option ((Nat → Int32))
  | 0, _, _ => none
  | n6 + 1, x2, a3 => if ((1 : Int32) <<< (p2 &&& (31 : Int32))) ≤ x2 then k4 a3 else chk x2 1024 (chk x2 512 (chk (x2 ||| ((1 : Int32) <<< (p2 &&& (31 : Int32)))) 1024 ((f_X1_measureWith_L9 p2 r1 pulls_ k4 n6) (x2 + (2 : Int32)) (upd a3 ((x2 ||| ((1 : Int32) <<< (p2 &&& (31 : Int32))))).toNatClampNeg (((a3 (x2).toNatClampNeg) + r1) - ((2 : Int32) * (pulls_ (x2).toNatClampNeg)))))))
def f_X1_measureWith (N : Nat) (p2 : Int32) (weights_ pulls_ : Nat → Int32) (p1_places_ : Int32) (p1_weights_ : Nat → Int32) : Option ((Nat → Int32)) :=
  bd1 (f_X4_weightsOf N p2 p1_places_ p1_weights_) (fun r1 => f_X1_measureWith_L9 p2 r1 pulls_ (fun a7 => f_X1_measureWith_E53 a7) N (0 : Int32) weights_)
def f_X1_findLeast_E89 (x12 x13 : Int32) (a14 : Nat → Int32) : Option (Int32 × Int32 × (Nat → Int32)) :=
  some (x12, x13, a14)
def f_X1_findLeast_J83 (b10 : Int32 → Int32 → Int32 → (Nat → Int32) → Option (Int32 × Int32 × (Nat → Int32))) (x1 x5 : Int32) (x7 : Int32) (a8 : Nat → Int32) : Option (Int32 × Int32 × (Nat → Int32)) :=
  b10 (x1 + (2 : Int32)) x5 x7 a8
def f_X1_findLeast_J50 (x1 : Int32) (weights_ : Nat → Int32) (b10 : Int32 → Int32 → Int32 → (Nat → Int32) → Option (Int32 × Int32 × (Nat → Int32))) (a4 : Nat → Int32) (x5 x6 : Int32) : Option (Int32 × Int32 × (Nat → Int32)) :=
  chk x1 1024 (if (weights_ (x1).toNatClampNeg) = x5 then chk x6 511 (f_X1_findLeast_J83 b10 x1 x5 (x6 + (1 : Int32)) (upd a4 (x6).toNatClampNeg x1)) else f_X1_findLeast_J83 b10 x1 x5 x6 a4)
def f_X1_findLeast_L7 (end_ : Int32) (weights_ : Nat → Int32) (k9 : Int32 → Int32 → (Nat → Int32) → Option (Int32 × Int32 × (Nat → Int32))) : Nat → Int32 → Int32 → Int32 → (Nat → Int32) → Option (Int32 × Int32 × (Nat → Int32))
  | 0, _, _, _, _ => none
  | n11 + 1, x1, x2, x3, a4 => if end_ ≤ x1 then k9 x2 x3 a4 else if x3 = (0 : Int32) then chk x1 1024 (f_X1_findLeast_J50 x1 weights_ (f_X1_findLeast_L7 end_ weights_ k9 n11) a4 (weights_ (x1).toNatClampNeg) (0 : Int32)) else chk x1 1024 (if x2 ≤ (weights_ (x1).toNatClampNeg) then f_X1_findLeast_J50 x1 weights_ (f_X1_findLeast_L7 end_ weights_ k9 n11) a4 x2 x3 else chk x1 1024 (f_X1_findLeast_J50 x1 weights_ (f_X1_findLeast_L7 end_ weights_ k9 n11) a4 (weights_ (x1).toNatClampNeg) (0 : Int32)))
def f_X1_findLeast (N : Nat) (end_ leastWeight_ : Int32) (weights_ leastSets_ : Nat → Int32) : Option (Int32 × Int32 × (Nat → Int32)) :=
  f_X1_findLeast_L7 end_ weights_ (fun x12 x13 a14 => f_X1_findLeast_E89 x12 x13 a14) N (2 : Int32) leastWeight_ (0 : Int32) leastSets_
def f_X1_partedByAllLeast_E32 : Option (Int32) :=
  some (1 : Int32)
def f_X1_partedByAllLeast_L2 (leastCount_ : Int32) (leastSets_ : Nat → Int32) (p1 p2 : Int32) (k3 : Option (Int32)) : Nat → Int32 → Option (Int32)
  | 0, _ => none
  | n5 + 1, x1 => if leastCount_ ≤ x1 then k3 else chk x1 511 (bd1 (f_X5_parts (leastSets_ (x1).toNatClampNeg) p1 p2) (fun r2 => if r2 = (0 : Int32) then some (0 : Int32) else (f_X1_partedByAllLeast_L2 leastCount_ leastSets_ p1 p2 k3 n5) (x1 + (1 : Int32))))
def f_X1_partedByAllLeast (N : Nat) (p1 p2 leastCount_ : Int32) (leastSets_ : Nat → Int32) : Option (Int32) :=
  f_X1_partedByAllLeast_L2 leastCount_ leastSets_ p1 p2 (f_X1_partedByAllLeast_E32) N (0 : Int32)
def f_X1_findTight_E81 (x20 : Int32) (a21 : Nat → Int32) : Option (Int32 × (Nat → Int32)) :=
  some (x20, a21)
def f_X1_findTight_E75 (b18 : Int32 → Int32 → (Nat → Int32) → Option (Int32 × (Nat → Int32))) (x1 : Int32) (x15 : Int32) (a16 : Nat → Int32) : Option (Int32 × (Nat → Int32)) :=
  b18 (x1 + (1 : Int32)) x15 a16
def f_X1_findTight_J69 (b13 : Int32 → Int32 → (Nat → Int32) → Option (Int32 × (Nat → Int32))) (x4 : Int32) (x10 : Int32) (a11 : Nat → Int32) : Option (Int32 × (Nat → Int32)) :=
  b13 (x4 + (1 : Int32)) x10 a11
def f_X1_findTight_L19 (N : Nat) (places_ x1 p1_places_ : Int32) (p1_weights_ : Nat → Int32) (leastCount_ : Int32) (leastSets_ : Nat → Int32) (k12 : Int32 → (Nat → Int32) → Option (Int32 × (Nat → Int32))) : Nat → Int32 → Int32 → (Nat → Int32) → Option (Int32 × (Nat → Int32))
  | 0, _, _, _ => none
  | n14 + 1, x4, x5, a6 => if places_ ≤ x4 then k12 x5 a6 else bd1 (f_X4_tieOf x1 x4 p1_places_ p1_weights_) (fun r7 => if r7 ≤ (0 : Int32) then f_X1_findTight_J69 (f_X1_findTight_L19 N places_ x1 p1_places_ p1_weights_ leastCount_ leastSets_ k12 n14) x4 x5 a6 else bd1 (f_X1_partedByAllLeast N x1 x4 leastCount_ leastSets_) (fun r8 => if r8 = (0 : Int32) then f_X1_findTight_J69 (f_X1_findTight_L19 N places_ x1 p1_places_ p1_weights_ leastCount_ leastSets_ k12 n14) x4 x5 a6 else bd1 (f_X5_pairNumber x1 x4) (fun r9 => chk x5 45 (f_X1_findTight_J69 (f_X1_findTight_L19 N places_ x1 p1_places_ p1_weights_ leastCount_ leastSets_ k12 n14) x4 (x5 + (1 : Int32)) (upd a6 (x5).toNatClampNeg r9)))))
def f_X1_findTight_L7 (N : Nat) (places_ p1_places_ : Int32) (p1_weights_ : Nat → Int32) (leastCount_ : Int32) (leastSets_ : Nat → Int32) (k17 : Int32 → (Nat → Int32) → Option (Int32 × (Nat → Int32))) : Nat → Int32 → Int32 → (Nat → Int32) → Option (Int32 × (Nat → Int32))
  | 0, _, _, _ => none
  | n19 + 1, x1, x2, a3 => if places_ ≤ x1 then k17 x2 a3 else f_X1_findTight_L19 N places_ x1 p1_places_ p1_weights_ leastCount_ leastSets_ (fun x15 a16 => f_X1_findTight_E75 (f_X1_findTight_L7 N places_ p1_places_ p1_weights_ leastCount_ leastSets_ k17 n19) x1 x15 a16) N (x1 + (1 : Int32)) x2 a3
def f_X1_findTight (N : Nat) (places_ leastCount_ : Int32) (leastSets_ tightPairs_ : Nat → Int32) (p1_places_ : Int32) (p1_weights_ : Nat → Int32) : Option (Int32 × (Nat → Int32)) :=
  f_X1_findTight_L7 N places_ p1_places_ p1_weights_ leastCount_ leastSets_ (fun x20 a21 => f_X1_findTight_E81 x20 a21) N (0 : Int32) (0 : Int32) tightPairs_
def f_X1_measure_E46 (N : Nat) (p1_places_ leastWeight_ : Int32) (leastSets_ tightPairs_ p1_weights_ : Nat → Int32) (a9 a10 : Nat → Int32) : Option (Int32 × Int32 × Int32 × Int32 × Int32 × (Nat → Int32) × (Nat → Int32) × (Nat → Int32) × (Nat → Int32)) :=
  bd3 (f_X1_findLeast N ((1 : Int32) <<< (p1_places_ &&& (31 : Int32))) leastWeight_ a9 leastSets_) (fun x11 x12 a13 => bd2 (f_X1_findTight N p1_places_ x12 a13 tightPairs_ p1_places_ p1_weights_) (fun x14 a15 => some (p1_places_, ((1 : Int32) <<< (p1_places_ &&& (31 : Int32))), x11, x12, x14, a9, a10, a13, a15)))
def f_X1_measure_L20 (N : Nat) (p1_places_ : Int32) (p1_weights_ : Nat → Int32) (k6 : (Nat → Int32) → (Nat → Int32) → Option (Int32 × Int32 × Int32 × Int32 × Int32 × (Nat → Int32) × (Nat → Int32) × (Nat → Int32) × (Nat → Int32))) : Nat → Int32 → (Nat → Int32) → (Nat → Int32) → Option (Int32 × Int32 × Int32 × Int32 × Int32 × (Nat → Int32) × (Nat → Int32) × (Nat → Int32) × (Nat → Int32))
  | 0, _, _, _ => none
  | n8 + 1, x1, a2, a3 => if p1_places_ ≤ x1 then k6 a2 a3 else bd1 (f_X1_measurePulls N x1 a3 p1_places_ p1_weights_) (fun a4 => bd1 (f_X1_measureWith N x1 a2 a4 p1_places_ p1_weights_) (fun a5 => (f_X1_measure_L20 N p1_places_ p1_weights_ k6 n8) (x1 + (1 : Int32)) a5 a4))
def f_X1_measure (N : Nat) (leastWeight_ : Int32) (weights_ pulls_ leastSets_ tightPairs_ : Nat → Int32) (p1_places_ : Int32) (p1_weights_ : Nat → Int32) : Option (Int32 × Int32 × Int32 × Int32 × Int32 × (Nat → Int32) × (Nat → Int32) × (Nat → Int32) × (Nat → Int32)) :=
  f_X1_measure_L20 N p1_places_ p1_weights_ (fun a9 a10 => f_X1_measure_E46 N p1_places_ leastWeight_ leastSets_ tightPairs_ p1_weights_ a9 a10) N (1 : Int32) weights_ pulls_
def f_X1_isParting (p1 end_ : Int32) : Option (Int32) :=
  if p1 ≤ (0 : Int32) then some (0 : Int32) else if end_ ≤ p1 then some (0 : Int32) else bd1 (f_X5_holds p1 (0 : Int32)) (fun r1 => if r1 = (0 : Int32) then some (1 : Int32) else some (0 : Int32))
def f_X1_weightOf (p1 end_ : Int32) (weights_ : Nat → Int32) : Option (Int32) :=
  bd1 (f_X1_isParting p1 end_) (fun r1 => if r1 = (0 : Int32) then some (0 : Int32) else chk p1 1024 (some (weights_ (p1).toNatClampNeg)))
def f_X1_leastAt (p1 leastCount_ : Int32) (leastSets_ : Nat → Int32) : Option (Int32) :=
  if p1 < (0 : Int32) then some (0 : Int32) else if leastCount_ ≤ p1 then some (0 : Int32) else chk p1 511 (some (leastSets_ (p1).toNatClampNeg))
def f_X1_tightAt (p1 tightCount_ : Int32) (tightPairs_ : Nat → Int32) : Option (Int32) :=
  if p1 < (0 : Int32) then some (0 : Int32) else if tightCount_ ≤ p1 then some (0 : Int32) else chk p1 45 (some (tightPairs_ (p1).toNatClampNeg))
def f_X1_tightPairsOf_E47 (x7 : Int32) : Option (Int32) :=
  some x7
def f_X1_tightPairsOf_J41 (b5 : Int32 → Int32 → Option (Int32)) (x2 : Int32) (x3 : Int32) : Option (Int32) :=
  b5 x3 (x2 + (1 : Int32))
def f_X1_tightPairsOf_L4 (tightCount_ : Int32) (tightPairs_ : Nat → Int32) (p1 : Int32) (k4 : Int32 → Option (Int32)) : Nat → Int32 → Int32 → Option (Int32)
  | 0, _, _ => none
  | n6 + 1, x1, x2 => if tightCount_ ≤ x2 then k4 x1 else chk x2 45 (if ((tightPairs_ (x2).toNatClampNeg) / (10 : Int32)) = p1 then f_X1_tightPairsOf_J41 (f_X1_tightPairsOf_L4 tightCount_ tightPairs_ p1 k4 n6) x2 (x1 + (1 : Int32)) else chk x2 45 (if ((tightPairs_ (x2).toNatClampNeg) - (tightPairs_ (x2).toNatClampNeg) / (10 : Int32) * (10 : Int32)) = p1 then f_X1_tightPairsOf_J41 (f_X1_tightPairsOf_L4 tightCount_ tightPairs_ p1 k4 n6) x2 (x1 + (1 : Int32)) else f_X1_tightPairsOf_J41 (f_X1_tightPairsOf_L4 tightCount_ tightPairs_ p1 k4 n6) x2 x1))
def f_X1_tightPairsOf (N : Nat) (p1 tightCount_ : Int32) (tightPairs_ : Nat → Int32) : Option (Int32) :=
  f_X1_tightPairsOf_L4 tightCount_ tightPairs_ p1 (fun x7 => f_X1_tightPairsOf_E47 x7) N (0 : Int32) (0 : Int32)
def f_X1_isFair (p1 p2 places_ : Int32) : Option (Int32) :=
  bd1 (f_J6_bitCount_0f7a4 p1) (fun r1 => if r1 < p2 then some (0 : Int32) else if (places_ - r1) < p2 then some (0 : Int32) else some (1 : Int32))
def f_X1_fairCount_E30 (x8 : Int32) : Option (Int32) :=
  some x8
def f_X1_fairCount_J24 (b6 : Int32 → Int32 → Option (Int32)) (x2 : Int32) (x4 : Int32) : Option (Int32) :=
  b6 x4 (x2 + (2 : Int32))
def f_X1_fairCount_L4 (end_ p1 places_ : Int32) (k5 : Int32 → Option (Int32)) : Nat → Int32 → Int32 → Option (Int32)
  | 0, _, _ => none
  | n7 + 1, x1, x2 => if end_ ≤ x2 then k5 x1 else bd1 (f_X1_isFair x2 p1 places_) (fun r3 => if r3 = (0 : Int32) then f_X1_fairCount_J24 (f_X1_fairCount_L4 end_ p1 places_ k5 n7) x2 x1 else f_X1_fairCount_J24 (f_X1_fairCount_L4 end_ p1 places_ k5 n7) x2 (x1 + (1 : Int32)))
def f_X1_fairCount (N : Nat) (p1 places_ end_ : Int32) : Option (Int32) :=
  f_X1_fairCount_L4 end_ p1 places_ (fun x8 => f_X1_fairCount_E30 x8) N (0 : Int32) (2 : Int32)
def f_X1_leastFair_E48 (x8 : Int32) : Option (Int32) :=
  some x8
def f_X1_leastFair_J42 (b6 : Int32 → Int32 → Option (Int32)) (x2 : Int32) (x4 : Int32) : Option (Int32) :=
  b6 x4 (x2 + (2 : Int32))
def f_X1_leastFair_L4 (end_ p1 places_ : Int32) (weights_ : Nat → Int32) (k5 : Int32 → Option (Int32)) : Nat → Int32 → Int32 → Option (Int32)
  | 0, _, _ => none
  | n7 + 1, x1, x2 => if end_ ≤ x2 then k5 x1 else bd1 (f_X1_isFair x2 p1 places_) (fun r3 => if r3 = (0 : Int32) then f_X1_leastFair_J42 (f_X1_leastFair_L4 end_ p1 places_ weights_ k5 n7) x2 x1 else if x1 = (0 : Int32) then f_X1_leastFair_J42 (f_X1_leastFair_L4 end_ p1 places_ weights_ k5 n7) x2 x2 else chk x2 1024 (chk x1 1024 (if (weights_ (x1).toNatClampNeg) ≤ (weights_ (x2).toNatClampNeg) then f_X1_leastFair_J42 (f_X1_leastFair_L4 end_ p1 places_ weights_ k5 n7) x2 x1 else f_X1_leastFair_J42 (f_X1_leastFair_L4 end_ p1 places_ weights_ k5 n7) x2 x2)))
def f_X1_leastFair (N : Nat) (p1 places_ end_ : Int32) (weights_ : Nat → Int32) : Option (Int32) :=
  f_X1_leastFair_L4 end_ p1 places_ weights_ (fun x8 => f_X1_leastFair_E48 x8) N (0 : Int32) (2 : Int32)
def f_X1_leastBetween_E53 (x8 : Int32) : Option (Int32) :=
  some x8
def f_X1_leastBetween_J47 (b6 : Int32 → Int32 → Option (Int32)) (x2 : Int32) (x4 : Int32) : Option (Int32) :=
  b6 x4 (x2 + (2 : Int32))
def f_X1_leastBetween_L5 (end_ p1 p2 : Int32) (weights_ : Nat → Int32) (k5 : Int32 → Option (Int32)) : Nat → Int32 → Int32 → Option (Int32)
  | 0, _, _ => none
  | n7 + 1, x1, x2 => if end_ ≤ x2 then k5 x1 else bd1 (f_X5_parts x2 p1 p2) (fun r3 => if r3 = (0 : Int32) then f_X1_leastBetween_J47 (f_X1_leastBetween_L5 end_ p1 p2 weights_ k5 n7) x2 x1 else if x1 = (0 : Int32) then f_X1_leastBetween_J47 (f_X1_leastBetween_L5 end_ p1 p2 weights_ k5 n7) x2 x2 else chk x2 1024 (chk x1 1024 (if (weights_ (x1).toNatClampNeg) ≤ (weights_ (x2).toNatClampNeg) then f_X1_leastBetween_J47 (f_X1_leastBetween_L5 end_ p1 p2 weights_ k5 n7) x2 x1 else f_X1_leastBetween_J47 (f_X1_leastBetween_L5 end_ p1 p2 weights_ k5 n7) x2 x2)))
def f_X1_leastBetween (N : Nat) (p1 p2 end_ : Int32) (weights_ : Nat → Int32) : Option (Int32) :=
  f_X1_leastBetween_L5 end_ p1 p2 weights_ (fun x8 => f_X1_leastBetween_E53 x8) N (0 : Int32) (2 : Int32)
def f_X1_leastWeightWith_E68 (x9 : Int32) : Option (Int32) :=
  some x9
def f_X1_leastWeightWith_J62 (b7 : Int32 → Int32 → Option (Int32)) (x2 : Int32) (x5 : Int32) : Option (Int32) :=
  b7 x5 (x2 + (2 : Int32))
def f_X1_leastWeightWith_J44 (x1 : Int32) (b7 : Int32 → Int32 → Option (Int32)) (x2 : Int32) (x4 : Int32) : Option (Int32) :=
  if x1 < (0 : Int32) then f_X1_leastWeightWith_J62 b7 x2 x4 else if x1 ≤ x4 then f_X1_leastWeightWith_J62 b7 x2 x1 else f_X1_leastWeightWith_J62 b7 x2 x4
def f_X1_leastWeightWith_L6 (end_ p1 p2 : Int32) (weights_ : Nat → Int32) (p3 : Int32) (k6 : Int32 → Option (Int32)) : Nat → Int32 → Int32 → Option (Int32)
  | 0, _, _ => none
  | n8 + 1, x1, x2 => if end_ ≤ x2 then k6 x1 else bd1 (f_X5_parts x2 p1 p2) (fun r3 => if r3 = (0 : Int32) then chk x2 1024 (f_X1_leastWeightWith_J44 x1 (f_X1_leastWeightWith_L6 end_ p1 p2 weights_ p3 k6 n8) x2 (weights_ (x2).toNatClampNeg)) else chk x2 1024 (f_X1_leastWeightWith_J44 x1 (f_X1_leastWeightWith_L6 end_ p1 p2 weights_ p3 k6 n8) x2 ((weights_ (x2).toNatClampNeg) + p3)))
def f_X1_leastWeightWith (N : Nat) (p1 p2 p3 end_ : Int32) (weights_ : Nat → Int32) : Option (Int32) :=
  f_X1_leastWeightWith_L6 end_ p1 p2 weights_ p3 (fun x9 => f_X1_leastWeightWith_E68 x9) N (-1 : Int32) (2 : Int32)
