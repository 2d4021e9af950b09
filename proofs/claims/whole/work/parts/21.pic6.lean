def f_X6_in (p0 p1 p2 : Int32) : Option (Int32) :=
  if p0 < p1 then some (0 : Int32) else if p2 < p0 then some (0 : Int32) else some (1 : Int32)
def f_X6_isPlace (p1 : Int32) (s_ : Nat → Int32) : Option (Int32) :=
  bd1 (f_X6_in p1 (0 : Int32) ((s_ 0) - (1 : Int32))) (fun r1 => chkB r1 (some r1))
def f_X6_tied (p1 p2 : Int32) (s_ : Nat → Int32) : Option (Int32) :=
  chk (((3 : Int32) + ((10 : Int32) * p1)) + p2) 103 (some (s_ ((((3 : Int32) + ((10 : Int32) * p1)) + p2)).toNatClampNeg))
def f_X6_ties (p1 p2 p3 : Int32) (s_ : Nat → Int32) : Option ((Nat → Int32)) :=
  chk (((3 : Int32) + ((10 : Int32) * p1)) + p2) 103 (chk (((3 : Int32) + ((10 : Int32) * p2)) + p1) 103 (some (upd (upd s_ ((((3 : Int32) + ((10 : Int32) * p1)) + p2)).toNatClampNeg p3) ((((3 : Int32) + ((10 : Int32) * p2)) + p1)).toNatClampNeg p3)))
def f_X6_all (s_ : Nat → Int32) : Option (Int32) :=
  some (((1 : Int32) <<< ((s_ 0) &&& (31 : Int32))) - (1 : Int32))
def f_X6_records_E82 (x7 : Int32) (a14 : Nat → Int32) : Option (Int32 × (Nat → Int32)) :=
  some ((x7 + (1 : Int32)), a14)
def f_X6_records_L50 (x7 : Int32) (s_ : Nat → Int32) (k11 : (Nat → Int32) → Option (Int32 × (Nat → Int32))) : Nat → Int32 → (Nat → Int32) → Option (Int32 × (Nat → Int32))
  | 0, _, _ => none
  | n13 + 1, x9, a10 => if (103 : Int32) ≤ x9 then k11 a10 else chk x9 103 (chk (((103 : Int32) * x7) + x9) 412 ((f_X6_records_L50 x7 s_ k11 n13) (x9 + (1 : Int32)) (upd a10 ((((103 : Int32) * x7) + x9)).toNatClampNeg (s_ (x9).toNatClampNeg))))
def f_X6_records_J48 (N : Nat) (s_ : Nat → Int32) (x7 : Int32) (a8 : Nat → Int32) : Option (Int32 × (Nat → Int32)) :=
  f_X6_records_L50 x7 s_ (fun a14 => f_X6_records_E82 x7 a14) N (0 : Int32) a8
def f_X6_records_E38 (N : Nat) (s_ : Nat → Int32) (savedMany_ : Int32) (a6 : Nat → Int32) : Option (Int32 × (Nat → Int32)) :=
  f_X6_records_J48 N s_ (savedMany_ - (1 : Int32)) a6
def f_X6_records_L10 (k3 : (Nat → Int32) → Option (Int32 × (Nat → Int32))) : Nat → Int32 → (Nat → Int32) → Option (Int32 × (Nat → Int32))
  | 0, _, _ => none
  | n5 + 1, x1, a2 => if (309 : Int32) ≤ x1 then k3 a2 else chk (x1 + (103 : Int32)) 412 (chk x1 412 ((f_X6_records_L10 k3 n5) (x1 + (1 : Int32)) (upd a2 (x1).toNatClampNeg (a2 ((x1 + (103 : Int32))).toNatClampNeg))))
def f_X6_records (N : Nat) (savedMany_ : Int32) (s_ saved_ : Nat → Int32) : Option (Int32 × (Nat → Int32)) :=
  if savedMany_ = (4 : Int32) then f_X6_records_L10 (fun a6 => f_X6_records_E38 N s_ savedMany_ a6) N (0 : Int32) saved_ else f_X6_records_J48 N s_ savedMany_ saved_
def f_X6_weightBetween_E77 (x14 : Int32) : Option (Int32) :=
  some x14
def f_X6_weightBetween_E71 (b12 : Int32 → Int32 → Option (Int32)) (x2 : Int32) (x10 : Int32) : Option (Int32) :=
  b12 x10 (x2 + (1 : Int32))
def f_X6_weightBetween_J63 (b8 : Int32 → Int32 → Option (Int32)) (x3 x4 : Int32) (x6 : Int32) : Option (Int32) :=
  b8 (x3 + x6) (x4 + (1 : Int32))
def f_X6_weightBetween_L19 (s_ : Nat → Int32) (p1 x2 p2 : Int32) (k7 : Int32 → Option (Int32)) : Nat → Int32 → Int32 → Option (Int32)
  | 0, _, _ => none
  | n9 + 1, x3, x4 => if (s_ 0) ≤ x4 then k7 x3 else if ((p1 >>> (x2 &&& (31 : Int32))) &&& (1 : Int32)) = (1 : Int32) then if ((p2 >>> (x4 &&& (31 : Int32))) &&& (1 : Int32)) = (1 : Int32) then bd1 (f_X6_tied x2 x4 s_) (fun r5 => f_X6_weightBetween_J63 (f_X6_weightBetween_L19 s_ p1 x2 p2 k7 n9) x3 x4 r5) else f_X6_weightBetween_J63 (f_X6_weightBetween_L19 s_ p1 x2 p2 k7 n9) x3 x4 (0 : Int32) else k7 x3
def f_X6_weightBetween_L5 (N : Nat) (s_ : Nat → Int32) (p1 p2 : Int32) (k11 : Int32 → Option (Int32)) : Nat → Int32 → Int32 → Option (Int32)
  | 0, _, _ => none
  | n13 + 1, x1, x2 => if (s_ 0) ≤ x2 then k11 x1 else f_X6_weightBetween_L19 s_ p1 x2 p2 (fun x10 => f_X6_weightBetween_E71 (f_X6_weightBetween_L5 N s_ p1 p2 k11 n13) x2 x10) N x1 (0 : Int32)
def f_X6_weightBetween (N : Nat) (p1 p2 : Int32) (s_ : Nat → Int32) : Option (Int32) :=
  f_X6_weightBetween_L5 N s_ p1 p2 (fun x14 => f_X6_weightBetween_E77 x14) N (0 : Int32) (0 : Int32)
def f_X6_weightOf (N : Nat) (p1 : Int32) (s_ : Nat → Int32) : Option (Int32) :=
  bd1 (f_X6_all s_) (fun r1 => bd1 (f_X6_weightBetween N p1 (r1 &&& (p1 ^^^ (-1 : Int32))) s_) (fun r2 => some r2))
def f_X6_isParting (p1 : Int32) (s_ : Nat → Int32) : Option (Int32) :=
  bd1 (f_X6_all s_) (fun r1 => bd1 (f_X6_in p1 (2 : Int32) (r1 - (1 : Int32))) (fun r2 => if r2 = (0 : Int32) then some (0 : Int32) else if (p1 &&& (1 : Int32)) = (0 : Int32) then some (1 : Int32) else some (0 : Int32)))
def f_X6_ones_E24 (x6 : Int32) : Option (Int32) :=
  some x6
def f_X6_ones_L4 (p0 : Int32) (k3 : Int32 → Option (Int32)) : Nat → Int32 → Int32 → Option (Int32)
  | 0, _, _ => none
  | n5 + 1, x1, x2 => if (10 : Int32) ≤ x2 then k3 x1 else (f_X6_ones_L4 p0 k3 n5) (x1 + ((p0 >>> (x2 &&& (31 : Int32))) &&& (1 : Int32))) (x2 + (1 : Int32))
def f_X6_ones (N : Nat) (p0 : Int32) : Option (Int32) :=
  f_X6_ones_L4 p0 (fun x6 => f_X6_ones_E24 x6) N (0 : Int32) (0 : Int32)
def f_X6_isFair (N : Nat) (p1 : Int32) (s_ : Nat → Int32) : Option (Int32) :=
  bd1 (f_X6_ones N p1) (fun r1 => if r1 < (s_ 2) then some (0 : Int32) else if ((s_ 0) - r1) < (s_ 2) then some (0 : Int32) else some (1 : Int32))
def f_X6_firstLeast_E56 (x12 : Int32) : Option (Int32) :=
  some x12
def f_X6_firstLeast_J49 (b10 : Int32 → Int32 → Int32 → Option (Int32)) (x7 x4 : Int32) (x8 : Int32) : Option (Int32) :=
  b10 x7 x8 (x4 + (2 : Int32))
def f_X6_firstLeast_J36 (x3 r6 : Int32) (b10 : Int32 → Int32 → Int32 → Option (Int32)) (x4 : Int32) (x7 : Int32) : Option (Int32) :=
  if x3 ≤ r6 then f_X6_firstLeast_J49 b10 x7 x4 x3 else f_X6_firstLeast_J49 b10 x7 x4 r6
def f_X6_firstLeast_L10 (N : Nat) (s_ : Nat → Int32) (k9 : Int32 → Option (Int32)) : Nat → Int32 → Int32 → Int32 → Option (Int32)
  | 0, _, _, _ => none
  | n11 + 1, x2, x3, x4 => bd1 (f_X6_all s_) (fun r5 => if r5 ≤ x4 then k9 x2 else bd1 (f_X6_weightOf N x4 s_) (fun r6 => if x3 ≤ r6 then f_X6_firstLeast_J36 x3 r6 (f_X6_firstLeast_L10 N s_ k9 n11) x4 x2 else f_X6_firstLeast_J36 x3 r6 (f_X6_firstLeast_L10 N s_ k9 n11) x4 x4))
def f_X6_firstLeast (N : Nat) (s_ : Nat → Int32) : Option (Int32) :=
  bd1 (f_X6_weightOf N (2 : Int32) s_) (fun r1 => f_X6_firstLeast_L10 N s_ (fun x12 => f_X6_firstLeast_E56 x12) N (2 : Int32) r1 (4 : Int32))
def f_X6_leastWeight (N : Nat) (s_ : Nat → Int32) : Option (Int32) :=
  bd1 (f_X6_firstLeast N s_) (fun r1 => bd1 (f_X6_weightOf N r1 s_) (fun r2 => some r2))
def f_X6_leastAt_E50 : Option (Int32) :=
  some (-5 : Int32)
def f_X6_leastAt_J35 (x2 : Int32) (b8 : Int32 → Int32 → Option (Int32)) (x3 : Int32) (x6 : Int32) : Option (Int32) :=
  if (0 : Int32) ≤ (x2 - x6) then b8 (x2 - x6) (x3 + (2 : Int32)) else some x3
def f_X6_leastAt_L10 (N : Nat) (s_ : Nat → Int32) (r1 : Int32) (k7 : Option (Int32)) : Nat → Int32 → Int32 → Option (Int32)
  | 0, _, _ => none
  | n9 + 1, x2, x3 => bd1 (f_X6_all s_) (fun r4 => if r4 ≤ x3 then k7 else bd1 (f_X6_weightOf N x3 s_) (fun r5 => if r5 = r1 then f_X6_leastAt_J35 x2 (f_X6_leastAt_L10 N s_ r1 k7 n9) x3 (1 : Int32) else f_X6_leastAt_J35 x2 (f_X6_leastAt_L10 N s_ r1 k7 n9) x3 (0 : Int32)))
def f_X6_leastAt (N : Nat) (p1 : Int32) (s_ : Nat → Int32) : Option (Int32) :=
  bd1 (f_X6_leastWeight N s_) (fun r1 => f_X6_leastAt_L10 N s_ r1 (f_X6_leastAt_E50) N p1 (2 : Int32))
def f_X6_leastMany_E40 (x10 : Int32) : Option (Int32) :=
  some x10
def f_X6_leastMany_J32 (b8 : Int32 → Int32 → Option (Int32)) (x2 x3 : Int32) (x6 : Int32) : Option (Int32) :=
  b8 (x2 + x6) (x3 + (2 : Int32))
def f_X6_leastMany_L9 (N : Nat) (s_ : Nat → Int32) (r1 : Int32) (k7 : Int32 → Option (Int32)) : Nat → Int32 → Int32 → Option (Int32)
  | 0, _, _ => none
  | n9 + 1, x2, x3 => bd1 (f_X6_all s_) (fun r4 => if r4 ≤ x3 then k7 x2 else bd1 (f_X6_weightOf N x3 s_) (fun r5 => if r5 = r1 then f_X6_leastMany_J32 (f_X6_leastMany_L9 N s_ r1 k7 n9) x2 x3 (1 : Int32) else f_X6_leastMany_J32 (f_X6_leastMany_L9 N s_ r1 k7 n9) x2 x3 (0 : Int32)))
def f_X6_leastMany (N : Nat) (s_ : Nat → Int32) : Option (Int32) :=
  bd1 (f_X6_leastWeight N s_) (fun r1 => f_X6_leastMany_L9 N s_ r1 (fun x10 => f_X6_leastMany_E40 x10) N (0 : Int32) (2 : Int32))
def f_X6_leastFair_E52 (x14 : Int32) : Option (Int32) :=
  some x14
def f_X6_leastFair_J46 (b12 : Int32 → Int32 → Int32 → Option (Int32)) (x3 : Int32) (x9 x10 : Int32) : Option (Int32) :=
  b12 x9 x10 (x3 + (2 : Int32))
def f_X6_leastFair_L7 (N : Nat) (s_ : Nat → Int32) (k11 : Int32 → Option (Int32)) : Nat → Int32 → Int32 → Int32 → Option (Int32)
  | 0, _, _, _ => none
  | n13 + 1, x1, x2, x3 => bd1 (f_X6_all s_) (fun r4 => if r4 ≤ x3 then k11 x1 else bd1 (f_X6_isFair N x3 s_) (fun r5 => if r5 = (0 : Int32) then f_X6_leastFair_J46 (f_X6_leastFair_L7 N s_ k11 n13) x3 x1 x2 else if x1 = (-5 : Int32) then bd1 (f_X6_weightOf N x3 s_) (fun r6 => f_X6_leastFair_J46 (f_X6_leastFair_L7 N s_ k11 n13) x3 x3 r6) else bd1 (f_X6_weightOf N x3 s_) (fun r7 => if x2 ≤ r7 then f_X6_leastFair_J46 (f_X6_leastFair_L7 N s_ k11 n13) x3 x1 x2 else bd1 (f_X6_weightOf N x3 s_) (fun r8 => f_X6_leastFair_J46 (f_X6_leastFair_L7 N s_ k11 n13) x3 x3 r8))))
def f_X6_leastFair (N : Nat) (s_ : Nat → Int32) : Option (Int32) :=
  f_X6_leastFair_L7 N s_ (fun x14 => f_X6_leastFair_E52 x14) N (-5 : Int32) (0 : Int32) (2 : Int32)
def f_X6_fairMany_E34 (x9 : Int32) : Option (Int32) :=
  some x9
def f_X6_fairMany_J26 (b7 : Int32 → Int32 → Option (Int32)) (x1 x2 : Int32) (x5 : Int32) : Option (Int32) :=
  b7 (x1 + x5) (x2 + (2 : Int32))
def f_X6_fairMany_L4 (N : Nat) (s_ : Nat → Int32) (k6 : Int32 → Option (Int32)) : Nat → Int32 → Int32 → Option (Int32)
  | 0, _, _ => none
  | n8 + 1, x1, x2 => bd1 (f_X6_all s_) (fun r3 => if r3 ≤ x2 then k6 x1 else bd1 (f_X6_isFair N x2 s_) (fun r4 => if r4 = (0 : Int32) then f_X6_fairMany_J26 (f_X6_fairMany_L4 N s_ k6 n8) x1 x2 (0 : Int32) else f_X6_fairMany_J26 (f_X6_fairMany_L4 N s_ k6 n8) x1 x2 (1 : Int32)))
def f_X6_fairMany (N : Nat) (s_ : Nat → Int32) : Option (Int32) :=
  f_X6_fairMany_L4 N s_ (fun x9 => f_X6_fairMany_E34 x9) N (0 : Int32) (2 : Int32)
def f_X6_leastBetween_E79 (x14 : Int32) : Option (Int32) :=
  some x14
def f_X6_leastBetween_J73 (b12 : Int32 → Int32 → Int32 → Option (Int32)) (x3 : Int32) (x9 x10 : Int32) : Option (Int32) :=
  b12 x9 x10 (x3 + (2 : Int32))
def f_X6_leastBetween_J38 (N : Nat) (b12 : Int32 → Int32 → Int32 → Option (Int32)) (x3 x1 x2 : Int32) (s_ : Nat → Int32) (x5 : Int32) : Option (Int32) :=
  if x5 = (0 : Int32) then f_X6_leastBetween_J73 b12 x3 x1 x2 else if x1 = (-5 : Int32) then bd1 (f_X6_weightOf N x3 s_) (fun r6 => f_X6_leastBetween_J73 b12 x3 x3 r6) else bd1 (f_X6_weightOf N x3 s_) (fun r7 => if x2 ≤ r7 then f_X6_leastBetween_J73 b12 x3 x1 x2 else bd1 (f_X6_weightOf N x3 s_) (fun r8 => f_X6_leastBetween_J73 b12 x3 x3 r8))
def f_X6_leastBetween_L9 (N : Nat) (s_ : Nat → Int32) (p1 p2 : Int32) (k11 : Int32 → Option (Int32)) : Nat → Int32 → Int32 → Int32 → Option (Int32)
  | 0, _, _, _ => none
  | n13 + 1, x1, x2, x3 => bd1 (f_X6_all s_) (fun r4 => if r4 ≤ x3 then k11 x1 else if ((x3 >>> (p1 &&& (31 : Int32))) &&& (1 : Int32)) = ((x3 >>> (p2 &&& (31 : Int32))) &&& (1 : Int32)) then f_X6_leastBetween_J38 N (f_X6_leastBetween_L9 N s_ p1 p2 k11 n13) x3 x1 x2 s_ (0 : Int32) else f_X6_leastBetween_J38 N (f_X6_leastBetween_L9 N s_ p1 p2 k11 n13) x3 x1 x2 s_ (1 : Int32))
def f_X6_leastBetween (N : Nat) (p1 p2 : Int32) (s_ : Nat → Int32) : Option (Int32) :=
  f_X6_leastBetween_L9 N s_ p1 p2 (fun x14 => f_X6_leastBetween_E79 x14) N (-5 : Int32) (0 : Int32) (2 : Int32)
def f_X6_isTight_E83 (x13 : Int32) : Option (Int32) :=
  chkB x13 (some x13)
def f_X6_isTight_J76 (b11 : Int32 → Int32 → Option (Int32)) (x6 : Int32) (x9 : Int32) : Option (Int32) :=
  b11 x9 (x6 + (2 : Int32))
def f_X6_isTight_L32 (N : Nat) (s_ : Nat → Int32) (x4 p1 p2 : Int32) (k10 : Int32 → Option (Int32)) : Nat → Int32 → Int32 → Option (Int32)
  | 0, _, _ => none
  | n12 + 1, x5, x6 => bd1 (f_X6_all s_) (fun r7 => if r7 ≤ x6 then k10 x5 else if x5 = (0 : Int32) then k10 x5 else bd1 (f_X6_weightOf N x6 s_) (fun r8 => if r8 = x4 then if ((x6 >>> (p1 &&& (31 : Int32))) &&& (1 : Int32)) = ((x6 >>> (p2 &&& (31 : Int32))) &&& (1 : Int32)) then f_X6_isTight_J76 (f_X6_isTight_L32 N s_ x4 p1 p2 k10 n12) x6 (0 : Int32) else f_X6_isTight_J76 (f_X6_isTight_L32 N s_ x4 p1 p2 k10 n12) x6 (1 : Int32) else f_X6_isTight_J76 (f_X6_isTight_L32 N s_ x4 p1 p2 k10 n12) x6 (1 : Int32)))
def f_X6_isTight_J27 (N : Nat) (s_ : Nat → Int32) (p1 p2 x2 : Int32) (x4 : Int32) : Option (Int32) :=
  f_X6_isTight_L32 N s_ x4 p1 p2 (fun x13 => f_X6_isTight_E83 x13) N x2 (2 : Int32)
def f_X6_isTight_J14 (N : Nat) (s_ : Nat → Int32) (p1 p2 : Int32) (x2 : Int32) : Option (Int32) :=
  if x2 = (0 : Int32) then f_X6_isTight_J27 N s_ p1 p2 x2 (0 : Int32) else bd1 (f_X6_leastWeight N s_) (fun r3 => f_X6_isTight_J27 N s_ p1 p2 x2 r3)
def f_X6_isTight (N : Nat) (p1 p2 : Int32) (s_ : Nat → Int32) : Option (Int32) :=
  bd1 (f_X6_tied p1 p2 s_) (fun r1 => if r1 ≤ (0 : Int32) then f_X6_isTight_J14 N s_ p1 p2 (0 : Int32) else f_X6_isTight_J14 N s_ p1 p2 (1 : Int32))
def f_X6_tightAt_E72 : Option (Int32) :=
  some (-5 : Int32)
def f_X6_tightAt_E66 (b12 : Int32 → Int32 → Option (Int32)) (x2 : Int32) (x10 : Int32) : Option (Int32) :=
  b12 x10 (x2 + (1 : Int32))
def f_X6_tightAt_J46 (x3 : Int32) (b8 : Int32 → Int32 → Option (Int32)) (x4 x2 : Int32) (x6 : Int32) : Option (Int32) :=
  if (0 : Int32) ≤ (x3 - x6) then b8 (x3 - x6) (x4 + (1 : Int32)) else some (((10 : Int32) * x2) + x4)
def f_X6_tightAt_L19 (N : Nat) (s_ : Nat → Int32) (x2 : Int32) (k7 : Int32 → Option (Int32)) : Nat → Int32 → Int32 → Option (Int32)
  | 0, _, _ => none
  | n9 + 1, x3, x4 => if (s_ 0) ≤ x4 then k7 x3 else bd1 (f_X6_isTight N x2 x4 s_) (fun r5 => if r5 = (0 : Int32) then f_X6_tightAt_J46 x3 (f_X6_tightAt_L19 N s_ x2 k7 n9) x4 x2 (0 : Int32) else f_X6_tightAt_J46 x3 (f_X6_tightAt_L19 N s_ x2 k7 n9) x4 x2 (1 : Int32))
def f_X6_tightAt_L4 (N : Nat) (s_ : Nat → Int32) (k11 : Option (Int32)) : Nat → Int32 → Int32 → Option (Int32)
  | 0, _, _ => none
  | n13 + 1, x1, x2 => if (s_ 0) ≤ x2 then k11 else f_X6_tightAt_L19 N s_ x2 (fun x10 => f_X6_tightAt_E66 (f_X6_tightAt_L4 N s_ k11 n13) x2 x10) N x1 (x2 + (1 : Int32))
def f_X6_tightAt (N : Nat) (p1 : Int32) (s_ : Nat → Int32) : Option (Int32) :=
  f_X6_tightAt_L4 N s_ (f_X6_tightAt_E72) N p1 (0 : Int32)
def f_X6_tightMany_E77 (x16 : Int32) : Option (Int32) :=
  some x16
def f_X6_tightMany_E71 (b14 : Int32 → Int32 → Option (Int32)) (x2 : Int32) (x12 : Int32) : Option (Int32) :=
  b14 x12 (x2 + (1 : Int32))
def f_X6_tightMany_J63 (b10 : Int32 → Int32 → Option (Int32)) (x3 x4 : Int32) (x8 : Int32) : Option (Int32) :=
  b10 (x3 + x8) (x4 + (1 : Int32))
def f_X6_tightMany_L19 (N : Nat) (s_ : Nat → Int32) (p1 x2 : Int32) (k9 : Int32 → Option (Int32)) : Nat → Int32 → Int32 → Option (Int32)
  | 0, _, _ => none
  | n11 + 1, x3, x4 => if (s_ 0) ≤ x4 then k9 x3 else if p1 = (-5 : Int32) then bd1 (f_X6_isTight N x2 x4 s_) (fun r5 => if r5 = (0 : Int32) then f_X6_tightMany_J63 (f_X6_tightMany_L19 N s_ p1 x2 k9 n11) x3 x4 (0 : Int32) else f_X6_tightMany_J63 (f_X6_tightMany_L19 N s_ p1 x2 k9 n11) x3 x4 (1 : Int32)) else if x2 = p1 then bd1 (f_X6_isTight N x2 x4 s_) (fun r6 => if r6 = (0 : Int32) then f_X6_tightMany_J63 (f_X6_tightMany_L19 N s_ p1 x2 k9 n11) x3 x4 (0 : Int32) else f_X6_tightMany_J63 (f_X6_tightMany_L19 N s_ p1 x2 k9 n11) x3 x4 (1 : Int32)) else if x4 = p1 then bd1 (f_X6_isTight N x2 x4 s_) (fun r7 => if r7 = (0 : Int32) then f_X6_tightMany_J63 (f_X6_tightMany_L19 N s_ p1 x2 k9 n11) x3 x4 (0 : Int32) else f_X6_tightMany_J63 (f_X6_tightMany_L19 N s_ p1 x2 k9 n11) x3 x4 (1 : Int32)) else f_X6_tightMany_J63 (f_X6_tightMany_L19 N s_ p1 x2 k9 n11) x3 x4 (0 : Int32)
def f_X6_tightMany_L4 (N : Nat) (s_ : Nat → Int32) (p1 : Int32) (k13 : Int32 → Option (Int32)) : Nat → Int32 → Int32 → Option (Int32)
  | 0, _, _ => none
  | n15 + 1, x1, x2 => if (s_ 0) ≤ x2 then k13 x1 else f_X6_tightMany_L19 N s_ p1 x2 (fun x12 => f_X6_tightMany_E71 (f_X6_tightMany_L4 N s_ p1 k13 n15) x2 x12) N x1 (x2 + (1 : Int32))
def f_X6_tightMany (N : Nat) (p1 : Int32) (s_ : Nat → Int32) : Option (Int32) :=
  f_X6_tightMany_L4 N s_ p1 (fun x16 => f_X6_tightMany_E77 x16) N (0 : Int32) (0 : Int32)
def f_X6_nameOf_E16 (x5 : Int32) : Option (Int32) :=
  some x5
def f_X6_nameOf_L2 (p0 : Int32) (k2 : Int32 → Option (Int32)) : Nat → Int32 → Option (Int32)
  | 0, _ => none
  | n4 + 1, x1 => if ((p0 >>> (x1 &&& (31 : Int32))) &&& (1 : Int32)) = (0 : Int32) then (f_X6_nameOf_L2 p0 k2 n4) (x1 + (1 : Int32)) else k2 x1
def f_X6_nameOf (N : Nat) (p0 : Int32) : Option (Int32) :=
  f_X6_nameOf_L2 p0 (fun x5 => f_X6_nameOf_E16 x5) N (0 : Int32)
def f_X6_nearest_E120 (x15 : Int32) : Option (Int32) :=
  some x15
def f_X6_nearest_J114 (b13 : Int32 → Int32 → Int32 → Option (Int32)) (x3 : Int32) (x10 x11 : Int32) : Option (Int32) :=
  b13 x10 x11 (x3 + (1 : Int32))
def f_X6_nearest_J113 (b13 : Int32 → Int32 → Int32 → Option (Int32)) (x3 x8 : Int32) (x9 : Int32) : Option (Int32) :=
  f_X6_nearest_J114 b13 x3 x8 x9
def f_X6_nearest_J101 (x7 : Int32) (b13 : Int32 → Int32 → Int32 → Option (Int32)) (x3 x2 r4 : Int32) (x8 : Int32) : Option (Int32) :=
  if x7 = (0 : Int32) then f_X6_nearest_J113 b13 x3 x8 x2 else f_X6_nearest_J113 b13 x3 x8 r4
def f_X6_nearest_J88 (b13 : Int32 → Int32 → Int32 → Option (Int32)) (x3 x2 r4 x1 : Int32) (x7 : Int32) : Option (Int32) :=
  if x7 = (0 : Int32) then f_X6_nearest_J101 x7 b13 x3 x2 r4 x1 else f_X6_nearest_J101 x7 b13 x3 x2 r4 x3
def f_X6_nearest_L8 (N : Nat) (lumpMany_ : Int32) (lumps_ : Nat → Int32) (p1 : Int32) (s_ : Nat → Int32) (k12 : Int32 → Option (Int32)) : Nat → Int32 → Int32 → Int32 → Option (Int32)
  | 0, _, _, _ => none
  | n14 + 1, x1, x2, x3 => if lumpMany_ ≤ x3 then k12 x1 else chk x3 10 (if ((lumps_ (x3).toNatClampNeg) &&& p1) = (0 : Int32) then chk x3 10 (bd1 (f_X6_weightBetween N (lumps_ (x3).toNatClampNeg) p1 s_) (fun r4 => if x1 = (-5 : Int32) then f_X6_nearest_J88 (f_X6_nearest_L8 N lumpMany_ lumps_ p1 s_ k12 n14) x3 x2 r4 x1 (1 : Int32) else if x2 < r4 then f_X6_nearest_J88 (f_X6_nearest_L8 N lumpMany_ lumps_ p1 s_ k12 n14) x3 x2 r4 x1 (1 : Int32) else if r4 = x2 then chk x3 10 (bd1 (f_X6_nameOf N (lumps_ (x3).toNatClampNeg)) (fun r5 => chk x1 10 (bd1 (f_X6_nameOf N (lumps_ (x1).toNatClampNeg)) (fun r6 => if r6 ≤ r5 then f_X6_nearest_J88 (f_X6_nearest_L8 N lumpMany_ lumps_ p1 s_ k12 n14) x3 x2 r4 x1 (0 : Int32) else f_X6_nearest_J88 (f_X6_nearest_L8 N lumpMany_ lumps_ p1 s_ k12 n14) x3 x2 r4 x1 (1 : Int32))))) else f_X6_nearest_J88 (f_X6_nearest_L8 N lumpMany_ lumps_ p1 s_ k12 n14) x3 x2 r4 x1 (0 : Int32))) else f_X6_nearest_J114 (f_X6_nearest_L8 N lumpMany_ lumps_ p1 s_ k12 n14) x3 x1 x2)
def f_X6_nearest (N : Nat) (p1 lumpMany_ : Int32) (s_ lumps_ : Nat → Int32) : Option (Int32) :=
  f_X6_nearest_L8 N lumpMany_ lumps_ p1 s_ (fun x15 => f_X6_nearest_E120 x15) N (-5 : Int32) (0 : Int32) (0 : Int32)
def f_X6_swallows_J156 (lumpMany_ : Int32) (a18 a17 : Nat → Int32) (x20 : Int32) : Option (Int32 × Int32 × (Nat → Int32) × (Nat → Int32)) :=
  chk (lumpMany_ - (1 : Int32)) 10 (some (x20, (a18 ((lumpMany_ - (1 : Int32))).toNatClampNeg), a17, a18))
def f_X6_swallows_E124 (lumpMany_ : Int32) (s_ : Nat → Int32) (a17 a18 : Nat → Int32) : Option (Int32 × Int32 × (Nat → Int32) × (Nat → Int32)) :=
  chk (lumpMany_ - (1 : Int32)) 10 (if ((a17 ((lumpMany_ - (1 : Int32))).toNatClampNeg) &&& (1 : Int32)) = (1 : Int32) then bd1 (f_X6_all s_) (fun r19 => f_X6_swallows_J156 lumpMany_ a18 a17 (r19 &&& ((a17 ((lumpMany_ - (1 : Int32))).toNatClampNeg) ^^^ (-1 : Int32)))) else f_X6_swallows_J156 lumpMany_ a18 a17 (a17 ((lumpMany_ - (1 : Int32))).toNatClampNeg))
def f_X6_swallows_L66 (N : Nat) (lumpMany_ : Int32) (s_ lumps_ : Nat → Int32) (k14 : (Nat → Int32) → (Nat → Int32) → Option (Int32 × Int32 × (Nat → Int32) × (Nat → Int32))) : Nat → Int32 → Int32 → (Nat → Int32) → (Nat → Int32) → Option (Int32 × Int32 × (Nat → Int32) × (Nat → Int32))
  | 0, _, _, _, _ => none
  | n16 + 1, x8, x9, a10, a11 => if lumpMany_ ≤ x9 then k14 a10 a11 else bd1 (f_X6_nearest N x8 lumpMany_ s_ lumps_) (fun r12 => chk r12 10 (chk x9 10 (chk r12 10 (bd1 (f_X6_weightBetween N (lumps_ (r12).toNatClampNeg) x8 s_) (fun r13 => chk x9 10 (chk r12 10 ((f_X6_swallows_L66 N lumpMany_ s_ lumps_ k14 n16) (x8 ||| (lumps_ (r12).toNatClampNeg)) (x9 + (1 : Int32)) (upd a10 (x9).toNatClampNeg (lumps_ (r12).toNatClampNeg)) (upd a11 (x9).toNatClampNeg r13))))))))
def f_X6_swallows_E50 (N : Nat) (lumpMany_ : Int32) (s_ lumps_ order_ nears_ : Nat → Int32) (x7 : Int32) : Option (Int32 × Int32 × (Nat → Int32) × (Nat → Int32)) :=
  f_X6_swallows_L66 N lumpMany_ s_ lumps_ (fun a17 a18 => f_X6_swallows_E124 lumpMany_ s_ a17 a18) N x7 (1 : Int32) (upd order_ 0 x7) (upd nears_ 0 (0 : Int32))
def f_X6_swallows_J42 (b5 : Int32 → Int32 → Option (Int32 × Int32 × (Nat → Int32) × (Nat → Int32))) (x1 x2 : Int32) (x3 : Int32) : Option (Int32 × Int32 × (Nat → Int32) × (Nat → Int32)) :=
  b5 (x1 ||| x3) (x2 + (1 : Int32))
def f_X6_swallows_L4 (lumpMany_ : Int32) (lumps_ s_ : Nat → Int32) (k4 : Int32 → Option (Int32 × Int32 × (Nat → Int32) × (Nat → Int32))) : Nat → Int32 → Int32 → Option (Int32 × Int32 × (Nat → Int32) × (Nat → Int32))
  | 0, _, _ => none
  | n6 + 1, x1, x2 => if lumpMany_ ≤ x2 then k4 x1 else chk x2 10 (if (((lumps_ (x2).toNatClampNeg) >>> ((s_ 1) &&& (31 : Int32))) &&& (1 : Int32)) = (1 : Int32) then chk x2 10 (f_X6_swallows_J42 (f_X6_swallows_L4 lumpMany_ lumps_ s_ k4 n6) x1 x2 (lumps_ (x2).toNatClampNeg)) else f_X6_swallows_J42 (f_X6_swallows_L4 lumpMany_ lumps_ s_ k4 n6) x1 x2 (0 : Int32))
def f_X6_swallows (N : Nat) (lumpMany_ : Int32) (s_ lumps_ order_ nears_ : Nat → Int32) : Option (Int32 × Int32 × (Nat → Int32) × (Nat → Int32)) :=
  f_X6_swallows_L4 lumpMany_ lumps_ s_ (fun x7 => f_X6_swallows_E50 N lumpMany_ s_ lumps_ order_ nears_ x7) N (0 : Int32) (0 : Int32)
def f_X6_joinsLast_E88 (x10 : Int32) (a11 : Nat → Int32) : Option (Int32 × (Nat → Int32)) :=
  some (x10, a11)
def f_X6_joinsLast_J82 (b8 : Int32 → Int32 → (Nat → Int32) → Option (Int32 × (Nat → Int32))) (x2 : Int32) (x5 : Int32) (a6 : Nat → Int32) : Option (Int32 × (Nat → Int32)) :=
  b8 x5 (x2 + (1 : Int32)) a6
def f_X6_joinsLast_J78 (x1 : Int32) (b8 : Int32 → Int32 → (Nat → Int32) → Option (Int32 × (Nat → Int32))) (x2 : Int32) (a3 : Nat → Int32) (x4 : Int32) : Option (Int32 × (Nat → Int32)) :=
  chk x1 10 (f_X6_joinsLast_J82 b8 x2 (x1 + (1 : Int32)) (upd a3 (x1).toNatClampNeg x4))
def f_X6_joinsLast_L29 (lumpMany_ : Int32) (order_ : Nat → Int32) (k7 : Int32 → (Nat → Int32) → Option (Int32 × (Nat → Int32))) : Nat → Int32 → Int32 → (Nat → Int32) → Option (Int32 × (Nat → Int32))
  | 0, _, _, _ => none
  | n9 + 1, x1, x2, a3 => if lumpMany_ ≤ x2 then k7 x1 a3 else chk x2 10 (if (a3 (x2).toNatClampNeg) = (order_ ((lumpMany_ - (1 : Int32))).toNatClampNeg) then f_X6_joinsLast_J82 (f_X6_joinsLast_L29 lumpMany_ order_ k7 n9) x2 x1 a3 else chk x2 10 (if (a3 (x2).toNatClampNeg) = (order_ ((lumpMany_ - (2 : Int32))).toNatClampNeg) then f_X6_joinsLast_J78 x1 (f_X6_joinsLast_L29 lumpMany_ order_ k7 n9) x2 a3 ((order_ ((lumpMany_ - (2 : Int32))).toNatClampNeg) ||| (order_ ((lumpMany_ - (1 : Int32))).toNatClampNeg)) else chk x2 10 (f_X6_joinsLast_J78 x1 (f_X6_joinsLast_L29 lumpMany_ order_ k7 n9) x2 a3 (a3 (x2).toNatClampNeg))))
def f_X6_joinsLast (N : Nat) (lumpMany_ : Int32) (lumps_ order_ : Nat → Int32) : Option (Int32 × (Nat → Int32)) :=
  chk (lumpMany_ - (1 : Int32)) 10 (chk (lumpMany_ - (2 : Int32)) 10 (f_X6_joinsLast_L29 lumpMany_ order_ (fun x10 a11 => f_X6_joinsLast_E88 x10 a11) N (0 : Int32) (0 : Int32) lumps_))
def f_X6_laysPhase_E60 (x27 x28 x29 : Int32) (a30 a31 a32 : Nat → Int32) : Option (Int32 × Int32 × Int32 × (Nat → Int32) × (Nat → Int32) × (Nat → Int32)) :=
  some (x27, x28, x29, a30, a31, a32)
def f_X6_laysPhase_L41 (N : Nat) (p1 : Int32) (s_ : Nat → Int32) (k24 : Int32 → Int32 → Int32 → (Nat → Int32) → (Nat → Int32) → (Nat → Int32) → Option (Int32 × Int32 × Int32 × (Nat → Int32) × (Nat → Int32) × (Nat → Int32))) : Nat → Int32 → Int32 → Int32 → Int32 → (Nat → Int32) → (Nat → Int32) → (Nat → Int32) → Option (Int32 × Int32 × Int32 × (Nat → Int32) × (Nat → Int32) × (Nat → Int32))
  | 0, _, _, _, _, _, _, _ => none
  | n26 + 1, x11, x12, x13, x14, a15, a16, a17 => if p1 ≤ x11 then k24 x12 x13 x14 a15 a16 a17 else bd2 (f_X6_joinsLast N x12 a15 a16) (fun x18 a19 => bd4 (f_X6_swallows N x18 s_ a19 a16 a17) (fun x20 x21 a22 a23 => (f_X6_laysPhase_L41 N p1 s_ k24 n26) (x11 + (1 : Int32)) x18 x20 x21 a19 a22 a23))
def f_X6_laysPhase_E35 (N : Nat) (s_ order_ nears_ : Nat → Int32) (p1 : Int32) (a6 : Nat → Int32) : Option (Int32 × Int32 × Int32 × (Nat → Int32) × (Nat → Int32) × (Nat → Int32)) :=
  bd4 (f_X6_swallows N (s_ 0) s_ a6 order_ nears_) (fun x7 x8 a9 a10 => f_X6_laysPhase_L41 N p1 s_ (fun x27 x28 x29 a30 a31 a32 => f_X6_laysPhase_E60 x27 x28 x29 a30 a31 a32) N (0 : Int32) (s_ 0) x7 x8 a6 a9 a10)
def f_X6_laysPhase_L12 (s_ : Nat → Int32) (k3 : (Nat → Int32) → Option (Int32 × Int32 × Int32 × (Nat → Int32) × (Nat → Int32) × (Nat → Int32))) : Nat → Int32 → (Nat → Int32) → Option (Int32 × Int32 × Int32 × (Nat → Int32) × (Nat → Int32) × (Nat → Int32))
  | 0, _, _ => none
  | n5 + 1, x1, a2 => if (s_ 0) ≤ x1 then k3 a2 else chk x1 10 ((f_X6_laysPhase_L12 s_ k3 n5) (x1 + (1 : Int32)) (upd a2 (x1).toNatClampNeg ((1 : Int32) <<< (x1 &&& (31 : Int32)))))
def f_X6_laysPhase (N : Nat) (p1 : Int32) (s_ lumps_ order_ nears_ : Nat → Int32) : Option (Int32 × Int32 × Int32 × (Nat → Int32) × (Nat → Int32) × (Nat → Int32)) :=
  f_X6_laysPhase_L12 s_ (fun a6 => f_X6_laysPhase_E35 N s_ order_ nears_ p1 a6) N (0 : Int32) lumps_
def f_X6_leastPhase_E71 (x27 x28 x29 x30 : Int32) (a31 a32 a33 : Nat → Int32) : Option (Int32 × Int32 × Int32 × Int32 × (Nat → Int32) × (Nat → Int32) × (Nat → Int32)) :=
  some (x27, x28, x29, x30, a31, a32, a33)
def f_X6_leastPhase_J64 (b25 : Int32 → Int32 → Int32 → Int32 → Int32 → Int32 → (Nat → Int32) → (Nat → Int32) → (Nat → Int32) → Option (Int32 × Int32 × Int32 × Int32 × (Nat → Int32) × (Nat → Int32) × (Nat → Int32))) (x22 x9 x16 x18 x19 : Int32) (a17 a20 a21 : Nat → Int32) (x23 : Int32) : Option (Int32 × Int32 × Int32 × Int32 × (Nat → Int32) × (Nat → Int32) × (Nat → Int32)) :=
  b25 x22 x23 (x9 + (1 : Int32)) x16 x18 x19 a17 a20 a21
def f_X6_leastPhase_J47 (x8 x19 : Int32) (b25 : Int32 → Int32 → Int32 → Int32 → Int32 → Int32 → (Nat → Int32) → (Nat → Int32) → (Nat → Int32) → Option (Int32 × Int32 × Int32 × Int32 × (Nat → Int32) × (Nat → Int32) × (Nat → Int32))) (x9 x16 x18 : Int32) (a17 a20 a21 : Nat → Int32) (x22 : Int32) : Option (Int32 × Int32 × Int32 × Int32 × (Nat → Int32) × (Nat → Int32) × (Nat → Int32)) :=
  if x8 ≤ x19 then f_X6_leastPhase_J64 b25 x22 x9 x16 x18 x19 a17 a20 a21 x8 else f_X6_leastPhase_J64 b25 x22 x9 x16 x18 x19 a17 a20 a21 x19
def f_X6_leastPhase_L14 (N : Nat) (s_ : Nat → Int32) (k24 : Int32 → Int32 → Int32 → Int32 → (Nat → Int32) → (Nat → Int32) → (Nat → Int32) → Option (Int32 × Int32 × Int32 × Int32 × (Nat → Int32) × (Nat → Int32) × (Nat → Int32))) : Nat → Int32 → Int32 → Int32 → Int32 → Int32 → Int32 → (Nat → Int32) → (Nat → Int32) → (Nat → Int32) → Option (Int32 × Int32 × Int32 × Int32 × (Nat → Int32) × (Nat → Int32) × (Nat → Int32))
  | 0, _, _, _, _, _, _, _, _, _ => none
  | n26 + 1, x7, x8, x9, x10, x11, x12, a13, a14, a15 => if ((s_ 0) - (1 : Int32)) ≤ x9 then k24 x7 x10 x11 x12 a13 a14 a15 else bd2 (f_X6_joinsLast N x10 a13 a14) (fun x16 a17 => bd4 (f_X6_swallows N x16 s_ a17 a14 a15) (fun x18 x19 a20 a21 => if x8 ≤ x19 then f_X6_leastPhase_J47 x8 x19 (f_X6_leastPhase_L14 N s_ k24 n26) x9 x16 x18 a17 a20 a21 x7 else f_X6_leastPhase_J47 x8 x19 (f_X6_leastPhase_L14 N s_ k24 n26) x9 x16 x18 a17 a20 a21 x9))
def f_X6_leastPhase (N : Nat) (s_ lumps_ order_ nears_ : Nat → Int32) : Option (Int32 × Int32 × Int32 × Int32 × (Nat → Int32) × (Nat → Int32) × (Nat → Int32)) :=
  bd6 (f_X6_laysPhase N (0 : Int32) s_ lumps_ order_ nears_) (fun x1 x2 x3 a4 a5 a6 => f_X6_leastPhase_L14 N s_ (fun x27 x28 x29 x30 a31 a32 a33 => f_X6_leastPhase_E71 x27 x28 x29 x30 a31 a32 a33) N (0 : Int32) x3 (1 : Int32) x1 x2 x3 a4 a5 a6)
def f_X6_leastByPhases (N : Nat) (s_ lumps_ order_ nears_ : Nat → Int32) : Option (Int32 × Int32 × Int32 × Int32 × (Nat → Int32) × (Nat → Int32) × (Nat → Int32)) :=
  bd7 (f_X6_leastPhase N s_ lumps_ order_ nears_) (fun r1 x2 x3 x4 a5 a6 a7 => bd6 (f_X6_laysPhase N r1 s_ a5 a6 a7) (fun x8 x9 x10 a11 a12 a13 => some (x9, x8, x9, x10, a11, a12, a13)))
def f_X6_grow (N : Nat) (savedMany_ : Int32) (s_ saved_ : Nat → Int32) : Option (Int32 × Int32 × Int32 × (Nat → Int32) × (Nat → Int32)) :=
  if (s_ 0) = (10 : Int32) then some ((-3 : Int32), (0 : Int32), savedMany_, s_, saved_) else bd2 (f_X6_records N savedMany_ s_ saved_) (fun x1 a2 => some ((((upd s_ 0 ((s_ 0) + (1 : Int32))) 0) - (1 : Int32)), (0 : Int32), x1, (upd s_ 0 ((s_ 0) + (1 : Int32))), a2))
def f_X6_drops_E153 (a32 : Nat → Int32) : Option ((Nat → Int32)) :=
  some (upd a32 0 ((a32 0) - (1 : Int32)))
def f_X6_drops_L127 (s_ : Nat → Int32) (k29 : (Nat → Int32) → Option ((Nat → Int32))) : Nat → Int32 → (Nat → Int32) → Option ((Nat → Int32))
  | 0, _, _ => none
  | n31 + 1, x27, a28 => if (10 : Int32) ≤ x27 then k29 a28 else chk (((3 : Int32) + ((10 : Int32) * ((s_ 0) - (1 : Int32)))) + x27) 103 ((f_X6_drops_L127 s_ k29 n31) (x27 + (1 : Int32)) (upd a28 ((((3 : Int32) + ((10 : Int32) * ((s_ 0) - (1 : Int32)))) + x27)).toNatClampNeg (0 : Int32)))
def f_X6_drops_E125 (N : Nat) (s_ : Nat → Int32) (a26 : Nat → Int32) : Option ((Nat → Int32)) :=
  f_X6_drops_L127 s_ (fun a32 => f_X6_drops_E153 a32) N (0 : Int32) a26
def f_X6_drops_E119 (b24 : Int32 → (Nat → Int32) → Option ((Nat → Int32))) (x14 : Int32) (a22 : Nat → Int32) : Option ((Nat → Int32)) :=
  b24 (x14 + (1 : Int32)) a22
def f_X6_drops_L84 (s_ : Nat → Int32) (x14 : Int32) (k19 : (Nat → Int32) → Option ((Nat → Int32))) : Nat → Int32 → (Nat → Int32) → Option ((Nat → Int32))
  | 0, _, _ => none
  | n21 + 1, x16, a17 => if ((s_ 0) - (1 : Int32)) ≤ x16 then k19 a17 else bd1 (f_X6_tied (x14 + (1 : Int32)) x16 a17) (fun r18 => chk (((3 : Int32) + ((10 : Int32) * x14)) + x16) 103 ((f_X6_drops_L84 s_ x14 k19 n21) (x16 + (1 : Int32)) (upd a17 ((((3 : Int32) + ((10 : Int32) * x14)) + x16)).toNatClampNeg r18)))
def f_X6_drops_L76 (N : Nat) (s_ : Nat → Int32) (k23 : (Nat → Int32) → Option ((Nat → Int32))) : Nat → Int32 → (Nat → Int32) → Option ((Nat → Int32))
  | 0, _, _ => none
  | n25 + 1, x14, a15 => if ((s_ 0) - (1 : Int32)) ≤ x14 then k23 a15 else f_X6_drops_L84 s_ x14 (fun a22 => f_X6_drops_E119 (f_X6_drops_L76 N s_ k23 n25) x14 a22) N (0 : Int32) a15
def f_X6_drops_E74 (N : Nat) (s_ : Nat → Int32) (p1 : Int32) (a13 : Nat → Int32) : Option ((Nat → Int32)) :=
  f_X6_drops_L76 N s_ (fun a26 => f_X6_drops_E125 N s_ a26) N p1 a13
def f_X6_drops_E54 (x1 : Int32) (s_ : Nat → Int32) (b11 : Int32 → (Nat → Int32) → Option ((Nat → Int32))) (a9 : Nat → Int32) : Option ((Nat → Int32)) :=
  chk (((3 : Int32) + ((10 : Int32) * x1)) + ((s_ 0) - (1 : Int32))) 103 (b11 (x1 + (1 : Int32)) (upd a9 ((((3 : Int32) + ((10 : Int32) * x1)) + ((s_ 0) - (1 : Int32)))).toNatClampNeg (0 : Int32)))
def f_X6_drops_L19 (s_ : Nat → Int32) (x1 : Int32) (k6 : (Nat → Int32) → Option ((Nat → Int32))) : Nat → Int32 → (Nat → Int32) → Option ((Nat → Int32))
  | 0, _, _ => none
  | n8 + 1, x3, a4 => if ((s_ 0) - (1 : Int32)) ≤ x3 then k6 a4 else bd1 (f_X6_tied x1 (x3 + (1 : Int32)) a4) (fun r5 => chk (((3 : Int32) + ((10 : Int32) * x1)) + x3) 103 ((f_X6_drops_L19 s_ x1 k6 n8) (x3 + (1 : Int32)) (upd a4 ((((3 : Int32) + ((10 : Int32) * x1)) + x3)).toNatClampNeg r5)))
def f_X6_drops_L11 (N : Nat) (s_ : Nat → Int32) (p1 : Int32) (k10 : (Nat → Int32) → Option ((Nat → Int32))) : Nat → Int32 → (Nat → Int32) → Option ((Nat → Int32))
  | 0, _, _ => none
  | n12 + 1, x1, a2 => if ((s_ 0) - (1 : Int32)) < x1 then k10 a2 else f_X6_drops_L19 s_ x1 (fun a9 => f_X6_drops_E54 x1 s_ (f_X6_drops_L11 N s_ p1 k10 n12) a9) N p1 a2
def f_X6_drops (N : Nat) (p1 : Int32) (s_ : Nat → Int32) : Option ((Nat → Int32)) :=
  f_X6_drops_L11 N s_ p1 (fun a13 => f_X6_drops_E74 N s_ p1 a13) N (0 : Int32) s_
def f_X6_remove_J83 (a4 : Nat → Int32) (x2 : Int32) (a3 : Nat → Int32) (x5 : Int32) : Option (Int32 × Int32 × Int32 × (Nat → Int32) × (Nat → Int32)) :=
  some (((upd a4 1 x5) 0), (0 : Int32), x2, (upd a4 1 x5), a3)
def f_X6_remove (N : Nat) (p1 savedMany_ : Int32) (s_ saved_ : Nat → Int32) : Option (Int32 × Int32 × Int32 × (Nat → Int32) × (Nat → Int32)) :=
  bd1 (f_X6_isPlace p1 s_) (fun r1 => if r1 = (0 : Int32) then some ((-1 : Int32), (0 : Int32), savedMany_, s_, saved_) else if (s_ 0) = (2 : Int32) then some ((-4 : Int32), (0 : Int32), savedMany_, s_, saved_) else bd2 (f_X6_records N savedMany_ s_ saved_) (fun x2 a3 => bd1 (f_X6_drops N p1 s_) (fun a4 => if (a4 1) = p1 then f_X6_remove_J83 a4 x2 a3 (0 : Int32) else if (a4 1) ≤ p1 then f_X6_remove_J83 a4 x2 a3 (a4 1) else f_X6_remove_J83 a4 x2 a3 ((a4 1) - (1 : Int32)))))
def f_X6_join_J192 (a17 : Nat → Int32) (x3 : Int32) (a4 : Nat → Int32) (x18 : Int32) : Option (Int32 × Int32 × Int32 × (Nat → Int32) × (Nat → Int32)) :=
  some (((upd a17 1 x18) 0), (0 : Int32), x3, (upd a17 1 x18), a4)
def f_X6_join_E138 (N : Nat) (p1 p2 x5 x3 : Int32) (a4 : Nat → Int32) (a16 : Nat → Int32) : Option (Int32 × Int32 × Int32 × (Nat → Int32) × (Nat → Int32)) :=
  bd1 (f_X6_drops N ((p1 + p2) - x5) a16) (fun a17 => if (a17 1) = ((p1 + p2) - x5) then f_X6_join_J192 a17 x3 a4 x5 else if (a17 1) ≤ ((p1 + p2) - x5) then f_X6_join_J192 a17 x3 a4 (a17 1) else f_X6_join_J192 a17 x3 a4 ((a17 1) - (1 : Int32)))
def f_X6_join_J132 (b14 : Int32 → (Nat → Int32) → Option (Int32 × Int32 × Int32 × (Nat → Int32) × (Nat → Int32))) (x6 : Int32) (a12 : Nat → Int32) : Option (Int32 × Int32 × Int32 × (Nat → Int32) × (Nat → Int32)) :=
  b14 (x6 + (1 : Int32)) a12
def f_X6_join_J129 (x5 x6 : Int32) (a7 : Nat → Int32) (b14 : Int32 → (Nat → Int32) → Option (Int32 × Int32 × Int32 × (Nat → Int32) × (Nat → Int32))) (x10 : Int32) : Option (Int32 × Int32 × Int32 × (Nat → Int32) × (Nat → Int32)) :=
  bd1 (f_X6_ties x5 x6 x10 a7) (fun a11 => f_X6_join_J132 b14 x6 a11)
def f_X6_join_L69 (x5 p1 p2 : Int32) (k13 : (Nat → Int32) → Option (Int32 × Int32 × Int32 × (Nat → Int32) × (Nat → Int32))) : Nat → Int32 → (Nat → Int32) → Option (Int32 × Int32 × Int32 × (Nat → Int32) × (Nat → Int32))
  | 0, _, _ => none
  | n15 + 1, x6, a7 => if (a7 0) ≤ x6 then k13 a7 else if x6 = x5 then f_X6_join_J132 (f_X6_join_L69 x5 p1 p2 k13 n15) x6 a7 else if x6 = ((p1 + p2) - x5) then f_X6_join_J132 (f_X6_join_L69 x5 p1 p2 k13 n15) x6 a7 else bd1 (f_X6_tied x5 x6 a7) (fun r8 => bd1 (f_X6_tied ((p1 + p2) - x5) x6 a7) (fun r9 => if (r8 + r9) ≤ (99 : Int32) then f_X6_join_J129 x5 x6 a7 (f_X6_join_L69 x5 p1 p2 k13 n15) (r8 + r9) else f_X6_join_J129 x5 x6 a7 (f_X6_join_L69 x5 p1 p2 k13 n15) (99 : Int32)))
def f_X6_join_J58 (N : Nat) (p1 p2 x3 : Int32) (a4 s_ : Nat → Int32) (x5 : Int32) : Option (Int32 × Int32 × Int32 × (Nat → Int32) × (Nat → Int32)) :=
  f_X6_join_L69 x5 p1 p2 (fun a16 => f_X6_join_E138 N p1 p2 x5 x3 a4 a16) N (0 : Int32) s_
def f_X6_join (N : Nat) (p1 p2 savedMany_ : Int32) (s_ saved_ : Nat → Int32) : Option (Int32 × Int32 × Int32 × (Nat → Int32) × (Nat → Int32)) :=
  bd1 (f_X6_isPlace p1 s_) (fun r1 => if r1 = (0 : Int32) then some ((-1 : Int32), (0 : Int32), savedMany_, s_, saved_) else bd1 (f_X6_isPlace p2 s_) (fun r2 => if r2 = (0 : Int32) then some ((-1 : Int32), (0 : Int32), savedMany_, s_, saved_) else if p1 = p2 then some ((-2 : Int32), (0 : Int32), savedMany_, s_, saved_) else if (s_ 0) = (2 : Int32) then some ((-4 : Int32), (0 : Int32), savedMany_, s_, saved_) else bd2 (f_X6_records N savedMany_ s_ saved_) (fun x3 a4 => if p2 ≤ p1 then f_X6_join_J58 N p1 p2 x3 a4 s_ p2 else f_X6_join_J58 N p1 p2 x3 a4 s_ p1)))
def f_X6_refusesPair (p1 p2 p3 : Int32) (s_ : Nat → Int32) : Option (Int32) :=
  bd1 (f_X6_isPlace p1 s_) (fun r1 => if r1 = (0 : Int32) then some (-1 : Int32) else bd1 (f_X6_isPlace p2 s_) (fun r2 => if r2 = (0 : Int32) then some (-1 : Int32) else if p1 = p2 then some (-2 : Int32) else bd1 (f_X6_in p3 (0 : Int32) (99 : Int32)) (fun r3 => if r3 = (0 : Int32) then some (-2 : Int32) else some (0 : Int32))))
def f_X6_tie (N : Nat) (p1 p2 p3 savedMany_ : Int32) (s_ saved_ : Nat → Int32) : Option (Int32 × Int32 × Int32 × (Nat → Int32) × (Nat → Int32)) :=
  bd1 (f_X6_refusesPair p1 p2 p3 s_) (fun r1 => if r1 = (0 : Int32) then bd1 (f_X6_tied p1 p2 s_) (fun r2 => if r2 = p3 then some ((-5 : Int32), (0 : Int32), savedMany_, s_, saved_) else bd2 (f_X6_records N savedMany_ s_ saved_) (fun x3 a4 => bd1 (f_X6_ties p1 p2 p3 s_) (fun a5 => some (r2, (0 : Int32), x3, a5, a4)))) else some (r1, (0 : Int32), savedMany_, s_, saved_))
def f_X6_set_J36 (N : Nat) (savedMany_ : Int32) (s_ saved_ : Nat → Int32) (p1 p2 : Int32) (x3 : Int32) : Option (Int32 × Int32 × Int32 × (Nat → Int32) × (Nat → Int32)) :=
  if x3 = (0 : Int32) then some ((-2 : Int32), (0 : Int32), savedMany_, s_, saved_) else chk ((1 : Int32) + p1) 103 (if (s_ (((1 : Int32) + p1)).toNatClampNeg) = p2 then some ((-5 : Int32), (0 : Int32), savedMany_, s_, saved_) else bd2 (f_X6_records N savedMany_ s_ saved_) (fun x4 a5 => chk ((1 : Int32) + p1) 103 (some ((s_ (((1 : Int32) + p1)).toNatClampNeg), (0 : Int32), x4, (upd s_ (((1 : Int32) + p1)).toNatClampNeg p2), a5))))
def f_X6_set (N : Nat) (p1 p2 savedMany_ : Int32) (s_ saved_ : Nat → Int32) : Option (Int32 × Int32 × Int32 × (Nat → Int32) × (Nat → Int32)) :=
  if p1 = (0 : Int32) then bd1 (f_X6_isPlace p2 s_) (fun r2 => f_X6_set_J36 N savedMany_ s_ saved_ p1 p2 r2) else if p1 = (1 : Int32) then bd1 (f_X6_in p2 (1 : Int32) (5 : Int32)) (fun r1 => if r1 = (0 : Int32) then f_X6_set_J36 N savedMany_ s_ saved_ p1 p2 (0 : Int32) else f_X6_set_J36 N savedMany_ s_ saved_ p1 p2 (1 : Int32)) else f_X6_set_J36 N savedMany_ s_ saved_ p1 p2 (0 : Int32)
def f_X6_strengthen_E113 (savedMany_ x2 x3 x4 : Int32) (s_ saved_ a5 a6 a7 : Nat → Int32) : Option (Int32 × Int32 × Int32 × Int32 × Int32 × Int32 × (Nat → Int32) × (Nat → Int32) × (Nat → Int32) × (Nat → Int32) × (Nat → Int32)) :=
  some ((-4 : Int32), (0 : Int32), savedMany_, x2, x3, x4, s_, saved_, a5, a6, a7)
def f_X6_strengthen_E107 (b21 : Int32 → Option (Int32 × Int32 × Int32 × Int32 × Int32 × Int32 × (Nat → Int32) × (Nat → Int32) × (Nat → Int32) × (Nat → Int32) × (Nat → Int32))) (x8 : Int32) : Option (Int32 × Int32 × Int32 × Int32 × Int32 × Int32 × (Nat → Int32) × (Nat → Int32) × (Nat → Int32) × (Nat → Int32) × (Nat → Int32)) :=
  b21 (x8 + (1 : Int32))
def f_X6_strengthen_J54 (N : Nat) (b18 : Int32 → Option (Int32 × Int32 × Int32 × Int32 × Int32 × Int32 × (Nat → Int32) × (Nat → Int32) × (Nat → Int32) × (Nat → Int32) × (Nat → Int32))) (x9 x8 : Int32) (s_ : Nat → Int32) (savedMany_ : Int32) (saved_ : Nat → Int32) (x2 x3 x4 : Int32) (a5 a6 a7 : Nat → Int32) (x10 : Int32) : Option (Int32 × Int32 × Int32 × Int32 × Int32 × Int32 × (Nat → Int32) × (Nat → Int32) × (Nat → Int32) × (Nat → Int32) × (Nat → Int32)) :=
  if x10 = (0 : Int32) then b18 (x9 + (1 : Int32)) else bd1 (f_X6_tied x8 x9 s_) (fun r11 => bd1 (f_X6_in r11 (1 : Int32) (98 : Int32)) (fun r12 => if r12 = (0 : Int32) then b18 (x9 + (1 : Int32)) else bd2 (f_X6_records N savedMany_ s_ saved_) (fun x13 a14 => bd1 (f_X6_tied x8 x9 s_) (fun r15 => bd1 (f_X6_ties x8 x9 (r15 + (1 : Int32)) s_) (fun a16 => some ((((10 : Int32) * x8) + x9), (0 : Int32), x13, x2, x3, x4, a16, a14, a5, a6, a7))))))
def f_X6_strengthen_L26 (N : Nat) (s_ : Nat → Int32) (r1 x8 savedMany_ : Int32) (saved_ : Nat → Int32) (x2 x3 x4 : Int32) (a5 a6 a7 : Nat → Int32) (k17 : Option (Int32 × Int32 × Int32 × Int32 × Int32 × Int32 × (Nat → Int32) × (Nat → Int32) × (Nat → Int32) × (Nat → Int32) × (Nat → Int32))) : Nat → Int32 → Option (Int32 × Int32 × Int32 × Int32 × Int32 × Int32 × (Nat → Int32) × (Nat → Int32) × (Nat → Int32) × (Nat → Int32) × (Nat → Int32))
  | 0, _ => none
  | n19 + 1, x9 => if (s_ 0) ≤ x9 then k17 else if ((r1 >>> (x8 &&& (31 : Int32))) &&& (1 : Int32)) = ((r1 >>> (x9 &&& (31 : Int32))) &&& (1 : Int32)) then f_X6_strengthen_J54 N (f_X6_strengthen_L26 N s_ r1 x8 savedMany_ saved_ x2 x3 x4 a5 a6 a7 k17 n19) x9 x8 s_ savedMany_ saved_ x2 x3 x4 a5 a6 a7 (0 : Int32) else f_X6_strengthen_J54 N (f_X6_strengthen_L26 N s_ r1 x8 savedMany_ saved_ x2 x3 x4 a5 a6 a7 k17 n19) x9 x8 s_ savedMany_ saved_ x2 x3 x4 a5 a6 a7 (1 : Int32)
def f_X6_strengthen_L12 (N : Nat) (s_ : Nat → Int32) (r1 savedMany_ : Int32) (saved_ : Nat → Int32) (x2 x3 x4 : Int32) (a5 a6 a7 : Nat → Int32) (k20 : Option (Int32 × Int32 × Int32 × Int32 × Int32 × Int32 × (Nat → Int32) × (Nat → Int32) × (Nat → Int32) × (Nat → Int32) × (Nat → Int32))) : Nat → Int32 → Option (Int32 × Int32 × Int32 × Int32 × Int32 × Int32 × (Nat → Int32) × (Nat → Int32) × (Nat → Int32) × (Nat → Int32) × (Nat → Int32))
  | 0, _ => none
  | n22 + 1, x8 => if (s_ 0) ≤ x8 then k20 else f_X6_strengthen_L26 N s_ r1 x8 savedMany_ saved_ x2 x3 x4 a5 a6 a7 (f_X6_strengthen_E107 (f_X6_strengthen_L12 N s_ r1 savedMany_ saved_ x2 x3 x4 a5 a6 a7 k20 n22) x8) N (x8 + (1 : Int32))
def f_X6_strengthen (N : Nat) (savedMany_ : Int32) (s_ saved_ lumps_ order_ nears_ : Nat → Int32) : Option (Int32 × Int32 × Int32 × Int32 × Int32 × Int32 × (Nat → Int32) × (Nat → Int32) × (Nat → Int32) × (Nat → Int32) × (Nat → Int32)) :=
  bd7 (f_X6_leastByPhases N s_ lumps_ order_ nears_) (fun r1 x2 x3 x4 a5 a6 a7 => f_X6_strengthen_L12 N s_ r1 savedMany_ saved_ x2 x3 x4 a5 a6 a7 (f_X6_strengthen_E113 savedMany_ x2 x3 x4 s_ saved_ a5 a6 a7) N (0 : Int32))
def f_X6_letter (length_ at_ : Int32) (text_ : Nat → Int32) : Option (Int32) :=
  if length_ ≤ at_ then some (0 : Int32) else chk at_ 60 (some (text_ (at_).toNatClampNeg))
def f_X6_wants_J52 (r4 p1 at_ x3 : Int32) (x5 : Int32) : Option (Int32 × Int32 × Int32) :=
  some ((r4 - p1), (at_ + x5), x3)
def f_X6_wants_J25 (length_ at_ : Int32) (text_ : Nat → Int32) (p1 : Int32) (x3 : Int32) : Option (Int32 × Int32 × Int32) :=
  chkB x3 (bd1 (f_X6_letter length_ at_ text_) (fun r4 => if x3 = (0 : Int32) then f_X6_wants_J52 r4 p1 at_ x3 (0 : Int32) else f_X6_wants_J52 r4 p1 at_ x3 (1 : Int32)))
def f_X6_wants (p1 p2 length_ at_ isWell_ : Int32) (text_ : Nat → Int32) : Option (Int32 × Int32 × Int32) :=
  if isWell_ = (0 : Int32) then f_X6_wants_J25 length_ at_ text_ p1 (0 : Int32) else bd1 (f_X6_letter length_ at_ text_) (fun r1 => bd1 (f_X6_in r1 p1 p2) (fun r2 => if r2 = (0 : Int32) then f_X6_wants_J25 length_ at_ text_ p1 (0 : Int32) else f_X6_wants_J25 length_ at_ text_ p1 (1 : Int32)))
def f_X6_readsTie_J83 (x9 toldMany_ : Int32) (told_ : Nat → Int32) (r1 r4 : Int32) (x13 x14 : Int32) : Option (Int32 × Int32 × Int32 × (Nat → Int32)) :=
  if x9 = (0 : Int32) then some (x14, x9, toldMany_, told_) else chk ((3 : Int32) * toldMany_) 96 (chk (((3 : Int32) * toldMany_) + (1 : Int32)) 96 (chk (((3 : Int32) * toldMany_) + (2 : Int32)) 96 (some (x14, x9, (toldMany_ + (1 : Int32)), (upd (upd (upd told_ (((3 : Int32) * toldMany_)).toNatClampNeg r1) ((((3 : Int32) * toldMany_) + (1 : Int32))).toNatClampNeg ((r4 + r1) + (1 : Int32))) ((((3 : Int32) * toldMany_) + (2 : Int32))).toNatClampNeg x13)))))
def f_X6_readsTie (length_ at_ isWell_ toldMany_ : Int32) (text_ told_ : Nat → Int32) : Option (Int32 × Int32 × Int32 × (Nat → Int32)) :=
  bd3 (f_X6_wants (97 : Int32) (105 : Int32) length_ at_ isWell_ text_) (fun r1 x2 x3 => bd3 (f_X6_wants (((97 : Int32) + r1) + (1 : Int32)) (106 : Int32) length_ x2 x3 text_) (fun r4 x5 x6 => bd3 (f_X6_wants (48 : Int32) (57 : Int32) length_ x5 x6 text_) (fun r7 x8 x9 => if x9 = (0 : Int32) then f_X6_readsTie_J83 x9 toldMany_ told_ r1 r4 r7 x8 else if r7 ≤ (0 : Int32) then f_X6_readsTie_J83 x9 toldMany_ told_ r1 r4 r7 x8 else bd1 (f_X6_letter length_ x8 text_) (fun r10 => bd1 (f_X6_in r10 (48 : Int32) (57 : Int32)) (fun r11 => if r11 = (0 : Int32) then f_X6_readsTie_J83 x9 toldMany_ told_ r1 r4 r7 x8 else bd1 (f_X6_letter length_ x8 text_) (fun r12 => f_X6_readsTie_J83 x9 toldMany_ told_ r1 r4 ((((10 : Int32) * r7) + r12) - (48 : Int32)) (x8 + (1 : Int32))))))))
def f_X6_reads_E60 (x19 x20 x21 : Int32) (a22 : Nat → Int32) : Option (Int32 × Int32 × Int32 × Int32 × (Nat → Int32)) :=
  if x20 = (0 : Int32) then some (x19, x19, x20, x21, a22) else some ((-5 : Int32), x19, x20, x21, a22)
def f_X6_reads_L19 (length_ : Int32) (text_ : Nat → Int32) (k16 : Int32 → Int32 → Int32 → (Nat → Int32) → Option (Int32 × Int32 × Int32 × Int32 × (Nat → Int32))) : Nat → Int32 → Int32 → Int32 → (Nat → Int32) → Option (Int32 × Int32 × Int32 × Int32 × (Nat → Int32))
  | 0, _, _, _, _ => none
  | n18 + 1, x5, x6, x7, a8 => if x6 = (0 : Int32) then k16 x5 x6 x7 a8 else if length_ ≤ x5 then k16 x5 x6 x7 a8 else bd3 (f_X6_wants (44 : Int32) (44 : Int32) length_ x5 x6 text_) (fun r9 x10 x11 => if x11 = (0 : Int32) then (f_X6_reads_L19 length_ text_ k16 n18) x10 x11 x7 a8 else bd4 (f_X6_readsTie length_ x10 x11 x7 text_ a8) (fun x12 x13 x14 a15 => (f_X6_reads_L19 length_ text_ k16 n18) x12 x13 x14 a15))
def f_X6_reads (N : Nat) (length_ : Int32) (text_ told_ : Nat → Int32) : Option (Int32 × Int32 × Int32 × Int32 × (Nat → Int32)) :=
  bd4 (f_X6_readsTie length_ (0 : Int32) (1 : Int32) (0 : Int32) text_ told_) (fun x1 x2 x3 a4 => f_X6_reads_L19 length_ text_ (fun x19 x20 x21 a22 => f_X6_reads_E60 x19 x20 x21 a22) N x1 x2 x3 a4)
def f_X6_tieAll_E108 (x4 x11 x2 x3 : Int32) (a12 a5 : Nat → Int32) (a19 : Nat → Int32) : Option (Int32 × Int32 × Int32 × Int32 × Int32 × Int32 × (Nat → Int32) × (Nat → Int32) × (Nat → Int32)) :=
  some (x4, (0 : Int32), x11, x2, x3, x4, a19, a12, a5)
def f_X6_tieAll_L62 (x4 : Int32) (a5 : Nat → Int32) (k16 : (Nat → Int32) → Option (Int32 × Int32 × Int32 × Int32 × Int32 × Int32 × (Nat → Int32) × (Nat → Int32) × (Nat → Int32))) : Nat → Int32 → (Nat → Int32) → Option (Int32 × Int32 × Int32 × Int32 × Int32 × Int32 × (Nat → Int32) × (Nat → Int32) × (Nat → Int32))
  | 0, _, _ => none
  | n18 + 1, x13, a14 => if x4 ≤ x13 then k16 a14 else chk ((3 : Int32) * x13) 96 (chk (((3 : Int32) * x13) + (1 : Int32)) 96 (chk (((3 : Int32) * x13) + (2 : Int32)) 96 (bd1 (f_X6_ties (a5 (((3 : Int32) * x13)).toNatClampNeg) (a5 ((((3 : Int32) * x13) + (1 : Int32))).toNatClampNeg) (a5 ((((3 : Int32) * x13) + (2 : Int32))).toNatClampNeg) a14) (fun a15 => (f_X6_tieAll_L62 x4 a5 k16 n18) (x13 + (1 : Int32)) a15))))
def f_X6_tieAll_E56 (N : Nat) (savedMany_ : Int32) (s_ saved_ : Nat → Int32) (x4 : Int32) (a5 : Nat → Int32) (x2 x3 : Int32) : Option (Int32 × Int32 × Int32 × Int32 × Int32 × Int32 × (Nat → Int32) × (Nat → Int32) × (Nat → Int32)) :=
  bd2 (f_X6_records N savedMany_ s_ saved_) (fun x11 a12 => f_X6_tieAll_L62 x4 a5 (fun a19 => f_X6_tieAll_E108 x4 x11 x2 x3 a12 a5 a19) N (0 : Int32) s_)
def f_X6_tieAll_L23 (x4 : Int32) (a5 s_ : Nat → Int32) (savedMany_ x2 x3 : Int32) (saved_ : Nat → Int32) (k8 : Option (Int32 × Int32 × Int32 × Int32 × Int32 × Int32 × (Nat → Int32) × (Nat → Int32) × (Nat → Int32))) : Nat → Int32 → Option (Int32 × Int32 × Int32 × Int32 × Int32 × Int32 × (Nat → Int32) × (Nat → Int32) × (Nat → Int32))
  | 0, _ => none
  | n10 + 1, x6 => if x4 ≤ x6 then k8 else chk (((3 : Int32) * x6) + (1 : Int32)) 96 (bd1 (f_X6_isPlace (a5 ((((3 : Int32) * x6) + (1 : Int32))).toNatClampNeg) s_) (fun r7 => if r7 = (0 : Int32) then some ((-1 : Int32), (0 : Int32), savedMany_, x2, x3, x4, s_, saved_, a5) else (f_X6_tieAll_L23 x4 a5 s_ savedMany_ x2 x3 saved_ k8 n10) (x6 + (1 : Int32))))
def f_X6_tieAll (N : Nat) (savedMany_ length_ : Int32) (s_ saved_ text_ told_ : Nat → Int32) : Option (Int32 × Int32 × Int32 × Int32 × Int32 × Int32 × (Nat → Int32) × (Nat → Int32) × (Nat → Int32)) :=
  bd5 (f_X6_reads N length_ text_ told_) (fun r1 x2 x3 x4 a5 => if r1 = (-5 : Int32) then f_X6_tieAll_L23 x4 a5 s_ savedMany_ x2 x3 saved_ (f_X6_tieAll_E56 N savedMany_ s_ saved_ x4 a5 x2 x3) N (0 : Int32) else some (((-100 : Int32) - r1), (0 : Int32), savedMany_, x2, x3, x4, s_, saved_, a5))
def f_X6_type (p1 length_ : Int32) (text_ : Nat → Int32) : Option (Int32 × Int32 × Int32 × (Nat → Int32)) :=
  if length_ = (60 : Int32) then some ((-3 : Int32), (0 : Int32), length_, text_) else chk length_ 60 (some ((length_ + (1 : Int32)), (0 : Int32), (length_ + (1 : Int32)), (upd text_ (length_).toNatClampNeg p1)))
def f_X6_clearText (length_ : Int32) : Option (Int32 × Int32 × Int32) :=
  some (length_, (0 : Int32), (0 : Int32))
def f_X6_undo_E59 (savedMany_ : Int32) (a6 : Nat → Int32) : Option (Int32 × Int32 × Int32 × (Nat → Int32)) :=
  some ((savedMany_ - (1 : Int32)), (0 : Int32), (savedMany_ - (1 : Int32)), a6)
def f_X6_undo_L27 (savedMany_ : Int32) (saved_ : Nat → Int32) (k3 : (Nat → Int32) → Option (Int32 × Int32 × Int32 × (Nat → Int32))) : Nat → Int32 → (Nat → Int32) → Option (Int32 × Int32 × Int32 × (Nat → Int32))
  | 0, _, _ => none
  | n5 + 1, x1, a2 => if (103 : Int32) ≤ x1 then k3 a2 else chk (((103 : Int32) * (savedMany_ - (1 : Int32))) + x1) 412 (chk x1 103 ((f_X6_undo_L27 savedMany_ saved_ k3 n5) (x1 + (1 : Int32)) (upd a2 (x1).toNatClampNeg (saved_ ((((103 : Int32) * (savedMany_ - (1 : Int32))) + x1)).toNatClampNeg))))
def f_X6_undo (N : Nat) (savedMany_ : Int32) (s_ saved_ : Nat → Int32) : Option (Int32 × Int32 × Int32 × (Nat → Int32)) :=
  if savedMany_ = (0 : Int32) then some ((-5 : Int32), (0 : Int32), savedMany_, s_) else f_X6_undo_L27 savedMany_ saved_ (fun a6 => f_X6_undo_E59 savedMany_ a6) N (0 : Int32) s_
def f_X6_keep_E31 (s_ : Nat → Int32) (a6 : Nat → Int32) : Option (Int32 × Int32 × Int32 × (Nat → Int32)) :=
  some ((s_ 0), (0 : Int32), (1 : Int32), a6)
def f_X6_keep_L7 (s_ : Nat → Int32) (k3 : (Nat → Int32) → Option (Int32 × Int32 × Int32 × (Nat → Int32))) : Nat → Int32 → (Nat → Int32) → Option (Int32 × Int32 × Int32 × (Nat → Int32))
  | 0, _, _ => none
  | n5 + 1, x1, a2 => if (103 : Int32) ≤ x1 then k3 a2 else chk x1 103 (chk x1 103 ((f_X6_keep_L7 s_ k3 n5) (x1 + (1 : Int32)) (upd a2 (x1).toNatClampNeg (s_ (x1).toNatClampNeg))))
def f_X6_keep (N : Nat) (s_ snapshot_ : Nat → Int32) : Option (Int32 × Int32 × Int32 × (Nat → Int32)) :=
  f_X6_keep_L7 s_ (fun a6 => f_X6_keep_E31 s_ a6) N (0 : Int32) snapshot_
def f_X6_restore_E45 (x1 : Int32) (a2 : Nat → Int32) (a8 : Nat → Int32) : Option (Int32 × Int32 × Int32 × (Nat → Int32) × (Nat → Int32)) :=
  some ((a8 0), (0 : Int32), x1, a8, a2)
def f_X6_restore_L21 (snapshot_ : Nat → Int32) (k5 : (Nat → Int32) → Option (Int32 × Int32 × Int32 × (Nat → Int32) × (Nat → Int32))) : Nat → Int32 → (Nat → Int32) → Option (Int32 × Int32 × Int32 × (Nat → Int32) × (Nat → Int32))
  | 0, _, _ => none
  | n7 + 1, x3, a4 => if (103 : Int32) ≤ x3 then k5 a4 else chk x3 103 (chk x3 103 ((f_X6_restore_L21 snapshot_ k5 n7) (x3 + (1 : Int32)) (upd a4 (x3).toNatClampNeg (snapshot_ (x3).toNatClampNeg))))
def f_X6_restore (N : Nat) (savedMany_ hasSnapshot_ : Int32) (s_ saved_ snapshot_ : Nat → Int32) : Option (Int32 × Int32 × Int32 × (Nat → Int32) × (Nat → Int32)) :=
  if hasSnapshot_ = (0 : Int32) then some ((-5 : Int32), (0 : Int32), savedMany_, s_, saved_) else bd2 (f_X6_records N savedMany_ s_ saved_) (fun x1 a2 => f_X6_restore_L21 snapshot_ (fun a8 => f_X6_restore_E45 x1 a2 a8) N (0 : Int32) s_)
def f_X6_weight (p1 p2 : Int32) (s_ : Nat → Int32) : Option (Int32 × Int32) :=
  bd1 (f_X6_refusesPair p1 p2 (0 : Int32) s_) (fun r1 => if r1 = (0 : Int32) then bd1 (f_X6_tied p1 p2 s_) (fun r2 => some (r2, (0 : Int32))) else some (r1, (0 : Int32)))
def f_X6_tiedTo_E39 (x8 : Int32) : Option (Int32) :=
  some x8
def f_X6_tiedTo_J31 (b6 : Int32 → Int32 → Option (Int32)) (x1 x2 : Int32) (x4 : Int32) : Option (Int32) :=
  b6 (x1 ||| x4) (x2 + (1 : Int32))
def f_X6_tiedTo_L4 (s_ : Nat → Int32) (p1 : Int32) (k5 : Int32 → Option (Int32)) : Nat → Int32 → Int32 → Option (Int32)
  | 0, _, _ => none
  | n7 + 1, x1, x2 => if (s_ 0) ≤ x2 then k5 x1 else bd1 (f_X6_tied p1 x2 s_) (fun r3 => if r3 ≤ (0 : Int32) then f_X6_tiedTo_J31 (f_X6_tiedTo_L4 s_ p1 k5 n7) x1 x2 (0 : Int32) else f_X6_tiedTo_J31 (f_X6_tiedTo_L4 s_ p1 k5 n7) x1 x2 ((1 : Int32) <<< (x2 &&& (31 : Int32))))
def f_X6_tiedTo (N : Nat) (p1 : Int32) (s_ : Nat → Int32) : Option (Int32) :=
  f_X6_tiedTo_L4 s_ p1 (fun x8 => f_X6_tiedTo_E39 x8) N (0 : Int32) (0 : Int32)
def f_X6_reached_E65 (x14 : Int32) : Option (Int32) :=
  some x14
def f_X6_reached_E59 (b12 : Int32 → Int32 → Option (Int32)) (x2 : Int32) (x10 : Int32) : Option (Int32) :=
  b12 x10 (x2 + (1 : Int32))
def f_X6_reached_J51 (b8 : Int32 → Int32 → Option (Int32)) (x3 x4 : Int32) (x6 : Int32) : Option (Int32) :=
  b8 (x3 ||| x6) (x4 + (1 : Int32))
def f_X6_reached_L19 (N : Nat) (s_ : Nat → Int32) (k7 : Int32 → Option (Int32)) : Nat → Int32 → Int32 → Option (Int32)
  | 0, _, _ => none
  | n9 + 1, x3, x4 => if (s_ 0) ≤ x4 then k7 x3 else if ((x3 >>> (x4 &&& (31 : Int32))) &&& (1 : Int32)) = (1 : Int32) then bd1 (f_X6_tiedTo N x4 s_) (fun r5 => f_X6_reached_J51 (f_X6_reached_L19 N s_ k7 n9) x3 x4 r5) else f_X6_reached_J51 (f_X6_reached_L19 N s_ k7 n9) x3 x4 (0 : Int32)
def f_X6_reached_L6 (N : Nat) (s_ : Nat → Int32) (k11 : Int32 → Option (Int32)) : Nat → Int32 → Int32 → Option (Int32)
  | 0, _, _ => none
  | n13 + 1, x1, x2 => if (s_ 0) ≤ x2 then k11 x1 else f_X6_reached_L19 N s_ (fun x10 => f_X6_reached_E59 (f_X6_reached_L6 N s_ k11 n13) x2 x10) N x1 (0 : Int32)
def f_X6_reached (N : Nat) (p1 : Int32) (s_ : Nat → Int32) : Option (Int32) :=
  f_X6_reached_L6 N s_ (fun x14 => f_X6_reached_E65 x14) N ((1 : Int32) <<< (p1 &&& (31 : Int32))) (0 : Int32)
def f_X6_rankOf_E25 (x1 x2 x3 : Int32) (a4 a5 a6 : Nat → Int32) (x11 : Int32) : Option (Int32 × Int32 × Int32 × Int32 × (Nat → Int32) × (Nat → Int32) × (Nat → Int32)) :=
  some (x11, x1, x2, x3, a4, a5, a6)
def f_X6_rankOf_L7 (a5 : Nat → Int32) (p1 : Int32) (k8 : Int32 → Option (Int32 × Int32 × Int32 × Int32 × (Nat → Int32) × (Nat → Int32) × (Nat → Int32))) : Nat → Int32 → Option (Int32 × Int32 × Int32 × Int32 × (Nat → Int32) × (Nat → Int32) × (Nat → Int32))
  | 0, _ => none
  | n10 + 1, x7 => chk x7 10 (if (a5 (x7).toNatClampNeg) = ((1 : Int32) <<< (p1 &&& (31 : Int32))) then k8 x7 else (f_X6_rankOf_L7 a5 p1 k8 n10) (x7 + (1 : Int32)))
def f_X6_rankOf (N : Nat) (p1 : Int32) (s_ lumps_ order_ nears_ : Nat → Int32) : Option (Int32 × Int32 × Int32 × Int32 × (Nat → Int32) × (Nat → Int32) × (Nat → Int32)) :=
  bd6 (f_X6_laysPhase N (0 : Int32) s_ lumps_ order_ nears_) (fun x1 x2 x3 a4 a5 a6 => f_X6_rankOf_L7 a5 p1 (fun x11 => f_X6_rankOf_E25 x1 x2 x3 a4 a5 a6 x11) N (0 : Int32))
def f_X6_place (N : Nat) (p1 p2 lumpMany_ partingSet_ partingWeight_ : Int32) (s_ lumps_ order_ nears_ : Nat → Int32) : Option (Int32 × Int32 × Int32 × Int32 × Int32 × (Nat → Int32) × (Nat → Int32) × (Nat → Int32)) :=
  bd1 (f_X6_isPlace p1 s_) (fun r1 => if r1 = (0 : Int32) then some ((-1 : Int32), (0 : Int32), lumpMany_, partingSet_, partingWeight_, lumps_, order_, nears_) else if p2 = (0 : Int32) then bd1 (f_X6_weightOf N ((1 : Int32) <<< (p1 &&& (31 : Int32))) s_) (fun r2 => some (r2, (0 : Int32), lumpMany_, partingSet_, partingWeight_, lumps_, order_, nears_)) else if p2 = (1 : Int32) then bd1 (f_X6_tiedTo N p1 s_) (fun r3 => some (r3, (0 : Int32), lumpMany_, partingSet_, partingWeight_, lumps_, order_, nears_)) else if p2 = (2 : Int32) then bd1 (f_X6_reached N p1 s_) (fun r4 => some (r4, (0 : Int32), lumpMany_, partingSet_, partingWeight_, lumps_, order_, nears_)) else if p2 = (3 : Int32) then bd1 (f_X6_tightMany N p1 s_) (fun r5 => some (r5, (0 : Int32), lumpMany_, partingSet_, partingWeight_, lumps_, order_, nears_)) else if p2 = (4 : Int32) then bd7 (f_X6_rankOf N p1 s_ lumps_ order_ nears_) (fun r6 x7 x8 x9 a10 a11 a12 => some (r6, (0 : Int32), x7, x8, x9, a10, a11, a12)) else if p2 = (5 : Int32) then bd7 (f_X6_rankOf N p1 s_ lumps_ order_ nears_) (fun r13 x14 x15 x16 a17 a18 a19 => chk r13 10 (some ((a19 (r13).toNatClampNeg), (0 : Int32), x14, x15, x16, a17, a18, a19))) else some ((-2 : Int32), (0 : Int32), lumpMany_, partingSet_, partingWeight_, lumps_, order_, nears_))
def f_X6_isPhase (p1 : Int32) (s_ : Nat → Int32) : Option (Int32) :=
  bd1 (f_X6_in p1 (0 : Int32) ((s_ 0) - (2 : Int32))) (fun r1 => chkB r1 (some r1))
def f_X6_phase (N : Nat) (p1 p2 lumpMany_ partingSet_ partingWeight_ : Int32) (s_ lumps_ order_ nears_ : Nat → Int32) : Option (Int32 × Int32 × Int32 × Int32 × Int32 × (Nat → Int32) × (Nat → Int32) × (Nat → Int32)) :=
  bd1 (f_X6_isPhase p1 s_) (fun r1 => if r1 = (0 : Int32) then some ((-1 : Int32), (0 : Int32), lumpMany_, partingSet_, partingWeight_, lumps_, order_, nears_) else bd6 (f_X6_laysPhase N p1 s_ lumps_ order_ nears_) (fun x2 x3 x4 a5 a6 a7 => chk (x2 - (1 : Int32)) 10 (chk (x2 - (2 : Int32)) 10 (if p2 = (0 : Int32) then some (x3, (0 : Int32), x2, x3, x4, a5, a6, a7) else if p2 = (1 : Int32) then some (x4, (0 : Int32), x2, x3, x4, a5, a6, a7) else if p2 = (2 : Int32) then bd1 (f_X6_nameOf N (a6 ((x2 - (1 : Int32))).toNatClampNeg)) (fun r8 => some (r8, (0 : Int32), x2, x3, x4, a5, a6, a7)) else if p2 = (3 : Int32) then bd1 (f_X6_nameOf N (a6 ((x2 - (2 : Int32))).toNatClampNeg)) (fun r9 => some (r9, (0 : Int32), x2, x3, x4, a5, a6, a7)) else if p2 = (4 : Int32) then some (((a6 ((x2 - (1 : Int32))).toNatClampNeg) ||| (a6 ((x2 - (2 : Int32))).toNatClampNeg)), (0 : Int32), x2, x3, x4, a5, a6, a7) else if p2 = (5 : Int32) then some (x2, (0 : Int32), x2, x3, x4, a5, a6, a7) else some ((-2 : Int32), (0 : Int32), x2, x3, x4, a5, a6, a7)))))
def f_X6_swallowed (N : Nat) (p1 p2 p3 lumpMany_ partingSet_ partingWeight_ : Int32) (s_ lumps_ order_ nears_ : Nat → Int32) : Option (Int32 × Int32 × Int32 × Int32 × Int32 × (Nat → Int32) × (Nat → Int32) × (Nat → Int32)) :=
  bd1 (f_X6_isPhase p1 s_) (fun r1 => if r1 = (0 : Int32) then some ((-1 : Int32), (0 : Int32), lumpMany_, partingSet_, partingWeight_, lumps_, order_, nears_) else if (0 : Int32) ≤ p2 then bd6 (f_X6_laysPhase N p1 s_ lumps_ order_ nears_) (fun x2 x3 x4 a5 a6 a7 => if p2 < x2 then if p3 = (0 : Int32) then chk p2 10 (bd1 (f_X6_nameOf N (a6 (p2).toNatClampNeg)) (fun r8 => some (r8, (0 : Int32), x2, x3, x4, a5, a6, a7))) else chk p2 10 (some ((a7 (p2).toNatClampNeg), (0 : Int32), x2, x3, x4, a5, a6, a7)) else some ((-5 : Int32), (0 : Int32), x2, x3, x4, a5, a6, a7)) else some ((-2 : Int32), (0 : Int32), lumpMany_, partingSet_, partingWeight_, lumps_, order_, nears_))
def f_X6_least (N : Nat) (p1 lumpMany_ partingSet_ partingWeight_ : Int32) (s_ lumps_ order_ nears_ : Nat → Int32) : Option (Int32 × Int32 × Int32 × Int32 × Int32 × (Nat → Int32) × (Nat → Int32) × (Nat → Int32)) :=
  if p1 = (0 : Int32) then bd7 (f_X6_leastByPhases N s_ lumps_ order_ nears_) (fun r1 x2 x3 x4 a5 a6 a7 => some (r1, (0 : Int32), x2, x3, x4, a5, a6, a7)) else if p1 = (1 : Int32) then bd7 (f_X6_leastByPhases N s_ lumps_ order_ nears_) (fun r8 x9 x10 x11 a12 a13 a14 => bd1 (f_X6_weightOf N r8 s_) (fun r15 => some (r15, (0 : Int32), x9, x10, x11, a12, a13, a14))) else if p1 = (2 : Int32) then bd7 (f_X6_leastPhase N s_ lumps_ order_ nears_) (fun r16 x17 x18 x19 a20 a21 a22 => some (r16, (0 : Int32), x17, x18, x19, a20, a21, a22)) else if p1 = (3 : Int32) then bd1 (f_X6_leastFair N s_) (fun r23 => some (r23, (0 : Int32), lumpMany_, partingSet_, partingWeight_, lumps_, order_, nears_)) else if p1 = (4 : Int32) then bd1 (f_X6_leastFair N s_) (fun r24 => if r24 = (-5 : Int32) then some ((-5 : Int32), (0 : Int32), lumpMany_, partingSet_, partingWeight_, lumps_, order_, nears_) else bd1 (f_X6_leastFair N s_) (fun r25 => bd1 (f_X6_weightOf N r25 s_) (fun r26 => some (r26, (0 : Int32), lumpMany_, partingSet_, partingWeight_, lumps_, order_, nears_)))) else some ((-2 : Int32), (0 : Int32), lumpMany_, partingSet_, partingWeight_, lumps_, order_, nears_)
def f_X6_leastOf (N : Nat) (p1 : Int32) (s_ : Nat → Int32) : Option (Int32 × Int32) :=
  if (0 : Int32) ≤ p1 then bd1 (f_X6_leastAt N p1 s_) (fun r1 => some (r1, (0 : Int32))) else some ((-2 : Int32), (0 : Int32))
def f_X6_between (N : Nat) (p1 p2 p3 : Int32) (s_ : Nat → Int32) : Option (Int32 × Int32) :=
  bd1 (f_X6_refusesPair p1 p2 (0 : Int32) s_) (fun r1 => if r1 = (0 : Int32) then bd1 (f_X6_in p3 (0 : Int32) (1 : Int32)) (fun r2 => if r2 = (0 : Int32) then some ((-2 : Int32), (0 : Int32)) else bd1 (f_X6_leastBetween N p1 p2 s_) (fun r3 => if p3 = (0 : Int32) then some (r3, (0 : Int32)) else bd1 (f_X6_weightOf N r3 s_) (fun r4 => some (r4, (0 : Int32))))) else some (r1, (0 : Int32)))
def f_X6_parting (N : Nat) (p1 : Int32) (s_ : Nat → Int32) : Option (Int32 × Int32) :=
  bd1 (f_X6_isParting p1 s_) (fun r1 => if r1 = (0 : Int32) then some ((-2 : Int32), (0 : Int32)) else bd1 (f_X6_weightOf N p1 s_) (fun r2 => some (r2, (0 : Int32))))
def f_X6_wouldBe (N : Nat) (p1 p2 p3 : Int32) (s_ : Nat → Int32) : Option (Int32 × Int32 × (Nat → Int32)) :=
  bd1 (f_X6_refusesPair p1 p2 p3 s_) (fun r1 => if r1 = (0 : Int32) then bd1 (f_X6_tied p1 p2 s_) (fun r2 => bd1 (f_X6_ties p1 p2 p3 s_) (fun a3 => bd1 (f_X6_leastWeight N a3) (fun r4 => bd1 (f_X6_ties p1 p2 r2 a3) (fun a5 => some (r4, (0 : Int32), a5))))) else some (r1, (0 : Int32), s_))
def f_X6_tight (N : Nat) (p1 : Int32) (s_ : Nat → Int32) : Option (Int32 × Int32) :=
  if (0 : Int32) ≤ p1 then bd1 (f_X6_tightAt N p1 s_) (fun r1 => some (r1, (0 : Int32))) else some ((-2 : Int32), (0 : Int32))
def f_X6_overPairs_E74 (x15 : Int32) : Option (Int32) :=
  some x15
def f_X6_overPairs_E68 (b13 : Int32 → Int32 → Option (Int32)) (x2 : Int32) (x11 : Int32) : Option (Int32) :=
  b13 x11 (x2 + (1 : Int32))
def f_X6_overPairs_J60 (b9 : Int32 → Int32 → Option (Int32)) (x3 x4 : Int32) (x7 : Int32) : Option (Int32) :=
  b9 (x3 + x7) (x4 + (1 : Int32))
def f_X6_overPairs_L19 (s_ : Nat → Int32) (p1 x2 : Int32) (k8 : Int32 → Option (Int32)) : Nat → Int32 → Int32 → Option (Int32)
  | 0, _, _ => none
  | n10 + 1, x3, x4 => if (s_ 0) ≤ x4 then k8 x3 else if p1 = (0 : Int32) then bd1 (f_X6_tied x2 x4 s_) (fun r5 => if r5 ≤ (0 : Int32) then f_X6_overPairs_J60 (f_X6_overPairs_L19 s_ p1 x2 k8 n10) x3 x4 (0 : Int32) else f_X6_overPairs_J60 (f_X6_overPairs_L19 s_ p1 x2 k8 n10) x3 x4 (1 : Int32)) else bd1 (f_X6_tied x2 x4 s_) (fun r6 => f_X6_overPairs_J60 (f_X6_overPairs_L19 s_ p1 x2 k8 n10) x3 x4 r6)
def f_X6_overPairs_L4 (N : Nat) (s_ : Nat → Int32) (p1 : Int32) (k12 : Int32 → Option (Int32)) : Nat → Int32 → Int32 → Option (Int32)
  | 0, _, _ => none
  | n14 + 1, x1, x2 => if (s_ 0) ≤ x2 then k12 x1 else f_X6_overPairs_L19 s_ p1 x2 (fun x11 => f_X6_overPairs_E68 (f_X6_overPairs_L4 N s_ p1 k12 n14) x2 x11) N x1 (x2 + (1 : Int32))
def f_X6_overPairs (N : Nat) (p1 : Int32) (s_ : Nat → Int32) : Option (Int32) :=
  f_X6_overPairs_L4 N s_ p1 (fun x15 => f_X6_overPairs_E74 x15) N (0 : Int32) (0 : Int32)
def f_X6_parts_E40 (x9 : Int32) : Option (Int32) :=
  some x9
def f_X6_parts_J32 (b7 : Int32 → Int32 → Option (Int32)) (x1 x2 : Int32) (x5 : Int32) : Option (Int32) :=
  b7 (x1 + x5) (x2 + (1 : Int32))
def f_X6_parts_L4 (N : Nat) (s_ : Nat → Int32) (k6 : Int32 → Option (Int32)) : Nat → Int32 → Int32 → Option (Int32)
  | 0, _, _ => none
  | n8 + 1, x1, x2 => if (s_ 0) ≤ x2 then k6 x1 else bd1 (f_X6_reached N x2 s_) (fun r3 => bd1 (f_X6_nameOf N r3) (fun r4 => if r4 = x2 then f_X6_parts_J32 (f_X6_parts_L4 N s_ k6 n8) x1 x2 (1 : Int32) else f_X6_parts_J32 (f_X6_parts_L4 N s_ k6 n8) x1 x2 (0 : Int32)))
def f_X6_parts (N : Nat) (s_ : Nat → Int32) : Option (Int32) :=
  f_X6_parts_L4 N s_ (fun x9 => f_X6_parts_E40 x9) N (0 : Int32) (0 : Int32)
def f_X6_count (N : Nat) (p1 savedMany_ length_ : Int32) (s_ : Nat → Int32) : Option (Int32 × Int32) :=
  if p1 = (0 : Int32) then some ((s_ 0), (0 : Int32)) else if p1 = (1 : Int32) then bd1 (f_X6_overPairs N (0 : Int32) s_) (fun r1 => some (r1, (0 : Int32))) else if p1 = (2 : Int32) then bd1 (f_X6_overPairs N (1 : Int32) s_) (fun r2 => some (r2, (0 : Int32))) else if p1 = (3 : Int32) then bd1 (f_X6_leastMany N s_) (fun r3 => some (r3, (0 : Int32))) else if p1 = (4 : Int32) then bd1 (f_X6_tightMany N (-5 : Int32) s_) (fun r4 => some (r4, (0 : Int32))) else if p1 = (5 : Int32) then bd1 (f_X6_parts N s_) (fun r5 => some (r5, (0 : Int32))) else if p1 = (6 : Int32) then some ((s_ 1), (0 : Int32)) else if p1 = (7 : Int32) then some ((s_ 2), (0 : Int32)) else if p1 = (8 : Int32) then bd1 (f_X6_fairMany N s_) (fun r6 => some (r6, (0 : Int32))) else if p1 = (9 : Int32) then some (savedMany_, (0 : Int32)) else if p1 = (10 : Int32) then some (length_, (0 : Int32)) else some ((-2 : Int32), (0 : Int32))
