def f_J6_bitCount_0f7a4 (p0 : Int32) : Option (Int32) :=
  some ((((((((p0 - ((((p0).toUInt32 >>> (((1 : Int32)).toUInt32 &&& Int32.toUInt32 31)).toInt32) &&& (1431655765 : Int32))) &&& (858993459 : Int32)) + (((((p0 - ((((p0).toUInt32 >>> (((1 : Int32)).toUInt32 &&& Int32.toUInt32 31)).toInt32) &&& (1431655765 : Int32)))).toUInt32 >>> (((2 : Int32)).toUInt32 &&& Int32.toUInt32 31)).toInt32) &&& (858993459 : Int32))) + ((((((p0 - ((((p0).toUInt32 >>> (((1 : Int32)).toUInt32 &&& Int32.toUInt32 31)).toInt32) &&& (1431655765 : Int32))) &&& (858993459 : Int32)) + (((((p0 - ((((p0).toUInt32 >>> (((1 : Int32)).toUInt32 &&& Int32.toUInt32 31)).toInt32) &&& (1431655765 : Int32)))).toUInt32 >>> (((2 : Int32)).toUInt32 &&& Int32.toUInt32 31)).toInt32) &&& (858993459 : Int32)))).toUInt32 >>> (((4 : Int32)).toUInt32 &&& Int32.toUInt32 31)).toInt32)) &&& (252645135 : Int32)) + ((((((((p0 - ((((p0).toUInt32 >>> (((1 : Int32)).toUInt32 &&& Int32.toUInt32 31)).toInt32) &&& (1431655765 : Int32))) &&& (858993459 : Int32)) + (((((p0 - ((((p0).toUInt32 >>> (((1 : Int32)).toUInt32 &&& Int32.toUInt32 31)).toInt32) &&& (1431655765 : Int32)))).toUInt32 >>> (((2 : Int32)).toUInt32 &&& Int32.toUInt32 31)).toInt32) &&& (858993459 : Int32))) + ((((((p0 - ((((p0).toUInt32 >>> (((1 : Int32)).toUInt32 &&& Int32.toUInt32 31)).toInt32) &&& (1431655765 : Int32))) &&& (858993459 : Int32)) + (((((p0 - ((((p0).toUInt32 >>> (((1 : Int32)).toUInt32 &&& Int32.toUInt32 31)).toInt32) &&& (1431655765 : Int32)))).toUInt32 >>> (((2 : Int32)).toUInt32 &&& Int32.toUInt32 31)).toInt32) &&& (858993459 : Int32)))).toUInt32 >>> (((4 : Int32)).toUInt32 &&& Int32.toUInt32 31)).toInt32)) &&& (252645135 : Int32))).toUInt32 >>> (((8 : Int32)).toUInt32 &&& Int32.toUInt32 31)).toInt32)) + (((((((((p0 - ((((p0).toUInt32 >>> (((1 : Int32)).toUInt32 &&& Int32.toUInt32 31)).toInt32) &&& (1431655765 : Int32))) &&& (858993459 : Int32)) + (((((p0 - ((((p0).toUInt32 >>> (((1 : Int32)).toUInt32 &&& Int32.toUInt32 31)).toInt32) &&& (1431655765 : Int32)))).toUInt32 >>> (((2 : Int32)).toUInt32 &&& Int32.toUInt32 31)).toInt32) &&& (858993459 : Int32))) + ((((((p0 - ((((p0).toUInt32 >>> (((1 : Int32)).toUInt32 &&& Int32.toUInt32 31)).toInt32) &&& (1431655765 : Int32))) &&& (858993459 : Int32)) + (((((p0 - ((((p0).toUInt32 >>> (((1 : Int32)).toUInt32 &&& Int32.toUInt32 31)).toInt32) &&& (1431655765 : Int32)))).toUInt32 >>> (((2 : Int32)).toUInt32 &&& Int32.toUInt32 31)).toInt32) &&& (858993459 : Int32)))).toUInt32 >>> (((4 : Int32)).toUInt32 &&& Int32.toUInt32 31)).toInt32)) &&& (252645135 : Int32)) + ((((((((p0 - ((((p0).toUInt32 >>> (((1 : Int32)).toUInt32 &&& Int32.toUInt32 31)).toInt32) &&& (1431655765 : Int32))) &&& (858993459 : Int32)) + (((((p0 - ((((p0).toUInt32 >>> (((1 : Int32)).toUInt32 &&& Int32.toUInt32 31)).toInt32) &&& (1431655765 : Int32)))).toUInt32 >>> (((2 : Int32)).toUInt32 &&& Int32.toUInt32 31)).toInt32) &&& (858993459 : Int32))) + ((((((p0 - ((((p0).toUInt32 >>> (((1 : Int32)).toUInt32 &&& Int32.toUInt32 31)).toInt32) &&& (1431655765 : Int32))) &&& (858993459 : Int32)) + (((((p0 - ((((p0).toUInt32 >>> (((1 : Int32)).toUInt32 &&& Int32.toUInt32 31)).toInt32) &&& (1431655765 : Int32)))).toUInt32 >>> (((2 : Int32)).toUInt32 &&& Int32.toUInt32 31)).toInt32) &&& (858993459 : Int32)))).toUInt32 >>> (((4 : Int32)).toUInt32 &&& Int32.toUInt32 31)).toInt32)) &&& (252645135 : Int32))).toUInt32 >>> (((8 : Int32)).toUInt32 &&& Int32.toUInt32 31)).toInt32))).toUInt32 >>> (((16 : Int32)).toUInt32 &&& Int32.toUInt32 31)).toInt32)) &&& (63 : Int32))
def f_X5_holds (p0 p1 : Int32) : Option (Int32) :=
  if (p0 &&& ((1 : Int32) <<< (p1 &&& (31 : Int32)))) = (0 : Int32) then some (0 : Int32) else some (1 : Int32)
def f_X5_parts (p0 p1 p2 : Int32) : Option (Int32) :=
  bd1 (f_X5_holds p0 p1) (fun r1 => bd1 (f_X5_holds p0 p2) (fun r2 => if r1 = r2 then some (0 : Int32) else some (1 : Int32)))
def f_X5_pairNumber (p0 p1 : Int32) : Option (Int32) :=
  some (((10 : Int32) * p0) + p1)
def f_X4_copyFrom (weights_ : Nat → Int32) (p1_places_ p1_start_ p1_fairPlaces_ : Int32) (p1_weights_ : Nat → Int32) : Option (Int32 × Int32 × Int32 × (Nat → Int32)) :=
  some (p1_places_, p1_start_, p1_fairPlaces_, (va_cpy p1_weights_ weights_ 0 0 100))
def f_X4_has (p1 places_ : Int32) : Option (Int32) :=
  if p1 < (0 : Int32) then some (0 : Int32) else if places_ ≤ p1 then some (0 : Int32) else some (1 : Int32)
def f_X4_tieOf (p1 p2 places_ : Int32) (weights_ : Nat → Int32) : Option (Int32) :=
  bd1 (f_X4_has p1 places_) (fun r1 => if r1 = (0 : Int32) then some (0 : Int32) else bd1 (f_X4_has p2 places_) (fun r2 => if r2 = (0 : Int32) then some (0 : Int32) else chk ((p1 * (10 : Int32)) + p2) 100 (some (weights_ (((p1 * (10 : Int32)) + p2)).toNatClampNeg))))
def f_X4_weightsOf_E27 (x7 : Int32) : Option (Int32) :=
  some x7
def f_X4_weightsOf_L4 (places_ p1 : Int32) (weights_ : Nat → Int32) (k4 : Int32 → Option (Int32)) : Nat → Int32 → Int32 → Option (Int32)
  | 0, _, _ => none
  | n6 + 1, x1, x2 => if places_ ≤ x2 then k4 x1 else bd1 (f_X4_tieOf p1 x2 places_ weights_) (fun r3 => (f_X4_weightsOf_L4 places_ p1 weights_ k4 n6) (x1 + r3) (x2 + (1 : Int32)))
def f_X4_weightsOf (N : Nat) (p1 places_ : Int32) (weights_ : Nat → Int32) : Option (Int32) :=
  f_X4_weightsOf_L4 places_ p1 weights_ (fun x7 => f_X4_weightsOf_E27 x7) N (0 : Int32) (0 : Int32)
def f_X4_bind (p1 p2 p3 places_ : Int32) (weights_ : Nat → Int32) : Option ((Nat → Int32)) :=
  bd1 (f_X4_has p1 places_) (fun r1 => if r1 = (0 : Int32) then some weights_ else bd1 (f_X4_has p2 places_) (fun r2 => if r2 = (0 : Int32) then some weights_ else chk ((p1 * (10 : Int32)) + p2) 100 (chk ((p2 * (10 : Int32)) + p1) 100 (some (upd (upd weights_ (((p1 * (10 : Int32)) + p2)).toNatClampNeg p3) (((p2 * (10 : Int32)) + p1)).toNatClampNeg p3)))))
def f_X4_addPlace_E48 (places_ : Int32) (a7 : Nat → Int32) : Option (Int32 × (Nat → Int32)) :=
  some ((places_ + (1 : Int32)), a7)
def f_X4_addPlace_L22 (places_ : Int32) (k4 : (Nat → Int32) → Option (Int32 × (Nat → Int32))) : Nat → Int32 → (Nat → Int32) → Option (Int32 × (Nat → Int32))
  | 0, _, _ => none
  | n6 + 1, x1, a2 => if (places_ + (1 : Int32)) ≤ x1 then k4 a2 else bd1 (f_X4_bind ((places_ + (1 : Int32)) - (1 : Int32)) x1 (0 : Int32) (places_ + (1 : Int32)) a2) (fun a3 => (f_X4_addPlace_L22 places_ k4 n6) (x1 + (1 : Int32)) a3)
def f_X4_addPlace (N : Nat) (places_ : Int32) (weights_ : Nat → Int32) : Option (Int32 × (Nat → Int32)) :=
  if places_ < (10 : Int32) then f_X4_addPlace_L22 places_ (fun a7 => f_X4_addPlace_E48 places_ a7) N (0 : Int32) weights_ else some (places_, weights_)
def f_X4_dropPlace_E73 (start_ p1 places_ : Int32) (a16 : Nat → Int32) : Option (Int32 × Int32 × (Nat → Int32)) :=
  if start_ = p1 then some ((places_ - (1 : Int32)), (0 : Int32), a16) else if start_ ≤ p1 then some ((places_ - (1 : Int32)), start_, a16) else some ((places_ - (1 : Int32)), (start_ - (1 : Int32)), a16)
def f_X4_dropPlace_E67 (b14 : Int32 → (Nat → Int32) → Option (Int32 × Int32 × (Nat → Int32))) (x1 : Int32) (a12 : Nat → Int32) : Option (Int32 × Int32 × (Nat → Int32)) :=
  b14 (x1 + (1 : Int32)) a12
def f_X4_dropPlace_J45 (x5 places_ : Int32) (a4 : Nat → Int32) (x1 x3 : Int32) (b10 : Int32 → (Nat → Int32) → Option (Int32 × Int32 × (Nat → Int32))) (x6 : Int32) : Option (Int32 × Int32 × (Nat → Int32)) :=
  bd1 (f_X4_tieOf x5 x6 places_ a4) (fun r7 => bd1 (f_X4_bind x1 x3 r7 places_ a4) (fun a8 => b10 (x3 + (1 : Int32)) a8))
def f_X4_dropPlace_J31 (p1 x3 places_ : Int32) (a4 : Nat → Int32) (x1 : Int32) (b10 : Int32 → (Nat → Int32) → Option (Int32 × Int32 × (Nat → Int32))) (x5 : Int32) : Option (Int32 × Int32 × (Nat → Int32)) :=
  if p1 ≤ x3 then f_X4_dropPlace_J45 x5 places_ a4 x1 x3 b10 (x3 + (1 : Int32)) else f_X4_dropPlace_J45 x5 places_ a4 x1 x3 b10 x3
def f_X4_dropPlace_L14 (x1 p1 places_ : Int32) (k9 : (Nat → Int32) → Option (Int32 × Int32 × (Nat → Int32))) : Nat → Int32 → (Nat → Int32) → Option (Int32 × Int32 × (Nat → Int32))
  | 0, _, _ => none
  | n11 + 1, x3, a4 => if x1 ≤ x3 then k9 a4 else if p1 ≤ x1 then f_X4_dropPlace_J31 p1 x3 places_ a4 x1 (f_X4_dropPlace_L14 x1 p1 places_ k9 n11) (x1 + (1 : Int32)) else f_X4_dropPlace_J31 p1 x3 places_ a4 x1 (f_X4_dropPlace_L14 x1 p1 places_ k9 n11) x1
def f_X4_dropPlace_L2 (N : Nat) (places_ p1 : Int32) (k13 : (Nat → Int32) → Option (Int32 × Int32 × (Nat → Int32))) : Nat → Int32 → (Nat → Int32) → Option (Int32 × Int32 × (Nat → Int32))
  | 0, _, _ => none
  | n15 + 1, x1, a2 => if (places_ - (1 : Int32)) ≤ x1 then k13 a2 else f_X4_dropPlace_L14 x1 p1 places_ (fun a12 => f_X4_dropPlace_E67 (f_X4_dropPlace_L2 N places_ p1 k13 n15) x1 a12) N (0 : Int32) a2
def f_X4_dropPlace (N : Nat) (p1 places_ start_ : Int32) (weights_ : Nat → Int32) : Option (Int32 × Int32 × (Nat → Int32)) :=
  f_X4_dropPlace_L2 N places_ p1 (fun a16 => f_X4_dropPlace_E73 start_ p1 places_ a16) N (0 : Int32) weights_
def f_X4_mergePlaces_J67 (N : Nat) (p2 places_ : Int32) (a10 : Nat → Int32) (x11 : Int32) : Option (Int32 × Int32 × (Nat → Int32)) :=
  bd3 (f_X4_dropPlace N p2 places_ x11 a10) (fun x12 x13 a14 => some (x12, x13, a14))
def f_X4_mergePlaces_E54 (N : Nat) (start_ p2 places_ p1 : Int32) (a10 : Nat → Int32) : Option (Int32 × Int32 × (Nat → Int32)) :=
  if start_ = p2 then f_X4_mergePlaces_J67 N p2 places_ a10 p1 else f_X4_mergePlaces_J67 N p2 places_ a10 start_
def f_X4_mergePlaces_J48 (b8 : Int32 → (Nat → Int32) → Option (Int32 × Int32 × (Nat → Int32))) (x1 : Int32) (a6 : Nat → Int32) : Option (Int32 × Int32 × (Nat → Int32)) :=
  b8 (x1 + (1 : Int32)) a6
def f_X4_mergePlaces_L2 (places_ p1 p2 : Int32) (k7 : (Nat → Int32) → Option (Int32 × Int32 × (Nat → Int32))) : Nat → Int32 → (Nat → Int32) → Option (Int32 × Int32 × (Nat → Int32))
  | 0, _, _ => none
  | n9 + 1, x1, a2 => if places_ ≤ x1 then k7 a2 else if x1 = p1 then f_X4_mergePlaces_J48 (f_X4_mergePlaces_L2 places_ p1 p2 k7 n9) x1 a2 else if x1 = p2 then f_X4_mergePlaces_J48 (f_X4_mergePlaces_L2 places_ p1 p2 k7 n9) x1 a2 else bd1 (f_X4_tieOf p1 x1 places_ a2) (fun r3 => bd1 (f_X4_tieOf p2 x1 places_ a2) (fun r4 => bd1 (f_X4_bind p1 x1 (if (99 : Int32) < (r3 + r4) then (99 : Int32) else (r3 + r4)) places_ a2) (fun a5 => f_X4_mergePlaces_J48 (f_X4_mergePlaces_L2 places_ p1 p2 k7 n9) x1 a5)))
def f_X4_mergePlaces (N : Nat) (p1 p2 places_ start_ : Int32) (weights_ : Nat → Int32) : Option (Int32 × Int32 × (Nat → Int32)) :=
  f_X4_mergePlaces_L2 places_ p1 p2 (fun a10 => f_X4_mergePlaces_E54 N start_ p2 places_ p1 a10) N (0 : Int32) weights_
def f_X4_neighboursOf_E33 (x8 : Int32) : Option (Int32) :=
  some x8
def f_X4_neighboursOf_J27 (b6 : Int32 → Int32 → Option (Int32)) (x2 : Int32) (x4 : Int32) : Option (Int32) :=
  b6 x4 (x2 + (1 : Int32))
def f_X4_neighboursOf_L4 (places_ p1 : Int32) (weights_ : Nat → Int32) (k5 : Int32 → Option (Int32)) : Nat → Int32 → Int32 → Option (Int32)
  | 0, _, _ => none
  | n7 + 1, x1, x2 => if places_ ≤ x2 then k5 x1 else bd1 (f_X4_tieOf p1 x2 places_ weights_) (fun r3 => if r3 ≤ (0 : Int32) then f_X4_neighboursOf_J27 (f_X4_neighboursOf_L4 places_ p1 weights_ k5 n7) x2 x1 else f_X4_neighboursOf_J27 (f_X4_neighboursOf_L4 places_ p1 weights_ k5 n7) x2 (x1 ||| ((1 : Int32) <<< (x2 &&& (31 : Int32)))))
def f_X4_neighboursOf (N : Nat) (p1 places_ : Int32) (weights_ : Nat → Int32) : Option (Int32) :=
  f_X4_neighboursOf_L4 places_ p1 weights_ (fun x8 => f_X4_neighboursOf_E33 x8) N (0 : Int32) (0 : Int32)
def f_X4_reachedFrom_E56 (x15 : Int32) : Option (Int32) :=
  some x15
def f_X4_reachedFrom_E50 (b13 : Int32 → Int32 → Option (Int32)) (x2 : Int32) (x11 : Int32) : Option (Int32) :=
  b13 x11 (x2 + (1 : Int32))
def f_X4_reachedFrom_J44 (b9 : Int32 → Int32 → Option (Int32)) (x4 : Int32) (x7 : Int32) : Option (Int32) :=
  b9 x7 (x4 + (1 : Int32))
def f_X4_reachedFrom_L17 (N : Nat) (places_ : Int32) (weights_ : Nat → Int32) (k8 : Int32 → Option (Int32)) : Nat → Int32 → Int32 → Option (Int32)
  | 0, _, _ => none
  | n10 + 1, x3, x4 => if places_ ≤ x4 then k8 x3 else bd1 (f_X5_holds x3 x4) (fun r5 => if r5 = (0 : Int32) then f_X4_reachedFrom_J44 (f_X4_reachedFrom_L17 N places_ weights_ k8 n10) x4 x3 else bd1 (f_X4_neighboursOf N x4 places_ weights_) (fun r6 => f_X4_reachedFrom_J44 (f_X4_reachedFrom_L17 N places_ weights_ k8 n10) x4 (x3 ||| r6)))
def f_X4_reachedFrom_L6 (N : Nat) (places_ : Int32) (weights_ : Nat → Int32) (k12 : Int32 → Option (Int32)) : Nat → Int32 → Int32 → Option (Int32)
  | 0, _, _ => none
  | n14 + 1, x1, x2 => if places_ ≤ x2 then k12 x1 else f_X4_reachedFrom_L17 N places_ weights_ (fun x11 => f_X4_reachedFrom_E50 (f_X4_reachedFrom_L6 N places_ weights_ k12 n14) x2 x11) N x1 (0 : Int32)
def f_X4_reachedFrom (N : Nat) (p1 places_ : Int32) (weights_ : Nat → Int32) : Option (Int32) :=
  f_X4_reachedFrom_L6 N places_ weights_ (fun x15 => f_X4_reachedFrom_E56 x15) N ((1 : Int32) <<< (p1 &&& (31 : Int32))) (0 : Int32)
def f_X4_partCount_E39 (x11 : Int32) : Option (Int32) :=
  some x11
def f_X4_partCount_J33 (b9 : Int32 → Int32 → Int32 → Option (Int32)) (x3 : Int32) (x6 x7 : Int32) : Option (Int32) :=
  b9 x6 x7 (x3 + (1 : Int32))
def f_X4_partCount_L6 (N : Nat) (places_ : Int32) (weights_ : Nat → Int32) (k8 : Int32 → Option (Int32)) : Nat → Int32 → Int32 → Int32 → Option (Int32)
  | 0, _, _, _ => none
  | n10 + 1, x1, x2, x3 => if places_ ≤ x3 then k8 x2 else bd1 (f_X5_holds x1 x3) (fun r4 => if r4 = (0 : Int32) then bd1 (f_X4_reachedFrom N x3 places_ weights_) (fun r5 => f_X4_partCount_J33 (f_X4_partCount_L6 N places_ weights_ k8 n10) x3 (x1 ||| r5) (x2 + (1 : Int32))) else f_X4_partCount_J33 (f_X4_partCount_L6 N places_ weights_ k8 n10) x3 x1 x2)
def f_X4_partCount (N : Nat) (places_ : Int32) (weights_ : Nat → Int32) : Option (Int32) :=
  f_X4_partCount_L6 N places_ weights_ (fun x11 => f_X4_partCount_E39 x11) N (0 : Int32) (0 : Int32) (0 : Int32)
def f_X4_tieCount_E29 (x8 : Int32) : Option (Int32) :=
  some (x8 / (2 : Int32))
def f_X4_tieCount_L4 (N : Nat) (places_ : Int32) (weights_ : Nat → Int32) (k5 : Int32 → Option (Int32)) : Nat → Int32 → Int32 → Option (Int32)
  | 0, _, _ => none
  | n7 + 1, x1, x2 => if places_ ≤ x2 then k5 x1 else bd1 (f_X4_neighboursOf N x2 places_ weights_) (fun r3 => bd1 (f_J6_bitCount_0f7a4 r3) (fun r4 => (f_X4_tieCount_L4 N places_ weights_ k5 n7) (x1 + r4) (x2 + (1 : Int32))))
def f_X4_tieCount (N : Nat) (places_ : Int32) (weights_ : Nat → Int32) : Option (Int32) :=
  f_X4_tieCount_L4 N places_ weights_ (fun x8 => f_X4_tieCount_E29 x8) N (0 : Int32) (0 : Int32)
def f_X4_allWeights_E26 (x7 : Int32) : Option (Int32) :=
  some (x7 / (2 : Int32))
def f_X4_allWeights_L4 (N : Nat) (places_ : Int32) (weights_ : Nat → Int32) (k4 : Int32 → Option (Int32)) : Nat → Int32 → Int32 → Option (Int32)
  | 0, _, _ => none
  | n6 + 1, x1, x2 => if places_ ≤ x2 then k4 x1 else bd1 (f_X4_weightsOf N x2 places_ weights_) (fun r3 => (f_X4_allWeights_L4 N places_ weights_ k4 n6) (x1 + r3) (x2 + (1 : Int32)))
def f_X4_allWeights (N : Nat) (places_ : Int32) (weights_ : Nat → Int32) : Option (Int32) :=
  f_X4_allWeights_L4 N places_ weights_ (fun x7 => f_X4_allWeights_E26 x7) N (0 : Int32) (0 : Int32)
