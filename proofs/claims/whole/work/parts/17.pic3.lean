def f_X3_append (p1 length_ : Int32) (signs_ : Nat → Int32) : Option (Int32 × (Nat → Int32)) :=
  if (60 : Int32) ≤ length_ then some (length_, signs_) else chk length_ 60 (some ((length_ + (1 : Int32)), (upd signs_ (length_).toNatClampNeg (vp_nar .char p1))))
def f_X3_takesFirstLetter (p1 : Int32) : Option (Int32 × Int32 × Int32) :=
  if (p1 - (97 : Int32)) < (0 : Int32) then some ((0 : Int32), (1 : Int32), (p1 - (97 : Int32))) else if (9 : Int32) ≤ (p1 - (97 : Int32)) then some ((0 : Int32), (1 : Int32), (p1 - (97 : Int32))) else some ((1 : Int32), (1 : Int32), (p1 - (97 : Int32)))
def f_X3_takesSecondLetter (p1 lower_ : Int32) : Option (Int32 × Int32 × Int32) :=
  if (p1 - (97 : Int32)) ≤ lower_ then some ((0 : Int32), (2 : Int32), (p1 - (97 : Int32))) else if (10 : Int32) ≤ (p1 - (97 : Int32)) then some ((0 : Int32), (2 : Int32), (p1 - (97 : Int32))) else some ((1 : Int32), (2 : Int32), (p1 - (97 : Int32)))
def f_X3_isDigit (p0 : Int32) : Option (Int32) :=
  if p0 < (48 : Int32) then some (0 : Int32) else if (57 : Int32) < p0 then some (0 : Int32) else some (1 : Int32)
def f_X3_takesFirstDigit_J79 (ties_ : Int32) (lowers_ : Nat → Int32) (lower_ : Int32) (highers_ : Nat → Int32) (higher_ : Int32) (weights_ : Nat → Int32) (p1 : Int32) (x2 : Int32) : Option (Int32 × Int32 × Int32 × (Nat → Int32) × (Nat → Int32) × (Nat → Int32)) :=
  some ((1 : Int32), (ties_ + (1 : Int32)), x2, (upd lowers_ (ties_).toNatClampNeg lower_), (upd highers_ (ties_).toNatClampNeg higher_), (upd weights_ (ties_).toNatClampNeg (p1 - (48 : Int32))))
def f_X3_takesFirstDigit (p1 ties_ due_ lower_ higher_ : Int32) (lowers_ highers_ weights_ : Nat → Int32) : Option (Int32 × Int32 × Int32 × (Nat → Int32) × (Nat → Int32) × (Nat → Int32)) :=
  bd1 (f_X3_isDigit p1) (fun r1 => if r1 = (0 : Int32) then some ((0 : Int32), ties_, due_, lowers_, highers_, weights_) else if ties_ < (15 : Int32) then chk ties_ 15 (chk ties_ 15 (chk ties_ 15 (if p1 = (48 : Int32) then f_X3_takesFirstDigit_J79 ties_ lowers_ lower_ highers_ higher_ weights_ p1 (4 : Int32) else f_X3_takesFirstDigit_J79 ties_ lowers_ lower_ highers_ higher_ weights_ p1 (3 : Int32)))) else some ((0 : Int32), ties_, due_, lowers_, highers_, weights_))
def f_X3_takesSecondDigit (p1 ties_ due_ : Int32) (weights_ : Nat → Int32) : Option (Int32 × Int32 × (Nat → Int32)) :=
  bd1 (f_X3_isDigit p1) (fun r1 => if r1 = (0 : Int32) then some ((0 : Int32), due_, weights_) else if (1 : Int32) ≤ ties_ then chk (ties_ - (1 : Int32)) 15 (chk (ties_ - (1 : Int32)) 15 (some ((1 : Int32), (4 : Int32), (upd weights_ ((ties_ - (1 : Int32))).toNatClampNeg (((10 : Int32) * (weights_ ((ties_ - (1 : Int32))).toNatClampNeg)) + (p1 - (48 : Int32))))))) else some ((0 : Int32), due_, weights_))
def f_X3_takesComma (p1 : Int32) : Option (Int32 × Int32) :=
  if p1 = (44 : Int32) then some ((1 : Int32), (0 : Int32)) else some ((0 : Int32), (0 : Int32))
def f_X3_takes (p1 ties_ due_ lower_ higher_ : Int32) (lowers_ highers_ weights_ : Nat → Int32) : Option (Int32 × Int32 × Int32 × Int32 × Int32 × (Nat → Int32) × (Nat → Int32) × (Nat → Int32)) :=
  if due_ = (0 : Int32) then bd3 (f_X3_takesFirstLetter p1) (fun r1 x2 x3 => chkB r1 (some (r1, ties_, x2, x3, higher_, lowers_, highers_, weights_))) else if due_ = (1 : Int32) then bd3 (f_X3_takesSecondLetter p1 lower_) (fun r4 x5 x6 => chkB r4 (some (r4, ties_, x5, lower_, x6, lowers_, highers_, weights_))) else if due_ = (2 : Int32) then bd6 (f_X3_takesFirstDigit p1 ties_ due_ lower_ higher_ lowers_ highers_ weights_) (fun r7 x8 x9 a10 a11 a12 => chkB r7 (some (r7, x8, x9, lower_, higher_, a10, a11, a12))) else if due_ = (3 : Int32) then bd3 (f_X3_takesSecondDigit p1 ties_ due_ weights_) (fun r13 x14 a15 => if r13 = (0 : Int32) then bd2 (f_X3_takesComma p1) (fun r16 x17 => if r16 = (0 : Int32) then some ((0 : Int32), ties_, x17, lower_, higher_, lowers_, highers_, a15) else some ((1 : Int32), ties_, x17, lower_, higher_, lowers_, highers_, a15)) else some ((1 : Int32), ties_, x14, lower_, higher_, lowers_, highers_, a15)) else bd2 (f_X3_takesComma p1) (fun r18 x19 => chkB r18 (some (r18, ties_, x19, lower_, higher_, lowers_, highers_, weights_)))
def f_X3_read_E41 (length_ : Int32) (x20 x21 x22 x23 : Int32) (a24 a25 a26 : Nat → Int32) : Option (Int32 × Int32 × Int32 × Int32 × Int32 × (Nat → Int32) × (Nat → Int32) × (Nat → Int32)) :=
  if x21 = (3 : Int32) then some ((-1 : Int32), x20, x21, x22, x23, a24, a25, a26) else if x21 = (4 : Int32) then some ((-1 : Int32), x20, x21, x22, x23, a24, a25, a26) else some (length_, x20, x21, x22, x23, a24, a25, a26)
def f_X3_read_L12 (length_ : Int32) (signs_ : Nat → Int32) (k17 : Int32 → Int32 → Int32 → Int32 → (Nat → Int32) → (Nat → Int32) → (Nat → Int32) → Option (Int32 × Int32 × Int32 × Int32 × Int32 × (Nat → Int32) × (Nat → Int32) × (Nat → Int32))) : Nat → Int32 → Int32 → Int32 → Int32 → Int32 → (Nat → Int32) → (Nat → Int32) → (Nat → Int32) → Option (Int32 × Int32 × Int32 × Int32 × Int32 × (Nat → Int32) × (Nat → Int32) × (Nat → Int32))
  | 0, _, _, _, _, _, _, _, _ => none
  | n19 + 1, x1, x2, x3, x4, x5, a6, a7, a8 => if length_ ≤ x1 then k17 x2 x3 x4 x5 a6 a7 a8 else chk x1 60 (bd8 (f_X3_takes (signs_ (x1).toNatClampNeg) x2 x3 x4 x5 a6 a7 a8) (fun r9 x10 x11 x12 x13 a14 a15 a16 => if r9 = (0 : Int32) then some (x1, x10, x11, x12, x13, a14, a15, a16) else (f_X3_read_L12 length_ signs_ k17 n19) (x1 + (1 : Int32)) x10 x11 x12 x13 a14 a15 a16))
def f_X3_read (N : Nat) (length_ lower_ higher_ : Int32) (signs_ lowers_ highers_ weights_ : Nat → Int32) : Option (Int32 × Int32 × Int32 × Int32 × Int32 × (Nat → Int32) × (Nat → Int32) × (Nat → Int32)) :=
  f_X3_read_L12 length_ signs_ (fun x20 x21 x22 x23 a24 a25 a26 => f_X3_read_E41 length_ x20 x21 x22 x23 a24 a25 a26) N (0 : Int32) (0 : Int32) (0 : Int32) lower_ higher_ lowers_ highers_ weights_
def f_X3_fits_E31 : Option (Int32) :=
  some (1 : Int32)
def f_X3_fits_L2 (ties_ : Int32) (highers_ : Nat → Int32) (p1_places_ : Int32) (k3 : Option (Int32)) : Nat → Int32 → Option (Int32)
  | 0, _ => none
  | n5 + 1, x1 => if ties_ ≤ x1 then k3 else chk x1 15 (bd1 (f_X4_has (highers_ (x1).toNatClampNeg) p1_places_) (fun r2 => if r2 = (0 : Int32) then some (0 : Int32) else (f_X3_fits_L2 ties_ highers_ p1_places_ k3 n5) (x1 + (1 : Int32))))
def f_X3_fits (N : Nat) (ties_ : Int32) (highers_ : Nat → Int32) (p1_places_ : Int32) : Option (Int32) :=
  f_X3_fits_L2 ties_ highers_ p1_places_ (f_X3_fits_E31) N (0 : Int32)
def f_X3_bindAll_E38 (a7 : Nat → Int32) : Option ((Nat → Int32)) :=
  some a7
def f_X3_bindAll_L2 (ties_ : Int32) (lowers_ highers_ weights_ : Nat → Int32) (p1_places_ : Int32) (k4 : (Nat → Int32) → Option ((Nat → Int32))) : Nat → Int32 → (Nat → Int32) → Option ((Nat → Int32))
  | 0, _, _ => none
  | n6 + 1, x1, a2 => if ties_ ≤ x1 then k4 a2 else chk x1 15 (chk x1 15 (chk x1 15 (bd1 (f_X4_bind (lowers_ (x1).toNatClampNeg) (highers_ (x1).toNatClampNeg) (weights_ (x1).toNatClampNeg) p1_places_ a2) (fun a3 => (f_X3_bindAll_L2 ties_ lowers_ highers_ weights_ p1_places_ k4 n6) (x1 + (1 : Int32)) a3))))
def f_X3_bindAll (N : Nat) (ties_ : Int32) (lowers_ highers_ weights_ : Nat → Int32) (p1_places_ : Int32) (p1_weights_ : Nat → Int32) : Option ((Nat → Int32)) :=
  f_X3_bindAll_L2 ties_ lowers_ highers_ weights_ p1_places_ (fun a7 => f_X3_bindAll_E38 a7) N (0 : Int32) p1_weights_
