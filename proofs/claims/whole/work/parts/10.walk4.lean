def rmJ6_bitCount_0f7a4 : Room := { frames := 0, cells := 0, slots := 0, locals := 0 }
set_option maxHeartbeats 4000000 in
set_option maxRecDepth 100000 in
theorem c_J6_bitCount_0f7a4 (l : Launch) (D : va_G) (cI cC cO : ClassId) (p0 : Int32) (r_ : Int32) (h : f_J6_bitCount_0f7a4 p0 = some r_) : CI l yJ6_bitCount_0f7a4 (Wy yJ6_bitCount_0f7a4 cJ6_bitCount_0f7a4 1 (some .int)) rmJ6_bitCount_0f7a4 D cI cC cO [.int p0] [] r_ [] := by
  refine enter_i RJ6 (by decide) rfl (Nat.le_of_ble_eq_true rfl) ?_
  intro p e s m below meth c A X hr hlk hw ls hl
  have hx := X.1.1
  have hb := X.1.2.1
  have hl : lv_has ls 1 [(0, .int p0)] := hl
  unfold f_J6_bitCount_0f7a4 at h
  refine lv_iload_n hx hb dJ6_bitCount_0f7a4_0 rfl (lv_at hl 0 rfl) ?_
  refine lv_iload_n hx hb dJ6_bitCount_0f7a4_1 rfl (lv_at hl 0 rfl) ?_
  refine lv_iconst (v := 1) hx hb dJ6_bitCount_0f7a4_2 (by decide) ?_
  refine lv_iushr hx hb dJ6_bitCount_0f7a4_3 rfl ?_
  refine lv_ldcw (own := RJ6) hx hb X.1.2.2.2.1 (X.1.2.2.2.2 _ tw_485) dJ6_bitCount_0f7a4_4 ?_
  refine lv_iand hx hb dJ6_bitCount_0f7a4_7 ?_
  refine lv_isub hx hb dJ6_bitCount_0f7a4_8 ?_
  refine lv_istore_n (lv' := [(0, .int (p0 - ((((p0).toUInt32 >>> (((1 : Int32)).toUInt32 &&& Int32.toUInt32 31)).toInt32) &&& (1431655765 : Int32))))]) hx hb dJ6_bitCount_0f7a4_9 rfl hl (by decide) rfl (fun ls hl => ?_)
  refine lv_iload_n hx hb dJ6_bitCount_0f7a4_10 rfl (lv_at hl 0 rfl) ?_
  refine lv_ldcw (own := RJ6) hx hb X.1.2.2.2.1 (X.1.2.2.2.2 _ tw_486) dJ6_bitCount_0f7a4_11 ?_
  refine lv_iand hx hb dJ6_bitCount_0f7a4_14 ?_
  refine lv_iload_n hx hb dJ6_bitCount_0f7a4_15 rfl (lv_at hl 0 rfl) ?_
  refine lv_iconst (v := 2) hx hb dJ6_bitCount_0f7a4_16 (by decide) ?_
  refine lv_iushr hx hb dJ6_bitCount_0f7a4_17 rfl ?_
  refine lv_ldcw (own := RJ6) hx hb X.1.2.2.2.1 (X.1.2.2.2.2 _ tw_486) dJ6_bitCount_0f7a4_18 ?_
  refine lv_iand hx hb dJ6_bitCount_0f7a4_21 ?_
  refine lv_iadd hx hb dJ6_bitCount_0f7a4_22 ?_
  refine lv_istore_n (lv' := [(0, .int (((p0 - ((((p0).toUInt32 >>> (((1 : Int32)).toUInt32 &&& Int32.toUInt32 31)).toInt32) &&& (1431655765 : Int32))) &&& (858993459 : Int32)) + (((((p0 - ((((p0).toUInt32 >>> (((1 : Int32)).toUInt32 &&& Int32.toUInt32 31)).toInt32) &&& (1431655765 : Int32)))).toUInt32 >>> (((2 : Int32)).toUInt32 &&& Int32.toUInt32 31)).toInt32) &&& (858993459 : Int32))))]) hx hb dJ6_bitCount_0f7a4_23 rfl hl (by decide) rfl (fun ls hl => ?_)
  refine lv_iload_n hx hb dJ6_bitCount_0f7a4_24 rfl (lv_at hl 0 rfl) ?_
  refine lv_iload_n hx hb dJ6_bitCount_0f7a4_25 rfl (lv_at hl 0 rfl) ?_
  refine lv_iconst (v := 4) hx hb dJ6_bitCount_0f7a4_26 (by decide) ?_
  refine lv_iushr hx hb dJ6_bitCount_0f7a4_27 rfl ?_
  refine lv_iadd hx hb dJ6_bitCount_0f7a4_28 ?_
  refine lv_ldcw (own := RJ6) hx hb X.1.2.2.2.1 (X.1.2.2.2.2 _ tw_487) dJ6_bitCount_0f7a4_29 ?_
  refine lv_iand hx hb dJ6_bitCount_0f7a4_32 ?_
  refine lv_istore_n (lv' := [(0, .int (((((p0 - ((((p0).toUInt32 >>> (((1 : Int32)).toUInt32 &&& Int32.toUInt32 31)).toInt32) &&& (1431655765 : Int32))) &&& (858993459 : Int32)) + (((((p0 - ((((p0).toUInt32 >>> (((1 : Int32)).toUInt32 &&& Int32.toUInt32 31)).toInt32) &&& (1431655765 : Int32)))).toUInt32 >>> (((2 : Int32)).toUInt32 &&& Int32.toUInt32 31)).toInt32) &&& (858993459 : Int32))) + ((((((p0 - ((((p0).toUInt32 >>> (((1 : Int32)).toUInt32 &&& Int32.toUInt32 31)).toInt32) &&& (1431655765 : Int32))) &&& (858993459 : Int32)) + (((((p0 - ((((p0).toUInt32 >>> (((1 : Int32)).toUInt32 &&& Int32.toUInt32 31)).toInt32) &&& (1431655765 : Int32)))).toUInt32 >>> (((2 : Int32)).toUInt32 &&& Int32.toUInt32 31)).toInt32) &&& (858993459 : Int32)))).toUInt32 >>> (((4 : Int32)).toUInt32 &&& Int32.toUInt32 31)).toInt32)) &&& (252645135 : Int32)))]) hx hb dJ6_bitCount_0f7a4_33 rfl hl (by decide) rfl (fun ls hl => ?_)
  refine lv_iload_n hx hb dJ6_bitCount_0f7a4_34 rfl (lv_at hl 0 rfl) ?_
  refine lv_iload_n hx hb dJ6_bitCount_0f7a4_35 rfl (lv_at hl 0 rfl) ?_
  refine lv_bipush (v := 8) hx hb dJ6_bitCount_0f7a4_36 (by decide) ?_
  refine lv_iushr hx hb dJ6_bitCount_0f7a4_38 rfl ?_
  refine lv_iadd hx hb dJ6_bitCount_0f7a4_39 ?_
  refine lv_istore_n (lv' := [(0, .int ((((((p0 - ((((p0).toUInt32 >>> (((1 : Int32)).toUInt32 &&& Int32.toUInt32 31)).toInt32) &&& (1431655765 : Int32))) &&& (858993459 : Int32)) + (((((p0 - ((((p0).toUInt32 >>> (((1 : Int32)).toUInt32 &&& Int32.toUInt32 31)).toInt32) &&& (1431655765 : Int32)))).toUInt32 >>> (((2 : Int32)).toUInt32 &&& Int32.toUInt32 31)).toInt32) &&& (858993459 : Int32))) + ((((((p0 - ((((p0).toUInt32 >>> (((1 : Int32)).toUInt32 &&& Int32.toUInt32 31)).toInt32) &&& (1431655765 : Int32))) &&& (858993459 : Int32)) + (((((p0 - ((((p0).toUInt32 >>> (((1 : Int32)).toUInt32 &&& Int32.toUInt32 31)).toInt32) &&& (1431655765 : Int32)))).toUInt32 >>> (((2 : Int32)).toUInt32 &&& Int32.toUInt32 31)).toInt32) &&& (858993459 : Int32)))).toUInt32 >>> (((4 : Int32)).toUInt32 &&& Int32.toUInt32 31)).toInt32)) &&& (252645135 : Int32)) + ((((((((p0 - ((((p0).toUInt32 >>> (((1 : Int32)).toUInt32 &&& Int32.toUInt32 31)).toInt32) &&& (1431655765 : Int32))) &&& (858993459 : Int32)) + (((((p0 - ((((p0).toUInt32 >>> (((1 : Int32)).toUInt32 &&& Int32.toUInt32 31)).toInt32) &&& (1431655765 : Int32)))).toUInt32 >>> (((2 : Int32)).toUInt32 &&& Int32.toUInt32 31)).toInt32) &&& (858993459 : Int32))) + ((((((p0 - ((((p0).toUInt32 >>> (((1 : Int32)).toUInt32 &&& Int32.toUInt32 31)).toInt32) &&& (1431655765 : Int32))) &&& (858993459 : Int32)) + (((((p0 - ((((p0).toUInt32 >>> (((1 : Int32)).toUInt32 &&& Int32.toUInt32 31)).toInt32) &&& (1431655765 : Int32)))).toUInt32 >>> (((2 : Int32)).toUInt32 &&& Int32.toUInt32 31)).toInt32) &&& (858993459 : Int32)))).toUInt32 >>> (((4 : Int32)).toUInt32 &&& Int32.toUInt32 31)).toInt32)) &&& (252645135 : Int32))).toUInt32 >>> (((8 : Int32)).toUInt32 &&& Int32.toUInt32 31)).toInt32)))]) hx hb dJ6_bitCount_0f7a4_40 rfl hl (by decide) rfl (fun ls hl => ?_)
  refine lv_iload_n hx hb dJ6_bitCount_0f7a4_41 rfl (lv_at hl 0 rfl) ?_
  refine lv_iload_n hx hb dJ6_bitCount_0f7a4_42 rfl (lv_at hl 0 rfl) ?_
  refine lv_bipush (v := 16) hx hb dJ6_bitCount_0f7a4_43 (by decide) ?_
  refine lv_iushr hx hb dJ6_bitCount_0f7a4_45 rfl ?_
  refine lv_iadd hx hb dJ6_bitCount_0f7a4_46 ?_
  refine lv_istore_n (lv' := [(0, .int (((((((p0 - ((((p0).toUInt32 >>> (((1 : Int32)).toUInt32 &&& Int32.toUInt32 31)).toInt32) &&& (1431655765 : Int32))) &&& (858993459 : Int32)) + (((((p0 - ((((p0).toUInt32 >>> (((1 : Int32)).toUInt32 &&& Int32.toUInt32 31)).toInt32) &&& (1431655765 : Int32)))).toUInt32 >>> (((2 : Int32)).toUInt32 &&& Int32.toUInt32 31)).toInt32) &&& (858993459 : Int32))) + ((((((p0 - ((((p0).toUInt32 >>> (((1 : Int32)).toUInt32 &&& Int32.toUInt32 31)).toInt32) &&& (1431655765 : Int32))) &&& (858993459 : Int32)) + (((((p0 - ((((p0).toUInt32 >>> (((1 : Int32)).toUInt32 &&& Int32.toUInt32 31)).toInt32) &&& (1431655765 : Int32)))).toUInt32 >>> (((2 : Int32)).toUInt32 &&& Int32.toUInt32 31)).toInt32) &&& (858993459 : Int32)))).toUInt32 >>> (((4 : Int32)).toUInt32 &&& Int32.toUInt32 31)).toInt32)) &&& (252645135 : Int32)) + ((((((((p0 - ((((p0).toUInt32 >>> (((1 : Int32)).toUInt32 &&& Int32.toUInt32 31)).toInt32) &&& (1431655765 : Int32))) &&& (858993459 : Int32)) + (((((p0 - ((((p0).toUInt32 >>> (((1 : Int32)).toUInt32 &&& Int32.toUInt32 31)).toInt32) &&& (1431655765 : Int32)))).toUInt32 >>> (((2 : Int32)).toUInt32 &&& Int32.toUInt32 31)).toInt32) &&& (858993459 : Int32))) + ((((((p0 - ((((p0).toUInt32 >>> (((1 : Int32)).toUInt32 &&& Int32.toUInt32 31)).toInt32) &&& (1431655765 : Int32))) &&& (858993459 : Int32)) + (((((p0 - ((((p0).toUInt32 >>> (((1 : Int32)).toUInt32 &&& Int32.toUInt32 31)).toInt32) &&& (1431655765 : Int32)))).toUInt32 >>> (((2 : Int32)).toUInt32 &&& Int32.toUInt32 31)).toInt32) &&& (858993459 : Int32)))).toUInt32 >>> (((4 : Int32)).toUInt32 &&& Int32.toUInt32 31)).toInt32)) &&& (252645135 : Int32))).toUInt32 >>> (((8 : Int32)).toUInt32 &&& Int32.toUInt32 31)).toInt32)) + (((((((((p0 - ((((p0).toUInt32 >>> (((1 : Int32)).toUInt32 &&& Int32.toUInt32 31)).toInt32) &&& (1431655765 : Int32))) &&& (858993459 : Int32)) + (((((p0 - ((((p0).toUInt32 >>> (((1 : Int32)).toUInt32 &&& Int32.toUInt32 31)).toInt32) &&& (1431655765 : Int32)))).toUInt32 >>> (((2 : Int32)).toUInt32 &&& Int32.toUInt32 31)).toInt32) &&& (858993459 : Int32))) + ((((((p0 - ((((p0).toUInt32 >>> (((1 : Int32)).toUInt32 &&& Int32.toUInt32 31)).toInt32) &&& (1431655765 : Int32))) &&& (858993459 : Int32)) + (((((p0 - ((((p0).toUInt32 >>> (((1 : Int32)).toUInt32 &&& Int32.toUInt32 31)).toInt32) &&& (1431655765 : Int32)))).toUInt32 >>> (((2 : Int32)).toUInt32 &&& Int32.toUInt32 31)).toInt32) &&& (858993459 : Int32)))).toUInt32 >>> (((4 : Int32)).toUInt32 &&& Int32.toUInt32 31)).toInt32)) &&& (252645135 : Int32)) + ((((((((p0 - ((((p0).toUInt32 >>> (((1 : Int32)).toUInt32 &&& Int32.toUInt32 31)).toInt32) &&& (1431655765 : Int32))) &&& (858993459 : Int32)) + (((((p0 - ((((p0).toUInt32 >>> (((1 : Int32)).toUInt32 &&& Int32.toUInt32 31)).toInt32) &&& (1431655765 : Int32)))).toUInt32 >>> (((2 : Int32)).toUInt32 &&& Int32.toUInt32 31)).toInt32) &&& (858993459 : Int32))) + ((((((p0 - ((((p0).toUInt32 >>> (((1 : Int32)).toUInt32 &&& Int32.toUInt32 31)).toInt32) &&& (1431655765 : Int32))) &&& (858993459 : Int32)) + (((((p0 - ((((p0).toUInt32 >>> (((1 : Int32)).toUInt32 &&& Int32.toUInt32 31)).toInt32) &&& (1431655765 : Int32)))).toUInt32 >>> (((2 : Int32)).toUInt32 &&& Int32.toUInt32 31)).toInt32) &&& (858993459 : Int32)))).toUInt32 >>> (((4 : Int32)).toUInt32 &&& Int32.toUInt32 31)).toInt32)) &&& (252645135 : Int32))).toUInt32 >>> (((8 : Int32)).toUInt32 &&& Int32.toUInt32 31)).toInt32))).toUInt32 >>> (((16 : Int32)).toUInt32 &&& Int32.toUInt32 31)).toInt32)))]) hx hb dJ6_bitCount_0f7a4_47 rfl hl (by decide) rfl (fun ls hl => ?_)
  refine lv_iload_n hx hb dJ6_bitCount_0f7a4_48 rfl (lv_at hl 0 rfl) ?_
  refine lv_bipush (v := 63) hx hb dJ6_bitCount_0f7a4_49 (by decide) ?_
  refine lv_iand hx hb dJ6_bitCount_0f7a4_51 ?_
  obtain rfl := oi1 h
  exact r_ret X hw hr hlk dJ6_bitCount_0f7a4_52
def rmX5_holds : Room := { frames := 0, cells := 0, slots := 0, locals := 0 }
set_option maxHeartbeats 4000000 in
set_option maxRecDepth 100000 in
theorem c_X5_holds (l : Launch) (D : va_G) (cI cC cO : ClassId) (p0 p1 : Int32) (r_ : Int32) (h : f_X5_holds p0 p1 = some r_) : CI l yX5_holds (Wy yX5_holds cX5_holds 2 (some .boolean)) rmX5_holds D cI cC cO [.int p0, .int p1] [] r_ [] := by
  refine enter_i RX5 (by decide) rfl (Nat.le_of_ble_eq_true rfl) ?_
  intro p e s m below meth c A X hr hlk hw ls hl
  have hx := X.1.1
  have hb := X.1.2.1
  have hl : lv_has ls 2 [(0, .int p0), (1, .int p1)] := hl
  unfold f_X5_holds at h
  refine lv_iload_n hx hb dX5_holds_0 rfl (lv_at hl 0 rfl) ?_
  refine lv_iconst (v := 1) hx hb dX5_holds_1 (by decide) ?_
  refine lv_iload_n hx hb dX5_holds_2 rfl (lv_at hl 1 rfl) ?_
  refine lv_ishl hx hb dX5_holds_3 ?_
  refine lv_iand hx hb dX5_holds_4 ?_
  refine lv_if_eq (tgt := 12) hx hb dX5_holds_5 (by decide) (fun c1 => ?_) (fun c1 => ?_)
  · replace h := ip c1 h
    refine lv_iconst (v := 0) hx hb dX5_holds_12 (by decide) ?_
    obtain rfl := oi1 h
    exact r_retz X hw hr (Or.inl rfl) hlk dX5_holds_13
  · replace h := ig c1 h
    refine lv_iconst (v := 1) hx hb dX5_holds_8 (by decide) ?_
    refine lv_goto (tgt := 13) hx hb dX5_holds_9 (by decide) ?_
    obtain rfl := oi1 h
    exact r_retz X hw hr (Or.inr rfl) hlk dX5_holds_13
def rmX5_parts : Room := { frames := 1, cells := 0, slots := 0, locals := 21 }
section
variable {p : Program} {l : Launch} {e : Env} {R : Room} {s : State} {m : MethodId} {args : Array Value} {below : List Frame} {meth : Method} {c : Code} {H : Heap} {locs : List Loc} {cells slots : Nat} {Q : State → Prop}
variable {cc : ByteArray} {pc nL : Nat} {ls : Array Slot} {rest : List Value} {D : va_G} {cI cC cO : ClassId} {A : Nat → Prop} {ws : va_W} {H0 : Heap}
theorem cs_X5_240 (X : Ctx p m c cc nL s args RX5 D cI cC cO) (hR : rmX5_holds.frames + 1 ≤ R.frames ∧ 8 + (2 + 11) + rmX5_holds.locals ≤ R.locals) : CallB R s args RX5 240 yX5_holds cX5_holds 2 (some .boolean) (Wy yX5_holds cX5_holds 2 (some .boolean)) rmX5_holds 0 0 2 ∧ (Cond.static yX5_holds).before args s = true := va_cwS 2 X.1.2.2.2.2 (gi_S tw_351 tw_292 tw_1 tw_293) rfl rfl rfl (by decide +kernel) hR
end
set_option maxHeartbeats 4000000 in
set_option maxRecDepth 100000 in
theorem c_X5_parts (l : Launch) (D : va_G) (cI cC cO : ClassId) (p0 p1 p2 : Int32) (r_ : Int32) (h : f_X5_parts p0 p1 p2 = some r_) : CI l yX5_parts (Wy yX5_parts cX5_parts 3 (some .boolean)) rmX5_parts D cI cC cO [.int p0, .int p1, .int p2] [] r_ [] := by
  refine enter_i RX5 (by decide) rfl (Nat.le_of_ble_eq_true rfl) ?_
  intro p e s m below meth c A X hr hlk hw ls hl
  have hx := X.1.1
  have hb := X.1.2.1
  have hl : lv_has ls 3 [(0, .int p0), (1, .int p1), (2, .int p2)] := hl
  unfold f_X5_parts at h
  refine lv_iload_n hx hb dX5_parts_0 rfl (lv_at hl 0 rfl) ?_
  refine lv_iload_n hx hb dX5_parts_1 rfl (lv_at hl 1 rfl) ?_
  obtain ⟨r1, hc, h⟩ := bd1_inv h
  refine r_cSi X hw (As := [.int p0, .int p1]) (rest := []) (c_X5_holds l D cI cC cO p0 p1 r1 hc) (cs_X5_240 X (by decide)) rfl hl.1 rfl (Nat.le_of_ble_eq_true rfl) dX5_parts_2 ⟨Nat.zero_le _, Nat.zero_le _⟩ (fun H locs hw => ?_)
  refine lv_iload_n hx hb dX5_parts_5 rfl (lv_at hl 0 rfl) ?_
  refine lv_iload_n hx hb dX5_parts_6 rfl (lv_at hl 2 rfl) ?_
  obtain ⟨r2, hc, h⟩ := bd1_inv h
  refine r_cSi X hw (As := [.int p0, .int p2]) (rest := [.int r1]) (c_X5_holds l D cI cC cO p0 p2 r2 hc) (cs_X5_240 X (by decide)) rfl hl.1 rfl (Nat.le_of_ble_eq_true rfl) dX5_parts_7 ⟨Nat.zero_le _, Nat.zero_le _⟩ (fun H locs hw => ?_)
  refine lv_icmp_eq (tgt := 17) hx hb dX5_parts_10 (by decide) (fun c1 => ?_) (fun c1 => ?_)
  · replace h := ip c1 h
    refine lv_iconst (v := 0) hx hb dX5_parts_17 (by decide) ?_
    obtain rfl := oi1 h
    exact r_retz X hw hr (Or.inl rfl) hlk dX5_parts_18
  · replace h := ig c1 h
    refine lv_iconst (v := 1) hx hb dX5_parts_13 (by decide) ?_
    refine lv_goto (tgt := 18) hx hb dX5_parts_14 (by decide) ?_
    obtain rfl := oi1 h
    exact r_retz X hw hr (Or.inr rfl) hlk dX5_parts_18
def rmX5_pairNumber : Room := { frames := 0, cells := 0, slots := 0, locals := 0 }
set_option maxHeartbeats 4000000 in
set_option maxRecDepth 100000 in
theorem c_X5_pairNumber (l : Launch) (D : va_G) (cI cC cO : ClassId) (p0 p1 : Int32) (r_ : Int32) (h : f_X5_pairNumber p0 p1 = some r_) : CI l yX5_pairNumber (Wy yX5_pairNumber cX5_pairNumber 2 (some .int)) rmX5_pairNumber D cI cC cO [.int p0, .int p1] [] r_ [] := by
  refine enter_i RX5 (by decide) rfl (Nat.le_of_ble_eq_true rfl) ?_
  intro p e s m below meth c A X hr hlk hw ls hl
  have hx := X.1.1
  have hb := X.1.2.1
  have hl : lv_has ls 2 [(0, .int p0), (1, .int p1)] := hl
  unfold f_X5_pairNumber at h
  refine lv_bipush (v := 10) hx hb dX5_pairNumber_0 (by decide) ?_
  refine lv_iload_n hx hb dX5_pairNumber_2 rfl (lv_at hl 0 rfl) ?_
  refine lv_imul hx hb dX5_pairNumber_3 ?_
  refine lv_iload_n hx hb dX5_pairNumber_4 rfl (lv_at hl 1 rfl) ?_
  refine lv_iadd hx hb dX5_pairNumber_5 ?_
  obtain rfl := oi1 h
  exact r_ret X hw hr hlk dX5_pairNumber_6
def rmX4_copyFrom : Room := { frames := 1, cells := 0, slots := 0, locals := 40 }
set_option maxHeartbeats 4000000 in
set_option maxRecDepth 100000 in
theorem c_X4_copyFrom (l : Launch) (D : va_G) (cI cC cO : ClassId) (h0 h_p1 h_this_weights h_p1_weights : Nat) (places_ start_ fairPlaces_ : Int32) (weights_ : Nat → Int32) (p1_places_ p1_start_ p1_fairPlaces_ : Int32) (p1_weights_ : Nat → Int32) (places_' : Int32) (start_' : Int32) (fairPlaces_' : Int32) (weights_' : Nat → Int32) (h : f_X4_copyFrom weights_ p1_places_ p1_start_ p1_fairPlaces_ p1_weights_ = some (places_', start_', fairPlaces_', weights_')) : CV l yX4_copyFrom (Wy yX4_copyFrom cX4_copyFrom 2 none) rmX4_copyFrom D cI cC cO [.ref h0, .ref h_p1] [(h0, .inr (4, [.int places_, .int start_, .int fairPlaces_, .ref h_this_weights])), (h_this_weights, .inl (cI, 100, .inl weights_)), (h_p1, .inr (4, [.int p1_places_, .int p1_start_, .int p1_fairPlaces_, .ref h_p1_weights])), (h_p1_weights, .inl (cI, 100, .inl p1_weights_))] [(h0, .inr (4, [.int places_', .int start_', .int fairPlaces_', .ref h_this_weights])), (h_this_weights, .inl (cI, 100, .inl weights_')), (h_p1, .inr (4, [.int p1_places_, .int p1_start_, .int p1_fairPlaces_, .ref h_p1_weights])), (h_p1_weights, .inl (cI, 100, .inl p1_weights_))] := by
  refine enter_v RX4 (by decide) rfl (Nat.le_of_ble_eq_true rfl) ?_
  intro p e s m below meth c A X hr hlk hw ls hl
  have hx := X.1.1
  have hb := X.1.2.1
  have hl : lv_has ls 2 [(0, .ref h0), (1, .ref h_p1)] := hl
  unfold f_X4_copyFrom at h
  refine lv_aload_n hx hb dX4_copyFrom_0 rfl (lv_at hl 0 rfl) ?_
  refine lv_aload_n hx hb dX4_copyFrom_1 rfl (lv_at hl 1 rfl) ?_
  refine fg_X4_9 X hw 2 rfl rfl dX4_copyFrom_2 ?_
  refine fp_X4_9 X hw 0 rfl rfl dX4_copyFrom_5 (fun H locs hw => ?_)
  have hw : Wd D A s.heap [(h0, .inr (4, [.int p1_places_, .int start_, .int fairPlaces_, .ref h_this_weights])), (h_this_weights, .inl (cI, 100, .inl weights_)), (h_p1, .inr (4, [.int p1_places_, .int p1_start_, .int p1_fairPlaces_, .ref h_p1_weights])), (h_p1_weights, .inl (cI, 100, .inl p1_weights_))] H locs := hw
  refine lv_aload_n hx hb dX4_copyFrom_8 rfl (lv_at hl 0 rfl) ?_
  refine lv_aload_n hx hb dX4_copyFrom_9 rfl (lv_at hl 1 rfl) ?_
  refine fg_X4_15 X hw 2 rfl rfl dX4_copyFrom_10 ?_
  refine fp_X4_15 X hw 0 rfl rfl dX4_copyFrom_13 (fun H locs hw => ?_)
  have hw : Wd D A s.heap [(h0, .inr (4, [.int p1_places_, .int p1_start_, .int fairPlaces_, .ref h_this_weights])), (h_this_weights, .inl (cI, 100, .inl weights_)), (h_p1, .inr (4, [.int p1_places_, .int p1_start_, .int p1_fairPlaces_, .ref h_p1_weights])), (h_p1_weights, .inl (cI, 100, .inl p1_weights_))] H locs := hw
  refine lv_aload_n hx hb dX4_copyFrom_16 rfl (lv_at hl 0 rfl) ?_
  refine lv_aload_n hx hb dX4_copyFrom_17 rfl (lv_at hl 1 rfl) ?_
  refine fg_X4_18 X hw 2 rfl rfl dX4_copyFrom_18 ?_
  refine fp_X4_18 X hw 0 rfl rfl dX4_copyFrom_21 (fun H locs hw => ?_)
  have hw : Wd D A s.heap [(h0, .inr (4, [.int p1_places_, .int p1_start_, .int p1_fairPlaces_, .ref h_this_weights])), (h_this_weights, .inl (cI, 100, .inl weights_)), (h_p1, .inr (4, [.int p1_places_, .int p1_start_, .int p1_fairPlaces_, .ref h_p1_weights])), (h_p1_weights, .inl (cI, 100, .inl p1_weights_))] H locs := hw
  refine lv_aload_n hx hb dX4_copyFrom_24 rfl (lv_at hl 1 rfl) ?_
  refine fg_X4_21 X hw 2 rfl rfl dX4_copyFrom_25 ?_
  refine lv_iconst (v := 0) hx hb dX4_copyFrom_28 (by decide) ?_
  refine lv_aload_n hx hb dX4_copyFrom_29 rfl (lv_at hl 0 rfl) ?_
  refine fg_X4_21 X hw 0 rfl rfl dX4_copyFrom_30 ?_
  refine lv_iconst (v := 0) hx hb dX4_copyFrom_33 (by decide) ?_
  refine lv_aload_n hx hb dX4_copyFrom_34 rfl (lv_at hl 0 rfl) ?_
  refine fg_X4_21 X hw 0 rfl rfl dX4_copyFrom_35 ?_
  refine va_alen hx hb X.2.1 hw.1 1 0 rfl rfl (v := 100) rfl dX4_copyFrom_38 ?_
  refine r_copy X hw 3 1 rfl rfl (n := (100 : Int32)) (m9 := 100) rfl (by decide) (by decide) (by decide) hl.1 tw_159 dX4_copyFrom_39 (by decide) (Nat.le_of_ble_eq_true rfl) (fun H locs hw => ?_)
  have hw : Wd D A s.heap [(h0, .inr (4, [.int p1_places_, .int p1_start_, .int p1_fairPlaces_, .ref h_this_weights])), (h_this_weights, .inl (cI, 100, .inl (va_cpy p1_weights_ weights_ 0 0 100))), (h_p1, .inr (4, [.int p1_places_, .int p1_start_, .int p1_fairPlaces_, .ref h_p1_weights])), (h_p1_weights, .inl (cI, 100, .inl p1_weights_))] H locs := hw
  obtain ⟨rfl, rfl, rfl, rfl⟩ := oi4 h
  exact r_retv X hw hr hlk dX4_copyFrom_42
def rmX4_has : Room := { frames := 0, cells := 0, slots := 0, locals := 0 }
set_option maxHeartbeats 4000000 in
set_option maxRecDepth 100000 in
theorem c_X4_has (l : Launch) (D : va_G) (cI cC cO : ClassId) (h0 h_this_weights : Nat) (p1 places_ start_ fairPlaces_ : Int32) (r_ : Int32) (h : f_X4_has p1 places_ = some r_) : CI l yX4_has (Wy yX4_has cX4_has 2 (some .boolean)) rmX4_has D cI cC cO [.ref h0, .int p1] [(h0, .inr (4, [.int places_, .int start_, .int fairPlaces_, .ref h_this_weights]))] r_ [(h0, .inr (4, [.int places_, .int start_, .int fairPlaces_, .ref h_this_weights]))] := by
  refine enter_i RX4 (by decide) rfl (Nat.le_of_ble_eq_true rfl) ?_
  intro p e s m below meth c A X hr hlk hw ls hl
  have hx := X.1.1
  have hb := X.1.2.1
  have hl : lv_has ls 2 [(0, .ref h0), (1, .int p1)] := hl
  unfold f_X4_has at h
  refine lv_iload_n hx hb dX4_has_0 rfl (lv_at hl 1 rfl) ?_
  refine lv_if_lt (tgt := 16) hx hb dX4_has_1 (by decide) (fun c1 => ?_) (fun c1 => ?_)
  · replace h := ip c1 h
    refine lv_iconst (v := 0) hx hb dX4_has_16 (by decide) ?_
    obtain rfl := oi1 h
    exact r_retz X hw hr (Or.inl rfl) hlk dX4_has_17
  · replace h := ig c1 h
    refine lv_iload_n hx hb dX4_has_4 rfl (lv_at hl 1 rfl) ?_
    refine lv_aload_n hx hb dX4_has_5 rfl (lv_at hl 0 rfl) ?_
    refine fg_X4_9 X hw 0 rfl rfl dX4_has_6 ?_
    refine lv_icmp_ge (tgt := 16) hx hb dX4_has_9 (by decide) (fun c1 => ?_) (fun c1 => ?_)
    · replace h := ip c1 h
      refine lv_iconst (v := 0) hx hb dX4_has_16 (by decide) ?_
      obtain rfl := oi1 h
      exact r_retz X hw hr (Or.inl rfl) hlk dX4_has_17
    · replace h := ig c1 h
      refine lv_iconst (v := 1) hx hb dX4_has_12 (by decide) ?_
      refine lv_goto (tgt := 17) hx hb dX4_has_13 (by decide) ?_
      obtain rfl := oi1 h
      exact r_retz X hw hr (Or.inr rfl) hlk dX4_has_17
def rmX4_tieOf : Room := { frames := 1, cells := 0, slots := 0, locals := 21 }
section
variable {p : Program} {l : Launch} {e : Env} {R : Room} {s : State} {m : MethodId} {args : Array Value} {below : List Frame} {meth : Method} {c : Code} {H : Heap} {locs : List Loc} {cells slots : Nat} {Q : State → Prop}
variable {cc : ByteArray} {pc nL : Nat} {ls : Array Slot} {rest : List Value} {D : va_G} {cI cC cO : ClassId} {A : Nat → Prop} {ws : va_W} {H0 : Heap}
theorem cs_X4_31 (X : Ctx p m c cc nL s args RX4 D cI cC cO) (hR : rmX4_has.frames + 1 ≤ R.frames ∧ 8 + (2 + 11) + rmX4_has.locals ≤ R.locals) : CallW R s args RX4 RX4 31 yX4_has cX4_has 2 (some .boolean) (Wy yX4_has cX4_has 2 (some .boolean)) rmX4_has 0 0 1 := cwV 1 X.1.2.2.2.2 (gi_V tw_170 tw_171 tw_172 tw_2 tw_173) rfl rfl rfl (by decide +kernel) hR
end
set_option maxHeartbeats 4000000 in
set_option maxRecDepth 100000 in
theorem c_X4_tieOf (l : Launch) (D : va_G) (cI cC cO : ClassId) (h0 h_this_weights : Nat) (p1 p2 places_ start_ fairPlaces_ : Int32) (weights_ : Nat → Int32) (r_ : Int32) (h : f_X4_tieOf p1 p2 places_ weights_ = some r_) : CI l yX4_tieOf (Wy yX4_tieOf cX4_tieOf 3 (some .int)) rmX4_tieOf D cI cC cO [.ref h0, .int p1, .int p2] [(h0, .inr (4, [.int places_, .int start_, .int fairPlaces_, .ref h_this_weights])), (h_this_weights, .inl (cI, 100, .inl weights_))] r_ [(h0, .inr (4, [.int places_, .int start_, .int fairPlaces_, .ref h_this_weights])), (h_this_weights, .inl (cI, 100, .inl weights_))] := by
  refine enter_i RX4 (by decide) rfl (Nat.le_of_ble_eq_true rfl) ?_
  intro p e s m below meth c A X hr hlk hw ls hl
  have hx := X.1.1
  have hb := X.1.2.1
  have hl : lv_has ls 3 [(0, .ref h0), (1, .int p1), (2, .int p2)] := hl
  unfold f_X4_tieOf at h
  refine lv_aload_n hx hb dX4_tieOf_0 rfl (lv_at hl 0 rfl) ?_
  refine lv_iload_n hx hb dX4_tieOf_1 rfl (lv_at hl 1 rfl) ?_
  obtain ⟨r1, hc, h⟩ := bd1_inv h
  refine r_cVi X hw (As := [.int p1]) (rest := []) (wr := [(h_this_weights, .inl (cI, 100, .inl weights_))]) (ws' := [(h0, .inr (4, [.int places_, .int start_, .int fairPlaces_, .ref h_this_weights])), (h_this_weights, .inl (cI, 100, .inl weights_))]) (c_X4_has l D cI cC cO h0 h_this_weights p1 places_ start_ fairPlaces_ r1 hc) (cs_X4_31 X (by decide)) [0] [1] [1, 0] rfl rfl rfl rfl (by decide) rfl rfl 0 rfl rfl rfl rfl hl.1 rfl (Nat.le_of_ble_eq_true rfl) dX4_tieOf_2 ⟨Nat.zero_le _, Nat.zero_le _⟩ (fun H locs hw => ?_)
  refine lv_if_eq (tgt := 30) hx hb dX4_tieOf_5 (by decide) (fun c1 => ?_) (fun c1 => ?_)
  · replace h := ip c1 h
    refine lv_iconst (v := 0) hx hb dX4_tieOf_30 (by decide) ?_
    obtain rfl := oi1 h
    exact r_ret X hw hr hlk dX4_tieOf_31
  · replace h := ig c1 h
    refine lv_aload_n hx hb dX4_tieOf_8 rfl (lv_at hl 0 rfl) ?_
    refine lv_iload_n hx hb dX4_tieOf_9 rfl (lv_at hl 2 rfl) ?_
    obtain ⟨r2, hc, h⟩ := bd1_inv h
    refine r_cVi X hw (As := [.int p2]) (rest := []) (wr := [(h_this_weights, .inl (cI, 100, .inl weights_))]) (ws' := [(h0, .inr (4, [.int places_, .int start_, .int fairPlaces_, .ref h_this_weights])), (h_this_weights, .inl (cI, 100, .inl weights_))]) (c_X4_has l D cI cC cO h0 h_this_weights p2 places_ start_ fairPlaces_ r2 hc) (cs_X4_31 X (by decide)) [0] [1] [1, 0] rfl rfl rfl rfl (by decide) rfl rfl 0 rfl rfl rfl rfl hl.1 rfl (Nat.le_of_ble_eq_true rfl) dX4_tieOf_10 ⟨Nat.zero_le _, Nat.zero_le _⟩ (fun H locs hw => ?_)
    refine lv_if_eq (tgt := 30) hx hb dX4_tieOf_13 (by decide) (fun c1 => ?_) (fun c1 => ?_)
    · replace h := ip c1 h
      refine lv_iconst (v := 0) hx hb dX4_tieOf_30 (by decide) ?_
      obtain rfl := oi1 h
      exact r_ret X hw hr hlk dX4_tieOf_31
    · replace h := ig c1 h
      refine lv_aload_n hx hb dX4_tieOf_16 rfl (lv_at hl 0 rfl) ?_
      refine fg_X4_21 X hw 0 rfl rfl dX4_tieOf_17 ?_
      refine lv_iload_n hx hb dX4_tieOf_20 rfl (lv_at hl 1 rfl) ?_
      refine lv_bipush (v := 10) hx hb dX4_tieOf_21 (by decide) ?_
      refine lv_imul hx hb dX4_tieOf_23 ?_
      refine lv_iload_n hx hb dX4_tieOf_24 rfl (lv_at hl 2 rfl) ?_
      refine lv_iadd hx hb dX4_tieOf_25 ?_
      obtain ⟨b1, h⟩ := chk_inv h
      refine r_iald X hw 1 rfl b1 rfl dX4_tieOf_26 ?_
      refine lv_goto (tgt := 31) hx hb dX4_tieOf_27 (by decide) ?_
      obtain rfl := oi1 h
      exact r_ret X hw hr hlk dX4_tieOf_31
def rmX4_weightsOf : Room := { frames := 2, cells := 0, slots := 0, locals := 43 }
section
variable {p : Program} {l : Launch} {e : Env} {R : Room} {s : State} {m : MethodId} {args : Array Value} {below : List Frame} {meth : Method} {c : Code} {H : Heap} {locs : List Loc} {cells slots : Nat} {Q : State → Prop}
variable {cc : ByteArray} {pc nL : Nat} {ls : Array Slot} {rest : List Value} {D : va_G} {cI cC cO : ClassId} {A : Nat → Prop} {ws : va_W} {H0 : Heap}
theorem cs_X4_39 (X : Ctx p m c cc nL s args RX4 D cI cC cO) (hR : rmX4_tieOf.frames + 1 ≤ R.frames ∧ 8 + (3 + 11) + rmX4_tieOf.locals ≤ R.locals) : CallW R s args RX4 RX4 39 yX4_tieOf cX4_tieOf 3 (some .int) (Wy yX4_tieOf cX4_tieOf 3 (some .int)) rmX4_tieOf 0 0 2 := cwV 2 X.1.2.2.2.2 (gi_V tw_183 tw_184 tw_185 tw_2 tw_186) rfl rfl rfl (by decide +kernel) hR
end
set_option maxHeartbeats 4000000 in
set_option maxRecDepth 100000 in
theorem c_X4_weightsOf (l : Launch) (D : va_G) (cI cC cO : ClassId) (N : Nat) (h0 h_this_weights : Nat) (p1 places_ start_ fairPlaces_ : Int32) (weights_ : Nat → Int32) (r_ : Int32) (h : f_X4_weightsOf N p1 places_ weights_ = some r_) : CI l yX4_weightsOf (Wy yX4_weightsOf cX4_weightsOf 4 (some .int)) rmX4_weightsOf D cI cC cO [.ref h0, .int p1] [(h0, .inr (4, [.int places_, .int start_, .int fairPlaces_, .ref h_this_weights])), (h_this_weights, .inl (cI, 100, .inl weights_))] r_ [(h0, .inr (4, [.int places_, .int start_, .int fairPlaces_, .ref h_this_weights])), (h_this_weights, .inl (cI, 100, .inl weights_))] := by
  refine enter_i RX4 (by decide) rfl (Nat.le_of_ble_eq_true rfl) ?_
  intro p e s m below meth c A X hr hlk hw ls hl
  have hx := X.1.1
  have hb := X.1.2.1
  have hl : lv_has ls 4 [(0, .ref h0), (1, .int p1)] := hl
  unfold f_X4_weightsOf at h
  refine lv_iconst (v := 0) hx hb dX4_weightsOf_0 (by decide) ?_
  refine lv_istore_n (lv' := [(2, .int (0 : Int32)), (0, .ref h0), (1, .int p1)]) hx hb dX4_weightsOf_1 rfl hl (by decide) rfl (fun ls hl => ?_)
  refine lv_iconst (v := 0) hx hb dX4_weightsOf_2 (by decide) ?_
  refine lv_istore_n (lv' := [(3, .int (0 : Int32)), (2, .int (0 : Int32)), (0, .ref h0), (1, .int p1)]) hx hb dX4_weightsOf_3 rfl hl (by decide) rfl (fun ls hl => ?_)
  have E27 : ∀ (x7 : Int32) (H : Heap) (locs : List Loc) (ls : Array Slot), f_X4_weightsOf_E27 x7 = some r_ → Wd D A s.heap [(h0, .inr (4, [.int places_, .int start_, .int fairPlaces_, .ref h_this_weights])), (h_this_weights, .inl (cI, 100, .inl weights_))] H locs → lv_has ls 4 [(2, .int x7)] → W p l e rmX4_weightsOf s m ([.ref h0, .int p1] : List Value).toArray below meth c H locs 0 0 (MQ below (Qi D r_ [(h0, .inr (4, [.int places_, .int start_, .int fairPlaces_, .ref h_this_weights])), (h_this_weights, .inl (cI, 100, .inl weights_))] A) ([.ref h0, .int p1] : List Value).toArray s 0 0 A) (F0 m 27 ls []) := by
    intro x7 H locs ls h hw hl
    unfold f_X4_weightsOf_E27 at h
    refine lv_iload_n hx hb dX4_weightsOf_27 rfl (lv_at hl 0 rfl) ?_
    obtain rfl := oi1 h
    exact r_ret X hw hr hlk dX4_weightsOf_28
  have L4 : ∀ (k4 : Int32 → Option (Int32)), (∀ (x7 : Int32) (H : Heap) (locs : List Loc) (ls : Array Slot), k4 x7 = some r_ → Wd D A s.heap [(h0, .inr (4, [.int places_, .int start_, .int fairPlaces_, .ref h_this_weights])), (h_this_weights, .inl (cI, 100, .inl weights_))] H locs → lv_has ls 4 [(2, .int x7)] → W p l e rmX4_weightsOf s m ([.ref h0, .int p1] : List Value).toArray below meth c H locs 0 0 (MQ below (Qi D r_ [(h0, .inr (4, [.int places_, .int start_, .int fairPlaces_, .ref h_this_weights])), (h_this_weights, .inl (cI, 100, .inl weights_))] A) ([.ref h0, .int p1] : List Value).toArray s 0 0 A) (F0 m 27 ls [])) → ∀ (n6 : Nat), ∀ (x1 x2 : Int32) (H : Heap) (locs : List Loc) (ls : Array Slot), f_X4_weightsOf_L4 places_ p1 weights_ k4 n6 x1 x2 = some r_ → Wd D A s.heap [(h0, .inr (4, [.int places_, .int start_, .int fairPlaces_, .ref h_this_weights])), (h_this_weights, .inl (cI, 100, .inl weights_))] H locs → lv_has ls 4 [(0, .ref h0), (1, .int p1), (2, .int x1), (3, .int x2)] → W p l e rmX4_weightsOf s m ([.ref h0, .int p1] : List Value).toArray below meth c H locs 0 0 (MQ below (Qi D r_ [(h0, .inr (4, [.int places_, .int start_, .int fairPlaces_, .ref h_this_weights])), (h_this_weights, .inl (cI, 100, .inl weights_))] A) ([.ref h0, .int p1] : List Value).toArray s 0 0 A) (F0 m 4 ls []) := by
    intro k4 hk4 n6
    induction n6 with
    | zero => intro x1 x2 H locs ls h; cases h
    | succ n6 ih4 =>
      intro x1 x2 H locs ls h hw hl
      rw [f_X4_weightsOf_L4] at h
      refine lv_iload_n hx hb dX4_weightsOf_4 rfl (lv_at hl 3 rfl) ?_
      refine lv_aload_n hx hb dX4_weightsOf_5 rfl (lv_at hl 0 rfl) ?_
      refine fg_X4_9 X hw 0 rfl rfl dX4_weightsOf_6 ?_
      refine lv_icmp_ge (tgt := 27) hx hb dX4_weightsOf_9 (by decide) (fun c1 => ?_) (fun c1 => ?_)
      · replace h := ip c1 h
        exact hk4 x1 _ _ _ h hw (lv_sub hl [2] rfl)
      · replace h := ig c1 h
        refine lv_iload_n hx hb dX4_weightsOf_12 rfl (lv_at hl 2 rfl) ?_
        refine lv_aload_n hx hb dX4_weightsOf_13 rfl (lv_at hl 0 rfl) ?_
        refine lv_iload_n hx hb dX4_weightsOf_14 rfl (lv_at hl 1 rfl) ?_
        refine lv_iload_n hx hb dX4_weightsOf_15 rfl (lv_at hl 3 rfl) ?_
        obtain ⟨r3, hc, h⟩ := bd1_inv h
        refine r_cVi X hw (As := [.int p1, .int x2]) (rest := [.int x1]) (wr := []) (ws' := [(h0, .inr (4, [.int places_, .int start_, .int fairPlaces_, .ref h_this_weights])), (h_this_weights, .inl (cI, 100, .inl weights_))]) (c_X4_tieOf l D cI cC cO h0 h_this_weights p1 x2 places_ start_ fairPlaces_ weights_ r3 hc) (cs_X4_39 X (by decide)) [0, 1] [] [0, 1] rfl rfl rfl rfl (by decide) rfl rfl 0 rfl rfl rfl rfl hl.1 rfl (Nat.le_of_ble_eq_true rfl) dX4_weightsOf_16 ⟨Nat.zero_le _, Nat.zero_le _⟩ (fun H locs hw => ?_)
        refine lv_iadd hx hb dX4_weightsOf_19 ?_
        refine lv_istore_n (lv' := [(2, .int (x1 + r3)), (0, .ref h0), (1, .int p1), (3, .int x2)]) hx hb dX4_weightsOf_20 rfl hl (by decide) rfl (fun ls hl => ?_)
        refine lv_iinc (v := (x2 + (1 : Int32))) (lv' := [(3, .int (x2 + (1 : Int32))), (2, .int (x1 + r3)), (0, .ref h0), (1, .int p1)]) hx hb dX4_weightsOf_21 hl (k := 3) rfl rfl (by decide) rfl (fun ls hl => ?_)
        refine lv_goto (tgt := 4) hx hb dX4_weightsOf_24 (by decide) ?_
        exact ih4 (x1 + r3) (x2 + (1 : Int32)) _ _ _ h hw (lv_sub hl [2, 3, 1, 0] rfl)
  exact L4 (fun x7 => f_X4_weightsOf_E27 x7) (fun x7 H locs ls h hw hl => E27 x7 H locs ls h hw hl) N (0 : Int32) (0 : Int32) _ _ _ h hw (lv_sub hl [2, 3, 1, 0] rfl)
def rmX4_bind : Room := { frames := 1, cells := 0, slots := 0, locals := 21 }
set_option maxHeartbeats 4000000 in
set_option maxRecDepth 100000 in
theorem c_X4_bind (l : Launch) (D : va_G) (cI cC cO : ClassId) (h0 h_this_weights : Nat) (p1 p2 p3 places_ start_ fairPlaces_ : Int32) (weights_ : Nat → Int32) (weights_' : Nat → Int32) (h : f_X4_bind p1 p2 p3 places_ weights_ = some weights_') : CV l yX4_bind (Wy yX4_bind cX4_bind 4 none) rmX4_bind D cI cC cO [.ref h0, .int p1, .int p2, .int p3] [(h0, .inr (4, [.int places_, .int start_, .int fairPlaces_, .ref h_this_weights])), (h_this_weights, .inl (cI, 100, .inl weights_))] [(h0, .inr (4, [.int places_, .int start_, .int fairPlaces_, .ref h_this_weights])), (h_this_weights, .inl (cI, 100, .inl weights_'))] := by
  refine enter_v RX4 (by decide) rfl (Nat.le_of_ble_eq_true rfl) ?_
  intro p e s m below meth c A X hr hlk hw ls hl
  have hx := X.1.1
  have hb := X.1.2.1
  have hl : lv_has ls 4 [(0, .ref h0), (1, .int p1), (2, .int p2), (3, .int p3)] := hl
  unfold f_X4_bind at h
  refine lv_aload_n hx hb dX4_bind_0 rfl (lv_at hl 0 rfl) ?_
  refine lv_iload_n hx hb dX4_bind_1 rfl (lv_at hl 1 rfl) ?_
  obtain ⟨r1, hc, h⟩ := bd1_inv h
  refine r_cVi X hw (As := [.int p1]) (rest := []) (wr := [(h_this_weights, .inl (cI, 100, .inl weights_))]) (ws' := [(h0, .inr (4, [.int places_, .int start_, .int fairPlaces_, .ref h_this_weights])), (h_this_weights, .inl (cI, 100, .inl weights_))]) (c_X4_has l D cI cC cO h0 h_this_weights p1 places_ start_ fairPlaces_ r1 hc) (cs_X4_31 X (by decide)) [0] [1] [1, 0] rfl rfl rfl rfl (by decide) rfl rfl 0 rfl rfl rfl rfl hl.1 rfl (Nat.le_of_ble_eq_true rfl) dX4_bind_2 ⟨Nat.zero_le _, Nat.zero_le _⟩ (fun H locs hw => ?_)
  refine lv_if_eq (tgt := 40) hx hb dX4_bind_5 (by decide) (fun c1 => ?_) (fun c1 => ?_)
  · replace h := ip c1 h
    obtain rfl := oi1 h
    exact r_retv X hw hr hlk dX4_bind_40
  · replace h := ig c1 h
    refine lv_aload_n hx hb dX4_bind_8 rfl (lv_at hl 0 rfl) ?_
    refine lv_iload_n hx hb dX4_bind_9 rfl (lv_at hl 2 rfl) ?_
    obtain ⟨r2, hc, h⟩ := bd1_inv h
    refine r_cVi X hw (As := [.int p2]) (rest := []) (wr := [(h_this_weights, .inl (cI, 100, .inl weights_))]) (ws' := [(h0, .inr (4, [.int places_, .int start_, .int fairPlaces_, .ref h_this_weights])), (h_this_weights, .inl (cI, 100, .inl weights_))]) (c_X4_has l D cI cC cO h0 h_this_weights p2 places_ start_ fairPlaces_ r2 hc) (cs_X4_31 X (by decide)) [0] [1] [1, 0] rfl rfl rfl rfl (by decide) rfl rfl 0 rfl rfl rfl rfl hl.1 rfl (Nat.le_of_ble_eq_true rfl) dX4_bind_10 ⟨Nat.zero_le _, Nat.zero_le _⟩ (fun H locs hw => ?_)
    refine lv_if_eq (tgt := 40) hx hb dX4_bind_13 (by decide) (fun c1 => ?_) (fun c1 => ?_)
    · replace h := ip c1 h
      obtain rfl := oi1 h
      exact r_retv X hw hr hlk dX4_bind_40
    · replace h := ig c1 h
      refine lv_aload_n hx hb dX4_bind_16 rfl (lv_at hl 0 rfl) ?_
      refine fg_X4_21 X hw 0 rfl rfl dX4_bind_17 ?_
      refine lv_iload_n hx hb dX4_bind_20 rfl (lv_at hl 1 rfl) ?_
      refine lv_bipush (v := 10) hx hb dX4_bind_21 (by decide) ?_
      refine lv_imul hx hb dX4_bind_23 ?_
      refine lv_iload_n hx hb dX4_bind_24 rfl (lv_at hl 2 rfl) ?_
      refine lv_iadd hx hb dX4_bind_25 ?_
      refine lv_iload_n hx hb dX4_bind_26 rfl (lv_at hl 3 rfl) ?_
      obtain ⟨b1, h⟩ := chk_inv h
      refine r_iast X hw 1 rfl b1 rfl dX4_bind_27 (fun H locs hw => ?_)
      have hw : Wd D A s.heap [(h0, .inr (4, [.int places_, .int start_, .int fairPlaces_, .ref h_this_weights])), (h_this_weights, .inl (cI, 100, .inl (upd weights_ (((p1 * (10 : Int32)) + p2)).toNatClampNeg p3)))] H locs := hw
      refine lv_aload_n hx hb dX4_bind_28 rfl (lv_at hl 0 rfl) ?_
      refine fg_X4_21 X hw 0 rfl rfl dX4_bind_29 ?_
      refine lv_iload_n hx hb dX4_bind_32 rfl (lv_at hl 2 rfl) ?_
      refine lv_bipush (v := 10) hx hb dX4_bind_33 (by decide) ?_
      refine lv_imul hx hb dX4_bind_35 ?_
      refine lv_iload_n hx hb dX4_bind_36 rfl (lv_at hl 1 rfl) ?_
      refine lv_iadd hx hb dX4_bind_37 ?_
      refine lv_iload_n hx hb dX4_bind_38 rfl (lv_at hl 3 rfl) ?_
      obtain ⟨b1, h⟩ := chk_inv h
      refine r_iast X hw 1 rfl b1 rfl dX4_bind_39 (fun H locs hw => ?_)
      have hw : Wd D A s.heap [(h0, .inr (4, [.int places_, .int start_, .int fairPlaces_, .ref h_this_weights])), (h_this_weights, .inl (cI, 100, .inl (upd (upd weights_ (((p1 * (10 : Int32)) + p2)).toNatClampNeg p3) (((p2 * (10 : Int32)) + p1)).toNatClampNeg p3)))] H locs := hw
      obtain rfl := oi1 h
      exact r_retv X hw hr hlk dX4_bind_40
def rmX4_addPlace : Room := { frames := 2, cells := 0, slots := 0, locals := 44 }
section
variable {p : Program} {l : Launch} {e : Env} {R : Room} {s : State} {m : MethodId} {args : Array Value} {below : List Frame} {meth : Method} {c : Code} {H : Heap} {locs : List Loc} {cells slots : Nat} {Q : State → Prop}
variable {cc : ByteArray} {pc nL : Nat} {ls : Array Slot} {rest : List Value} {D : va_G} {cI cC cO : ClassId} {A : Nat → Prop} {ws : va_W} {H0 : Heap}
theorem cs_X4_35 (X : Ctx p m c cc nL s args RX4 D cI cC cO) (hR : rmX4_bind.frames + 1 ≤ R.frames ∧ 8 + (4 + 11) + rmX4_bind.locals ≤ R.locals) : CallW R s args RX4 RX4 35 yX4_bind cX4_bind 4 none (Wy yX4_bind cX4_bind 4 none) rmX4_bind 0 0 3 := cwV 3 X.1.2.2.2.2 (gi_V tw_166 tw_167 tw_168 tw_2 tw_169) rfl rfl rfl (by decide +kernel) hR
end
set_option maxHeartbeats 4000000 in
set_option maxRecDepth 100000 in
theorem c_X4_addPlace (l : Launch) (D : va_G) (cI cC cO : ClassId) (N : Nat) (h0 h_this_weights : Nat) (places_ start_ fairPlaces_ : Int32) (weights_ : Nat → Int32) (places_' : Int32) (weights_' : Nat → Int32) (h : f_X4_addPlace N places_ weights_ = some (places_', weights_')) : CV l yX4_addPlace (Wy yX4_addPlace cX4_addPlace 2 none) rmX4_addPlace D cI cC cO [.ref h0] [(h0, .inr (4, [.int places_, .int start_, .int fairPlaces_, .ref h_this_weights])), (h_this_weights, .inl (cI, 100, .inl weights_))] [(h0, .inr (4, [.int places_', .int start_, .int fairPlaces_, .ref h_this_weights])), (h_this_weights, .inl (cI, 100, .inl weights_'))] := by
  refine enter_v RX4 (by decide) rfl (Nat.le_of_ble_eq_true rfl) ?_
  intro p e s m below meth c A X hr hlk hw ls hl
  have hx := X.1.1
  have hb := X.1.2.1
  have hl : lv_has ls 2 [(0, .ref h0)] := hl
  unfold f_X4_addPlace at h
  refine lv_aload_n hx hb dX4_addPlace_0 rfl (lv_at hl 0 rfl) ?_
  refine fg_X4_9 X hw 0 rfl rfl dX4_addPlace_1 ?_
  refine lv_bipush (v := 10) hx hb dX4_addPlace_4 (by decide) ?_
  refine lv_icmp_lt (tgt := 10) hx hb dX4_addPlace_6 (by decide) (fun c1 => ?_) (fun c1 => ?_)
  · replace h := ip c1 h
    refine lv_aload_n hx hb dX4_addPlace_10 rfl (lv_at hl 0 rfl) ?_
    refine lv_dup hx hb dX4_addPlace_11 rfl ?_
    refine fg_X4_9 X hw 0 rfl rfl dX4_addPlace_12 ?_
    refine lv_iconst (v := 1) hx hb dX4_addPlace_15 (by decide) ?_
    refine lv_iadd hx hb dX4_addPlace_16 ?_
    refine fp_X4_9 X hw 0 rfl rfl dX4_addPlace_17 (fun H locs hw => ?_)
    have hw : Wd D A s.heap [(h0, .inr (4, [.int (places_ + (1 : Int32)), .int start_, .int fairPlaces_, .ref h_this_weights])), (h_this_weights, .inl (cI, 100, .inl weights_))] H locs := hw
    refine lv_iconst (v := 0) hx hb dX4_addPlace_20 (by decide) ?_
    refine lv_istore_n (lv' := [(1, .int (0 : Int32)), (0, .ref h0)]) hx hb dX4_addPlace_21 rfl hl (by decide) rfl (fun ls hl => ?_)
    have E48 : ∀ (a7 : Nat → Int32) (H : Heap) (locs : List Loc) (ls : Array Slot), f_X4_addPlace_E48 places_ a7 = some (places_', weights_') → Wd D A s.heap [(h0, .inr (4, [.int (places_ + (1 : Int32)), .int start_, .int fairPlaces_, .ref h_this_weights])), (h_this_weights, .inl (cI, 100, .inl a7))] H locs → lv_has ls 2 [] → W p l e rmX4_addPlace s m ([.ref h0] : List Value).toArray below meth c H locs 0 0 (MQ below (Qv D [(h0, .inr (4, [.int places_', .int start_, .int fairPlaces_, .ref h_this_weights])), (h_this_weights, .inl (cI, 100, .inl weights_'))] A) ([.ref h0] : List Value).toArray s 0 0 A) (F0 m 48 ls []) := by
      intro a7 H locs ls h hw hl
      unfold f_X4_addPlace_E48 at h
      obtain ⟨rfl, rfl⟩ := oi2 h
      exact r_retv X hw hr hlk dX4_addPlace_48
    have L22 : ∀ (k4 : (Nat → Int32) → Option (Int32 × (Nat → Int32))), (∀ (a7 : Nat → Int32) (H : Heap) (locs : List Loc) (ls : Array Slot), k4 a7 = some (places_', weights_') → Wd D A s.heap [(h0, .inr (4, [.int (places_ + (1 : Int32)), .int start_, .int fairPlaces_, .ref h_this_weights])), (h_this_weights, .inl (cI, 100, .inl a7))] H locs → lv_has ls 2 [] → W p l e rmX4_addPlace s m ([.ref h0] : List Value).toArray below meth c H locs 0 0 (MQ below (Qv D [(h0, .inr (4, [.int places_', .int start_, .int fairPlaces_, .ref h_this_weights])), (h_this_weights, .inl (cI, 100, .inl weights_'))] A) ([.ref h0] : List Value).toArray s 0 0 A) (F0 m 48 ls [])) → ∀ (n6 : Nat), ∀ (x1 : Int32) (a2 : Nat → Int32) (H : Heap) (locs : List Loc) (ls : Array Slot), f_X4_addPlace_L22 places_ k4 n6 x1 a2 = some (places_', weights_') → Wd D A s.heap [(h0, .inr (4, [.int (places_ + (1 : Int32)), .int start_, .int fairPlaces_, .ref h_this_weights])), (h_this_weights, .inl (cI, 100, .inl a2))] H locs → lv_has ls 2 [(0, .ref h0), (1, .int x1)] → W p l e rmX4_addPlace s m ([.ref h0] : List Value).toArray below meth c H locs 0 0 (MQ below (Qv D [(h0, .inr (4, [.int places_', .int start_, .int fairPlaces_, .ref h_this_weights])), (h_this_weights, .inl (cI, 100, .inl weights_'))] A) ([.ref h0] : List Value).toArray s 0 0 A) (F0 m 22 ls []) := by
      intro k4 hk22 n6
      induction n6 with
      | zero => intro x1 a2 H locs ls h; cases h
      | succ n6 ih22 =>
        intro x1 a2 H locs ls h hw hl
        rw [f_X4_addPlace_L22] at h
        refine lv_iload_n hx hb dX4_addPlace_22 rfl (lv_at hl 1 rfl) ?_
        refine lv_aload_n hx hb dX4_addPlace_23 rfl (lv_at hl 0 rfl) ?_
        refine fg_X4_9 X hw 0 rfl rfl dX4_addPlace_24 ?_
        refine lv_icmp_ge (tgt := 48) hx hb dX4_addPlace_27 (by decide) (fun c1 => ?_) (fun c1 => ?_)
        · replace h := ip c1 h
          exact hk22 a2 _ _ _ h hw (lv_sub hl [] rfl)
        · replace h := ig c1 h
          refine lv_aload_n hx hb dX4_addPlace_30 rfl (lv_at hl 0 rfl) ?_
          refine lv_aload_n hx hb dX4_addPlace_31 rfl (lv_at hl 0 rfl) ?_
          refine fg_X4_9 X hw 0 rfl rfl dX4_addPlace_32 ?_
          refine lv_iconst (v := 1) hx hb dX4_addPlace_35 (by decide) ?_
          refine lv_isub hx hb dX4_addPlace_36 ?_
          refine lv_iload_n hx hb dX4_addPlace_37 rfl (lv_at hl 1 rfl) ?_
          refine lv_iconst (v := 0) hx hb dX4_addPlace_38 (by decide) ?_
          obtain ⟨a3, hc, h⟩ := bd1_inv h
          refine r_cVv X hw (As := [.int ((places_ + (1 : Int32)) - (1 : Int32)), .int x1, .int (0 : Int32)]) (rest := []) (wr := []) (ws' := [(h0, .inr (4, [.int (places_ + (1 : Int32)), .int start_, .int fairPlaces_, .ref h_this_weights])), (h_this_weights, .inl (cI, 100, .inl a3))]) (c_X4_bind l D cI cC cO h0 h_this_weights ((places_ + (1 : Int32)) - (1 : Int32)) x1 (0 : Int32) (places_ + (1 : Int32)) start_ fairPlaces_ a2 a3 hc) (cs_X4_35 X (by decide)) [0, 1] [] [0, 1] rfl rfl rfl rfl (by decide) rfl rfl 0 rfl rfl rfl rfl hl.1 rfl (Nat.le_of_ble_eq_true rfl) dX4_addPlace_39 ⟨Nat.zero_le _, Nat.zero_le _⟩ (fun H locs hw => ?_)
          refine lv_iinc (v := (x1 + (1 : Int32))) (lv' := [(1, .int (x1 + (1 : Int32))), (0, .ref h0)]) hx hb dX4_addPlace_42 hl (k := 1) rfl rfl (by decide) rfl (fun ls hl => ?_)
          refine lv_goto (tgt := 22) hx hb dX4_addPlace_45 (by decide) ?_
          exact ih22 (x1 + (1 : Int32)) a3 _ _ _ h hw (lv_sub hl [1, 0] rfl)
    exact L22 (fun a7 => f_X4_addPlace_E48 places_ a7) (fun a7 H locs ls h hw hl => E48 a7 H locs ls h hw hl) N (0 : Int32) weights_ _ _ _ h hw (lv_sub hl [1, 0] rfl)
  · replace h := ig c1 h
    obtain ⟨rfl, rfl⟩ := oi2 h
    exact r_retv X hw hr hlk dX4_addPlace_9
def rmX4_dropPlace : Room := { frames := 2, cells := 0, slots := 0, locals := 44 }
set_option maxHeartbeats 4000000 in
set_option maxRecDepth 100000 in
theorem c_X4_dropPlace (l : Launch) (D : va_G) (cI cC cO : ClassId) (N : Nat) (h0 h_this_weights : Nat) (p1 places_ start_ fairPlaces_ : Int32) (weights_ : Nat → Int32) (places_' : Int32) (start_' : Int32) (weights_' : Nat → Int32) (h : f_X4_dropPlace N p1 places_ start_ weights_ = some (places_', start_', weights_')) : CV l yX4_dropPlace (Wy yX4_dropPlace cX4_dropPlace 6 none) rmX4_dropPlace D cI cC cO [.ref h0, .int p1] [(h0, .inr (4, [.int places_, .int start_, .int fairPlaces_, .ref h_this_weights])), (h_this_weights, .inl (cI, 100, .inl weights_))] [(h0, .inr (4, [.int places_', .int start_', .int fairPlaces_, .ref h_this_weights])), (h_this_weights, .inl (cI, 100, .inl weights_'))] := by
  refine enter_v RX4 (by decide) rfl (Nat.le_of_ble_eq_true rfl) ?_
  intro p e s m below meth c A X hr hlk hw ls hl
  have hx := X.1.1
  have hb := X.1.2.1
  have hl : lv_has ls 6 [(0, .ref h0), (1, .int p1)] := hl
  unfold f_X4_dropPlace at h
  refine lv_iconst (v := 0) hx hb dX4_dropPlace_0 (by decide) ?_
  refine lv_istore_n (lv' := [(2, .int (0 : Int32)), (0, .ref h0), (1, .int p1)]) hx hb dX4_dropPlace_1 rfl hl (by decide) rfl (fun ls hl => ?_)
  have E73 : ∀ (a16 : Nat → Int32) (H : Heap) (locs : List Loc) (ls : Array Slot), f_X4_dropPlace_E73 start_ p1 places_ a16 = some (places_', start_', weights_') → Wd D A s.heap [(h0, .inr (4, [.int places_, .int start_, .int fairPlaces_, .ref h_this_weights])), (h_this_weights, .inl (cI, 100, .inl a16))] H locs → lv_has ls 6 [(0, .ref h0), (1, .int p1)] → W p l e rmX4_dropPlace s m ([.ref h0, .int p1] : List Value).toArray below meth c H locs 0 0 (MQ below (Qv D [(h0, .inr (4, [.int places_', .int start_', .int fairPlaces_, .ref h_this_weights])), (h_this_weights, .inl (cI, 100, .inl weights_'))] A) ([.ref h0, .int p1] : List Value).toArray s 0 0 A) (F0 m 73 ls []) := by
    intro a16 H locs ls h hw hl
    unfold f_X4_dropPlace_E73 at h
    refine lv_aload_n hx hb dX4_dropPlace_73 rfl (lv_at hl 0 rfl) ?_
    refine lv_dup hx hb dX4_dropPlace_74 rfl ?_
    refine fg_X4_9 X hw 0 rfl rfl dX4_dropPlace_75 ?_
    refine lv_iconst (v := 1) hx hb dX4_dropPlace_78 (by decide) ?_
    refine lv_isub hx hb dX4_dropPlace_79 ?_
    refine fp_X4_9 X hw 0 rfl rfl dX4_dropPlace_80 (fun H locs hw => ?_)
    have hw : Wd D A s.heap [(h0, .inr (4, [.int (places_ - (1 : Int32)), .int start_, .int fairPlaces_, .ref h_this_weights])), (h_this_weights, .inl (cI, 100, .inl a16))] H locs := hw
    refine lv_aload_n hx hb dX4_dropPlace_83 rfl (lv_at hl 0 rfl) ?_
    refine fg_X4_15 X hw 0 rfl rfl dX4_dropPlace_84 ?_
    refine lv_iload_n hx hb dX4_dropPlace_87 rfl (lv_at hl 1 rfl) ?_
    refine lv_icmp_ne (tgt := 99) hx hb dX4_dropPlace_88 (by decide) (fun c1 => ?_) (fun c1 => ?_)
    · replace h := ig c1 h
      refine lv_aload_n hx hb dX4_dropPlace_99 rfl (lv_at hl 0 rfl) ?_
      refine fg_X4_15 X hw 0 rfl rfl dX4_dropPlace_100 ?_
      refine lv_iload_n hx hb dX4_dropPlace_103 rfl (lv_at hl 1 rfl) ?_
      refine lv_icmp_le (tgt := 117) hx hb dX4_dropPlace_104 (by decide) (fun c1 => ?_) (fun c1 => ?_)
      · replace h := ip c1 h
        obtain ⟨rfl, rfl, rfl⟩ := oi3 h
        exact r_retv X hw hr hlk dX4_dropPlace_117
      · replace h := ig c1 h
        refine lv_aload_n hx hb dX4_dropPlace_107 rfl (lv_at hl 0 rfl) ?_
        refine lv_dup hx hb dX4_dropPlace_108 rfl ?_
        refine fg_X4_15 X hw 0 rfl rfl dX4_dropPlace_109 ?_
        refine lv_iconst (v := 1) hx hb dX4_dropPlace_112 (by decide) ?_
        refine lv_isub hx hb dX4_dropPlace_113 ?_
        refine fp_X4_15 X hw 0 rfl rfl dX4_dropPlace_114 (fun H locs hw => ?_)
        have hw : Wd D A s.heap [(h0, .inr (4, [.int (places_ - (1 : Int32)), .int (start_ - (1 : Int32)), .int fairPlaces_, .ref h_this_weights])), (h_this_weights, .inl (cI, 100, .inl a16))] H locs := hw
        obtain ⟨rfl, rfl, rfl⟩ := oi3 h
        exact r_retv X hw hr hlk dX4_dropPlace_117
    · replace h := ip c1 h
      refine lv_aload_n hx hb dX4_dropPlace_91 rfl (lv_at hl 0 rfl) ?_
      refine lv_iconst (v := 0) hx hb dX4_dropPlace_92 (by decide) ?_
      refine fp_X4_15 X hw 0 rfl rfl dX4_dropPlace_93 (fun H locs hw => ?_)
      have hw : Wd D A s.heap [(h0, .inr (4, [.int (places_ - (1 : Int32)), .int (0 : Int32), .int fairPlaces_, .ref h_this_weights])), (h_this_weights, .inl (cI, 100, .inl a16))] H locs := hw
      refine lv_goto (tgt := 117) hx hb dX4_dropPlace_96 (by decide) ?_
      obtain ⟨rfl, rfl, rfl⟩ := oi3 h
      exact r_retv X hw hr hlk dX4_dropPlace_117
  have L2 : ∀ (k13 : (Nat → Int32) → Option (Int32 × Int32 × (Nat → Int32))), (∀ (a16 : Nat → Int32) (H : Heap) (locs : List Loc) (ls : Array Slot), k13 a16 = some (places_', start_', weights_') → Wd D A s.heap [(h0, .inr (4, [.int places_, .int start_, .int fairPlaces_, .ref h_this_weights])), (h_this_weights, .inl (cI, 100, .inl a16))] H locs → lv_has ls 6 [(0, .ref h0), (1, .int p1)] → W p l e rmX4_dropPlace s m ([.ref h0, .int p1] : List Value).toArray below meth c H locs 0 0 (MQ below (Qv D [(h0, .inr (4, [.int places_', .int start_', .int fairPlaces_, .ref h_this_weights])), (h_this_weights, .inl (cI, 100, .inl weights_'))] A) ([.ref h0, .int p1] : List Value).toArray s 0 0 A) (F0 m 73 ls [])) → ∀ (n15 : Nat), ∀ (x1 : Int32) (a2 : Nat → Int32) (H : Heap) (locs : List Loc) (ls : Array Slot), f_X4_dropPlace_L2 N places_ p1 k13 n15 x1 a2 = some (places_', start_', weights_') → Wd D A s.heap [(h0, .inr (4, [.int places_, .int start_, .int fairPlaces_, .ref h_this_weights])), (h_this_weights, .inl (cI, 100, .inl a2))] H locs → lv_has ls 6 [(0, .ref h0), (1, .int p1), (2, .int x1)] → W p l e rmX4_dropPlace s m ([.ref h0, .int p1] : List Value).toArray below meth c H locs 0 0 (MQ below (Qv D [(h0, .inr (4, [.int places_', .int start_', .int fairPlaces_, .ref h_this_weights])), (h_this_weights, .inl (cI, 100, .inl weights_'))] A) ([.ref h0, .int p1] : List Value).toArray s 0 0 A) (F0 m 2 ls []) := by
    intro k13 hk2 n15
    induction n15 with
    | zero => intro x1 a2 H locs ls h; cases h
    | succ n15 ih2 =>
      intro x1 a2 H locs ls h hw hl
      rw [f_X4_dropPlace_L2] at h
      refine lv_iload_n hx hb dX4_dropPlace_2 rfl (lv_at hl 2 rfl) ?_
      refine lv_aload_n hx hb dX4_dropPlace_3 rfl (lv_at hl 0 rfl) ?_
      refine fg_X4_9 X hw 0 rfl rfl dX4_dropPlace_4 ?_
      refine lv_iconst (v := 1) hx hb dX4_dropPlace_7 (by decide) ?_
      refine lv_isub hx hb dX4_dropPlace_8 ?_
      refine lv_icmp_ge (tgt := 73) hx hb dX4_dropPlace_9 (by decide) (fun c1 => ?_) (fun c1 => ?_)
      · replace h := ip c1 h
        exact hk2 a2 _ _ _ h hw (lv_sub hl [0, 1] rfl)
      · replace h := ig c1 h
        refine lv_iconst (v := 0) hx hb dX4_dropPlace_12 (by decide) ?_
        refine lv_istore_n (lv' := [(3, .int (0 : Int32)), (0, .ref h0), (1, .int p1), (2, .int x1)]) hx hb dX4_dropPlace_13 rfl hl (by decide) rfl (fun ls hl => ?_)
        have E67 : ∀ (a12 : Nat → Int32) (H : Heap) (locs : List Loc) (ls : Array Slot), f_X4_dropPlace_E67 (f_X4_dropPlace_L2 N places_ p1 k13 n15) x1 a12 = some (places_', start_', weights_') → Wd D A s.heap [(h0, .inr (4, [.int places_, .int start_, .int fairPlaces_, .ref h_this_weights])), (h_this_weights, .inl (cI, 100, .inl a12))] H locs → lv_has ls 6 [(0, .ref h0), (1, .int p1), (2, .int x1)] → W p l e rmX4_dropPlace s m ([.ref h0, .int p1] : List Value).toArray below meth c H locs 0 0 (MQ below (Qv D [(h0, .inr (4, [.int places_', .int start_', .int fairPlaces_, .ref h_this_weights])), (h_this_weights, .inl (cI, 100, .inl weights_'))] A) ([.ref h0, .int p1] : List Value).toArray s 0 0 A) (F0 m 67 ls []) := by
          intro a12 H locs ls h hw hl
          unfold f_X4_dropPlace_E67 at h
          refine lv_iinc (v := (x1 + (1 : Int32))) (lv' := [(2, .int (x1 + (1 : Int32))), (0, .ref h0), (1, .int p1)]) hx hb dX4_dropPlace_67 hl (k := 2) rfl rfl (by decide) rfl (fun ls hl => ?_)
          refine lv_goto (tgt := 2) hx hb dX4_dropPlace_70 (by decide) ?_
          exact ih2 (x1 + (1 : Int32)) a12 _ _ _ h hw (lv_sub hl [1, 2, 0] rfl)
        have L14 : ∀ (k9 : (Nat → Int32) → Option (Int32 × Int32 × (Nat → Int32))), (∀ (a12 : Nat → Int32) (H : Heap) (locs : List Loc) (ls : Array Slot), k9 a12 = some (places_', start_', weights_') → Wd D A s.heap [(h0, .inr (4, [.int places_, .int start_, .int fairPlaces_, .ref h_this_weights])), (h_this_weights, .inl (cI, 100, .inl a12))] H locs → lv_has ls 6 [(0, .ref h0), (1, .int p1), (2, .int x1)] → W p l e rmX4_dropPlace s m ([.ref h0, .int p1] : List Value).toArray below meth c H locs 0 0 (MQ below (Qv D [(h0, .inr (4, [.int places_', .int start_', .int fairPlaces_, .ref h_this_weights])), (h_this_weights, .inl (cI, 100, .inl weights_'))] A) ([.ref h0, .int p1] : List Value).toArray s 0 0 A) (F0 m 67 ls [])) → ∀ (n11 : Nat), ∀ (x3 : Int32) (a4 : Nat → Int32) (H : Heap) (locs : List Loc) (ls : Array Slot), f_X4_dropPlace_L14 x1 p1 places_ k9 n11 x3 a4 = some (places_', start_', weights_') → Wd D A s.heap [(h0, .inr (4, [.int places_, .int start_, .int fairPlaces_, .ref h_this_weights])), (h_this_weights, .inl (cI, 100, .inl a4))] H locs → lv_has ls 6 [(0, .ref h0), (1, .int p1), (2, .int x1), (3, .int x3)] → W p l e rmX4_dropPlace s m ([.ref h0, .int p1] : List Value).toArray below meth c H locs 0 0 (MQ below (Qv D [(h0, .inr (4, [.int places_', .int start_', .int fairPlaces_, .ref h_this_weights])), (h_this_weights, .inl (cI, 100, .inl weights_'))] A) ([.ref h0, .int p1] : List Value).toArray s 0 0 A) (F0 m 14 ls []) := by
          intro k9 hk14 n11
          induction n11 with
          | zero => intro x3 a4 H locs ls h; cases h
          | succ n11 ih14 =>
            intro x3 a4 H locs ls h hw hl
            rw [f_X4_dropPlace_L14] at h
            refine lv_iload_n hx hb dX4_dropPlace_14 rfl (lv_at hl 3 rfl) ?_
            refine lv_iload_n hx hb dX4_dropPlace_15 rfl (lv_at hl 2 rfl) ?_
            refine lv_icmp_ge (tgt := 67) hx hb dX4_dropPlace_16 (by decide) (fun c1 => ?_) (fun c1 => ?_)
            · replace h := ip c1 h
              exact hk14 a4 _ _ _ h hw (lv_sub hl [0, 1, 2] rfl)
            · replace h := ig c1 h
              refine lv_iload_n hx hb dX4_dropPlace_19 rfl (lv_at hl 2 rfl) ?_
              refine lv_iload_n hx hb dX4_dropPlace_20 rfl (lv_at hl 1 rfl) ?_
              have J31 : ∀ (x5 : Int32) (H : Heap) (locs : List Loc) (ls : Array Slot), f_X4_dropPlace_J31 p1 x3 places_ a4 x1 (f_X4_dropPlace_L14 x1 p1 places_ k9 n11) x5 = some (places_', start_', weights_') → Wd D A s.heap [(h0, .inr (4, [.int places_, .int start_, .int fairPlaces_, .ref h_this_weights])), (h_this_weights, .inl (cI, 100, .inl a4))] H locs → lv_has ls 6 [(0, .ref h0), (1, .int p1), (2, .int x1), (3, .int x3)] → W p l e rmX4_dropPlace s m ([.ref h0, .int p1] : List Value).toArray below meth c H locs 0 0 (MQ below (Qv D [(h0, .inr (4, [.int places_', .int start_', .int fairPlaces_, .ref h_this_weights])), (h_this_weights, .inl (cI, 100, .inl weights_'))] A) ([.ref h0, .int p1] : List Value).toArray s 0 0 A) (F0 m 31 ls [.int x5]) := by
                intro x5 H locs ls h hw hl
                unfold f_X4_dropPlace_J31 at h
                refine lv_istore (lv' := [(4, .int x5), (0, .ref h0), (1, .int p1), (2, .int x1), (3, .int x3)]) hx hb dX4_dropPlace_31 hl (by decide) rfl (fun ls hl => ?_)
                refine lv_iload_n hx hb dX4_dropPlace_33 rfl (lv_at hl 4 rfl) ?_
                refine lv_iload_n hx hb dX4_dropPlace_34 rfl (lv_at hl 2 rfl) ?_
                have J45 : ∀ (x6 : Int32) (H : Heap) (locs : List Loc) (ls : Array Slot), f_X4_dropPlace_J45 x5 places_ a4 x1 x3 (f_X4_dropPlace_L14 x1 p1 places_ k9 n11) x6 = some (places_', start_', weights_') → Wd D A s.heap [(h0, .inr (4, [.int places_, .int start_, .int fairPlaces_, .ref h_this_weights])), (h_this_weights, .inl (cI, 100, .inl a4))] H locs → lv_has ls 6 [(0, .ref h0), (1, .int p1), (2, .int x1), (3, .int x3), (4, .int x5)] → W p l e rmX4_dropPlace s m ([.ref h0, .int p1] : List Value).toArray below meth c H locs 0 0 (MQ below (Qv D [(h0, .inr (4, [.int places_', .int start_', .int fairPlaces_, .ref h_this_weights])), (h_this_weights, .inl (cI, 100, .inl weights_'))] A) ([.ref h0, .int p1] : List Value).toArray s 0 0 A) (F0 m 45 ls [.int x6]) := by
                  intro x6 H locs ls h hw hl
                  unfold f_X4_dropPlace_J45 at h
                  refine lv_istore (lv' := [(5, .int x6), (0, .ref h0), (1, .int p1), (2, .int x1), (3, .int x3), (4, .int x5)]) hx hb dX4_dropPlace_45 hl (by decide) rfl (fun ls hl => ?_)
                  refine lv_aload_n hx hb dX4_dropPlace_47 rfl (lv_at hl 1 rfl) ?_
                  refine lv_iload_n hx hb dX4_dropPlace_48 rfl (lv_at hl 3 rfl) ?_
                  refine lv_iload_n hx hb dX4_dropPlace_49 rfl (lv_at hl 4 rfl) ?_
                  refine lv_aload_n hx hb dX4_dropPlace_50 rfl (lv_at hl 1 rfl) ?_
                  refine lv_iload hx hb dX4_dropPlace_51 (lv_at hl 5 rfl) ?_
                  refine lv_iload hx hb dX4_dropPlace_53 (lv_at hl 0 rfl) ?_
                  obtain ⟨r7, hc, h⟩ := bd1_inv h
                  refine r_cVi X hw (As := [.int x5, .int x6]) (rest := [.int x3, .int x1, .ref h0]) (wr := []) (ws' := [(h0, .inr (4, [.int places_, .int start_, .int fairPlaces_, .ref h_this_weights])), (h_this_weights, .inl (cI, 100, .inl a4))]) (c_X4_tieOf l D cI cC cO h0 h_this_weights x5 x6 places_ start_ fairPlaces_ a4 r7 hc) (cs_X4_39 X (by decide)) [0, 1] [] [0, 1] rfl rfl rfl rfl (by decide) rfl rfl 0 rfl rfl rfl rfl hl.1 rfl (Nat.le_of_ble_eq_true rfl) dX4_dropPlace_55 ⟨Nat.zero_le _, Nat.zero_le _⟩ (fun H locs hw => ?_)
                  obtain ⟨a8, hc, h⟩ := bd1_inv h
                  refine r_cVv X hw (As := [.int x1, .int x3, .int r7]) (rest := []) (wr := []) (ws' := [(h0, .inr (4, [.int places_, .int start_, .int fairPlaces_, .ref h_this_weights])), (h_this_weights, .inl (cI, 100, .inl a8))]) (c_X4_bind l D cI cC cO h0 h_this_weights x1 x3 r7 places_ start_ fairPlaces_ a4 a8 hc) (cs_X4_35 X (by decide)) [0, 1] [] [0, 1] rfl rfl rfl rfl (by decide) rfl rfl 0 rfl rfl rfl rfl hl.1 rfl (Nat.le_of_ble_eq_true rfl) dX4_dropPlace_58 ⟨Nat.zero_le _, Nat.zero_le _⟩ (fun H locs hw => ?_)
                  refine lv_iinc (v := (x3 + (1 : Int32))) (lv' := [(3, .int (x3 + (1 : Int32))), (5, .int x6), (0, .ref h0), (1, .int p1), (2, .int x1), (4, .int x5)]) hx hb dX4_dropPlace_61 hl (k := 4) rfl rfl (by decide) rfl (fun ls hl => ?_)
                  refine lv_goto (tgt := 14) hx hb dX4_dropPlace_64 (by decide) ?_
                  exact ih14 (x3 + (1 : Int32)) a8 _ _ _ h hw (lv_sub hl [2, 3, 4, 0] rfl)
                refine lv_icmp_ge (tgt := 42) hx hb dX4_dropPlace_35 (by decide) (fun c1 => ?_) (fun c1 => ?_)
                · replace h := ip c1 h
                  refine lv_iload_n hx hb dX4_dropPlace_42 rfl (lv_at hl 4 rfl) ?_
                  refine lv_iconst (v := 1) hx hb dX4_dropPlace_43 (by decide) ?_
                  refine lv_iadd hx hb dX4_dropPlace_44 ?_
                  exact J45 (x3 + (1 : Int32)) _ _ _ h hw (lv_sub hl [1, 2, 3, 4, 0] rfl)
                · replace h := ig c1 h
                  refine lv_iload_n hx hb dX4_dropPlace_38 rfl (lv_at hl 4 rfl) ?_
                  refine lv_goto (tgt := 45) hx hb dX4_dropPlace_39 (by decide) ?_
                  exact J45 x3 _ _ _ h hw (lv_sub hl [1, 2, 3, 4, 0] rfl)
              refine lv_icmp_ge (tgt := 28) hx hb dX4_dropPlace_21 (by decide) (fun c1 => ?_) (fun c1 => ?_)
              · replace h := ip c1 h
                refine lv_iload_n hx hb dX4_dropPlace_28 rfl (lv_at hl 2 rfl) ?_
                refine lv_iconst (v := 1) hx hb dX4_dropPlace_29 (by decide) ?_
                refine lv_iadd hx hb dX4_dropPlace_30 ?_
                exact J31 (x1 + (1 : Int32)) _ _ _ h hw (lv_sub hl [0, 1, 2, 3] rfl)
              · replace h := ig c1 h
                refine lv_iload_n hx hb dX4_dropPlace_24 rfl (lv_at hl 2 rfl) ?_
                refine lv_goto (tgt := 31) hx hb dX4_dropPlace_25 (by decide) ?_
                exact J31 x1 _ _ _ h hw (lv_sub hl [0, 1, 2, 3] rfl)
        exact L14 (fun a12 => f_X4_dropPlace_E67 (f_X4_dropPlace_L2 N places_ p1 k13 n15) x1 a12) (fun a12 H locs ls h hw hl => E67 a12 H locs ls h hw hl) N (0 : Int32) a2 _ _ _ h hw (lv_sub hl [1, 2, 3, 0] rfl)
  exact L2 (fun a16 => f_X4_dropPlace_E73 start_ p1 places_ a16) (fun a16 H locs ls h hw hl => E73 a16 H locs ls h hw hl) N (0 : Int32) weights_ _ _ _ h hw (lv_sub hl [1, 2, 0] rfl)
def rmX4_mergePlaces : Room := { frames := 3, cells := 0, slots := 0, locals := 69 }
section
variable {p : Program} {l : Launch} {e : Env} {R : Room} {s : State} {m : MethodId} {args : Array Value} {below : List Frame} {meth : Method} {c : Code} {H : Heap} {locs : List Loc} {cells slots : Nat} {Q : State → Prop}
variable {cc : ByteArray} {pc nL : Nat} {ls : Array Slot} {rest : List Value} {D : va_G} {cI cC cO : ClassId} {A : Nat → Prop} {ws : va_W} {H0 : Heap}
theorem cs_X4_48 (X : Ctx p m c cc nL s args RX4 D cI cC cO) (hR : rmX4_dropPlace.frames + 1 ≤ R.frames ∧ 8 + (6 + 11) + rmX4_dropPlace.locals ≤ R.locals) : CallW R s args RX4 RX4 48 yX4_dropPlace cX4_dropPlace 6 none (Wy yX4_dropPlace cX4_dropPlace 6 none) rmX4_dropPlace 0 0 1 := cwV 1 X.1.2.2.2.2 (gi_V tw_206 tw_180 tw_181 tw_2 tw_182) rfl rfl rfl (by decide +kernel) hR
end
set_option maxHeartbeats 4000000 in
set_option maxRecDepth 100000 in
theorem c_X4_mergePlaces (l : Launch) (D : va_G) (cI cC cO : ClassId) (N : Nat) (h0 h_this_weights : Nat) (p1 p2 places_ start_ fairPlaces_ : Int32) (weights_ : Nat → Int32) (places_' : Int32) (start_' : Int32) (weights_' : Nat → Int32) (h : f_X4_mergePlaces N p1 p2 places_ start_ weights_ = some (places_', start_', weights_')) : CV l yX4_mergePlaces (Wy yX4_mergePlaces cX4_mergePlaces 5 none) rmX4_mergePlaces D cI cC cO [.ref h0, .int p1, .int p2] [(h0, .inr (4, [.int places_, .int start_, .int fairPlaces_, .ref h_this_weights])), (h_this_weights, .inl (cI, 100, .inl weights_))] [(h0, .inr (4, [.int places_', .int start_', .int fairPlaces_, .ref h_this_weights])), (h_this_weights, .inl (cI, 100, .inl weights_'))] := by
  refine enter_v RX4 (by decide) rfl (Nat.le_of_ble_eq_true rfl) ?_
  intro p e s m below meth c A X hr hlk hw ls hl
  have hx := X.1.1
  have hb := X.1.2.1
  have hl : lv_has ls 5 [(0, .ref h0), (1, .int p1), (2, .int p2)] := hl
  unfold f_X4_mergePlaces at h
  refine lv_iconst (v := 0) hx hb dX4_mergePlaces_0 (by decide) ?_
  refine lv_istore_n (lv' := [(3, .int (0 : Int32)), (0, .ref h0), (1, .int p1), (2, .int p2)]) hx hb dX4_mergePlaces_1 rfl hl (by decide) rfl (fun ls hl => ?_)
  have E54 : ∀ (a10 : Nat → Int32) (H : Heap) (locs : List Loc) (ls : Array Slot), f_X4_mergePlaces_E54 N start_ p2 places_ p1 a10 = some (places_', start_', weights_') → Wd D A s.heap [(h0, .inr (4, [.int places_, .int start_, .int fairPlaces_, .ref h_this_weights])), (h_this_weights, .inl (cI, 100, .inl a10))] H locs → lv_has ls 5 [(0, .ref h0), (1, .int p1), (2, .int p2)] → W p l e rmX4_mergePlaces s m ([.ref h0, .int p1, .int p2] : List Value).toArray below meth c H locs 0 0 (MQ below (Qv D [(h0, .inr (4, [.int places_', .int start_', .int fairPlaces_, .ref h_this_weights])), (h_this_weights, .inl (cI, 100, .inl weights_'))] A) ([.ref h0, .int p1, .int p2] : List Value).toArray s 0 0 A) (F0 m 54 ls []) := by
    intro a10 H locs ls h hw hl
    unfold f_X4_mergePlaces_E54 at h
    refine lv_aload_n hx hb dX4_mergePlaces_54 rfl (lv_at hl 0 rfl) ?_
    refine fg_X4_15 X hw 0 rfl rfl dX4_mergePlaces_55 ?_
    refine lv_iload_n hx hb dX4_mergePlaces_58 rfl (lv_at hl 2 rfl) ?_
    have J67 : ∀ (x11 : Int32) (H : Heap) (locs : List Loc) (ls : Array Slot), f_X4_mergePlaces_J67 N p2 places_ a10 x11 = some (places_', start_', weights_') → Wd D A s.heap [(h0, .inr (4, [.int places_, .int x11, .int fairPlaces_, .ref h_this_weights])), (h_this_weights, .inl (cI, 100, .inl a10))] H locs → lv_has ls 5 [(0, .ref h0), (2, .int p2)] → W p l e rmX4_mergePlaces s m ([.ref h0, .int p1, .int p2] : List Value).toArray below meth c H locs 0 0 (MQ below (Qv D [(h0, .inr (4, [.int places_', .int start_', .int fairPlaces_, .ref h_this_weights])), (h_this_weights, .inl (cI, 100, .inl weights_'))] A) ([.ref h0, .int p1, .int p2] : List Value).toArray s 0 0 A) (F0 m 67 ls []) := by
      intro x11 H locs ls h hw hl
      unfold f_X4_mergePlaces_J67 at h
      refine lv_aload_n hx hb dX4_mergePlaces_67 rfl (lv_at hl 0 rfl) ?_
      refine lv_iload_n hx hb dX4_mergePlaces_68 rfl (lv_at hl 1 rfl) ?_
      obtain ⟨x12, x13, a14, hc, h⟩ := bd3_inv h
      refine r_cVv X hw (As := [.int p2]) (rest := []) (wr := []) (ws' := [(h0, .inr (4, [.int x12, .int x13, .int fairPlaces_, .ref h_this_weights])), (h_this_weights, .inl (cI, 100, .inl a14))]) (c_X4_dropPlace l D cI cC cO N h0 h_this_weights p2 places_ x11 fairPlaces_ a10 x12 x13 a14 hc) (cs_X4_48 X (by decide)) [0, 1] [] [0, 1] rfl rfl rfl rfl (by decide) rfl rfl 0 rfl rfl rfl rfl hl.1 rfl (Nat.le_of_ble_eq_true rfl) dX4_mergePlaces_69 ⟨Nat.zero_le _, Nat.zero_le _⟩ (fun H locs hw => ?_)
      obtain ⟨rfl, rfl, rfl⟩ := oi3 h
      exact r_retv X hw hr hlk dX4_mergePlaces_72
    refine lv_icmp_ne (tgt := 67) hx hb dX4_mergePlaces_59 (by decide) (fun c1 => ?_) (fun c1 => ?_)
    · replace h := ig c1 h
      exact J67 start_ _ _ _ h hw (lv_sub hl [0, 2] rfl)
    · replace h := ip c1 h
      refine lv_aload_n hx hb dX4_mergePlaces_62 rfl (lv_at hl 0 rfl) ?_
      refine lv_iload_n hx hb dX4_mergePlaces_63 rfl (lv_at hl 1 rfl) ?_
      refine fp_X4_15 X hw 0 rfl rfl dX4_mergePlaces_64 (fun H locs hw => ?_)
      have hw : Wd D A s.heap [(h0, .inr (4, [.int places_, .int p1, .int fairPlaces_, .ref h_this_weights])), (h_this_weights, .inl (cI, 100, .inl a10))] H locs := hw
      exact J67 p1 _ _ _ h hw (lv_sub hl [0, 2] rfl)
  have L2 : ∀ (k7 : (Nat → Int32) → Option (Int32 × Int32 × (Nat → Int32))), (∀ (a10 : Nat → Int32) (H : Heap) (locs : List Loc) (ls : Array Slot), k7 a10 = some (places_', start_', weights_') → Wd D A s.heap [(h0, .inr (4, [.int places_, .int start_, .int fairPlaces_, .ref h_this_weights])), (h_this_weights, .inl (cI, 100, .inl a10))] H locs → lv_has ls 5 [(0, .ref h0), (1, .int p1), (2, .int p2)] → W p l e rmX4_mergePlaces s m ([.ref h0, .int p1, .int p2] : List Value).toArray below meth c H locs 0 0 (MQ below (Qv D [(h0, .inr (4, [.int places_', .int start_', .int fairPlaces_, .ref h_this_weights])), (h_this_weights, .inl (cI, 100, .inl weights_'))] A) ([.ref h0, .int p1, .int p2] : List Value).toArray s 0 0 A) (F0 m 54 ls [])) → ∀ (n9 : Nat), ∀ (x1 : Int32) (a2 : Nat → Int32) (H : Heap) (locs : List Loc) (ls : Array Slot), f_X4_mergePlaces_L2 places_ p1 p2 k7 n9 x1 a2 = some (places_', start_', weights_') → Wd D A s.heap [(h0, .inr (4, [.int places_, .int start_, .int fairPlaces_, .ref h_this_weights])), (h_this_weights, .inl (cI, 100, .inl a2))] H locs → lv_has ls 5 [(0, .ref h0), (1, .int p1), (2, .int p2), (3, .int x1)] → W p l e rmX4_mergePlaces s m ([.ref h0, .int p1, .int p2] : List Value).toArray below meth c H locs 0 0 (MQ below (Qv D [(h0, .inr (4, [.int places_', .int start_', .int fairPlaces_, .ref h_this_weights])), (h_this_weights, .inl (cI, 100, .inl weights_'))] A) ([.ref h0, .int p1, .int p2] : List Value).toArray s 0 0 A) (F0 m 2 ls []) := by
    intro k7 hk2 n9
    induction n9 with
    | zero => intro x1 a2 H locs ls h; cases h
    | succ n9 ih2 =>
      intro x1 a2 H locs ls h hw hl
      rw [f_X4_mergePlaces_L2] at h
      refine lv_iload_n hx hb dX4_mergePlaces_2 rfl (lv_at hl 3 rfl) ?_
      refine lv_aload_n hx hb dX4_mergePlaces_3 rfl (lv_at hl 0 rfl) ?_
      refine fg_X4_9 X hw 0 rfl rfl dX4_mergePlaces_4 ?_
      refine lv_icmp_ge (tgt := 54) hx hb dX4_mergePlaces_7 (by decide) (fun c1 => ?_) (fun c1 => ?_)
      · replace h := ip c1 h
        exact hk2 a2 _ _ _ h hw (lv_sub hl [0, 1, 2] rfl)
      · replace h := ig c1 h
        refine lv_iload_n hx hb dX4_mergePlaces_10 rfl (lv_at hl 3 rfl) ?_
        refine lv_iload_n hx hb dX4_mergePlaces_11 rfl (lv_at hl 1 rfl) ?_
        have J48 : ∀ (a6 : Nat → Int32) (H : Heap) (locs : List Loc) (ls : Array Slot), f_X4_mergePlaces_J48 (f_X4_mergePlaces_L2 places_ p1 p2 k7 n9) x1 a6 = some (places_', start_', weights_') → Wd D A s.heap [(h0, .inr (4, [.int places_, .int start_, .int fairPlaces_, .ref h_this_weights])), (h_this_weights, .inl (cI, 100, .inl a6))] H locs → lv_has ls 5 [(0, .ref h0), (1, .int p1), (2, .int p2), (3, .int x1)] → W p l e rmX4_mergePlaces s m ([.ref h0, .int p1, .int p2] : List Value).toArray below meth c H locs 0 0 (MQ below (Qv D [(h0, .inr (4, [.int places_', .int start_', .int fairPlaces_, .ref h_this_weights])), (h_this_weights, .inl (cI, 100, .inl weights_'))] A) ([.ref h0, .int p1, .int p2] : List Value).toArray s 0 0 A) (F0 m 48 ls []) := by
          intro a6 H locs ls h hw hl
          unfold f_X4_mergePlaces_J48 at h
          refine lv_iinc (v := (x1 + (1 : Int32))) (lv' := [(3, .int (x1 + (1 : Int32))), (0, .ref h0), (1, .int p1), (2, .int p2)]) hx hb dX4_mergePlaces_48 hl (k := 3) rfl rfl (by decide) rfl (fun ls hl => ?_)
          refine lv_goto (tgt := 2) hx hb dX4_mergePlaces_51 (by decide) ?_
          exact ih2 (x1 + (1 : Int32)) a6 _ _ _ h hw (lv_sub hl [1, 2, 3, 0] rfl)
        refine lv_icmp_eq (tgt := 48) hx hb dX4_mergePlaces_12 (by decide) (fun c1 => ?_) (fun c1 => ?_)
        · replace h := ip c1 h
          exact J48 a2 _ _ _ h hw (lv_sub hl [0, 1, 2, 3] rfl)
        · replace h := ig c1 h
          refine lv_iload_n hx hb dX4_mergePlaces_15 rfl (lv_at hl 3 rfl) ?_
          refine lv_iload_n hx hb dX4_mergePlaces_16 rfl (lv_at hl 2 rfl) ?_
          refine lv_icmp_eq (tgt := 48) hx hb dX4_mergePlaces_17 (by decide) (fun c1 => ?_) (fun c1 => ?_)
          · replace h := ip c1 h
            exact J48 a2 _ _ _ h hw (lv_sub hl [0, 1, 2, 3] rfl)
          · replace h := ig c1 h
            refine lv_aload_n hx hb dX4_mergePlaces_20 rfl (lv_at hl 0 rfl) ?_
            refine lv_iload_n hx hb dX4_mergePlaces_21 rfl (lv_at hl 1 rfl) ?_
            refine lv_iload_n hx hb dX4_mergePlaces_22 rfl (lv_at hl 3 rfl) ?_
            obtain ⟨r3, hc, h⟩ := bd1_inv h
            refine r_cVi X hw (As := [.int p1, .int x1]) (rest := []) (wr := []) (ws' := [(h0, .inr (4, [.int places_, .int start_, .int fairPlaces_, .ref h_this_weights])), (h_this_weights, .inl (cI, 100, .inl a2))]) (c_X4_tieOf l D cI cC cO h0 h_this_weights p1 x1 places_ start_ fairPlaces_ a2 r3 hc) (cs_X4_39 X (by decide)) [0, 1] [] [0, 1] rfl rfl rfl rfl (by decide) rfl rfl 0 rfl rfl rfl rfl hl.1 rfl (Nat.le_of_ble_eq_true rfl) dX4_mergePlaces_23 ⟨Nat.zero_le _, Nat.zero_le _⟩ (fun H locs hw => ?_)
            refine lv_aload_n hx hb dX4_mergePlaces_26 rfl (lv_at hl 0 rfl) ?_
            refine lv_iload_n hx hb dX4_mergePlaces_27 rfl (lv_at hl 2 rfl) ?_
            refine lv_iload_n hx hb dX4_mergePlaces_28 rfl (lv_at hl 3 rfl) ?_
            obtain ⟨r4, hc, h⟩ := bd1_inv h
            refine r_cVi X hw (As := [.int p2, .int x1]) (rest := [.int r3]) (wr := []) (ws' := [(h0, .inr (4, [.int places_, .int start_, .int fairPlaces_, .ref h_this_weights])), (h_this_weights, .inl (cI, 100, .inl a2))]) (c_X4_tieOf l D cI cC cO h0 h_this_weights p2 x1 places_ start_ fairPlaces_ a2 r4 hc) (cs_X4_39 X (by decide)) [0, 1] [] [0, 1] rfl rfl rfl rfl (by decide) rfl rfl 0 rfl rfl rfl rfl hl.1 rfl (Nat.le_of_ble_eq_true rfl) dX4_mergePlaces_29 ⟨Nat.zero_le _, Nat.zero_le _⟩ (fun H locs hw => ?_)
            refine lv_iadd hx hb dX4_mergePlaces_32 ?_
            refine lv_istore (lv' := [(4, .int (r3 + r4)), (0, .ref h0), (1, .int p1), (2, .int p2), (3, .int x1)]) hx hb dX4_mergePlaces_33 hl (by decide) rfl (fun ls hl => ?_)
            refine lv_aload_n hx hb dX4_mergePlaces_35 rfl (lv_at hl 1 rfl) ?_
            refine lv_iload_n hx hb dX4_mergePlaces_36 rfl (lv_at hl 2 rfl) ?_
            refine lv_iload_n hx hb dX4_mergePlaces_37 rfl (lv_at hl 4 rfl) ?_
            refine lv_iload hx hb dX4_mergePlaces_38 (lv_at hl 0 rfl) ?_
            refine lv_bipush (v := 99) hx hb dX4_mergePlaces_40 (by decide) ?_
            refine r_mmin X hl.1 tw_205 dX4_mergePlaces_42 (by decide) (Nat.le_of_ble_eq_true rfl) (by decide) (by decide) ?_
            obtain ⟨a5, hc, h⟩ := bd1_inv h
            refine r_cVv X hw (As := [.int p1, .int x1, .int (if (99 : Int32) < (r3 + r4) then (99 : Int32) else (r3 + r4))]) (rest := []) (wr := []) (ws' := [(h0, .inr (4, [.int places_, .int start_, .int fairPlaces_, .ref h_this_weights])), (h_this_weights, .inl (cI, 100, .inl a5))]) (c_X4_bind l D cI cC cO h0 h_this_weights p1 x1 (if (99 : Int32) < (r3 + r4) then (99 : Int32) else (r3 + r4)) places_ start_ fairPlaces_ a2 a5 hc) (cs_X4_35 X (by decide)) [0, 1] [] [0, 1] rfl rfl rfl rfl (by decide) rfl rfl 0 rfl rfl rfl rfl hl.1 rfl (Nat.le_of_ble_eq_true rfl) dX4_mergePlaces_45 ⟨Nat.zero_le _, Nat.zero_le _⟩ (fun H locs hw => ?_)
            exact J48 a5 _ _ _ h hw (lv_sub hl [1, 2, 3, 4] rfl)
  exact L2 (fun a10 => f_X4_mergePlaces_E54 N start_ p2 places_ p1 a10) (fun a10 H locs ls h hw hl => E54 a10 H locs ls h hw hl) N (0 : Int32) weights_ _ _ _ h hw (lv_sub hl [1, 2, 3, 0] rfl)
def rmX4_neighboursOf : Room := { frames := 2, cells := 0, slots := 0, locals := 43 }
set_option maxHeartbeats 4000000 in
set_option maxRecDepth 100000 in
theorem c_X4_neighboursOf (l : Launch) (D : va_G) (cI cC cO : ClassId) (N : Nat) (h0 h_this_weights : Nat) (p1 places_ start_ fairPlaces_ : Int32) (weights_ : Nat → Int32) (r_ : Int32) (h : f_X4_neighboursOf N p1 places_ weights_ = some r_) : CI l yX4_neighboursOf (Wy yX4_neighboursOf cX4_neighboursOf 4 (some .int)) rmX4_neighboursOf D cI cC cO [.ref h0, .int p1] [(h0, .inr (4, [.int places_, .int start_, .int fairPlaces_, .ref h_this_weights])), (h_this_weights, .inl (cI, 100, .inl weights_))] r_ [(h0, .inr (4, [.int places_, .int start_, .int fairPlaces_, .ref h_this_weights])), (h_this_weights, .inl (cI, 100, .inl weights_))] := by
  refine enter_i RX4 (by decide) rfl (Nat.le_of_ble_eq_true rfl) ?_
  intro p e s m below meth c A X hr hlk hw ls hl
  have hx := X.1.1
  have hb := X.1.2.1
  have hl : lv_has ls 4 [(0, .ref h0), (1, .int p1)] := hl
  unfold f_X4_neighboursOf at h
  refine lv_iconst (v := 0) hx hb dX4_neighboursOf_0 (by decide) ?_
  refine lv_istore_n (lv' := [(2, .int (0 : Int32)), (0, .ref h0), (1, .int p1)]) hx hb dX4_neighboursOf_1 rfl hl (by decide) rfl (fun ls hl => ?_)
  refine lv_iconst (v := 0) hx hb dX4_neighboursOf_2 (by decide) ?_
  refine lv_istore_n (lv' := [(3, .int (0 : Int32)), (2, .int (0 : Int32)), (0, .ref h0), (1, .int p1)]) hx hb dX4_neighboursOf_3 rfl hl (by decide) rfl (fun ls hl => ?_)
  have E33 : ∀ (x8 : Int32) (H : Heap) (locs : List Loc) (ls : Array Slot), f_X4_neighboursOf_E33 x8 = some r_ → Wd D A s.heap [(h0, .inr (4, [.int places_, .int start_, .int fairPlaces_, .ref h_this_weights])), (h_this_weights, .inl (cI, 100, .inl weights_))] H locs → lv_has ls 4 [(2, .int x8)] → W p l e rmX4_neighboursOf s m ([.ref h0, .int p1] : List Value).toArray below meth c H locs 0 0 (MQ below (Qi D r_ [(h0, .inr (4, [.int places_, .int start_, .int fairPlaces_, .ref h_this_weights])), (h_this_weights, .inl (cI, 100, .inl weights_))] A) ([.ref h0, .int p1] : List Value).toArray s 0 0 A) (F0 m 33 ls []) := by
    intro x8 H locs ls h hw hl
    unfold f_X4_neighboursOf_E33 at h
    refine lv_iload_n hx hb dX4_neighboursOf_33 rfl (lv_at hl 0 rfl) ?_
    obtain rfl := oi1 h
    exact r_ret X hw hr hlk dX4_neighboursOf_34
  have L4 : ∀ (k5 : Int32 → Option (Int32)), (∀ (x8 : Int32) (H : Heap) (locs : List Loc) (ls : Array Slot), k5 x8 = some r_ → Wd D A s.heap [(h0, .inr (4, [.int places_, .int start_, .int fairPlaces_, .ref h_this_weights])), (h_this_weights, .inl (cI, 100, .inl weights_))] H locs → lv_has ls 4 [(2, .int x8)] → W p l e rmX4_neighboursOf s m ([.ref h0, .int p1] : List Value).toArray below meth c H locs 0 0 (MQ below (Qi D r_ [(h0, .inr (4, [.int places_, .int start_, .int fairPlaces_, .ref h_this_weights])), (h_this_weights, .inl (cI, 100, .inl weights_))] A) ([.ref h0, .int p1] : List Value).toArray s 0 0 A) (F0 m 33 ls [])) → ∀ (n7 : Nat), ∀ (x1 x2 : Int32) (H : Heap) (locs : List Loc) (ls : Array Slot), f_X4_neighboursOf_L4 places_ p1 weights_ k5 n7 x1 x2 = some r_ → Wd D A s.heap [(h0, .inr (4, [.int places_, .int start_, .int fairPlaces_, .ref h_this_weights])), (h_this_weights, .inl (cI, 100, .inl weights_))] H locs → lv_has ls 4 [(0, .ref h0), (1, .int p1), (2, .int x1), (3, .int x2)] → W p l e rmX4_neighboursOf s m ([.ref h0, .int p1] : List Value).toArray below meth c H locs 0 0 (MQ below (Qi D r_ [(h0, .inr (4, [.int places_, .int start_, .int fairPlaces_, .ref h_this_weights])), (h_this_weights, .inl (cI, 100, .inl weights_))] A) ([.ref h0, .int p1] : List Value).toArray s 0 0 A) (F0 m 4 ls []) := by
    intro k5 hk4 n7
    induction n7 with
    | zero => intro x1 x2 H locs ls h; cases h
    | succ n7 ih4 =>
      intro x1 x2 H locs ls h hw hl
      rw [f_X4_neighboursOf_L4] at h
      refine lv_iload_n hx hb dX4_neighboursOf_4 rfl (lv_at hl 3 rfl) ?_
      refine lv_aload_n hx hb dX4_neighboursOf_5 rfl (lv_at hl 0 rfl) ?_
      refine fg_X4_9 X hw 0 rfl rfl dX4_neighboursOf_6 ?_
      refine lv_icmp_ge (tgt := 33) hx hb dX4_neighboursOf_9 (by decide) (fun c1 => ?_) (fun c1 => ?_)
      · replace h := ip c1 h
        exact hk4 x1 _ _ _ h hw (lv_sub hl [2] rfl)
      · replace h := ig c1 h
        refine lv_aload_n hx hb dX4_neighboursOf_12 rfl (lv_at hl 0 rfl) ?_
        refine lv_iload_n hx hb dX4_neighboursOf_13 rfl (lv_at hl 1 rfl) ?_
        refine lv_iload_n hx hb dX4_neighboursOf_14 rfl (lv_at hl 3 rfl) ?_
        obtain ⟨r3, hc, h⟩ := bd1_inv h
        refine r_cVi X hw (As := [.int p1, .int x2]) (rest := []) (wr := []) (ws' := [(h0, .inr (4, [.int places_, .int start_, .int fairPlaces_, .ref h_this_weights])), (h_this_weights, .inl (cI, 100, .inl weights_))]) (c_X4_tieOf l D cI cC cO h0 h_this_weights p1 x2 places_ start_ fairPlaces_ weights_ r3 hc) (cs_X4_39 X (by decide)) [0, 1] [] [0, 1] rfl rfl rfl rfl (by decide) rfl rfl 0 rfl rfl rfl rfl hl.1 rfl (Nat.le_of_ble_eq_true rfl) dX4_neighboursOf_15 ⟨Nat.zero_le _, Nat.zero_le _⟩ (fun H locs hw => ?_)
        have J27 : ∀ (x4 : Int32) (H : Heap) (locs : List Loc) (ls : Array Slot), f_X4_neighboursOf_J27 (f_X4_neighboursOf_L4 places_ p1 weights_ k5 n7) x2 x4 = some r_ → Wd D A s.heap [(h0, .inr (4, [.int places_, .int start_, .int fairPlaces_, .ref h_this_weights])), (h_this_weights, .inl (cI, 100, .inl weights_))] H locs → lv_has ls 4 [(0, .ref h0), (1, .int p1), (2, .int x4), (3, .int x2)] → W p l e rmX4_neighboursOf s m ([.ref h0, .int p1] : List Value).toArray below meth c H locs 0 0 (MQ below (Qi D r_ [(h0, .inr (4, [.int places_, .int start_, .int fairPlaces_, .ref h_this_weights])), (h_this_weights, .inl (cI, 100, .inl weights_))] A) ([.ref h0, .int p1] : List Value).toArray s 0 0 A) (F0 m 27 ls []) := by
          intro x4 H locs ls h hw hl
          unfold f_X4_neighboursOf_J27 at h
          refine lv_iinc (v := (x2 + (1 : Int32))) (lv' := [(3, .int (x2 + (1 : Int32))), (0, .ref h0), (1, .int p1), (2, .int x4)]) hx hb dX4_neighboursOf_27 hl (k := 3) rfl rfl (by decide) rfl (fun ls hl => ?_)
          refine lv_goto (tgt := 4) hx hb dX4_neighboursOf_30 (by decide) ?_
          exact ih4 x4 (x2 + (1 : Int32)) _ _ _ h hw (lv_sub hl [1, 2, 3, 0] rfl)
        refine lv_if_le (tgt := 27) hx hb dX4_neighboursOf_18 (by decide) (fun c1 => ?_) (fun c1 => ?_)
        · replace h := ip c1 h
          exact J27 x1 _ _ _ h hw (lv_sub hl [0, 1, 2, 3] rfl)
        · replace h := ig c1 h
          refine lv_iload_n hx hb dX4_neighboursOf_21 rfl (lv_at hl 2 rfl) ?_
          refine lv_iconst (v := 1) hx hb dX4_neighboursOf_22 (by decide) ?_
          refine lv_iload_n hx hb dX4_neighboursOf_23 rfl (lv_at hl 3 rfl) ?_
          refine lv_ishl hx hb dX4_neighboursOf_24 ?_
          refine lv_ior hx hb dX4_neighboursOf_25 ?_
          refine lv_istore_n (lv' := [(2, .int (x1 ||| ((1 : Int32) <<< (x2 &&& (31 : Int32))))), (0, .ref h0), (1, .int p1), (3, .int x2)]) hx hb dX4_neighboursOf_26 rfl hl (by decide) rfl (fun ls hl => ?_)
          exact J27 (x1 ||| ((1 : Int32) <<< (x2 &&& (31 : Int32)))) _ _ _ h hw (lv_sub hl [1, 2, 0, 3] rfl)
  exact L4 (fun x8 => f_X4_neighboursOf_E33 x8) (fun x8 H locs ls h hw hl => E33 x8 H locs ls h hw hl) N (0 : Int32) (0 : Int32) _ _ _ h hw (lv_sub hl [2, 3, 1, 0] rfl)
def rmX4_reachedFrom : Room := { frames := 3, cells := 0, slots := 0, locals := 66 }
section
variable {p : Program} {l : Launch} {e : Env} {R : Room} {s : State} {m : MethodId} {args : Array Value} {below : List Frame} {meth : Method} {c : Code} {H : Heap} {locs : List Loc} {cells slots : Nat} {Q : State → Prop}
variable {cc : ByteArray} {pc nL : Nat} {ls : Array Slot} {rest : List Value} {D : va_G} {cI cC cO : ClassId} {A : Nat → Prop} {ws : va_W} {H0 : Heap}
theorem cs_X4_52 (X : Ctx p m c cc nL s args RX4 D cI cC cO) (hR : rmX5_holds.frames + 1 ≤ R.frames ∧ 8 + (2 + 11) + rmX5_holds.locals ≤ R.locals) : va_CN R s args RX4 52 yX5_holds RX5 cX5_holds 2 (some .boolean) (Wy yX5_holds cX5_holds 2 (some .boolean)) rmX5_holds 0 0 2 ∧ (Cond.static yX5_holds).before args s = true ∧ True := ⟨va_cnB 2 X.1.2.2.2.2 (gi_all tw_293) rfl rfl rfl X.2.2.1.g12 (X.1.2.2.2.2 _ tw_1) (by decide +kernel) hR, X.1.2.2.2.2 _ tw_292, trivial⟩
theorem cs_X4_56 (X : Ctx p m c cc nL s args RX4 D cI cC cO) (hR : rmX4_neighboursOf.frames + 1 ≤ R.frames ∧ 8 + (4 + 11) + rmX4_neighboursOf.locals ≤ R.locals) : CallW R s args RX4 RX4 56 yX4_neighboursOf cX4_neighboursOf 4 (some .int) (Wy yX4_neighboursOf cX4_neighboursOf 4 (some .int)) rmX4_neighboursOf 0 0 1 := cwV 1 X.1.2.2.2.2 (gi_V tw_405 tw_397 tw_398 tw_2 tw_399) rfl rfl rfl (by decide +kernel) hR
end
set_option maxHeartbeats 4000000 in
set_option maxRecDepth 100000 in
theorem c_X4_reachedFrom (l : Launch) (D : va_G) (cI cC cO : ClassId) (N : Nat) (h0 h_this_weights : Nat) (p1 places_ start_ fairPlaces_ : Int32) (weights_ : Nat → Int32) (r_ : Int32) (h : f_X4_reachedFrom N p1 places_ weights_ = some r_) : CI l yX4_reachedFrom (Wy yX4_reachedFrom cX4_reachedFrom 5 (some .int)) rmX4_reachedFrom D cI cC cO [.ref h0, .int p1] [(h0, .inr (4, [.int places_, .int start_, .int fairPlaces_, .ref h_this_weights])), (h_this_weights, .inl (cI, 100, .inl weights_))] r_ [(h0, .inr (4, [.int places_, .int start_, .int fairPlaces_, .ref h_this_weights])), (h_this_weights, .inl (cI, 100, .inl weights_))] := by
  refine enter_i RX4 (by decide) rfl (Nat.le_of_ble_eq_true rfl) ?_
  intro p e s m below meth c A X hr hlk hw ls hl
  have hx := X.1.1
  have hb := X.1.2.1
  have hl : lv_has ls 5 [(0, .ref h0), (1, .int p1)] := hl
  unfold f_X4_reachedFrom at h
  refine lv_iconst (v := 1) hx hb dX4_reachedFrom_0 (by decide) ?_
  refine lv_iload_n hx hb dX4_reachedFrom_1 rfl (lv_at hl 1 rfl) ?_
  refine lv_ishl hx hb dX4_reachedFrom_2 ?_
  refine lv_istore_n (lv' := [(2, .int ((1 : Int32) <<< (p1 &&& (31 : Int32)))), (0, .ref h0), (1, .int p1)]) hx hb dX4_reachedFrom_3 rfl hl (by decide) rfl (fun ls hl => ?_)
  refine lv_iconst (v := 0) hx hb dX4_reachedFrom_4 (by decide) ?_
  refine lv_istore_n (lv' := [(3, .int (0 : Int32)), (2, .int ((1 : Int32) <<< (p1 &&& (31 : Int32)))), (0, .ref h0), (1, .int p1)]) hx hb dX4_reachedFrom_5 rfl hl (by decide) rfl (fun ls hl => ?_)
  have E56 : ∀ (x15 : Int32) (H : Heap) (locs : List Loc) (ls : Array Slot), f_X4_reachedFrom_E56 x15 = some r_ → Wd D A s.heap [(h0, .inr (4, [.int places_, .int start_, .int fairPlaces_, .ref h_this_weights])), (h_this_weights, .inl (cI, 100, .inl weights_))] H locs → lv_has ls 5 [(2, .int x15)] → W p l e rmX4_reachedFrom s m ([.ref h0, .int p1] : List Value).toArray below meth c H locs 0 0 (MQ below (Qi D r_ [(h0, .inr (4, [.int places_, .int start_, .int fairPlaces_, .ref h_this_weights])), (h_this_weights, .inl (cI, 100, .inl weights_))] A) ([.ref h0, .int p1] : List Value).toArray s 0 0 A) (F0 m 56 ls []) := by
    intro x15 H locs ls h hw hl
    unfold f_X4_reachedFrom_E56 at h
    refine lv_iload_n hx hb dX4_reachedFrom_56 rfl (lv_at hl 0 rfl) ?_
    obtain rfl := oi1 h
    exact r_ret X hw hr hlk dX4_reachedFrom_57
  have L6 : ∀ (k12 : Int32 → Option (Int32)), (∀ (x15 : Int32) (H : Heap) (locs : List Loc) (ls : Array Slot), k12 x15 = some r_ → Wd D A s.heap [(h0, .inr (4, [.int places_, .int start_, .int fairPlaces_, .ref h_this_weights])), (h_this_weights, .inl (cI, 100, .inl weights_))] H locs → lv_has ls 5 [(2, .int x15)] → W p l e rmX4_reachedFrom s m ([.ref h0, .int p1] : List Value).toArray below meth c H locs 0 0 (MQ below (Qi D r_ [(h0, .inr (4, [.int places_, .int start_, .int fairPlaces_, .ref h_this_weights])), (h_this_weights, .inl (cI, 100, .inl weights_))] A) ([.ref h0, .int p1] : List Value).toArray s 0 0 A) (F0 m 56 ls [])) → ∀ (n14 : Nat), ∀ (x1 x2 : Int32) (H : Heap) (locs : List Loc) (ls : Array Slot), f_X4_reachedFrom_L6 N places_ weights_ k12 n14 x1 x2 = some r_ → Wd D A s.heap [(h0, .inr (4, [.int places_, .int start_, .int fairPlaces_, .ref h_this_weights])), (h_this_weights, .inl (cI, 100, .inl weights_))] H locs → lv_has ls 5 [(0, .ref h0), (2, .int x1), (3, .int x2)] → W p l e rmX4_reachedFrom s m ([.ref h0, .int p1] : List Value).toArray below meth c H locs 0 0 (MQ below (Qi D r_ [(h0, .inr (4, [.int places_, .int start_, .int fairPlaces_, .ref h_this_weights])), (h_this_weights, .inl (cI, 100, .inl weights_))] A) ([.ref h0, .int p1] : List Value).toArray s 0 0 A) (F0 m 6 ls []) := by
    intro k12 hk6 n14
    induction n14 with
    | zero => intro x1 x2 H locs ls h; cases h
    | succ n14 ih6 =>
      intro x1 x2 H locs ls h hw hl
      rw [f_X4_reachedFrom_L6] at h
      refine lv_iload_n hx hb dX4_reachedFrom_6 rfl (lv_at hl 2 rfl) ?_
      refine lv_aload_n hx hb dX4_reachedFrom_7 rfl (lv_at hl 0 rfl) ?_
      refine fg_X4_9 X hw 0 rfl rfl dX4_reachedFrom_8 ?_
      refine lv_icmp_ge (tgt := 56) hx hb dX4_reachedFrom_11 (by decide) (fun c1 => ?_) (fun c1 => ?_)
      · replace h := ip c1 h
        exact hk6 x1 _ _ _ h hw (lv_sub hl [1] rfl)
      · replace h := ig c1 h
        refine lv_iconst (v := 0) hx hb dX4_reachedFrom_14 (by decide) ?_
        refine lv_istore (lv' := [(4, .int (0 : Int32)), (0, .ref h0), (2, .int x1), (3, .int x2)]) hx hb dX4_reachedFrom_15 hl (by decide) rfl (fun ls hl => ?_)
        have E50 : ∀ (x11 : Int32) (H : Heap) (locs : List Loc) (ls : Array Slot), f_X4_reachedFrom_E50 (f_X4_reachedFrom_L6 N places_ weights_ k12 n14) x2 x11 = some r_ → Wd D A s.heap [(h0, .inr (4, [.int places_, .int start_, .int fairPlaces_, .ref h_this_weights])), (h_this_weights, .inl (cI, 100, .inl weights_))] H locs → lv_has ls 5 [(0, .ref h0), (2, .int x11), (3, .int x2)] → W p l e rmX4_reachedFrom s m ([.ref h0, .int p1] : List Value).toArray below meth c H locs 0 0 (MQ below (Qi D r_ [(h0, .inr (4, [.int places_, .int start_, .int fairPlaces_, .ref h_this_weights])), (h_this_weights, .inl (cI, 100, .inl weights_))] A) ([.ref h0, .int p1] : List Value).toArray s 0 0 A) (F0 m 50 ls []) := by
          intro x11 H locs ls h hw hl
          unfold f_X4_reachedFrom_E50 at h
          refine lv_iinc (v := (x2 + (1 : Int32))) (lv' := [(3, .int (x2 + (1 : Int32))), (0, .ref h0), (2, .int x11)]) hx hb dX4_reachedFrom_50 hl (k := 2) rfl rfl (by decide) rfl (fun ls hl => ?_)
          refine lv_goto (tgt := 6) hx hb dX4_reachedFrom_53 (by decide) ?_
          exact ih6 x11 (x2 + (1 : Int32)) _ _ _ h hw (lv_sub hl [1, 2, 0] rfl)
        have L17 : ∀ (k8 : Int32 → Option (Int32)), (∀ (x11 : Int32) (H : Heap) (locs : List Loc) (ls : Array Slot), k8 x11 = some r_ → Wd D A s.heap [(h0, .inr (4, [.int places_, .int start_, .int fairPlaces_, .ref h_this_weights])), (h_this_weights, .inl (cI, 100, .inl weights_))] H locs → lv_has ls 5 [(0, .ref h0), (2, .int x11), (3, .int x2)] → W p l e rmX4_reachedFrom s m ([.ref h0, .int p1] : List Value).toArray below meth c H locs 0 0 (MQ below (Qi D r_ [(h0, .inr (4, [.int places_, .int start_, .int fairPlaces_, .ref h_this_weights])), (h_this_weights, .inl (cI, 100, .inl weights_))] A) ([.ref h0, .int p1] : List Value).toArray s 0 0 A) (F0 m 50 ls [])) → ∀ (n10 : Nat), ∀ (x3 x4 : Int32) (H : Heap) (locs : List Loc) (ls : Array Slot), f_X4_reachedFrom_L17 N places_ weights_ k8 n10 x3 x4 = some r_ → Wd D A s.heap [(h0, .inr (4, [.int places_, .int start_, .int fairPlaces_, .ref h_this_weights])), (h_this_weights, .inl (cI, 100, .inl weights_))] H locs → lv_has ls 5 [(0, .ref h0), (2, .int x3), (3, .int x2), (4, .int x4)] → W p l e rmX4_reachedFrom s m ([.ref h0, .int p1] : List Value).toArray below meth c H locs 0 0 (MQ below (Qi D r_ [(h0, .inr (4, [.int places_, .int start_, .int fairPlaces_, .ref h_this_weights])), (h_this_weights, .inl (cI, 100, .inl weights_))] A) ([.ref h0, .int p1] : List Value).toArray s 0 0 A) (F0 m 17 ls []) := by
          intro k8 hk17 n10
          induction n10 with
          | zero => intro x3 x4 H locs ls h; cases h
          | succ n10 ih17 =>
            intro x3 x4 H locs ls h hw hl
            rw [f_X4_reachedFrom_L17] at h
            refine lv_iload hx hb dX4_reachedFrom_17 (lv_at hl 3 rfl) ?_
            refine lv_aload_n hx hb dX4_reachedFrom_19 rfl (lv_at hl 0 rfl) ?_
            refine fg_X4_9 X hw 0 rfl rfl dX4_reachedFrom_20 ?_
            refine lv_icmp_ge (tgt := 50) hx hb dX4_reachedFrom_23 (by decide) (fun c1 => ?_) (fun c1 => ?_)
            · replace h := ip c1 h
              exact hk17 x3 _ _ _ h hw (lv_sub hl [0, 1, 2] rfl)
            · replace h := ig c1 h
              refine lv_iload_n hx hb dX4_reachedFrom_26 rfl (lv_at hl 1 rfl) ?_
              refine lv_iload hx hb dX4_reachedFrom_27 (lv_at hl 3 rfl) ?_
              obtain ⟨r5, hc, h⟩ := bd1_inv h
              refine r_cNi X hw (As := [.int x3, .int x4]) (rest := []) (c_X5_holds l D cI cC cO x3 x4 r5 hc) (cs_X4_52 X (by decide)) rfl hl.1 rfl (Nat.le_of_ble_eq_true rfl) dX4_reachedFrom_29 ⟨Nat.zero_le _, Nat.zero_le _⟩ (fun H locs hw => ?_)
              have J44 : ∀ (x7 : Int32) (H : Heap) (locs : List Loc) (ls : Array Slot), f_X4_reachedFrom_J44 (f_X4_reachedFrom_L17 N places_ weights_ k8 n10) x4 x7 = some r_ → Wd D A s.heap [(h0, .inr (4, [.int places_, .int start_, .int fairPlaces_, .ref h_this_weights])), (h_this_weights, .inl (cI, 100, .inl weights_))] H locs → lv_has ls 5 [(0, .ref h0), (2, .int x7), (3, .int x2), (4, .int x4)] → W p l e rmX4_reachedFrom s m ([.ref h0, .int p1] : List Value).toArray below meth c H locs 0 0 (MQ below (Qi D r_ [(h0, .inr (4, [.int places_, .int start_, .int fairPlaces_, .ref h_this_weights])), (h_this_weights, .inl (cI, 100, .inl weights_))] A) ([.ref h0, .int p1] : List Value).toArray s 0 0 A) (F0 m 44 ls []) := by
                intro x7 H locs ls h hw hl
                unfold f_X4_reachedFrom_J44 at h
                refine lv_iinc (v := (x4 + (1 : Int32))) (lv' := [(4, .int (x4 + (1 : Int32))), (0, .ref h0), (2, .int x7), (3, .int x2)]) hx hb dX4_reachedFrom_44 hl (k := 3) rfl rfl (by decide) rfl (fun ls hl => ?_)
                refine lv_goto (tgt := 17) hx hb dX4_reachedFrom_47 (by decide) ?_
                exact ih17 x7 (x4 + (1 : Int32)) _ _ _ h hw (lv_sub hl [1, 2, 3, 0] rfl)
              refine lv_if_eq (tgt := 44) hx hb dX4_reachedFrom_32 (by decide) (fun c1 => ?_) (fun c1 => ?_)
              · replace h := ip c1 h
                exact J44 x3 _ _ _ h hw (lv_sub hl [0, 1, 2, 3] rfl)
              · replace h := ig c1 h
                refine lv_iload_n hx hb dX4_reachedFrom_35 rfl (lv_at hl 1 rfl) ?_
                refine lv_aload_n hx hb dX4_reachedFrom_36 rfl (lv_at hl 0 rfl) ?_
                refine lv_iload hx hb dX4_reachedFrom_37 (lv_at hl 3 rfl) ?_
                obtain ⟨r6, hc, h⟩ := bd1_inv h
                refine r_cVi X hw (As := [.int x4]) (rest := [.int x3]) (wr := []) (ws' := [(h0, .inr (4, [.int places_, .int start_, .int fairPlaces_, .ref h_this_weights])), (h_this_weights, .inl (cI, 100, .inl weights_))]) (c_X4_neighboursOf l D cI cC cO N h0 h_this_weights x4 places_ start_ fairPlaces_ weights_ r6 hc) (cs_X4_56 X (by decide)) [0, 1] [] [0, 1] rfl rfl rfl rfl (by decide) rfl rfl 0 rfl rfl rfl rfl hl.1 rfl (Nat.le_of_ble_eq_true rfl) dX4_reachedFrom_39 ⟨Nat.zero_le _, Nat.zero_le _⟩ (fun H locs hw => ?_)
                refine lv_ior hx hb dX4_reachedFrom_42 ?_
                refine lv_istore_n (lv' := [(2, .int (x3 ||| r6)), (0, .ref h0), (3, .int x2), (4, .int x4)]) hx hb dX4_reachedFrom_43 rfl hl (by decide) rfl (fun ls hl => ?_)
                exact J44 (x3 ||| r6) _ _ _ h hw (lv_sub hl [1, 0, 2, 3] rfl)
        exact L17 (fun x11 => f_X4_reachedFrom_E50 (f_X4_reachedFrom_L6 N places_ weights_ k12 n14) x2 x11) (fun x11 H locs ls h hw hl => E50 x11 H locs ls h hw hl) N x1 (0 : Int32) _ _ _ h hw (lv_sub hl [1, 2, 3, 0] rfl)
  exact L6 (fun x15 => f_X4_reachedFrom_E56 x15) (fun x15 H locs ls h hw hl => E56 x15 H locs ls h hw hl) N ((1 : Int32) <<< (p1 &&& (31 : Int32))) (0 : Int32) _ _ _ h hw (lv_sub hl [2, 1, 0] rfl)
def rmX4_partCount : Room := { frames := 4, cells := 0, slots := 0, locals := 90 }
section
variable {p : Program} {l : Launch} {e : Env} {R : Room} {s : State} {m : MethodId} {args : Array Value} {below : List Frame} {meth : Method} {c : Code} {H : Heap} {locs : List Loc} {cells slots : Nat} {Q : State → Prop}
variable {cc : ByteArray} {pc nL : Nat} {ls : Array Slot} {rest : List Value} {D : va_G} {cI cC cO : ClassId} {A : Nat → Prop} {ws : va_W} {H0 : Heap}
theorem cs_X4_60 (X : Ctx p m c cc nL s args RX4 D cI cC cO) (hR : rmX4_reachedFrom.frames + 1 ≤ R.frames ∧ 8 + (5 + 11) + rmX4_reachedFrom.locals ≤ R.locals) : CallW R s args RX4 RX4 60 yX4_reachedFrom cX4_reachedFrom 5 (some .int) (Wy yX4_reachedFrom cX4_reachedFrom 5 (some .int)) rmX4_reachedFrom 0 0 1 := cwV 1 X.1.2.2.2.2 (gi_V tw_560 tw_401 tw_402 tw_2 tw_403) rfl rfl rfl (by decide +kernel) hR
end
set_option maxHeartbeats 4000000 in
set_option maxRecDepth 100000 in
theorem c_X4_partCount (l : Launch) (D : va_G) (cI cC cO : ClassId) (N : Nat) (h0 h_this_weights : Nat) (places_ start_ fairPlaces_ : Int32) (weights_ : Nat → Int32) (r_ : Int32) (h : f_X4_partCount N places_ weights_ = some r_) : CI l yX4_partCount (Wy yX4_partCount cX4_partCount 4 (some .int)) rmX4_partCount D cI cC cO [.ref h0] [(h0, .inr (4, [.int places_, .int start_, .int fairPlaces_, .ref h_this_weights])), (h_this_weights, .inl (cI, 100, .inl weights_))] r_ [(h0, .inr (4, [.int places_, .int start_, .int fairPlaces_, .ref h_this_weights])), (h_this_weights, .inl (cI, 100, .inl weights_))] := by
  refine enter_i RX4 (by decide) rfl (Nat.le_of_ble_eq_true rfl) ?_
  intro p e s m below meth c A X hr hlk hw ls hl
  have hx := X.1.1
  have hb := X.1.2.1
  have hl : lv_has ls 4 [(0, .ref h0)] := hl
  unfold f_X4_partCount at h
  refine lv_iconst (v := 0) hx hb dX4_partCount_0 (by decide) ?_
  refine lv_istore_n (lv' := [(1, .int (0 : Int32)), (0, .ref h0)]) hx hb dX4_partCount_1 rfl hl (by decide) rfl (fun ls hl => ?_)
  refine lv_iconst (v := 0) hx hb dX4_partCount_2 (by decide) ?_
  refine lv_istore_n (lv' := [(2, .int (0 : Int32)), (1, .int (0 : Int32)), (0, .ref h0)]) hx hb dX4_partCount_3 rfl hl (by decide) rfl (fun ls hl => ?_)
  refine lv_iconst (v := 0) hx hb dX4_partCount_4 (by decide) ?_
  refine lv_istore_n (lv' := [(3, .int (0 : Int32)), (2, .int (0 : Int32)), (1, .int (0 : Int32)), (0, .ref h0)]) hx hb dX4_partCount_5 rfl hl (by decide) rfl (fun ls hl => ?_)
  have E39 : ∀ (x11 : Int32) (H : Heap) (locs : List Loc) (ls : Array Slot), f_X4_partCount_E39 x11 = some r_ → Wd D A s.heap [(h0, .inr (4, [.int places_, .int start_, .int fairPlaces_, .ref h_this_weights])), (h_this_weights, .inl (cI, 100, .inl weights_))] H locs → lv_has ls 4 [(2, .int x11)] → W p l e rmX4_partCount s m ([.ref h0] : List Value).toArray below meth c H locs 0 0 (MQ below (Qi D r_ [(h0, .inr (4, [.int places_, .int start_, .int fairPlaces_, .ref h_this_weights])), (h_this_weights, .inl (cI, 100, .inl weights_))] A) ([.ref h0] : List Value).toArray s 0 0 A) (F0 m 39 ls []) := by
    intro x11 H locs ls h hw hl
    unfold f_X4_partCount_E39 at h
    refine lv_iload_n hx hb dX4_partCount_39 rfl (lv_at hl 0 rfl) ?_
    obtain rfl := oi1 h
    exact r_ret X hw hr hlk dX4_partCount_40
  have L6 : ∀ (k8 : Int32 → Option (Int32)), (∀ (x11 : Int32) (H : Heap) (locs : List Loc) (ls : Array Slot), k8 x11 = some r_ → Wd D A s.heap [(h0, .inr (4, [.int places_, .int start_, .int fairPlaces_, .ref h_this_weights])), (h_this_weights, .inl (cI, 100, .inl weights_))] H locs → lv_has ls 4 [(2, .int x11)] → W p l e rmX4_partCount s m ([.ref h0] : List Value).toArray below meth c H locs 0 0 (MQ below (Qi D r_ [(h0, .inr (4, [.int places_, .int start_, .int fairPlaces_, .ref h_this_weights])), (h_this_weights, .inl (cI, 100, .inl weights_))] A) ([.ref h0] : List Value).toArray s 0 0 A) (F0 m 39 ls [])) → ∀ (n10 : Nat), ∀ (x1 x2 x3 : Int32) (H : Heap) (locs : List Loc) (ls : Array Slot), f_X4_partCount_L6 N places_ weights_ k8 n10 x1 x2 x3 = some r_ → Wd D A s.heap [(h0, .inr (4, [.int places_, .int start_, .int fairPlaces_, .ref h_this_weights])), (h_this_weights, .inl (cI, 100, .inl weights_))] H locs → lv_has ls 4 [(0, .ref h0), (1, .int x1), (2, .int x2), (3, .int x3)] → W p l e rmX4_partCount s m ([.ref h0] : List Value).toArray below meth c H locs 0 0 (MQ below (Qi D r_ [(h0, .inr (4, [.int places_, .int start_, .int fairPlaces_, .ref h_this_weights])), (h_this_weights, .inl (cI, 100, .inl weights_))] A) ([.ref h0] : List Value).toArray s 0 0 A) (F0 m 6 ls []) := by
    intro k8 hk6 n10
    induction n10 with
    | zero => intro x1 x2 x3 H locs ls h; cases h
    | succ n10 ih6 =>
      intro x1 x2 x3 H locs ls h hw hl
      rw [f_X4_partCount_L6] at h
      refine lv_iload_n hx hb dX4_partCount_6 rfl (lv_at hl 3 rfl) ?_
      refine lv_aload_n hx hb dX4_partCount_7 rfl (lv_at hl 0 rfl) ?_
      refine fg_X4_9 X hw 0 rfl rfl dX4_partCount_8 ?_
      refine lv_icmp_ge (tgt := 39) hx hb dX4_partCount_11 (by decide) (fun c1 => ?_) (fun c1 => ?_)
      · replace h := ip c1 h
        exact hk6 x2 _ _ _ h hw (lv_sub hl [2] rfl)
      · replace h := ig c1 h
        refine lv_iload_n hx hb dX4_partCount_14 rfl (lv_at hl 1 rfl) ?_
        refine lv_iload_n hx hb dX4_partCount_15 rfl (lv_at hl 3 rfl) ?_
        obtain ⟨r4, hc, h⟩ := bd1_inv h
        refine r_cNi X hw (As := [.int x1, .int x3]) (rest := []) (c_X5_holds l D cI cC cO x1 x3 r4 hc) (cs_X4_52 X (by decide)) rfl hl.1 rfl (Nat.le_of_ble_eq_true rfl) dX4_partCount_16 ⟨Nat.zero_le _, Nat.zero_le _⟩ (fun H locs hw => ?_)
        have J33 : ∀ (x6 x7 : Int32) (H : Heap) (locs : List Loc) (ls : Array Slot), f_X4_partCount_J33 (f_X4_partCount_L6 N places_ weights_ k8 n10) x3 x6 x7 = some r_ → Wd D A s.heap [(h0, .inr (4, [.int places_, .int start_, .int fairPlaces_, .ref h_this_weights])), (h_this_weights, .inl (cI, 100, .inl weights_))] H locs → lv_has ls 4 [(0, .ref h0), (1, .int x6), (2, .int x7), (3, .int x3)] → W p l e rmX4_partCount s m ([.ref h0] : List Value).toArray below meth c H locs 0 0 (MQ below (Qi D r_ [(h0, .inr (4, [.int places_, .int start_, .int fairPlaces_, .ref h_this_weights])), (h_this_weights, .inl (cI, 100, .inl weights_))] A) ([.ref h0] : List Value).toArray s 0 0 A) (F0 m 33 ls []) := by
          intro x6 x7 H locs ls h hw hl
          unfold f_X4_partCount_J33 at h
          refine lv_iinc (v := (x3 + (1 : Int32))) (lv' := [(3, .int (x3 + (1 : Int32))), (0, .ref h0), (1, .int x6), (2, .int x7)]) hx hb dX4_partCount_33 hl (k := 3) rfl rfl (by decide) rfl (fun ls hl => ?_)
          refine lv_goto (tgt := 6) hx hb dX4_partCount_36 (by decide) ?_
          exact ih6 x6 x7 (x3 + (1 : Int32)) _ _ _ h hw (lv_sub hl [1, 2, 3, 0] rfl)
        refine lv_if_ne (tgt := 33) hx hb dX4_partCount_19 (by decide) (fun c1 => ?_) (fun c1 => ?_)
        · replace h := ig c1 h
          exact J33 x1 x2 _ _ _ h hw (lv_sub hl [0, 1, 2, 3] rfl)
        · replace h := ip c1 h
          refine lv_iload_n hx hb dX4_partCount_22 rfl (lv_at hl 1 rfl) ?_
          refine lv_aload_n hx hb dX4_partCount_23 rfl (lv_at hl 0 rfl) ?_
          refine lv_iload_n hx hb dX4_partCount_24 rfl (lv_at hl 3 rfl) ?_
          obtain ⟨r5, hc, h⟩ := bd1_inv h
          refine r_cVi X hw (As := [.int x3]) (rest := [.int x1]) (wr := []) (ws' := [(h0, .inr (4, [.int places_, .int start_, .int fairPlaces_, .ref h_this_weights])), (h_this_weights, .inl (cI, 100, .inl weights_))]) (c_X4_reachedFrom l D cI cC cO N h0 h_this_weights x3 places_ start_ fairPlaces_ weights_ r5 hc) (cs_X4_60 X (by decide)) [0, 1] [] [0, 1] rfl rfl rfl rfl (by decide) rfl rfl 0 rfl rfl rfl rfl hl.1 rfl (Nat.le_of_ble_eq_true rfl) dX4_partCount_25 ⟨Nat.zero_le _, Nat.zero_le _⟩ (fun H locs hw => ?_)
          refine lv_ior hx hb dX4_partCount_28 ?_
          refine lv_istore_n (lv' := [(1, .int (x1 ||| r5)), (0, .ref h0), (2, .int x2), (3, .int x3)]) hx hb dX4_partCount_29 rfl hl (by decide) rfl (fun ls hl => ?_)
          refine lv_iinc (v := (x2 + (1 : Int32))) (lv' := [(2, .int (x2 + (1 : Int32))), (1, .int (x1 ||| r5)), (0, .ref h0), (3, .int x3)]) hx hb dX4_partCount_30 hl (k := 2) rfl rfl (by decide) rfl (fun ls hl => ?_)
          exact J33 (x1 ||| r5) (x2 + (1 : Int32)) _ _ _ h hw (lv_sub hl [2, 1, 0, 3] rfl)
  exact L6 (fun x11 => f_X4_partCount_E39 x11) (fun x11 H locs ls h hw hl => E39 x11 H locs ls h hw hl) N (0 : Int32) (0 : Int32) (0 : Int32) _ _ _ h hw (lv_sub hl [3, 2, 1, 0] rfl)
def rmX4_tieCount : Room := { frames := 3, cells := 0, slots := 0, locals := 66 }
section
variable {p : Program} {l : Launch} {e : Env} {R : Room} {s : State} {m : MethodId} {args : Array Value} {below : List Frame} {meth : Method} {c : Code} {H : Heap} {locs : List Loc} {cells slots : Nat} {Q : State → Prop}
variable {cc : ByteArray} {pc nL : Nat} {ls : Array Slot} {rest : List Value} {D : va_G} {cI cC cO : ClassId} {A : Nat → Prop} {ws : va_W} {H0 : Heap}
theorem cs_X4_63 (X : Ctx p m c cc nL s args RX4 D cI cC cO) (hR : rmJ6_bitCount_0f7a4.frames + 1 ≤ R.frames ∧ 8 + (1 + 11) + rmJ6_bitCount_0f7a4.locals ≤ R.locals) : CallB R s args RX4 63 yJ6_bitCount_0f7a4 cJ6_bitCount_0f7a4 1 (some .int) (Wy yJ6_bitCount_0f7a4 cJ6_bitCount_0f7a4 1 (some .int)) rmJ6_bitCount_0f7a4 0 0 1 ∧ (Cond.static yJ6_bitCount_0f7a4).before args s = true := va_cwS 1 X.1.2.2.2.2 (gi_S tw_542 tw_483 tw_10 tw_484) rfl rfl rfl (by decide +kernel) hR
end
set_option maxHeartbeats 4000000 in
set_option maxRecDepth 100000 in
theorem c_X4_tieCount (l : Launch) (D : va_G) (cI cC cO : ClassId) (N : Nat) (h0 h_this_weights : Nat) (places_ start_ fairPlaces_ : Int32) (weights_ : Nat → Int32) (r_ : Int32) (h : f_X4_tieCount N places_ weights_ = some r_) : CI l yX4_tieCount (Wy yX4_tieCount cX4_tieCount 3 (some .int)) rmX4_tieCount D cI cC cO [.ref h0] [(h0, .inr (4, [.int places_, .int start_, .int fairPlaces_, .ref h_this_weights])), (h_this_weights, .inl (cI, 100, .inl weights_))] r_ [(h0, .inr (4, [.int places_, .int start_, .int fairPlaces_, .ref h_this_weights])), (h_this_weights, .inl (cI, 100, .inl weights_))] := by
  refine enter_i RX4 (by decide) rfl (Nat.le_of_ble_eq_true rfl) ?_
  intro p e s m below meth c A X hr hlk hw ls hl
  have hx := X.1.1
  have hb := X.1.2.1
  have hl : lv_has ls 3 [(0, .ref h0)] := hl
  unfold f_X4_tieCount at h
  refine lv_iconst (v := 0) hx hb dX4_tieCount_0 (by decide) ?_
  refine lv_istore_n (lv' := [(1, .int (0 : Int32)), (0, .ref h0)]) hx hb dX4_tieCount_1 rfl hl (by decide) rfl (fun ls hl => ?_)
  refine lv_iconst (v := 0) hx hb dX4_tieCount_2 (by decide) ?_
  refine lv_istore_n (lv' := [(2, .int (0 : Int32)), (1, .int (0 : Int32)), (0, .ref h0)]) hx hb dX4_tieCount_3 rfl hl (by decide) rfl (fun ls hl => ?_)
  have E29 : ∀ (x8 : Int32) (H : Heap) (locs : List Loc) (ls : Array Slot), f_X4_tieCount_E29 x8 = some r_ → Wd D A s.heap [(h0, .inr (4, [.int places_, .int start_, .int fairPlaces_, .ref h_this_weights])), (h_this_weights, .inl (cI, 100, .inl weights_))] H locs → lv_has ls 3 [(1, .int x8)] → W p l e rmX4_tieCount s m ([.ref h0] : List Value).toArray below meth c H locs 0 0 (MQ below (Qi D r_ [(h0, .inr (4, [.int places_, .int start_, .int fairPlaces_, .ref h_this_weights])), (h_this_weights, .inl (cI, 100, .inl weights_))] A) ([.ref h0] : List Value).toArray s 0 0 A) (F0 m 29 ls []) := by
    intro x8 H locs ls h hw hl
    unfold f_X4_tieCount_E29 at h
    refine lv_iload_n hx hb dX4_tieCount_29 rfl (lv_at hl 0 rfl) ?_
    refine lv_iconst (v := 2) hx hb dX4_tieCount_30 (by decide) ?_
    refine lv_idiv hx hb dX4_tieCount_31 (by decide) ?_
    obtain rfl := oi1 h
    exact r_ret X hw hr hlk dX4_tieCount_32
  have L4 : ∀ (k5 : Int32 → Option (Int32)), (∀ (x8 : Int32) (H : Heap) (locs : List Loc) (ls : Array Slot), k5 x8 = some r_ → Wd D A s.heap [(h0, .inr (4, [.int places_, .int start_, .int fairPlaces_, .ref h_this_weights])), (h_this_weights, .inl (cI, 100, .inl weights_))] H locs → lv_has ls 3 [(1, .int x8)] → W p l e rmX4_tieCount s m ([.ref h0] : List Value).toArray below meth c H locs 0 0 (MQ below (Qi D r_ [(h0, .inr (4, [.int places_, .int start_, .int fairPlaces_, .ref h_this_weights])), (h_this_weights, .inl (cI, 100, .inl weights_))] A) ([.ref h0] : List Value).toArray s 0 0 A) (F0 m 29 ls [])) → ∀ (n7 : Nat), ∀ (x1 x2 : Int32) (H : Heap) (locs : List Loc) (ls : Array Slot), f_X4_tieCount_L4 N places_ weights_ k5 n7 x1 x2 = some r_ → Wd D A s.heap [(h0, .inr (4, [.int places_, .int start_, .int fairPlaces_, .ref h_this_weights])), (h_this_weights, .inl (cI, 100, .inl weights_))] H locs → lv_has ls 3 [(0, .ref h0), (1, .int x1), (2, .int x2)] → W p l e rmX4_tieCount s m ([.ref h0] : List Value).toArray below meth c H locs 0 0 (MQ below (Qi D r_ [(h0, .inr (4, [.int places_, .int start_, .int fairPlaces_, .ref h_this_weights])), (h_this_weights, .inl (cI, 100, .inl weights_))] A) ([.ref h0] : List Value).toArray s 0 0 A) (F0 m 4 ls []) := by
    intro k5 hk4 n7
    induction n7 with
    | zero => intro x1 x2 H locs ls h; cases h
    | succ n7 ih4 =>
      intro x1 x2 H locs ls h hw hl
      rw [f_X4_tieCount_L4] at h
      refine lv_iload_n hx hb dX4_tieCount_4 rfl (lv_at hl 2 rfl) ?_
      refine lv_aload_n hx hb dX4_tieCount_5 rfl (lv_at hl 0 rfl) ?_
      refine fg_X4_9 X hw 0 rfl rfl dX4_tieCount_6 ?_
      refine lv_icmp_ge (tgt := 29) hx hb dX4_tieCount_9 (by decide) (fun c1 => ?_) (fun c1 => ?_)
      · replace h := ip c1 h
        exact hk4 x1 _ _ _ h hw (lv_sub hl [1] rfl)
      · replace h := ig c1 h
        refine lv_iload_n hx hb dX4_tieCount_12 rfl (lv_at hl 1 rfl) ?_
        refine lv_aload_n hx hb dX4_tieCount_13 rfl (lv_at hl 0 rfl) ?_
        refine lv_iload_n hx hb dX4_tieCount_14 rfl (lv_at hl 2 rfl) ?_
        obtain ⟨r3, hc, h⟩ := bd1_inv h
        refine r_cVi X hw (As := [.int x2]) (rest := [.int x1]) (wr := []) (ws' := [(h0, .inr (4, [.int places_, .int start_, .int fairPlaces_, .ref h_this_weights])), (h_this_weights, .inl (cI, 100, .inl weights_))]) (c_X4_neighboursOf l D cI cC cO N h0 h_this_weights x2 places_ start_ fairPlaces_ weights_ r3 hc) (cs_X4_56 X (by decide)) [0, 1] [] [0, 1] rfl rfl rfl rfl (by decide) rfl rfl 0 rfl rfl rfl rfl hl.1 rfl (Nat.le_of_ble_eq_true rfl) dX4_tieCount_15 ⟨Nat.zero_le _, Nat.zero_le _⟩ (fun H locs hw => ?_)
        obtain ⟨r4, hc, h⟩ := bd1_inv h
        refine r_cSi X hw (As := [.int r3]) (rest := [.int x1]) (c_J6_bitCount_0f7a4 l D cI cC cO r3 r4 hc) (cs_X4_63 X (by decide)) rfl hl.1 rfl (Nat.le_of_ble_eq_true rfl) dX4_tieCount_18 ⟨Nat.zero_le _, Nat.zero_le _⟩ (fun H locs hw => ?_)
        refine lv_iadd hx hb dX4_tieCount_21 ?_
        refine lv_istore_n (lv' := [(1, .int (x1 + r4)), (0, .ref h0), (2, .int x2)]) hx hb dX4_tieCount_22 rfl hl (by decide) rfl (fun ls hl => ?_)
        refine lv_iinc (v := (x2 + (1 : Int32))) (lv' := [(2, .int (x2 + (1 : Int32))), (1, .int (x1 + r4)), (0, .ref h0)]) hx hb dX4_tieCount_23 hl (k := 2) rfl rfl (by decide) rfl (fun ls hl => ?_)
        refine lv_goto (tgt := 4) hx hb dX4_tieCount_26 (by decide) ?_
        exact ih4 (x1 + r4) (x2 + (1 : Int32)) _ _ _ h hw (lv_sub hl [2, 1, 0] rfl)
  exact L4 (fun x8 => f_X4_tieCount_E29 x8) (fun x8 H locs ls h hw hl => E29 x8 H locs ls h hw hl) N (0 : Int32) (0 : Int32) _ _ _ h hw (lv_sub hl [2, 1, 0] rfl)
def rmX4_allWeights : Room := { frames := 3, cells := 0, slots := 0, locals := 66 }
section
variable {p : Program} {l : Launch} {e : Env} {R : Room} {s : State} {m : MethodId} {args : Array Value} {below : List Frame} {meth : Method} {c : Code} {H : Heap} {locs : List Loc} {cells slots : Nat} {Q : State → Prop}
variable {cc : ByteArray} {pc nL : Nat} {ls : Array Slot} {rest : List Value} {D : va_G} {cI cC cO : ClassId} {A : Nat → Prop} {ws : va_W} {H0 : Heap}
theorem cs_X4_68 (X : Ctx p m c cc nL s args RX4 D cI cC cO) (hR : rmX4_weightsOf.frames + 1 ≤ R.frames ∧ 8 + (4 + 11) + rmX4_weightsOf.locals ≤ R.locals) : CallW R s args RX4 RX4 68 yX4_weightsOf cX4_weightsOf 4 (some .int) (Wy yX4_weightsOf cX4_weightsOf 4 (some .int)) rmX4_weightsOf 0 0 1 := cwV 1 X.1.2.2.2.2 (gi_V tw_547 tw_393 tw_394 tw_2 tw_395) rfl rfl rfl (by decide +kernel) hR
end
set_option maxHeartbeats 4000000 in
set_option maxRecDepth 100000 in
theorem c_X4_allWeights (l : Launch) (D : va_G) (cI cC cO : ClassId) (N : Nat) (h0 h_this_weights : Nat) (places_ start_ fairPlaces_ : Int32) (weights_ : Nat → Int32) (r_ : Int32) (h : f_X4_allWeights N places_ weights_ = some r_) : CI l yX4_allWeights (Wy yX4_allWeights cX4_allWeights 3 (some .int)) rmX4_allWeights D cI cC cO [.ref h0] [(h0, .inr (4, [.int places_, .int start_, .int fairPlaces_, .ref h_this_weights])), (h_this_weights, .inl (cI, 100, .inl weights_))] r_ [(h0, .inr (4, [.int places_, .int start_, .int fairPlaces_, .ref h_this_weights])), (h_this_weights, .inl (cI, 100, .inl weights_))] := by
  refine enter_i RX4 (by decide) rfl (Nat.le_of_ble_eq_true rfl) ?_
  intro p e s m below meth c A X hr hlk hw ls hl
  have hx := X.1.1
  have hb := X.1.2.1
  have hl : lv_has ls 3 [(0, .ref h0)] := hl
  unfold f_X4_allWeights at h
  refine lv_iconst (v := 0) hx hb dX4_allWeights_0 (by decide) ?_
  refine lv_istore_n (lv' := [(1, .int (0 : Int32)), (0, .ref h0)]) hx hb dX4_allWeights_1 rfl hl (by decide) rfl (fun ls hl => ?_)
  refine lv_iconst (v := 0) hx hb dX4_allWeights_2 (by decide) ?_
  refine lv_istore_n (lv' := [(2, .int (0 : Int32)), (1, .int (0 : Int32)), (0, .ref h0)]) hx hb dX4_allWeights_3 rfl hl (by decide) rfl (fun ls hl => ?_)
  have E26 : ∀ (x7 : Int32) (H : Heap) (locs : List Loc) (ls : Array Slot), f_X4_allWeights_E26 x7 = some r_ → Wd D A s.heap [(h0, .inr (4, [.int places_, .int start_, .int fairPlaces_, .ref h_this_weights])), (h_this_weights, .inl (cI, 100, .inl weights_))] H locs → lv_has ls 3 [(1, .int x7)] → W p l e rmX4_allWeights s m ([.ref h0] : List Value).toArray below meth c H locs 0 0 (MQ below (Qi D r_ [(h0, .inr (4, [.int places_, .int start_, .int fairPlaces_, .ref h_this_weights])), (h_this_weights, .inl (cI, 100, .inl weights_))] A) ([.ref h0] : List Value).toArray s 0 0 A) (F0 m 26 ls []) := by
    intro x7 H locs ls h hw hl
    unfold f_X4_allWeights_E26 at h
    refine lv_iload_n hx hb dX4_allWeights_26 rfl (lv_at hl 0 rfl) ?_
    refine lv_iconst (v := 2) hx hb dX4_allWeights_27 (by decide) ?_
    refine lv_idiv hx hb dX4_allWeights_28 (by decide) ?_
    obtain rfl := oi1 h
    exact r_ret X hw hr hlk dX4_allWeights_29
  have L4 : ∀ (k4 : Int32 → Option (Int32)), (∀ (x7 : Int32) (H : Heap) (locs : List Loc) (ls : Array Slot), k4 x7 = some r_ → Wd D A s.heap [(h0, .inr (4, [.int places_, .int start_, .int fairPlaces_, .ref h_this_weights])), (h_this_weights, .inl (cI, 100, .inl weights_))] H locs → lv_has ls 3 [(1, .int x7)] → W p l e rmX4_allWeights s m ([.ref h0] : List Value).toArray below meth c H locs 0 0 (MQ below (Qi D r_ [(h0, .inr (4, [.int places_, .int start_, .int fairPlaces_, .ref h_this_weights])), (h_this_weights, .inl (cI, 100, .inl weights_))] A) ([.ref h0] : List Value).toArray s 0 0 A) (F0 m 26 ls [])) → ∀ (n6 : Nat), ∀ (x1 x2 : Int32) (H : Heap) (locs : List Loc) (ls : Array Slot), f_X4_allWeights_L4 N places_ weights_ k4 n6 x1 x2 = some r_ → Wd D A s.heap [(h0, .inr (4, [.int places_, .int start_, .int fairPlaces_, .ref h_this_weights])), (h_this_weights, .inl (cI, 100, .inl weights_))] H locs → lv_has ls 3 [(0, .ref h0), (1, .int x1), (2, .int x2)] → W p l e rmX4_allWeights s m ([.ref h0] : List Value).toArray below meth c H locs 0 0 (MQ below (Qi D r_ [(h0, .inr (4, [.int places_, .int start_, .int fairPlaces_, .ref h_this_weights])), (h_this_weights, .inl (cI, 100, .inl weights_))] A) ([.ref h0] : List Value).toArray s 0 0 A) (F0 m 4 ls []) := by
    intro k4 hk4 n6
    induction n6 with
    | zero => intro x1 x2 H locs ls h; cases h
    | succ n6 ih4 =>
      intro x1 x2 H locs ls h hw hl
      rw [f_X4_allWeights_L4] at h
      refine lv_iload_n hx hb dX4_allWeights_4 rfl (lv_at hl 2 rfl) ?_
      refine lv_aload_n hx hb dX4_allWeights_5 rfl (lv_at hl 0 rfl) ?_
      refine fg_X4_9 X hw 0 rfl rfl dX4_allWeights_6 ?_
      refine lv_icmp_ge (tgt := 26) hx hb dX4_allWeights_9 (by decide) (fun c1 => ?_) (fun c1 => ?_)
      · replace h := ip c1 h
        exact hk4 x1 _ _ _ h hw (lv_sub hl [1] rfl)
      · replace h := ig c1 h
        refine lv_iload_n hx hb dX4_allWeights_12 rfl (lv_at hl 1 rfl) ?_
        refine lv_aload_n hx hb dX4_allWeights_13 rfl (lv_at hl 0 rfl) ?_
        refine lv_iload_n hx hb dX4_allWeights_14 rfl (lv_at hl 2 rfl) ?_
        obtain ⟨r3, hc, h⟩ := bd1_inv h
        refine r_cVi X hw (As := [.int x2]) (rest := [.int x1]) (wr := []) (ws' := [(h0, .inr (4, [.int places_, .int start_, .int fairPlaces_, .ref h_this_weights])), (h_this_weights, .inl (cI, 100, .inl weights_))]) (c_X4_weightsOf l D cI cC cO N h0 h_this_weights x2 places_ start_ fairPlaces_ weights_ r3 hc) (cs_X4_68 X (by decide)) [0, 1] [] [0, 1] rfl rfl rfl rfl (by decide) rfl rfl 0 rfl rfl rfl rfl hl.1 rfl (Nat.le_of_ble_eq_true rfl) dX4_allWeights_15 ⟨Nat.zero_le _, Nat.zero_le _⟩ (fun H locs hw => ?_)
        refine lv_iadd hx hb dX4_allWeights_18 ?_
        refine lv_istore_n (lv' := [(1, .int (x1 + r3)), (0, .ref h0), (2, .int x2)]) hx hb dX4_allWeights_19 rfl hl (by decide) rfl (fun ls hl => ?_)
        refine lv_iinc (v := (x2 + (1 : Int32))) (lv' := [(2, .int (x2 + (1 : Int32))), (1, .int (x1 + r3)), (0, .ref h0)]) hx hb dX4_allWeights_20 hl (k := 2) rfl rfl (by decide) rfl (fun ls hl => ?_)
        refine lv_goto (tgt := 4) hx hb dX4_allWeights_23 (by decide) ?_
        exact ih4 (x1 + r3) (x2 + (1 : Int32)) _ _ _ h hw (lv_sub hl [2, 1, 0] rfl)
  exact L4 (fun x7 => f_X4_allWeights_E26 x7) (fun x7 H locs ls h hw hl => E26 x7 H locs ls h hw hl) N (0 : Int32) (0 : Int32) _ _ _ h hw (lv_sub hl [2, 1, 0] rfl)
