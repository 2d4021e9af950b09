def rmX6_in : Room := { frames := 0, cells := 0, slots := 0, locals := 0 }
set_option maxHeartbeats 4000000 in
set_option maxRecDepth 100000 in
theorem c_X6_in (l : Launch) (D : va_G) (cI cC cO : ClassId) (p0 p1 p2 : Int32) (r_ : Int32) (h : f_X6_in p0 p1 p2 = some r_) : CI l yX6_in (Wy yX6_in cX6_in 3 (some .boolean)) rmX6_in D cI cC cO [.int p0, .int p1, .int p2] [] r_ [] := by
  refine enter_i RX6 (by decide) rfl (Nat.le_of_ble_eq_true rfl) ?_
  intro p e s m below meth c A X hr hlk hw ls hl
  have hx := X.1.1
  have hb := X.1.2.1
  have hl : lv_has ls 3 [(0, .int p0), (1, .int p1), (2, .int p2)] := hl
  unfold f_X6_in at h
  refine lv_iload_n hx hb dX6_in_0 rfl (lv_at hl 0 rfl) ?_
  refine lv_iload_n hx hb dX6_in_1 rfl (lv_at hl 1 rfl) ?_
  refine lv_icmp_lt (tgt := 14) hx hb dX6_in_2 (by decide) (fun c1 => ?_) (fun c1 => ?_)
  · replace h := ip c1 h
    refine lv_iconst (v := 0) hx hb dX6_in_14 (by decide) ?_
    obtain rfl := oi1 h
    exact r_retz X hw hr (Or.inl rfl) hlk dX6_in_15
  · replace h := ig c1 h
    refine lv_iload_n hx hb dX6_in_5 rfl (lv_at hl 0 rfl) ?_
    refine lv_iload_n hx hb dX6_in_6 rfl (lv_at hl 2 rfl) ?_
    refine lv_icmp_gt (tgt := 14) hx hb dX6_in_7 (by decide) (fun c1 => ?_) (fun c1 => ?_)
    · replace h := ip c1 h
      refine lv_iconst (v := 0) hx hb dX6_in_14 (by decide) ?_
      obtain rfl := oi1 h
      exact r_retz X hw hr (Or.inl rfl) hlk dX6_in_15
    · replace h := ig c1 h
      refine lv_iconst (v := 1) hx hb dX6_in_10 (by decide) ?_
      refine lv_goto (tgt := 15) hx hb dX6_in_11 (by decide) ?_
      obtain rfl := oi1 h
      exact r_retz X hw hr (Or.inr rfl) hlk dX6_in_15
def rmX6_isPlace : Room := { frames := 1, cells := 0, slots := 0, locals := 22 }
section
variable {p : Program} {l : Launch} {e : Env} {R : Room} {s : State} {m : MethodId} {args : Array Value} {below : List Frame} {meth : Method} {c : Code} {H : Heap} {locs : List Loc} {cells slots : Nat} {Q : State → Prop}
variable {cc : ByteArray} {pc nL : Nat} {ls : Array Slot} {rest : List Value} {D : va_G} {cI cC cO : ClassId} {A : Nat → Prop} {ws : va_W} {H0 : Heap}
theorem cs_X6_38 (X : Ctx p m c cc nL s args RX6 D cI cC cO) (hR : rmX6_in.frames + 1 ≤ R.frames ∧ 8 + (3 + 11) + rmX6_in.locals ≤ R.locals) : CallB R s args RX6 38 yX6_in cX6_in 3 (some .boolean) (Wy yX6_in cX6_in 3 (some .boolean)) rmX6_in 0 0 3 ∧ (Cond.static yX6_in).before args s = true := va_cwS 3 X.1.2.2.2.2 (gi_S tw_619 tw_620 tw_7 tw_621) rfl rfl rfl (by decide +kernel) hR
end
set_option maxHeartbeats 4000000 in
set_option maxRecDepth 100000 in
theorem c_X6_isPlace (l : Launch) (D : va_G) (cI cC cO : ClassId) (h0 h_this_s h_this_saved h_this_snapshot h_this_text h_this_lumps h_this_order h_this_nears h_this_told : Nat) (p1 thrown_ savedMany_ hasSnapshot_ length_ lumpMany_ partingSet_ partingWeight_ at_ isWell_ toldMany_ : Int32) (s_ : Nat → Int32) (r_ : Int32) (h : f_X6_isPlace p1 s_ = some r_) : CI l yX6_isPlace (Wy yX6_isPlace cX6_isPlace 2 (some .boolean)) rmX6_isPlace D cI cC cO [.ref h0, .int p1] [(h0, .inr (6, [.int thrown_, .ref h_this_s, .ref h_this_saved, .int savedMany_, .ref h_this_snapshot, .int hasSnapshot_, .ref h_this_text, .int length_, .ref h_this_lumps, .int lumpMany_, .ref h_this_order, .ref h_this_nears, .int partingSet_, .int partingWeight_, .int at_, .int isWell_, .ref h_this_told, .int toldMany_])), (h_this_s, .inl (cI, 103, .inl s_))] r_ [(h0, .inr (6, [.int thrown_, .ref h_this_s, .ref h_this_saved, .int savedMany_, .ref h_this_snapshot, .int hasSnapshot_, .ref h_this_text, .int length_, .ref h_this_lumps, .int lumpMany_, .ref h_this_order, .ref h_this_nears, .int partingSet_, .int partingWeight_, .int at_, .int isWell_, .ref h_this_told, .int toldMany_])), (h_this_s, .inl (cI, 103, .inl s_))] := by
  refine enter_i RX6 (by decide) rfl (Nat.le_of_ble_eq_true rfl) ?_
  intro p e s m below meth c A X hr hlk hw ls hl
  have hx := X.1.1
  have hb := X.1.2.1
  have hl : lv_has ls 2 [(0, .ref h0), (1, .int p1)] := hl
  unfold f_X6_isPlace at h
  refine lv_iload_n hx hb dX6_isPlace_0 rfl (lv_at hl 1 rfl) ?_
  refine lv_iconst (v := 0) hx hb dX6_isPlace_1 (by decide) ?_
  refine lv_aload_n hx hb dX6_isPlace_2 rfl (lv_at hl 0 rfl) ?_
  refine fg_X6_7 X hw 0 rfl rfl dX6_isPlace_3 ?_
  refine lv_iconst (v := 0) hx hb dX6_isPlace_6 (by decide) ?_
  refine r_iald X hw 1 rfl (v := (s_ 0)) (vp_lit (by decide)) rfl dX6_isPlace_7 ?_
  refine lv_iconst (v := 1) hx hb dX6_isPlace_8 (by decide) ?_
  refine lv_isub hx hb dX6_isPlace_9 ?_
  obtain ⟨r1, hc, h⟩ := bd1_inv h
  refine r_cSi X hw (As := [.int p1, .int (0 : Int32), .int ((s_ 0) - (1 : Int32))]) (rest := []) (c_X6_in l D cI cC cO p1 (0 : Int32) ((s_ 0) - (1 : Int32)) r1 hc) (cs_X6_38 X (by decide)) rfl hl.1 rfl (Nat.le_of_ble_eq_true rfl) dX6_isPlace_10 ⟨Nat.zero_le _, Nat.zero_le _⟩ (fun H locs hw => ?_)
  obtain ⟨b1, h⟩ := chkB_inv h
  obtain rfl := oi1 h
  exact r_retz X hw hr b1 hlk dX6_isPlace_13
def rmX6_tied : Room := { frames := 0, cells := 0, slots := 0, locals := 0 }
set_option maxHeartbeats 4000000 in
set_option maxRecDepth 100000 in
theorem c_X6_tied (l : Launch) (D : va_G) (cI cC cO : ClassId) (h0 h_this_s h_this_saved h_this_snapshot h_this_text h_this_lumps h_this_order h_this_nears h_this_told : Nat) (p1 p2 thrown_ savedMany_ hasSnapshot_ length_ lumpMany_ partingSet_ partingWeight_ at_ isWell_ toldMany_ : Int32) (s_ : Nat → Int32) (r_ : Int32) (h : f_X6_tied p1 p2 s_ = some r_) : CI l yX6_tied (Wy yX6_tied cX6_tied 3 (some .int)) rmX6_tied D cI cC cO [.ref h0, .int p1, .int p2] [(h0, .inr (6, [.int thrown_, .ref h_this_s, .ref h_this_saved, .int savedMany_, .ref h_this_snapshot, .int hasSnapshot_, .ref h_this_text, .int length_, .ref h_this_lumps, .int lumpMany_, .ref h_this_order, .ref h_this_nears, .int partingSet_, .int partingWeight_, .int at_, .int isWell_, .ref h_this_told, .int toldMany_])), (h_this_s, .inl (cI, 103, .inl s_))] r_ [(h0, .inr (6, [.int thrown_, .ref h_this_s, .ref h_this_saved, .int savedMany_, .ref h_this_snapshot, .int hasSnapshot_, .ref h_this_text, .int length_, .ref h_this_lumps, .int lumpMany_, .ref h_this_order, .ref h_this_nears, .int partingSet_, .int partingWeight_, .int at_, .int isWell_, .ref h_this_told, .int toldMany_])), (h_this_s, .inl (cI, 103, .inl s_))] := by
  refine enter_i RX6 (by decide) rfl (Nat.le_of_ble_eq_true rfl) ?_
  intro p e s m below meth c A X hr hlk hw ls hl
  have hx := X.1.1
  have hb := X.1.2.1
  have hl : lv_has ls 3 [(0, .ref h0), (1, .int p1), (2, .int p2)] := hl
  unfold f_X6_tied at h
  refine lv_aload_n hx hb dX6_tied_0 rfl (lv_at hl 0 rfl) ?_
  refine fg_X6_7 X hw 0 rfl rfl dX6_tied_1 ?_
  refine lv_iconst (v := 3) hx hb dX6_tied_4 (by decide) ?_
  refine lv_bipush (v := 10) hx hb dX6_tied_5 (by decide) ?_
  refine lv_iload_n hx hb dX6_tied_7 rfl (lv_at hl 1 rfl) ?_
  refine lv_imul hx hb dX6_tied_8 ?_
  refine lv_iadd hx hb dX6_tied_9 ?_
  refine lv_iload_n hx hb dX6_tied_10 rfl (lv_at hl 2 rfl) ?_
  refine lv_iadd hx hb dX6_tied_11 ?_
  obtain ⟨b1, h⟩ := chk_inv h
  refine r_iald X hw 1 rfl b1 rfl dX6_tied_12 ?_
  obtain rfl := oi1 h
  exact r_ret X hw hr hlk dX6_tied_13
def rmX6_ties : Room := { frames := 0, cells := 0, slots := 0, locals := 0 }
set_option maxHeartbeats 4000000 in
set_option maxRecDepth 100000 in
theorem c_X6_ties (l : Launch) (D : va_G) (cI cC cO : ClassId) (h0 h_this_s h_this_saved h_this_snapshot h_this_text h_this_lumps h_this_order h_this_nears h_this_told : Nat) (p1 p2 p3 thrown_ savedMany_ hasSnapshot_ length_ lumpMany_ partingSet_ partingWeight_ at_ isWell_ toldMany_ : Int32) (s_ : Nat → Int32) (s_' : Nat → Int32) (h : f_X6_ties p1 p2 p3 s_ = some s_') : CV l yX6_ties (Wy yX6_ties cX6_ties 4 none) rmX6_ties D cI cC cO [.ref h0, .int p1, .int p2, .int p3] [(h0, .inr (6, [.int thrown_, .ref h_this_s, .ref h_this_saved, .int savedMany_, .ref h_this_snapshot, .int hasSnapshot_, .ref h_this_text, .int length_, .ref h_this_lumps, .int lumpMany_, .ref h_this_order, .ref h_this_nears, .int partingSet_, .int partingWeight_, .int at_, .int isWell_, .ref h_this_told, .int toldMany_])), (h_this_s, .inl (cI, 103, .inl s_))] [(h0, .inr (6, [.int thrown_, .ref h_this_s, .ref h_this_saved, .int savedMany_, .ref h_this_snapshot, .int hasSnapshot_, .ref h_this_text, .int length_, .ref h_this_lumps, .int lumpMany_, .ref h_this_order, .ref h_this_nears, .int partingSet_, .int partingWeight_, .int at_, .int isWell_, .ref h_this_told, .int toldMany_])), (h_this_s, .inl (cI, 103, .inl s_'))] := by
  refine enter_v RX6 (by decide) rfl (Nat.le_of_ble_eq_true rfl) ?_
  intro p e s m below meth c A X hr hlk hw ls hl
  have hx := X.1.1
  have hb := X.1.2.1
  have hl : lv_has ls 4 [(0, .ref h0), (1, .int p1), (2, .int p2), (3, .int p3)] := hl
  unfold f_X6_ties at h
  refine lv_aload_n hx hb dX6_ties_0 rfl (lv_at hl 0 rfl) ?_
  refine fg_X6_7 X hw 0 rfl rfl dX6_ties_1 ?_
  refine lv_iconst (v := 3) hx hb dX6_ties_4 (by decide) ?_
  refine lv_bipush (v := 10) hx hb dX6_ties_5 (by decide) ?_
  refine lv_iload_n hx hb dX6_ties_7 rfl (lv_at hl 1 rfl) ?_
  refine lv_imul hx hb dX6_ties_8 ?_
  refine lv_iadd hx hb dX6_ties_9 ?_
  refine lv_iload_n hx hb dX6_ties_10 rfl (lv_at hl 2 rfl) ?_
  refine lv_iadd hx hb dX6_ties_11 ?_
  refine lv_iload_n hx hb dX6_ties_12 rfl (lv_at hl 3 rfl) ?_
  obtain ⟨b1, h⟩ := chk_inv h
  refine r_iast X hw 1 rfl b1 rfl dX6_ties_13 (fun H locs hw => ?_)
  have hw : Wd D A s.heap [(h0, .inr (6, [.int thrown_, .ref h_this_s, .ref h_this_saved, .int savedMany_, .ref h_this_snapshot, .int hasSnapshot_, .ref h_this_text, .int length_, .ref h_this_lumps, .int lumpMany_, .ref h_this_order, .ref h_this_nears, .int partingSet_, .int partingWeight_, .int at_, .int isWell_, .ref h_this_told, .int toldMany_])), (h_this_s, .inl (cI, 103, .inl (upd s_ ((((3 : Int32) + ((10 : Int32) * p1)) + p2)).toNatClampNeg p3)))] H locs := hw
  refine lv_aload_n hx hb dX6_ties_14 rfl (lv_at hl 0 rfl) ?_
  refine fg_X6_7 X hw 0 rfl rfl dX6_ties_15 ?_
  refine lv_iconst (v := 3) hx hb dX6_ties_18 (by decide) ?_
  refine lv_bipush (v := 10) hx hb dX6_ties_19 (by decide) ?_
  refine lv_iload_n hx hb dX6_ties_21 rfl (lv_at hl 2 rfl) ?_
  refine lv_imul hx hb dX6_ties_22 ?_
  refine lv_iadd hx hb dX6_ties_23 ?_
  refine lv_iload_n hx hb dX6_ties_24 rfl (lv_at hl 1 rfl) ?_
  refine lv_iadd hx hb dX6_ties_25 ?_
  refine lv_iload_n hx hb dX6_ties_26 rfl (lv_at hl 3 rfl) ?_
  obtain ⟨b1, h⟩ := chk_inv h
  refine r_iast X hw 1 rfl b1 rfl dX6_ties_27 (fun H locs hw => ?_)
  have hw : Wd D A s.heap [(h0, .inr (6, [.int thrown_, .ref h_this_s, .ref h_this_saved, .int savedMany_, .ref h_this_snapshot, .int hasSnapshot_, .ref h_this_text, .int length_, .ref h_this_lumps, .int lumpMany_, .ref h_this_order, .ref h_this_nears, .int partingSet_, .int partingWeight_, .int at_, .int isWell_, .ref h_this_told, .int toldMany_])), (h_this_s, .inl (cI, 103, .inl (upd (upd s_ ((((3 : Int32) + ((10 : Int32) * p1)) + p2)).toNatClampNeg p3) ((((3 : Int32) + ((10 : Int32) * p2)) + p1)).toNatClampNeg p3)))] H locs := hw
  obtain rfl := oi1 h
  exact r_retv X hw hr hlk dX6_ties_28
def rmX6_all : Room := { frames := 0, cells := 0, slots := 0, locals := 0 }
set_option maxHeartbeats 4000000 in
set_option maxRecDepth 100000 in
theorem c_X6_all (l : Launch) (D : va_G) (cI cC cO : ClassId) (h0 h_this_s h_this_saved h_this_snapshot h_this_text h_this_lumps h_this_order h_this_nears h_this_told : Nat) (thrown_ savedMany_ hasSnapshot_ length_ lumpMany_ partingSet_ partingWeight_ at_ isWell_ toldMany_ : Int32) (s_ : Nat → Int32) (r_ : Int32) (h : f_X6_all s_ = some r_) : CI l yX6_all (Wy yX6_all cX6_all 1 (some .int)) rmX6_all D cI cC cO [.ref h0] [(h0, .inr (6, [.int thrown_, .ref h_this_s, .ref h_this_saved, .int savedMany_, .ref h_this_snapshot, .int hasSnapshot_, .ref h_this_text, .int length_, .ref h_this_lumps, .int lumpMany_, .ref h_this_order, .ref h_this_nears, .int partingSet_, .int partingWeight_, .int at_, .int isWell_, .ref h_this_told, .int toldMany_])), (h_this_s, .inl (cI, 103, .inl s_))] r_ [(h0, .inr (6, [.int thrown_, .ref h_this_s, .ref h_this_saved, .int savedMany_, .ref h_this_snapshot, .int hasSnapshot_, .ref h_this_text, .int length_, .ref h_this_lumps, .int lumpMany_, .ref h_this_order, .ref h_this_nears, .int partingSet_, .int partingWeight_, .int at_, .int isWell_, .ref h_this_told, .int toldMany_])), (h_this_s, .inl (cI, 103, .inl s_))] := by
  refine enter_i RX6 (by decide) rfl (Nat.le_of_ble_eq_true rfl) ?_
  intro p e s m below meth c A X hr hlk hw ls hl
  have hx := X.1.1
  have hb := X.1.2.1
  have hl : lv_has ls 1 [(0, .ref h0)] := hl
  unfold f_X6_all at h
  refine lv_iconst (v := 1) hx hb dX6_all_0 (by decide) ?_
  refine lv_aload_n hx hb dX6_all_1 rfl (lv_at hl 0 rfl) ?_
  refine fg_X6_7 X hw 0 rfl rfl dX6_all_2 ?_
  refine lv_iconst (v := 0) hx hb dX6_all_5 (by decide) ?_
  refine r_iald X hw 1 rfl (v := (s_ 0)) (vp_lit (by decide)) rfl dX6_all_6 ?_
  refine lv_ishl hx hb dX6_all_7 ?_
  refine lv_iconst (v := 1) hx hb dX6_all_8 (by decide) ?_
  refine lv_isub hx hb dX6_all_9 ?_
  obtain rfl := oi1 h
  exact r_ret X hw hr hlk dX6_all_10
def rmX6_records : Room := { frames := 0, cells := 0, slots := 0, locals := 0 }
set_option maxHeartbeats 4000000 in
set_option maxRecDepth 100000 in
theorem c_X6_records (l : Launch) (D : va_G) (cI cC cO : ClassId) (N : Nat) (h0 h_this_s h_this_saved h_this_snapshot h_this_text h_this_lumps h_this_order h_this_nears h_this_told : Nat) (thrown_ savedMany_ hasSnapshot_ length_ lumpMany_ partingSet_ partingWeight_ at_ isWell_ toldMany_ : Int32) (s_ saved_ : Nat → Int32) (savedMany_' : Int32) (saved_' : Nat → Int32) (h : f_X6_records N savedMany_ s_ saved_ = some (savedMany_', saved_')) : CV l yX6_records (Wy yX6_records cX6_records 2 none) rmX6_records D cI cC cO [.ref h0] [(h0, .inr (6, [.int thrown_, .ref h_this_s, .ref h_this_saved, .int savedMany_, .ref h_this_snapshot, .int hasSnapshot_, .ref h_this_text, .int length_, .ref h_this_lumps, .int lumpMany_, .ref h_this_order, .ref h_this_nears, .int partingSet_, .int partingWeight_, .int at_, .int isWell_, .ref h_this_told, .int toldMany_])), (h_this_s, .inl (cI, 103, .inl s_)), (h_this_saved, .inl (cI, 412, .inl saved_))] [(h0, .inr (6, [.int thrown_, .ref h_this_s, .ref h_this_saved, .int savedMany_', .ref h_this_snapshot, .int hasSnapshot_, .ref h_this_text, .int length_, .ref h_this_lumps, .int lumpMany_, .ref h_this_order, .ref h_this_nears, .int partingSet_, .int partingWeight_, .int at_, .int isWell_, .ref h_this_told, .int toldMany_])), (h_this_s, .inl (cI, 103, .inl s_)), (h_this_saved, .inl (cI, 412, .inl saved_'))] := by
  refine enter_v RX6 (by decide) rfl (Nat.le_of_ble_eq_true rfl) ?_
  intro p e s m below meth c A X hr hlk hw ls hl
  have hx := X.1.1
  have hb := X.1.2.1
  have hl : lv_has ls 2 [(0, .ref h0)] := hl
  unfold f_X6_records at h
  refine lv_aload_n hx hb dX6_records_0 rfl (lv_at hl 0 rfl) ?_
  refine fg_X6_42 X hw 0 rfl rfl dX6_records_1 ?_
  refine lv_iconst (v := 4) hx hb dX6_records_4 (by decide) ?_
  have J48 : ∀ (x7 : Int32) (a8 : Nat → Int32) (H : Heap) (locs : List Loc) (ls : Array Slot), f_X6_records_J48 N s_ x7 a8 = some (savedMany_', saved_') → Wd D A s.heap [(h0, .inr (6, [.int thrown_, .ref h_this_s, .ref h_this_saved, .int x7, .ref h_this_snapshot, .int hasSnapshot_, .ref h_this_text, .int length_, .ref h_this_lumps, .int lumpMany_, .ref h_this_order, .ref h_this_nears, .int partingSet_, .int partingWeight_, .int at_, .int isWell_, .ref h_this_told, .int toldMany_])), (h_this_s, .inl (cI, 103, .inl s_)), (h_this_saved, .inl (cI, 412, .inl a8))] H locs → lv_has ls 2 [(0, .ref h0)] → W p l e rmX6_records s m ([.ref h0] : List Value).toArray below meth c H locs 0 0 (MQ below (Qv D [(h0, .inr (6, [.int thrown_, .ref h_this_s, .ref h_this_saved, .int savedMany_', .ref h_this_snapshot, .int hasSnapshot_, .ref h_this_text, .int length_, .ref h_this_lumps, .int lumpMany_, .ref h_this_order, .ref h_this_nears, .int partingSet_, .int partingWeight_, .int at_, .int isWell_, .ref h_this_told, .int toldMany_])), (h_this_s, .inl (cI, 103, .inl s_)), (h_this_saved, .inl (cI, 412, .inl saved_'))] A) ([.ref h0] : List Value).toArray s 0 0 A) (F0 m 48 ls []) := by
    intro x7 a8 H locs ls h hw hl
    unfold f_X6_records_J48 at h
    refine lv_iconst (v := 0) hx hb dX6_records_48 (by decide) ?_
    refine lv_istore_n (lv' := [(1, .int (0 : Int32)), (0, .ref h0)]) hx hb dX6_records_49 rfl hl (by decide) rfl (fun ls hl => ?_)
    have E82 : ∀ (a14 : Nat → Int32) (H : Heap) (locs : List Loc) (ls : Array Slot), f_X6_records_E82 x7 a14 = some (savedMany_', saved_') → Wd D A s.heap [(h0, .inr (6, [.int thrown_, .ref h_this_s, .ref h_this_saved, .int x7, .ref h_this_snapshot, .int hasSnapshot_, .ref h_this_text, .int length_, .ref h_this_lumps, .int lumpMany_, .ref h_this_order, .ref h_this_nears, .int partingSet_, .int partingWeight_, .int at_, .int isWell_, .ref h_this_told, .int toldMany_])), (h_this_s, .inl (cI, 103, .inl s_)), (h_this_saved, .inl (cI, 412, .inl a14))] H locs → lv_has ls 2 [(0, .ref h0)] → W p l e rmX6_records s m ([.ref h0] : List Value).toArray below meth c H locs 0 0 (MQ below (Qv D [(h0, .inr (6, [.int thrown_, .ref h_this_s, .ref h_this_saved, .int savedMany_', .ref h_this_snapshot, .int hasSnapshot_, .ref h_this_text, .int length_, .ref h_this_lumps, .int lumpMany_, .ref h_this_order, .ref h_this_nears, .int partingSet_, .int partingWeight_, .int at_, .int isWell_, .ref h_this_told, .int toldMany_])), (h_this_s, .inl (cI, 103, .inl s_)), (h_this_saved, .inl (cI, 412, .inl saved_'))] A) ([.ref h0] : List Value).toArray s 0 0 A) (F0 m 82 ls []) := by
      intro a14 H locs ls h hw hl
      unfold f_X6_records_E82 at h
      refine lv_aload_n hx hb dX6_records_82 rfl (lv_at hl 0 rfl) ?_
      refine lv_dup hx hb dX6_records_83 rfl ?_
      refine fg_X6_42 X hw 0 rfl rfl dX6_records_84 ?_
      refine lv_iconst (v := 1) hx hb dX6_records_87 (by decide) ?_
      refine lv_iadd hx hb dX6_records_88 ?_
      refine fp_X6_42 X hw 0 rfl rfl dX6_records_89 (fun H locs hw => ?_)
      have hw : Wd D A s.heap [(h0, .inr (6, [.int thrown_, .ref h_this_s, .ref h_this_saved, .int (x7 + (1 : Int32)), .ref h_this_snapshot, .int hasSnapshot_, .ref h_this_text, .int length_, .ref h_this_lumps, .int lumpMany_, .ref h_this_order, .ref h_this_nears, .int partingSet_, .int partingWeight_, .int at_, .int isWell_, .ref h_this_told, .int toldMany_])), (h_this_s, .inl (cI, 103, .inl s_)), (h_this_saved, .inl (cI, 412, .inl a14))] H locs := hw
      obtain ⟨rfl, rfl⟩ := oi2 h
      exact r_retv X hw hr hlk dX6_records_92
    have L50 : ∀ (k11 : (Nat → Int32) → Option (Int32 × (Nat → Int32))), (∀ (a14 : Nat → Int32) (H : Heap) (locs : List Loc) (ls : Array Slot), k11 a14 = some (savedMany_', saved_') → Wd D A s.heap [(h0, .inr (6, [.int thrown_, .ref h_this_s, .ref h_this_saved, .int x7, .ref h_this_snapshot, .int hasSnapshot_, .ref h_this_text, .int length_, .ref h_this_lumps, .int lumpMany_, .ref h_this_order, .ref h_this_nears, .int partingSet_, .int partingWeight_, .int at_, .int isWell_, .ref h_this_told, .int toldMany_])), (h_this_s, .inl (cI, 103, .inl s_)), (h_this_saved, .inl (cI, 412, .inl a14))] H locs → lv_has ls 2 [(0, .ref h0)] → W p l e rmX6_records s m ([.ref h0] : List Value).toArray below meth c H locs 0 0 (MQ below (Qv D [(h0, .inr (6, [.int thrown_, .ref h_this_s, .ref h_this_saved, .int savedMany_', .ref h_this_snapshot, .int hasSnapshot_, .ref h_this_text, .int length_, .ref h_this_lumps, .int lumpMany_, .ref h_this_order, .ref h_this_nears, .int partingSet_, .int partingWeight_, .int at_, .int isWell_, .ref h_this_told, .int toldMany_])), (h_this_s, .inl (cI, 103, .inl s_)), (h_this_saved, .inl (cI, 412, .inl saved_'))] A) ([.ref h0] : List Value).toArray s 0 0 A) (F0 m 82 ls [])) → ∀ (n13 : Nat), ∀ (x9 : Int32) (a10 : Nat → Int32) (H : Heap) (locs : List Loc) (ls : Array Slot), f_X6_records_L50 x7 s_ k11 n13 x9 a10 = some (savedMany_', saved_') → Wd D A s.heap [(h0, .inr (6, [.int thrown_, .ref h_this_s, .ref h_this_saved, .int x7, .ref h_this_snapshot, .int hasSnapshot_, .ref h_this_text, .int length_, .ref h_this_lumps, .int lumpMany_, .ref h_this_order, .ref h_this_nears, .int partingSet_, .int partingWeight_, .int at_, .int isWell_, .ref h_this_told, .int toldMany_])), (h_this_s, .inl (cI, 103, .inl s_)), (h_this_saved, .inl (cI, 412, .inl a10))] H locs → lv_has ls 2 [(0, .ref h0), (1, .int x9)] → W p l e rmX6_records s m ([.ref h0] : List Value).toArray below meth c H locs 0 0 (MQ below (Qv D [(h0, .inr (6, [.int thrown_, .ref h_this_s, .ref h_this_saved, .int savedMany_', .ref h_this_snapshot, .int hasSnapshot_, .ref h_this_text, .int length_, .ref h_this_lumps, .int lumpMany_, .ref h_this_order, .ref h_this_nears, .int partingSet_, .int partingWeight_, .int at_, .int isWell_, .ref h_this_told, .int toldMany_])), (h_this_s, .inl (cI, 103, .inl s_)), (h_this_saved, .inl (cI, 412, .inl saved_'))] A) ([.ref h0] : List Value).toArray s 0 0 A) (F0 m 50 ls []) := by
      intro k11 hk50 n13
      induction n13 with
      | zero => intro x9 a10 H locs ls h; cases h
      | succ n13 ih50 =>
        intro x9 a10 H locs ls h hw hl
        rw [f_X6_records_L50] at h
        refine lv_iload_n hx hb dX6_records_50 rfl (lv_at hl 1 rfl) ?_
        refine lv_bipush (v := 103) hx hb dX6_records_51 (by decide) ?_
        refine lv_icmp_ge (tgt := 82) hx hb dX6_records_53 (by decide) (fun c1 => ?_) (fun c1 => ?_)
        · replace h := ip c1 h
          exact hk50 a10 _ _ _ h hw (lv_sub hl [0] rfl)
        · replace h := ig c1 h
          refine lv_aload_n hx hb dX6_records_56 rfl (lv_at hl 0 rfl) ?_
          refine fg_X6_13 X hw 0 rfl rfl dX6_records_57 ?_
          refine lv_bipush (v := 103) hx hb dX6_records_60 (by decide) ?_
          refine lv_aload_n hx hb dX6_records_62 rfl (lv_at hl 0 rfl) ?_
          refine fg_X6_42 X hw 0 rfl rfl dX6_records_63 ?_
          refine lv_imul hx hb dX6_records_66 ?_
          refine lv_iload_n hx hb dX6_records_67 rfl (lv_at hl 1 rfl) ?_
          refine lv_iadd hx hb dX6_records_68 ?_
          refine lv_aload_n hx hb dX6_records_69 rfl (lv_at hl 0 rfl) ?_
          refine fg_X6_7 X hw 0 rfl rfl dX6_records_70 ?_
          refine lv_iload_n hx hb dX6_records_73 rfl (lv_at hl 1 rfl) ?_
          obtain ⟨b1, h⟩ := chk_inv h
          refine r_iald X hw 1 rfl b1 rfl dX6_records_74 ?_
          obtain ⟨b1, h⟩ := chk_inv h
          refine r_iast X hw 2 rfl b1 rfl dX6_records_75 (fun H locs hw => ?_)
          have hw : Wd D A s.heap [(h0, .inr (6, [.int thrown_, .ref h_this_s, .ref h_this_saved, .int x7, .ref h_this_snapshot, .int hasSnapshot_, .ref h_this_text, .int length_, .ref h_this_lumps, .int lumpMany_, .ref h_this_order, .ref h_this_nears, .int partingSet_, .int partingWeight_, .int at_, .int isWell_, .ref h_this_told, .int toldMany_])), (h_this_s, .inl (cI, 103, .inl s_)), (h_this_saved, .inl (cI, 412, .inl (upd a10 ((((103 : Int32) * x7) + x9)).toNatClampNeg (s_ (x9).toNatClampNeg))))] H locs := hw
          refine lv_iinc (v := (x9 + (1 : Int32))) (lv' := [(1, .int (x9 + (1 : Int32))), (0, .ref h0)]) hx hb dX6_records_76 hl (k := 1) rfl rfl (by decide) rfl (fun ls hl => ?_)
          refine lv_goto (tgt := 50) hx hb dX6_records_79 (by decide) ?_
          exact ih50 (x9 + (1 : Int32)) (upd a10 ((((103 : Int32) * x7) + x9)).toNatClampNeg (s_ (x9).toNatClampNeg)) _ _ _ h hw (lv_sub hl [1, 0] rfl)
    exact L50 (fun a14 => f_X6_records_E82 x7 a14) (fun a14 H locs ls h hw hl => E82 a14 H locs ls h hw hl) N (0 : Int32) a8 _ _ _ h hw (lv_sub hl [1, 0] rfl)
  refine lv_icmp_ne (tgt := 48) hx hb dX6_records_5 (by decide) (fun c1 => ?_) (fun c1 => ?_)
  · replace h := ig c1 h
    exact J48 savedMany_ saved_ _ _ _ h hw (lv_sub hl [0] rfl)
  · replace h := ip c1 h
    refine lv_iconst (v := 0) hx hb dX6_records_8 (by decide) ?_
    refine lv_istore_n (lv' := [(1, .int (0 : Int32)), (0, .ref h0)]) hx hb dX6_records_9 rfl hl (by decide) rfl (fun ls hl => ?_)
    have E38 : ∀ (a6 : Nat → Int32) (H : Heap) (locs : List Loc) (ls : Array Slot), f_X6_records_E38 N s_ savedMany_ a6 = some (savedMany_', saved_') → Wd D A s.heap [(h0, .inr (6, [.int thrown_, .ref h_this_s, .ref h_this_saved, .int savedMany_, .ref h_this_snapshot, .int hasSnapshot_, .ref h_this_text, .int length_, .ref h_this_lumps, .int lumpMany_, .ref h_this_order, .ref h_this_nears, .int partingSet_, .int partingWeight_, .int at_, .int isWell_, .ref h_this_told, .int toldMany_])), (h_this_s, .inl (cI, 103, .inl s_)), (h_this_saved, .inl (cI, 412, .inl a6))] H locs → lv_has ls 2 [(0, .ref h0)] → W p l e rmX6_records s m ([.ref h0] : List Value).toArray below meth c H locs 0 0 (MQ below (Qv D [(h0, .inr (6, [.int thrown_, .ref h_this_s, .ref h_this_saved, .int savedMany_', .ref h_this_snapshot, .int hasSnapshot_, .ref h_this_text, .int length_, .ref h_this_lumps, .int lumpMany_, .ref h_this_order, .ref h_this_nears, .int partingSet_, .int partingWeight_, .int at_, .int isWell_, .ref h_this_told, .int toldMany_])), (h_this_s, .inl (cI, 103, .inl s_)), (h_this_saved, .inl (cI, 412, .inl saved_'))] A) ([.ref h0] : List Value).toArray s 0 0 A) (F0 m 38 ls []) := by
      intro a6 H locs ls h hw hl
      unfold f_X6_records_E38 at h
      refine lv_aload_n hx hb dX6_records_38 rfl (lv_at hl 0 rfl) ?_
      refine lv_dup hx hb dX6_records_39 rfl ?_
      refine fg_X6_42 X hw 0 rfl rfl dX6_records_40 ?_
      refine lv_iconst (v := 1) hx hb dX6_records_43 (by decide) ?_
      refine lv_isub hx hb dX6_records_44 ?_
      refine fp_X6_42 X hw 0 rfl rfl dX6_records_45 (fun H locs hw => ?_)
      have hw : Wd D A s.heap [(h0, .inr (6, [.int thrown_, .ref h_this_s, .ref h_this_saved, .int (savedMany_ - (1 : Int32)), .ref h_this_snapshot, .int hasSnapshot_, .ref h_this_text, .int length_, .ref h_this_lumps, .int lumpMany_, .ref h_this_order, .ref h_this_nears, .int partingSet_, .int partingWeight_, .int at_, .int isWell_, .ref h_this_told, .int toldMany_])), (h_this_s, .inl (cI, 103, .inl s_)), (h_this_saved, .inl (cI, 412, .inl a6))] H locs := hw
      exact J48 (savedMany_ - (1 : Int32)) a6 _ _ _ h hw (lv_sub hl [0] rfl)
    have L10 : ∀ (k3 : (Nat → Int32) → Option (Int32 × (Nat → Int32))), (∀ (a6 : Nat → Int32) (H : Heap) (locs : List Loc) (ls : Array Slot), k3 a6 = some (savedMany_', saved_') → Wd D A s.heap [(h0, .inr (6, [.int thrown_, .ref h_this_s, .ref h_this_saved, .int savedMany_, .ref h_this_snapshot, .int hasSnapshot_, .ref h_this_text, .int length_, .ref h_this_lumps, .int lumpMany_, .ref h_this_order, .ref h_this_nears, .int partingSet_, .int partingWeight_, .int at_, .int isWell_, .ref h_this_told, .int toldMany_])), (h_this_s, .inl (cI, 103, .inl s_)), (h_this_saved, .inl (cI, 412, .inl a6))] H locs → lv_has ls 2 [(0, .ref h0)] → W p l e rmX6_records s m ([.ref h0] : List Value).toArray below meth c H locs 0 0 (MQ below (Qv D [(h0, .inr (6, [.int thrown_, .ref h_this_s, .ref h_this_saved, .int savedMany_', .ref h_this_snapshot, .int hasSnapshot_, .ref h_this_text, .int length_, .ref h_this_lumps, .int lumpMany_, .ref h_this_order, .ref h_this_nears, .int partingSet_, .int partingWeight_, .int at_, .int isWell_, .ref h_this_told, .int toldMany_])), (h_this_s, .inl (cI, 103, .inl s_)), (h_this_saved, .inl (cI, 412, .inl saved_'))] A) ([.ref h0] : List Value).toArray s 0 0 A) (F0 m 38 ls [])) → ∀ (n5 : Nat), ∀ (x1 : Int32) (a2 : Nat → Int32) (H : Heap) (locs : List Loc) (ls : Array Slot), f_X6_records_L10 k3 n5 x1 a2 = some (savedMany_', saved_') → Wd D A s.heap [(h0, .inr (6, [.int thrown_, .ref h_this_s, .ref h_this_saved, .int savedMany_, .ref h_this_snapshot, .int hasSnapshot_, .ref h_this_text, .int length_, .ref h_this_lumps, .int lumpMany_, .ref h_this_order, .ref h_this_nears, .int partingSet_, .int partingWeight_, .int at_, .int isWell_, .ref h_this_told, .int toldMany_])), (h_this_s, .inl (cI, 103, .inl s_)), (h_this_saved, .inl (cI, 412, .inl a2))] H locs → lv_has ls 2 [(0, .ref h0), (1, .int x1)] → W p l e rmX6_records s m ([.ref h0] : List Value).toArray below meth c H locs 0 0 (MQ below (Qv D [(h0, .inr (6, [.int thrown_, .ref h_this_s, .ref h_this_saved, .int savedMany_', .ref h_this_snapshot, .int hasSnapshot_, .ref h_this_text, .int length_, .ref h_this_lumps, .int lumpMany_, .ref h_this_order, .ref h_this_nears, .int partingSet_, .int partingWeight_, .int at_, .int isWell_, .ref h_this_told, .int toldMany_])), (h_this_s, .inl (cI, 103, .inl s_)), (h_this_saved, .inl (cI, 412, .inl saved_'))] A) ([.ref h0] : List Value).toArray s 0 0 A) (F0 m 10 ls []) := by
      intro k3 hk10 n5
      induction n5 with
      | zero => intro x1 a2 H locs ls h; cases h
      | succ n5 ih10 =>
        intro x1 a2 H locs ls h hw hl
        rw [f_X6_records_L10] at h
        refine lv_iload_n hx hb dX6_records_10 rfl (lv_at hl 1 rfl) ?_
        refine lv_sipush (v := 309) hx hb dX6_records_11 (by decide) ?_
        refine lv_icmp_ge (tgt := 38) hx hb dX6_records_14 (by decide) (fun c1 => ?_) (fun c1 => ?_)
        · replace h := ip c1 h
          exact hk10 a2 _ _ _ h hw (lv_sub hl [0] rfl)
        · replace h := ig c1 h
          refine lv_aload_n hx hb dX6_records_17 rfl (lv_at hl 0 rfl) ?_
          refine fg_X6_13 X hw 0 rfl rfl dX6_records_18 ?_
          refine lv_iload_n hx hb dX6_records_21 rfl (lv_at hl 1 rfl) ?_
          refine lv_aload_n hx hb dX6_records_22 rfl (lv_at hl 0 rfl) ?_
          refine fg_X6_13 X hw 0 rfl rfl dX6_records_23 ?_
          refine lv_iload_n hx hb dX6_records_26 rfl (lv_at hl 1 rfl) ?_
          refine lv_bipush (v := 103) hx hb dX6_records_27 (by decide) ?_
          refine lv_iadd hx hb dX6_records_29 ?_
          obtain ⟨b1, h⟩ := chk_inv h
          refine r_iald X hw 2 rfl b1 rfl dX6_records_30 ?_
          obtain ⟨b1, h⟩ := chk_inv h
          refine r_iast X hw 2 rfl b1 rfl dX6_records_31 (fun H locs hw => ?_)
          have hw : Wd D A s.heap [(h0, .inr (6, [.int thrown_, .ref h_this_s, .ref h_this_saved, .int savedMany_, .ref h_this_snapshot, .int hasSnapshot_, .ref h_this_text, .int length_, .ref h_this_lumps, .int lumpMany_, .ref h_this_order, .ref h_this_nears, .int partingSet_, .int partingWeight_, .int at_, .int isWell_, .ref h_this_told, .int toldMany_])), (h_this_s, .inl (cI, 103, .inl s_)), (h_this_saved, .inl (cI, 412, .inl (upd a2 (x1).toNatClampNeg (a2 ((x1 + (103 : Int32))).toNatClampNeg))))] H locs := hw
          refine lv_iinc (v := (x1 + (1 : Int32))) (lv' := [(1, .int (x1 + (1 : Int32))), (0, .ref h0)]) hx hb dX6_records_32 hl (k := 1) rfl rfl (by decide) rfl (fun ls hl => ?_)
          refine lv_goto (tgt := 10) hx hb dX6_records_35 (by decide) ?_
          exact ih10 (x1 + (1 : Int32)) (upd a2 (x1).toNatClampNeg (a2 ((x1 + (103 : Int32))).toNatClampNeg)) _ _ _ h hw (lv_sub hl [1, 0] rfl)
    exact L10 (fun a6 => f_X6_records_E38 N s_ savedMany_ a6) (fun a6 H locs ls h hw hl => E38 a6 H locs ls h hw hl) N (0 : Int32) saved_ _ _ _ h hw (lv_sub hl [1, 0] rfl)
def rmX6_weightBetween : Room := { frames := 1, cells := 0, slots := 0, locals := 22 }
section
variable {p : Program} {l : Launch} {e : Env} {R : Room} {s : State} {m : MethodId} {args : Array Value} {below : List Frame} {meth : Method} {c : Code} {H : Heap} {locs : List Loc} {cells slots : Nat} {Q : State → Prop}
variable {cc : ByteArray} {pc nL : Nat} {ls : Array Slot} {rest : List Value} {D : va_G} {cI cC cO : ClassId} {A : Nat → Prop} {ws : va_W} {H0 : Heap}
theorem cs_X6_45 (X : Ctx p m c cc nL s args RX6 D cI cC cO) (hR : rmX6_tied.frames + 1 ≤ R.frames ∧ 8 + (3 + 11) + rmX6_tied.locals ≤ R.locals) : CallW R s args RX6 RX6 45 yX6_tied cX6_tied 3 (some .int) (Wy yX6_tied cX6_tied 3 (some .int)) rmX6_tied 0 0 2 := cwV 2 X.1.2.2.2.2 (gi_V tw_626 tw_628 sw_yX6_tied tw_7 tw_629) rfl rfl rfl (by decide +kernel) hR
end
set_option maxHeartbeats 4000000 in
set_option maxRecDepth 100000 in
theorem c_X6_weightBetween (l : Launch) (D : va_G) (cI cC cO : ClassId) (N : Nat) (h0 h_this_s h_this_saved h_this_snapshot h_this_text h_this_lumps h_this_order h_this_nears h_this_told : Nat) (p1 p2 thrown_ savedMany_ hasSnapshot_ length_ lumpMany_ partingSet_ partingWeight_ at_ isWell_ toldMany_ : Int32) (s_ : Nat → Int32) (r_ : Int32) (h : f_X6_weightBetween N p1 p2 s_ = some r_) : CI l yX6_weightBetween (Wy yX6_weightBetween cX6_weightBetween 6 (some .int)) rmX6_weightBetween D cI cC cO [.ref h0, .int p1, .int p2] [(h0, .inr (6, [.int thrown_, .ref h_this_s, .ref h_this_saved, .int savedMany_, .ref h_this_snapshot, .int hasSnapshot_, .ref h_this_text, .int length_, .ref h_this_lumps, .int lumpMany_, .ref h_this_order, .ref h_this_nears, .int partingSet_, .int partingWeight_, .int at_, .int isWell_, .ref h_this_told, .int toldMany_])), (h_this_s, .inl (cI, 103, .inl s_))] r_ [(h0, .inr (6, [.int thrown_, .ref h_this_s, .ref h_this_saved, .int savedMany_, .ref h_this_snapshot, .int hasSnapshot_, .ref h_this_text, .int length_, .ref h_this_lumps, .int lumpMany_, .ref h_this_order, .ref h_this_nears, .int partingSet_, .int partingWeight_, .int at_, .int isWell_, .ref h_this_told, .int toldMany_])), (h_this_s, .inl (cI, 103, .inl s_))] := by
  refine enter_i RX6 (by decide) rfl (Nat.le_of_ble_eq_true rfl) ?_
  intro p e s m below meth c A X hr hlk hw ls hl
  have hx := X.1.1
  have hb := X.1.2.1
  have hl : lv_has ls 6 [(0, .ref h0), (1, .int p1), (2, .int p2)] := hl
  unfold f_X6_weightBetween at h
  refine lv_iconst (v := 0) hx hb dX6_weightBetween_0 (by decide) ?_
  refine lv_istore_n (lv' := [(3, .int (0 : Int32)), (0, .ref h0), (1, .int p1), (2, .int p2)]) hx hb dX6_weightBetween_1 rfl hl (by decide) rfl (fun ls hl => ?_)
  refine lv_iconst (v := 0) hx hb dX6_weightBetween_2 (by decide) ?_
  refine lv_istore (lv' := [(4, .int (0 : Int32)), (3, .int (0 : Int32)), (0, .ref h0), (1, .int p1), (2, .int p2)]) hx hb dX6_weightBetween_3 hl (by decide) rfl (fun ls hl => ?_)
  have E77 : ∀ (x14 : Int32) (H : Heap) (locs : List Loc) (ls : Array Slot), f_X6_weightBetween_E77 x14 = some r_ → Wd D A s.heap [(h0, .inr (6, [.int thrown_, .ref h_this_s, .ref h_this_saved, .int savedMany_, .ref h_this_snapshot, .int hasSnapshot_, .ref h_this_text, .int length_, .ref h_this_lumps, .int lumpMany_, .ref h_this_order, .ref h_this_nears, .int partingSet_, .int partingWeight_, .int at_, .int isWell_, .ref h_this_told, .int toldMany_])), (h_this_s, .inl (cI, 103, .inl s_))] H locs → lv_has ls 6 [(3, .int x14)] → W p l e rmX6_weightBetween s m ([.ref h0, .int p1, .int p2] : List Value).toArray below meth c H locs 0 0 (MQ below (Qi D r_ [(h0, .inr (6, [.int thrown_, .ref h_this_s, .ref h_this_saved, .int savedMany_, .ref h_this_snapshot, .int hasSnapshot_, .ref h_this_text, .int length_, .ref h_this_lumps, .int lumpMany_, .ref h_this_order, .ref h_this_nears, .int partingSet_, .int partingWeight_, .int at_, .int isWell_, .ref h_this_told, .int toldMany_])), (h_this_s, .inl (cI, 103, .inl s_))] A) ([.ref h0, .int p1, .int p2] : List Value).toArray s 0 0 A) (F0 m 77 ls []) := by
    intro x14 H locs ls h hw hl
    unfold f_X6_weightBetween_E77 at h
    refine lv_iload_n hx hb dX6_weightBetween_77 rfl (lv_at hl 0 rfl) ?_
    obtain rfl := oi1 h
    exact r_ret X hw hr hlk dX6_weightBetween_78
  have L5 : ∀ (k11 : Int32 → Option (Int32)), (∀ (x14 : Int32) (H : Heap) (locs : List Loc) (ls : Array Slot), k11 x14 = some r_ → Wd D A s.heap [(h0, .inr (6, [.int thrown_, .ref h_this_s, .ref h_this_saved, .int savedMany_, .ref h_this_snapshot, .int hasSnapshot_, .ref h_this_text, .int length_, .ref h_this_lumps, .int lumpMany_, .ref h_this_order, .ref h_this_nears, .int partingSet_, .int partingWeight_, .int at_, .int isWell_, .ref h_this_told, .int toldMany_])), (h_this_s, .inl (cI, 103, .inl s_))] H locs → lv_has ls 6 [(3, .int x14)] → W p l e rmX6_weightBetween s m ([.ref h0, .int p1, .int p2] : List Value).toArray below meth c H locs 0 0 (MQ below (Qi D r_ [(h0, .inr (6, [.int thrown_, .ref h_this_s, .ref h_this_saved, .int savedMany_, .ref h_this_snapshot, .int hasSnapshot_, .ref h_this_text, .int length_, .ref h_this_lumps, .int lumpMany_, .ref h_this_order, .ref h_this_nears, .int partingSet_, .int partingWeight_, .int at_, .int isWell_, .ref h_this_told, .int toldMany_])), (h_this_s, .inl (cI, 103, .inl s_))] A) ([.ref h0, .int p1, .int p2] : List Value).toArray s 0 0 A) (F0 m 77 ls [])) → ∀ (n13 : Nat), ∀ (x1 x2 : Int32) (H : Heap) (locs : List Loc) (ls : Array Slot), f_X6_weightBetween_L5 N s_ p1 p2 k11 n13 x1 x2 = some r_ → Wd D A s.heap [(h0, .inr (6, [.int thrown_, .ref h_this_s, .ref h_this_saved, .int savedMany_, .ref h_this_snapshot, .int hasSnapshot_, .ref h_this_text, .int length_, .ref h_this_lumps, .int lumpMany_, .ref h_this_order, .ref h_this_nears, .int partingSet_, .int partingWeight_, .int at_, .int isWell_, .ref h_this_told, .int toldMany_])), (h_this_s, .inl (cI, 103, .inl s_))] H locs → lv_has ls 6 [(0, .ref h0), (1, .int p1), (2, .int p2), (3, .int x1), (4, .int x2)] → W p l e rmX6_weightBetween s m ([.ref h0, .int p1, .int p2] : List Value).toArray below meth c H locs 0 0 (MQ below (Qi D r_ [(h0, .inr (6, [.int thrown_, .ref h_this_s, .ref h_this_saved, .int savedMany_, .ref h_this_snapshot, .int hasSnapshot_, .ref h_this_text, .int length_, .ref h_this_lumps, .int lumpMany_, .ref h_this_order, .ref h_this_nears, .int partingSet_, .int partingWeight_, .int at_, .int isWell_, .ref h_this_told, .int toldMany_])), (h_this_s, .inl (cI, 103, .inl s_))] A) ([.ref h0, .int p1, .int p2] : List Value).toArray s 0 0 A) (F0 m 5 ls []) := by
    intro k11 hk5 n13
    induction n13 with
    | zero => intro x1 x2 H locs ls h; cases h
    | succ n13 ih5 =>
      intro x1 x2 H locs ls h hw hl
      rw [f_X6_weightBetween_L5] at h
      refine lv_iload hx hb dX6_weightBetween_5 (lv_at hl 4 rfl) ?_
      refine lv_aload_n hx hb dX6_weightBetween_7 rfl (lv_at hl 0 rfl) ?_
      refine fg_X6_7 X hw 0 rfl rfl dX6_weightBetween_8 ?_
      refine lv_iconst (v := 0) hx hb dX6_weightBetween_11 (by decide) ?_
      refine r_iald X hw 1 rfl (v := (s_ 0)) (vp_lit (by decide)) rfl dX6_weightBetween_12 ?_
      refine lv_icmp_ge (tgt := 77) hx hb dX6_weightBetween_13 (by decide) (fun c1 => ?_) (fun c1 => ?_)
      · replace h := ip c1 h
        exact hk5 x1 _ _ _ h hw (lv_sub hl [3] rfl)
      · replace h := ig c1 h
        refine lv_iconst (v := 0) hx hb dX6_weightBetween_16 (by decide) ?_
        refine lv_istore (lv' := [(5, .int (0 : Int32)), (0, .ref h0), (1, .int p1), (2, .int p2), (3, .int x1), (4, .int x2)]) hx hb dX6_weightBetween_17 hl (by decide) rfl (fun ls hl => ?_)
        have E71 : ∀ (x10 : Int32) (H : Heap) (locs : List Loc) (ls : Array Slot), f_X6_weightBetween_E71 (f_X6_weightBetween_L5 N s_ p1 p2 k11 n13) x2 x10 = some r_ → Wd D A s.heap [(h0, .inr (6, [.int thrown_, .ref h_this_s, .ref h_this_saved, .int savedMany_, .ref h_this_snapshot, .int hasSnapshot_, .ref h_this_text, .int length_, .ref h_this_lumps, .int lumpMany_, .ref h_this_order, .ref h_this_nears, .int partingSet_, .int partingWeight_, .int at_, .int isWell_, .ref h_this_told, .int toldMany_])), (h_this_s, .inl (cI, 103, .inl s_))] H locs → lv_has ls 6 [(0, .ref h0), (1, .int p1), (2, .int p2), (3, .int x10), (4, .int x2)] → W p l e rmX6_weightBetween s m ([.ref h0, .int p1, .int p2] : List Value).toArray below meth c H locs 0 0 (MQ below (Qi D r_ [(h0, .inr (6, [.int thrown_, .ref h_this_s, .ref h_this_saved, .int savedMany_, .ref h_this_snapshot, .int hasSnapshot_, .ref h_this_text, .int length_, .ref h_this_lumps, .int lumpMany_, .ref h_this_order, .ref h_this_nears, .int partingSet_, .int partingWeight_, .int at_, .int isWell_, .ref h_this_told, .int toldMany_])), (h_this_s, .inl (cI, 103, .inl s_))] A) ([.ref h0, .int p1, .int p2] : List Value).toArray s 0 0 A) (F0 m 71 ls []) := by
          intro x10 H locs ls h hw hl
          unfold f_X6_weightBetween_E71 at h
          refine lv_iinc (v := (x2 + (1 : Int32))) (lv' := [(4, .int (x2 + (1 : Int32))), (0, .ref h0), (1, .int p1), (2, .int p2), (3, .int x10)]) hx hb dX6_weightBetween_71 hl (k := 4) rfl rfl (by decide) rfl (fun ls hl => ?_)
          refine lv_goto (tgt := 5) hx hb dX6_weightBetween_74 (by decide) ?_
          exact ih5 x10 (x2 + (1 : Int32)) _ _ _ h hw (lv_sub hl [1, 2, 3, 4, 0] rfl)
        have L19 : ∀ (k7 : Int32 → Option (Int32)), (∀ (x10 : Int32) (H : Heap) (locs : List Loc) (ls : Array Slot), k7 x10 = some r_ → Wd D A s.heap [(h0, .inr (6, [.int thrown_, .ref h_this_s, .ref h_this_saved, .int savedMany_, .ref h_this_snapshot, .int hasSnapshot_, .ref h_this_text, .int length_, .ref h_this_lumps, .int lumpMany_, .ref h_this_order, .ref h_this_nears, .int partingSet_, .int partingWeight_, .int at_, .int isWell_, .ref h_this_told, .int toldMany_])), (h_this_s, .inl (cI, 103, .inl s_))] H locs → lv_has ls 6 [(0, .ref h0), (1, .int p1), (2, .int p2), (3, .int x10), (4, .int x2)] → W p l e rmX6_weightBetween s m ([.ref h0, .int p1, .int p2] : List Value).toArray below meth c H locs 0 0 (MQ below (Qi D r_ [(h0, .inr (6, [.int thrown_, .ref h_this_s, .ref h_this_saved, .int savedMany_, .ref h_this_snapshot, .int hasSnapshot_, .ref h_this_text, .int length_, .ref h_this_lumps, .int lumpMany_, .ref h_this_order, .ref h_this_nears, .int partingSet_, .int partingWeight_, .int at_, .int isWell_, .ref h_this_told, .int toldMany_])), (h_this_s, .inl (cI, 103, .inl s_))] A) ([.ref h0, .int p1, .int p2] : List Value).toArray s 0 0 A) (F0 m 71 ls [])) → ∀ (n9 : Nat), ∀ (x3 x4 : Int32) (H : Heap) (locs : List Loc) (ls : Array Slot), f_X6_weightBetween_L19 s_ p1 x2 p2 k7 n9 x3 x4 = some r_ → Wd D A s.heap [(h0, .inr (6, [.int thrown_, .ref h_this_s, .ref h_this_saved, .int savedMany_, .ref h_this_snapshot, .int hasSnapshot_, .ref h_this_text, .int length_, .ref h_this_lumps, .int lumpMany_, .ref h_this_order, .ref h_this_nears, .int partingSet_, .int partingWeight_, .int at_, .int isWell_, .ref h_this_told, .int toldMany_])), (h_this_s, .inl (cI, 103, .inl s_))] H locs → lv_has ls 6 [(0, .ref h0), (1, .int p1), (2, .int p2), (3, .int x3), (4, .int x2), (5, .int x4)] → W p l e rmX6_weightBetween s m ([.ref h0, .int p1, .int p2] : List Value).toArray below meth c H locs 0 0 (MQ below (Qi D r_ [(h0, .inr (6, [.int thrown_, .ref h_this_s, .ref h_this_saved, .int savedMany_, .ref h_this_snapshot, .int hasSnapshot_, .ref h_this_text, .int length_, .ref h_this_lumps, .int lumpMany_, .ref h_this_order, .ref h_this_nears, .int partingSet_, .int partingWeight_, .int at_, .int isWell_, .ref h_this_told, .int toldMany_])), (h_this_s, .inl (cI, 103, .inl s_))] A) ([.ref h0, .int p1, .int p2] : List Value).toArray s 0 0 A) (F0 m 19 ls []) := by
          intro k7 hk19 n9
          induction n9 with
          | zero => intro x3 x4 H locs ls h; cases h
          | succ n9 ih19 =>
            intro x3 x4 H locs ls h hw hl
            rw [f_X6_weightBetween_L19] at h
            refine lv_iload hx hb dX6_weightBetween_19 (lv_at hl 5 rfl) ?_
            refine lv_aload_n hx hb dX6_weightBetween_21 rfl (lv_at hl 0 rfl) ?_
            refine fg_X6_7 X hw 0 rfl rfl dX6_weightBetween_22 ?_
            refine lv_iconst (v := 0) hx hb dX6_weightBetween_25 (by decide) ?_
            refine r_iald X hw 1 rfl (v := (s_ 0)) (vp_lit (by decide)) rfl dX6_weightBetween_26 ?_
            refine lv_icmp_ge (tgt := 71) hx hb dX6_weightBetween_27 (by decide) (fun c1 => ?_) (fun c1 => ?_)
            · replace h := ip c1 h
              exact hk19 x3 _ _ _ h hw (lv_sub hl [0, 1, 2, 3, 4] rfl)
            · replace h := ig c1 h
              refine lv_iload_n hx hb dX6_weightBetween_30 rfl (lv_at hl 1 rfl) ?_
              refine lv_iload hx hb dX6_weightBetween_31 (lv_at hl 4 rfl) ?_
              refine lv_ishr hx hb dX6_weightBetween_33 ?_
              refine lv_iconst (v := 1) hx hb dX6_weightBetween_34 (by decide) ?_
              refine lv_iand hx hb dX6_weightBetween_35 ?_
              refine lv_iconst (v := 1) hx hb dX6_weightBetween_36 (by decide) ?_
              refine lv_icmp_ne (tgt := 71) hx hb dX6_weightBetween_37 (by decide) (fun c1 => ?_) (fun c1 => ?_)
              · replace h := ig c1 h
                exact hk19 x3 _ _ _ h hw (lv_sub hl [0, 1, 2, 3, 4] rfl)
              · replace h := ip c1 h
                refine lv_iload_n hx hb dX6_weightBetween_40 rfl (lv_at hl 3 rfl) ?_
                refine lv_iload_n hx hb dX6_weightBetween_41 rfl (lv_at hl 2 rfl) ?_
                refine lv_iload hx hb dX6_weightBetween_42 (lv_at hl 5 rfl) ?_
                refine lv_ishr hx hb dX6_weightBetween_44 ?_
                refine lv_iconst (v := 1) hx hb dX6_weightBetween_45 (by decide) ?_
                refine lv_iand hx hb dX6_weightBetween_46 ?_
                refine lv_iconst (v := 1) hx hb dX6_weightBetween_47 (by decide) ?_
                have J63 : ∀ (x6 : Int32) (H : Heap) (locs : List Loc) (ls : Array Slot), f_X6_weightBetween_J63 (f_X6_weightBetween_L19 s_ p1 x2 p2 k7 n9) x3 x4 x6 = some r_ → Wd D A s.heap [(h0, .inr (6, [.int thrown_, .ref h_this_s, .ref h_this_saved, .int savedMany_, .ref h_this_snapshot, .int hasSnapshot_, .ref h_this_text, .int length_, .ref h_this_lumps, .int lumpMany_, .ref h_this_order, .ref h_this_nears, .int partingSet_, .int partingWeight_, .int at_, .int isWell_, .ref h_this_told, .int toldMany_])), (h_this_s, .inl (cI, 103, .inl s_))] H locs → lv_has ls 6 [(0, .ref h0), (1, .int p1), (2, .int p2), (4, .int x2), (5, .int x4)] → W p l e rmX6_weightBetween s m ([.ref h0, .int p1, .int p2] : List Value).toArray below meth c H locs 0 0 (MQ below (Qi D r_ [(h0, .inr (6, [.int thrown_, .ref h_this_s, .ref h_this_saved, .int savedMany_, .ref h_this_snapshot, .int hasSnapshot_, .ref h_this_text, .int length_, .ref h_this_lumps, .int lumpMany_, .ref h_this_order, .ref h_this_nears, .int partingSet_, .int partingWeight_, .int at_, .int isWell_, .ref h_this_told, .int toldMany_])), (h_this_s, .inl (cI, 103, .inl s_))] A) ([.ref h0, .int p1, .int p2] : List Value).toArray s 0 0 A) (F0 m 63 ls [.int x6, .int x3]) := by
                  intro x6 H locs ls h hw hl
                  unfold f_X6_weightBetween_J63 at h
                  refine lv_iadd hx hb dX6_weightBetween_63 ?_
                  refine lv_istore_n (lv' := [(3, .int (x3 + x6)), (0, .ref h0), (1, .int p1), (2, .int p2), (4, .int x2), (5, .int x4)]) hx hb dX6_weightBetween_64 rfl hl (by decide) rfl (fun ls hl => ?_)
                  refine lv_iinc (v := (x4 + (1 : Int32))) (lv' := [(5, .int (x4 + (1 : Int32))), (3, .int (x3 + x6)), (0, .ref h0), (1, .int p1), (2, .int p2), (4, .int x2)]) hx hb dX6_weightBetween_65 hl (k := 5) rfl rfl (by decide) rfl (fun ls hl => ?_)
                  refine lv_goto (tgt := 19) hx hb dX6_weightBetween_68 (by decide) ?_
                  exact ih19 (x3 + x6) (x4 + (1 : Int32)) _ _ _ h hw (lv_sub hl [2, 3, 4, 1, 5, 0] rfl)
                refine lv_icmp_ne (tgt := 62) hx hb dX6_weightBetween_48 (by decide) (fun c1 => ?_) (fun c1 => ?_)
                · replace h := ig c1 h
                  refine lv_iconst (v := 0) hx hb dX6_weightBetween_62 (by decide) ?_
                  exact J63 (0 : Int32) _ _ _ h hw (lv_sub hl [0, 1, 2, 4, 5] rfl)
                · replace h := ip c1 h
                  refine lv_aload_n hx hb dX6_weightBetween_51 rfl (lv_at hl 0 rfl) ?_
                  refine lv_iload hx hb dX6_weightBetween_52 (lv_at hl 4 rfl) ?_
                  refine lv_iload hx hb dX6_weightBetween_54 (lv_at hl 5 rfl) ?_
                  obtain ⟨r5, hc, h⟩ := bd1_inv h
                  refine r_cVi X hw (As := [.int x2, .int x4]) (rest := [.int x3]) (wr := []) (ws' := [(h0, .inr (6, [.int thrown_, .ref h_this_s, .ref h_this_saved, .int savedMany_, .ref h_this_snapshot, .int hasSnapshot_, .ref h_this_text, .int length_, .ref h_this_lumps, .int lumpMany_, .ref h_this_order, .ref h_this_nears, .int partingSet_, .int partingWeight_, .int at_, .int isWell_, .ref h_this_told, .int toldMany_])), (h_this_s, .inl (cI, 103, .inl s_))]) (c_X6_tied l D cI cC cO h0 h_this_s h_this_saved h_this_snapshot h_this_text h_this_lumps h_this_order h_this_nears h_this_told x2 x4 thrown_ savedMany_ hasSnapshot_ length_ lumpMany_ partingSet_ partingWeight_ at_ isWell_ toldMany_ s_ r5 hc) (cs_X6_45 X (by decide)) [0, 1] [] [0, 1] rfl rfl rfl rfl (by decide) rfl rfl 0 rfl rfl rfl rfl hl.1 rfl (Nat.le_of_ble_eq_true rfl) dX6_weightBetween_56 ⟨Nat.zero_le _, Nat.zero_le _⟩ (fun H locs hw => ?_)
                  refine lv_goto (tgt := 63) hx hb dX6_weightBetween_59 (by decide) ?_
                  exact J63 r5 _ _ _ h hw (lv_sub hl [0, 1, 2, 4, 5] rfl)
        exact L19 (fun x10 => f_X6_weightBetween_E71 (f_X6_weightBetween_L5 N s_ p1 p2 k11 n13) x2 x10) (fun x10 H locs ls h hw hl => E71 x10 H locs ls h hw hl) N x1 (0 : Int32) _ _ _ h hw (lv_sub hl [1, 2, 3, 4, 5, 0] rfl)
  exact L5 (fun x14 => f_X6_weightBetween_E77 x14) (fun x14 H locs ls h hw hl => E77 x14 H locs ls h hw hl) N (0 : Int32) (0 : Int32) _ _ _ h hw (lv_sub hl [2, 3, 4, 1, 0] rfl)
def rmX6_weightOf : Room := { frames := 2, cells := 0, slots := 0, locals := 47 }
section
variable {p : Program} {l : Launch} {e : Env} {R : Room} {s : State} {m : MethodId} {args : Array Value} {below : List Frame} {meth : Method} {c : Code} {H : Heap} {locs : List Loc} {cells slots : Nat} {Q : State → Prop}
variable {cc : ByteArray} {pc nL : Nat} {ls : Array Slot} {rest : List Value} {D : va_G} {cI cC cO : ClassId} {A : Nat → Prop} {ws : va_W} {H0 : Heap}
theorem cs_X6_49 (X : Ctx p m c cc nL s args RX6 D cI cC cO) (hR : rmX6_all.frames + 1 ≤ R.frames ∧ 8 + (1 + 11) + rmX6_all.locals ≤ R.locals) : CallW R s args RX6 RX6 49 yX6_all cX6_all 1 (some .int) (Wy yX6_all cX6_all 1 (some .int)) rmX6_all 0 0 0 := cwV 0 X.1.2.2.2.2 (gi_V tw_681 tw_683 sw_yX6_all tw_7 tw_684) rfl rfl rfl (by decide +kernel) hR
theorem cs_X6_53 (X : Ctx p m c cc nL s args RX6 D cI cC cO) (hR : rmX6_weightBetween.frames + 1 ≤ R.frames ∧ 8 + (6 + 11) + rmX6_weightBetween.locals ≤ R.locals) : CallW R s args RX6 RX6 53 yX6_weightBetween cX6_weightBetween 6 (some .int) (Wy yX6_weightBetween cX6_weightBetween 6 (some .int)) rmX6_weightBetween 0 0 2 := cwV 2 X.1.2.2.2.2 (gi_V tw_674 tw_676 sw_yX6_weightBetween tw_7 tw_677) rfl rfl rfl (by decide +kernel) hR
end
set_option maxHeartbeats 4000000 in
set_option maxRecDepth 100000 in
theorem c_X6_weightOf (l : Launch) (D : va_G) (cI cC cO : ClassId) (N : Nat) (h0 h_this_s h_this_saved h_this_snapshot h_this_text h_this_lumps h_this_order h_this_nears h_this_told : Nat) (p1 thrown_ savedMany_ hasSnapshot_ length_ lumpMany_ partingSet_ partingWeight_ at_ isWell_ toldMany_ : Int32) (s_ : Nat → Int32) (r_ : Int32) (h : f_X6_weightOf N p1 s_ = some r_) : CI l yX6_weightOf (Wy yX6_weightOf cX6_weightOf 2 (some .int)) rmX6_weightOf D cI cC cO [.ref h0, .int p1] [(h0, .inr (6, [.int thrown_, .ref h_this_s, .ref h_this_saved, .int savedMany_, .ref h_this_snapshot, .int hasSnapshot_, .ref h_this_text, .int length_, .ref h_this_lumps, .int lumpMany_, .ref h_this_order, .ref h_this_nears, .int partingSet_, .int partingWeight_, .int at_, .int isWell_, .ref h_this_told, .int toldMany_])), (h_this_s, .inl (cI, 103, .inl s_))] r_ [(h0, .inr (6, [.int thrown_, .ref h_this_s, .ref h_this_saved, .int savedMany_, .ref h_this_snapshot, .int hasSnapshot_, .ref h_this_text, .int length_, .ref h_this_lumps, .int lumpMany_, .ref h_this_order, .ref h_this_nears, .int partingSet_, .int partingWeight_, .int at_, .int isWell_, .ref h_this_told, .int toldMany_])), (h_this_s, .inl (cI, 103, .inl s_))] := by
  refine enter_i RX6 (by decide) rfl (Nat.le_of_ble_eq_true rfl) ?_
  intro p e s m below meth c A X hr hlk hw ls hl
  have hx := X.1.1
  have hb := X.1.2.1
  have hl : lv_has ls 2 [(0, .ref h0), (1, .int p1)] := hl
  unfold f_X6_weightOf at h
  refine lv_aload_n hx hb dX6_weightOf_0 rfl (lv_at hl 0 rfl) ?_
  refine lv_iload_n hx hb dX6_weightOf_1 rfl (lv_at hl 1 rfl) ?_
  refine lv_aload_n hx hb dX6_weightOf_2 rfl (lv_at hl 0 rfl) ?_
  obtain ⟨r1, hc, h⟩ := bd1_inv h
  refine r_cVi X hw (As := []) (rest := [.int p1, .ref h0]) (wr := []) (ws' := [(h0, .inr (6, [.int thrown_, .ref h_this_s, .ref h_this_saved, .int savedMany_, .ref h_this_snapshot, .int hasSnapshot_, .ref h_this_text, .int length_, .ref h_this_lumps, .int lumpMany_, .ref h_this_order, .ref h_this_nears, .int partingSet_, .int partingWeight_, .int at_, .int isWell_, .ref h_this_told, .int toldMany_])), (h_this_s, .inl (cI, 103, .inl s_))]) (c_X6_all l D cI cC cO h0 h_this_s h_this_saved h_this_snapshot h_this_text h_this_lumps h_this_order h_this_nears h_this_told thrown_ savedMany_ hasSnapshot_ length_ lumpMany_ partingSet_ partingWeight_ at_ isWell_ toldMany_ s_ r1 hc) (cs_X6_49 X (by decide)) [0, 1] [] [0, 1] rfl rfl rfl rfl (by decide) rfl rfl 0 rfl rfl rfl rfl hl.1 rfl (Nat.le_of_ble_eq_true rfl) dX6_weightOf_3 ⟨Nat.zero_le _, Nat.zero_le _⟩ (fun H locs hw => ?_)
  refine lv_iload_n hx hb dX6_weightOf_6 rfl (lv_at hl 1 rfl) ?_
  refine lv_iconst (v := -1) hx hb dX6_weightOf_7 (by decide) ?_
  refine lv_ixor hx hb dX6_weightOf_8 ?_
  refine lv_iand hx hb dX6_weightOf_9 ?_
  obtain ⟨r2, hc, h⟩ := bd1_inv h
  refine r_cVi X hw (As := [.int p1, .int (r1 &&& (p1 ^^^ (-1 : Int32)))]) (rest := []) (wr := []) (ws' := [(h0, .inr (6, [.int thrown_, .ref h_this_s, .ref h_this_saved, .int savedMany_, .ref h_this_snapshot, .int hasSnapshot_, .ref h_this_text, .int length_, .ref h_this_lumps, .int lumpMany_, .ref h_this_order, .ref h_this_nears, .int partingSet_, .int partingWeight_, .int at_, .int isWell_, .ref h_this_told, .int toldMany_])), (h_this_s, .inl (cI, 103, .inl s_))]) (c_X6_weightBetween l D cI cC cO N h0 h_this_s h_this_saved h_this_snapshot h_this_text h_this_lumps h_this_order h_this_nears h_this_told p1 (r1 &&& (p1 ^^^ (-1 : Int32))) thrown_ savedMany_ hasSnapshot_ length_ lumpMany_ partingSet_ partingWeight_ at_ isWell_ toldMany_ s_ r2 hc) (cs_X6_53 X (by decide)) [0, 1] [] [0, 1] rfl rfl rfl rfl (by decide) rfl rfl 0 rfl rfl rfl rfl hl.1 rfl (Nat.le_of_ble_eq_true rfl) dX6_weightOf_10 ⟨Nat.zero_le _, Nat.zero_le _⟩ (fun H locs hw => ?_)
  obtain rfl := oi1 h
  exact r_ret X hw hr hlk dX6_weightOf_13
def rmX6_isParting : Room := { frames := 1, cells := 0, slots := 0, locals := 22 }
set_option maxHeartbeats 4000000 in
set_option maxRecDepth 100000 in
theorem c_X6_isParting (l : Launch) (D : va_G) (cI cC cO : ClassId) (h0 h_this_s h_this_saved h_this_snapshot h_this_text h_this_lumps h_this_order h_this_nears h_this_told : Nat) (p1 thrown_ savedMany_ hasSnapshot_ length_ lumpMany_ partingSet_ partingWeight_ at_ isWell_ toldMany_ : Int32) (s_ : Nat → Int32) (r_ : Int32) (h : f_X6_isParting p1 s_ = some r_) : CI l yX6_isParting (Wy yX6_isParting cX6_isParting 2 (some .boolean)) rmX6_isParting D cI cC cO [.ref h0, .int p1] [(h0, .inr (6, [.int thrown_, .ref h_this_s, .ref h_this_saved, .int savedMany_, .ref h_this_snapshot, .int hasSnapshot_, .ref h_this_text, .int length_, .ref h_this_lumps, .int lumpMany_, .ref h_this_order, .ref h_this_nears, .int partingSet_, .int partingWeight_, .int at_, .int isWell_, .ref h_this_told, .int toldMany_])), (h_this_s, .inl (cI, 103, .inl s_))] r_ [(h0, .inr (6, [.int thrown_, .ref h_this_s, .ref h_this_saved, .int savedMany_, .ref h_this_snapshot, .int hasSnapshot_, .ref h_this_text, .int length_, .ref h_this_lumps, .int lumpMany_, .ref h_this_order, .ref h_this_nears, .int partingSet_, .int partingWeight_, .int at_, .int isWell_, .ref h_this_told, .int toldMany_])), (h_this_s, .inl (cI, 103, .inl s_))] := by
  refine enter_i RX6 (by decide) rfl (Nat.le_of_ble_eq_true rfl) ?_
  intro p e s m below meth c A X hr hlk hw ls hl
  have hx := X.1.1
  have hb := X.1.2.1
  have hl : lv_has ls 2 [(0, .ref h0), (1, .int p1)] := hl
  unfold f_X6_isParting at h
  refine lv_iload_n hx hb dX6_isParting_0 rfl (lv_at hl 1 rfl) ?_
  refine lv_iconst (v := 2) hx hb dX6_isParting_1 (by decide) ?_
  refine lv_aload_n hx hb dX6_isParting_2 rfl (lv_at hl 0 rfl) ?_
  obtain ⟨r1, hc, h⟩ := bd1_inv h
  refine r_cVi X hw (As := []) (rest := [.int (2 : Int32), .int p1]) (wr := []) (ws' := [(h0, .inr (6, [.int thrown_, .ref h_this_s, .ref h_this_saved, .int savedMany_, .ref h_this_snapshot, .int hasSnapshot_, .ref h_this_text, .int length_, .ref h_this_lumps, .int lumpMany_, .ref h_this_order, .ref h_this_nears, .int partingSet_, .int partingWeight_, .int at_, .int isWell_, .ref h_this_told, .int toldMany_])), (h_this_s, .inl (cI, 103, .inl s_))]) (c_X6_all l D cI cC cO h0 h_this_s h_this_saved h_this_snapshot h_this_text h_this_lumps h_this_order h_this_nears h_this_told thrown_ savedMany_ hasSnapshot_ length_ lumpMany_ partingSet_ partingWeight_ at_ isWell_ toldMany_ s_ r1 hc) (cs_X6_49 X (by decide)) [0, 1] [] [0, 1] rfl rfl rfl rfl (by decide) rfl rfl 0 rfl rfl rfl rfl hl.1 rfl (Nat.le_of_ble_eq_true rfl) dX6_isParting_3 ⟨Nat.zero_le _, Nat.zero_le _⟩ (fun H locs hw => ?_)
  refine lv_iconst (v := 1) hx hb dX6_isParting_6 (by decide) ?_
  refine lv_isub hx hb dX6_isParting_7 ?_
  obtain ⟨r2, hc, h⟩ := bd1_inv h
  refine r_cSi X hw (As := [.int p1, .int (2 : Int32), .int (r1 - (1 : Int32))]) (rest := []) (c_X6_in l D cI cC cO p1 (2 : Int32) (r1 - (1 : Int32)) r2 hc) (cs_X6_38 X (by decide)) rfl hl.1 rfl (Nat.le_of_ble_eq_true rfl) dX6_isParting_8 ⟨Nat.zero_le _, Nat.zero_le _⟩ (fun H locs hw => ?_)
  refine lv_if_eq (tgt := 24) hx hb dX6_isParting_11 (by decide) (fun c1 => ?_) (fun c1 => ?_)
  · replace h := ip c1 h
    refine lv_iconst (v := 0) hx hb dX6_isParting_24 (by decide) ?_
    obtain rfl := oi1 h
    exact r_retz X hw hr (Or.inl rfl) hlk dX6_isParting_25
  · replace h := ig c1 h
    refine lv_iload_n hx hb dX6_isParting_14 rfl (lv_at hl 1 rfl) ?_
    refine lv_iconst (v := 1) hx hb dX6_isParting_15 (by decide) ?_
    refine lv_iand hx hb dX6_isParting_16 ?_
    refine lv_if_ne (tgt := 24) hx hb dX6_isParting_17 (by decide) (fun c1 => ?_) (fun c1 => ?_)
    · replace h := ig c1 h
      refine lv_iconst (v := 0) hx hb dX6_isParting_24 (by decide) ?_
      obtain rfl := oi1 h
      exact r_retz X hw hr (Or.inl rfl) hlk dX6_isParting_25
    · replace h := ip c1 h
      refine lv_iconst (v := 1) hx hb dX6_isParting_20 (by decide) ?_
      refine lv_goto (tgt := 25) hx hb dX6_isParting_21 (by decide) ?_
      obtain rfl := oi1 h
      exact r_retz X hw hr (Or.inr rfl) hlk dX6_isParting_25
def rmX6_ones : Room := { frames := 0, cells := 0, slots := 0, locals := 0 }
set_option maxHeartbeats 4000000 in
set_option maxRecDepth 100000 in
theorem c_X6_ones (l : Launch) (D : va_G) (cI cC cO : ClassId) (N : Nat) (p0 : Int32) (r_ : Int32) (h : f_X6_ones N p0 = some r_) : CI l yX6_ones (Wy yX6_ones cX6_ones 3 (some .int)) rmX6_ones D cI cC cO [.int p0] [] r_ [] := by
  refine enter_i RX6 (by decide) rfl (Nat.le_of_ble_eq_true rfl) ?_
  intro p e s m below meth c A X hr hlk hw ls hl
  have hx := X.1.1
  have hb := X.1.2.1
  have hl : lv_has ls 3 [(0, .int p0)] := hl
  unfold f_X6_ones at h
  refine lv_iconst (v := 0) hx hb dX6_ones_0 (by decide) ?_
  refine lv_istore_n (lv' := [(1, .int (0 : Int32)), (0, .int p0)]) hx hb dX6_ones_1 rfl hl (by decide) rfl (fun ls hl => ?_)
  refine lv_iconst (v := 0) hx hb dX6_ones_2 (by decide) ?_
  refine lv_istore_n (lv' := [(2, .int (0 : Int32)), (1, .int (0 : Int32)), (0, .int p0)]) hx hb dX6_ones_3 rfl hl (by decide) rfl (fun ls hl => ?_)
  have E24 : ∀ (x6 : Int32) (H : Heap) (locs : List Loc) (ls : Array Slot), f_X6_ones_E24 x6 = some r_ → Wd D A s.heap [] H locs → lv_has ls 3 [(1, .int x6)] → W p l e rmX6_ones s m ([.int p0] : List Value).toArray below meth c H locs 0 0 (MQ below (Qi D r_ [] A) ([.int p0] : List Value).toArray s 0 0 A) (F0 m 24 ls []) := by
    intro x6 H locs ls h hw hl
    unfold f_X6_ones_E24 at h
    refine lv_iload_n hx hb dX6_ones_24 rfl (lv_at hl 0 rfl) ?_
    obtain rfl := oi1 h
    exact r_ret X hw hr hlk dX6_ones_25
  have L4 : ∀ (k3 : Int32 → Option (Int32)), (∀ (x6 : Int32) (H : Heap) (locs : List Loc) (ls : Array Slot), k3 x6 = some r_ → Wd D A s.heap [] H locs → lv_has ls 3 [(1, .int x6)] → W p l e rmX6_ones s m ([.int p0] : List Value).toArray below meth c H locs 0 0 (MQ below (Qi D r_ [] A) ([.int p0] : List Value).toArray s 0 0 A) (F0 m 24 ls [])) → ∀ (n5 : Nat), ∀ (x1 x2 : Int32) (H : Heap) (locs : List Loc) (ls : Array Slot), f_X6_ones_L4 p0 k3 n5 x1 x2 = some r_ → Wd D A s.heap [] H locs → lv_has ls 3 [(0, .int p0), (1, .int x1), (2, .int x2)] → W p l e rmX6_ones s m ([.int p0] : List Value).toArray below meth c H locs 0 0 (MQ below (Qi D r_ [] A) ([.int p0] : List Value).toArray s 0 0 A) (F0 m 4 ls []) := by
    intro k3 hk4 n5
    induction n5 with
    | zero => intro x1 x2 H locs ls h; cases h
    | succ n5 ih4 =>
      intro x1 x2 H locs ls h hw hl
      rw [f_X6_ones_L4] at h
      refine lv_iload_n hx hb dX6_ones_4 rfl (lv_at hl 2 rfl) ?_
      refine lv_bipush (v := 10) hx hb dX6_ones_5 (by decide) ?_
      refine lv_icmp_ge (tgt := 24) hx hb dX6_ones_7 (by decide) (fun c1 => ?_) (fun c1 => ?_)
      · replace h := ip c1 h
        exact hk4 x1 _ _ _ h hw (lv_sub hl [1] rfl)
      · replace h := ig c1 h
        refine lv_iload_n hx hb dX6_ones_10 rfl (lv_at hl 1 rfl) ?_
        refine lv_iload_n hx hb dX6_ones_11 rfl (lv_at hl 0 rfl) ?_
        refine lv_iload_n hx hb dX6_ones_12 rfl (lv_at hl 2 rfl) ?_
        refine lv_ishr hx hb dX6_ones_13 ?_
        refine lv_iconst (v := 1) hx hb dX6_ones_14 (by decide) ?_
        refine lv_iand hx hb dX6_ones_15 ?_
        refine lv_iadd hx hb dX6_ones_16 ?_
        refine lv_istore_n (lv' := [(1, .int (x1 + ((p0 >>> (x2 &&& (31 : Int32))) &&& (1 : Int32)))), (0, .int p0), (2, .int x2)]) hx hb dX6_ones_17 rfl hl (by decide) rfl (fun ls hl => ?_)
        refine lv_iinc (v := (x2 + (1 : Int32))) (lv' := [(2, .int (x2 + (1 : Int32))), (1, .int (x1 + ((p0 >>> (x2 &&& (31 : Int32))) &&& (1 : Int32)))), (0, .int p0)]) hx hb dX6_ones_18 hl (k := 2) rfl rfl (by decide) rfl (fun ls hl => ?_)
        refine lv_goto (tgt := 4) hx hb dX6_ones_21 (by decide) ?_
        exact ih4 (x1 + ((p0 >>> (x2 &&& (31 : Int32))) &&& (1 : Int32))) (x2 + (1 : Int32)) _ _ _ h hw (lv_sub hl [2, 1, 0] rfl)
  exact L4 (fun x6 => f_X6_ones_E24 x6) (fun x6 H locs ls h hw hl => E24 x6 H locs ls h hw hl) N (0 : Int32) (0 : Int32) _ _ _ h hw (lv_sub hl [2, 1, 0] rfl)
def rmX6_isFair : Room := { frames := 1, cells := 0, slots := 0, locals := 22 }
section
variable {p : Program} {l : Launch} {e : Env} {R : Room} {s : State} {m : MethodId} {args : Array Value} {below : List Frame} {meth : Method} {c : Code} {H : Heap} {locs : List Loc} {cells slots : Nat} {Q : State → Prop}
variable {cc : ByteArray} {pc nL : Nat} {ls : Array Slot} {rest : List Value} {D : va_G} {cI cC cO : ClassId} {A : Nat → Prop} {ws : va_W} {H0 : Heap}
theorem cs_X6_56 (X : Ctx p m c cc nL s args RX6 D cI cC cO) (hR : rmX6_ones.frames + 1 ≤ R.frames ∧ 8 + (3 + 11) + rmX6_ones.locals ≤ R.locals) : CallB R s args RX6 56 yX6_ones cX6_ones 3 (some .int) (Wy yX6_ones cX6_ones 3 (some .int)) rmX6_ones 0 0 1 ∧ (Cond.static yX6_ones).before args s = true := va_cwS 1 X.1.2.2.2.2 (gi_S tw_793 tw_794 tw_7 tw_795) rfl rfl rfl (by decide +kernel) hR
end
set_option maxHeartbeats 4000000 in
set_option maxRecDepth 100000 in
theorem c_X6_isFair (l : Launch) (D : va_G) (cI cC cO : ClassId) (N : Nat) (h0 h_this_s h_this_saved h_this_snapshot h_this_text h_this_lumps h_this_order h_this_nears h_this_told : Nat) (p1 thrown_ savedMany_ hasSnapshot_ length_ lumpMany_ partingSet_ partingWeight_ at_ isWell_ toldMany_ : Int32) (s_ : Nat → Int32) (r_ : Int32) (h : f_X6_isFair N p1 s_ = some r_) : CI l yX6_isFair (Wy yX6_isFair cX6_isFair 3 (some .boolean)) rmX6_isFair D cI cC cO [.ref h0, .int p1] [(h0, .inr (6, [.int thrown_, .ref h_this_s, .ref h_this_saved, .int savedMany_, .ref h_this_snapshot, .int hasSnapshot_, .ref h_this_text, .int length_, .ref h_this_lumps, .int lumpMany_, .ref h_this_order, .ref h_this_nears, .int partingSet_, .int partingWeight_, .int at_, .int isWell_, .ref h_this_told, .int toldMany_])), (h_this_s, .inl (cI, 103, .inl s_))] r_ [(h0, .inr (6, [.int thrown_, .ref h_this_s, .ref h_this_saved, .int savedMany_, .ref h_this_snapshot, .int hasSnapshot_, .ref h_this_text, .int length_, .ref h_this_lumps, .int lumpMany_, .ref h_this_order, .ref h_this_nears, .int partingSet_, .int partingWeight_, .int at_, .int isWell_, .ref h_this_told, .int toldMany_])), (h_this_s, .inl (cI, 103, .inl s_))] := by
  refine enter_i RX6 (by decide) rfl (Nat.le_of_ble_eq_true rfl) ?_
  intro p e s m below meth c A X hr hlk hw ls hl
  have hx := X.1.1
  have hb := X.1.2.1
  have hl : lv_has ls 3 [(0, .ref h0), (1, .int p1)] := hl
  unfold f_X6_isFair at h
  refine lv_iload_n hx hb dX6_isFair_0 rfl (lv_at hl 1 rfl) ?_
  obtain ⟨r1, hc, h⟩ := bd1_inv h
  refine r_cSi X hw (As := [.int p1]) (rest := []) (c_X6_ones l D cI cC cO N p1 r1 hc) (cs_X6_56 X (by decide)) rfl hl.1 rfl (Nat.le_of_ble_eq_true rfl) dX6_isFair_1 ⟨Nat.zero_le _, Nat.zero_le _⟩ (fun H locs hw => ?_)
  refine lv_istore_n (lv' := [(2, .int r1), (0, .ref h0), (1, .int p1)]) hx hb dX6_isFair_4 rfl hl (by decide) rfl (fun ls hl => ?_)
  refine lv_iload_n hx hb dX6_isFair_5 rfl (lv_at hl 0 rfl) ?_
  refine lv_aload_n hx hb dX6_isFair_6 rfl (lv_at hl 1 rfl) ?_
  refine fg_X6_7 X hw 0 rfl rfl dX6_isFair_7 ?_
  refine lv_iconst (v := 2) hx hb dX6_isFair_10 (by decide) ?_
  refine r_iald X hw 1 rfl (v := (s_ 2)) (vp_lit (by decide)) rfl dX6_isFair_11 ?_
  refine lv_icmp_lt (tgt := 36) hx hb dX6_isFair_12 (by decide) (fun c1 => ?_) (fun c1 => ?_)
  · replace h := ip c1 h
    refine lv_iconst (v := 0) hx hb dX6_isFair_36 (by decide) ?_
    obtain rfl := oi1 h
    exact r_retz X hw hr (Or.inl rfl) hlk dX6_isFair_37
  · replace h := ig c1 h
    refine lv_aload_n hx hb dX6_isFair_15 rfl (lv_at hl 1 rfl) ?_
    refine fg_X6_7 X hw 0 rfl rfl dX6_isFair_16 ?_
    refine lv_iconst (v := 0) hx hb dX6_isFair_19 (by decide) ?_
    refine r_iald X hw 1 rfl (v := (s_ 0)) (vp_lit (by decide)) rfl dX6_isFair_20 ?_
    refine lv_iload_n hx hb dX6_isFair_21 rfl (lv_at hl 0 rfl) ?_
    refine lv_isub hx hb dX6_isFair_22 ?_
    refine lv_aload_n hx hb dX6_isFair_23 rfl (lv_at hl 1 rfl) ?_
    refine fg_X6_7 X hw 0 rfl rfl dX6_isFair_24 ?_
    refine lv_iconst (v := 2) hx hb dX6_isFair_27 (by decide) ?_
    refine r_iald X hw 1 rfl (v := (s_ 2)) (vp_lit (by decide)) rfl dX6_isFair_28 ?_
    refine lv_icmp_lt (tgt := 36) hx hb dX6_isFair_29 (by decide) (fun c1 => ?_) (fun c1 => ?_)
    · replace h := ip c1 h
      refine lv_iconst (v := 0) hx hb dX6_isFair_36 (by decide) ?_
      obtain rfl := oi1 h
      exact r_retz X hw hr (Or.inl rfl) hlk dX6_isFair_37
    · replace h := ig c1 h
      refine lv_iconst (v := 1) hx hb dX6_isFair_32 (by decide) ?_
      refine lv_goto (tgt := 37) hx hb dX6_isFair_33 (by decide) ?_
      obtain rfl := oi1 h
      exact r_retz X hw hr (Or.inr rfl) hlk dX6_isFair_37
def rmX6_firstLeast : Room := { frames := 3, cells := 0, slots := 0, locals := 68 }
section
variable {p : Program} {l : Launch} {e : Env} {R : Room} {s : State} {m : MethodId} {args : Array Value} {below : List Frame} {meth : Method} {c : Code} {H : Heap} {locs : List Loc} {cells slots : Nat} {Q : State → Prop}
variable {cc : ByteArray} {pc nL : Nat} {ls : Array Slot} {rest : List Value} {D : va_G} {cI cC cO : ClassId} {A : Nat → Prop} {ws : va_W} {H0 : Heap}
theorem cs_X6_60 (X : Ctx p m c cc nL s args RX6 D cI cC cO) (hR : rmX6_weightOf.frames + 1 ≤ R.frames ∧ 8 + (2 + 11) + rmX6_weightOf.locals ≤ R.locals) : CallW R s args RX6 RX6 60 yX6_weightOf cX6_weightOf 2 (some .int) (Wy yX6_weightOf cX6_weightOf 2 (some .int)) rmX6_weightOf 0 0 1 := cwV 1 X.1.2.2.2.2 (gi_V tw_737 tw_739 sw_yX6_weightOf tw_7 tw_740) rfl rfl rfl (by decide +kernel) hR
end
set_option maxHeartbeats 4000000 in
set_option maxRecDepth 100000 in
theorem c_X6_firstLeast (l : Launch) (D : va_G) (cI cC cO : ClassId) (N : Nat) (h0 h_this_s h_this_saved h_this_snapshot h_this_text h_this_lumps h_this_order h_this_nears h_this_told : Nat) (thrown_ savedMany_ hasSnapshot_ length_ lumpMany_ partingSet_ partingWeight_ at_ isWell_ toldMany_ : Int32) (s_ : Nat → Int32) (r_ : Int32) (h : f_X6_firstLeast N s_ = some r_) : CI l yX6_firstLeast (Wy yX6_firstLeast cX6_firstLeast 5 (some .int)) rmX6_firstLeast D cI cC cO [.ref h0] [(h0, .inr (6, [.int thrown_, .ref h_this_s, .ref h_this_saved, .int savedMany_, .ref h_this_snapshot, .int hasSnapshot_, .ref h_this_text, .int length_, .ref h_this_lumps, .int lumpMany_, .ref h_this_order, .ref h_this_nears, .int partingSet_, .int partingWeight_, .int at_, .int isWell_, .ref h_this_told, .int toldMany_])), (h_this_s, .inl (cI, 103, .inl s_))] r_ [(h0, .inr (6, [.int thrown_, .ref h_this_s, .ref h_this_saved, .int savedMany_, .ref h_this_snapshot, .int hasSnapshot_, .ref h_this_text, .int length_, .ref h_this_lumps, .int lumpMany_, .ref h_this_order, .ref h_this_nears, .int partingSet_, .int partingWeight_, .int at_, .int isWell_, .ref h_this_told, .int toldMany_])), (h_this_s, .inl (cI, 103, .inl s_))] := by
  refine enter_i RX6 (by decide) rfl (Nat.le_of_ble_eq_true rfl) ?_
  intro p e s m below meth c A X hr hlk hw ls hl
  have hx := X.1.1
  have hb := X.1.2.1
  have hl : lv_has ls 5 [(0, .ref h0)] := hl
  unfold f_X6_firstLeast at h
  refine lv_iconst (v := 2) hx hb dX6_firstLeast_0 (by decide) ?_
  refine lv_istore_n (lv' := [(1, .int (2 : Int32)), (0, .ref h0)]) hx hb dX6_firstLeast_1 rfl hl (by decide) rfl (fun ls hl => ?_)
  refine lv_aload_n hx hb dX6_firstLeast_2 rfl (lv_at hl 1 rfl) ?_
  refine lv_iconst (v := 2) hx hb dX6_firstLeast_3 (by decide) ?_
  obtain ⟨r1, hc, h⟩ := bd1_inv h
  refine r_cVi X hw (As := [.int (2 : Int32)]) (rest := []) (wr := []) (ws' := [(h0, .inr (6, [.int thrown_, .ref h_this_s, .ref h_this_saved, .int savedMany_, .ref h_this_snapshot, .int hasSnapshot_, .ref h_this_text, .int length_, .ref h_this_lumps, .int lumpMany_, .ref h_this_order, .ref h_this_nears, .int partingSet_, .int partingWeight_, .int at_, .int isWell_, .ref h_this_told, .int toldMany_])), (h_this_s, .inl (cI, 103, .inl s_))]) (c_X6_weightOf l D cI cC cO N h0 h_this_s h_this_saved h_this_snapshot h_this_text h_this_lumps h_this_order h_this_nears h_this_told (2 : Int32) thrown_ savedMany_ hasSnapshot_ length_ lumpMany_ partingSet_ partingWeight_ at_ isWell_ toldMany_ s_ r1 hc) (cs_X6_60 X (by decide)) [0, 1] [] [0, 1] rfl rfl rfl rfl (by decide) rfl rfl 0 rfl rfl rfl rfl hl.1 rfl (Nat.le_of_ble_eq_true rfl) dX6_firstLeast_4 ⟨Nat.zero_le _, Nat.zero_le _⟩ (fun H locs hw => ?_)
  refine lv_istore_n (lv' := [(2, .int r1), (1, .int (2 : Int32)), (0, .ref h0)]) hx hb dX6_firstLeast_7 rfl hl (by decide) rfl (fun ls hl => ?_)
  refine lv_iconst (v := 4) hx hb dX6_firstLeast_8 (by decide) ?_
  refine lv_istore_n (lv' := [(3, .int (4 : Int32)), (2, .int r1), (1, .int (2 : Int32)), (0, .ref h0)]) hx hb dX6_firstLeast_9 rfl hl (by decide) rfl (fun ls hl => ?_)
  have E56 : ∀ (x12 : Int32) (H : Heap) (locs : List Loc) (ls : Array Slot), f_X6_firstLeast_E56 x12 = some r_ → Wd D A s.heap [(h0, .inr (6, [.int thrown_, .ref h_this_s, .ref h_this_saved, .int savedMany_, .ref h_this_snapshot, .int hasSnapshot_, .ref h_this_text, .int length_, .ref h_this_lumps, .int lumpMany_, .ref h_this_order, .ref h_this_nears, .int partingSet_, .int partingWeight_, .int at_, .int isWell_, .ref h_this_told, .int toldMany_])), (h_this_s, .inl (cI, 103, .inl s_))] H locs → lv_has ls 5 [(1, .int x12)] → W p l e rmX6_firstLeast s m ([.ref h0] : List Value).toArray below meth c H locs 0 0 (MQ below (Qi D r_ [(h0, .inr (6, [.int thrown_, .ref h_this_s, .ref h_this_saved, .int savedMany_, .ref h_this_snapshot, .int hasSnapshot_, .ref h_this_text, .int length_, .ref h_this_lumps, .int lumpMany_, .ref h_this_order, .ref h_this_nears, .int partingSet_, .int partingWeight_, .int at_, .int isWell_, .ref h_this_told, .int toldMany_])), (h_this_s, .inl (cI, 103, .inl s_))] A) ([.ref h0] : List Value).toArray s 0 0 A) (F0 m 56 ls []) := by
    intro x12 H locs ls h hw hl
    unfold f_X6_firstLeast_E56 at h
    refine lv_iload_n hx hb dX6_firstLeast_56 rfl (lv_at hl 0 rfl) ?_
    obtain rfl := oi1 h
    exact r_ret X hw hr hlk dX6_firstLeast_57
  have L10 : ∀ (k9 : Int32 → Option (Int32)), (∀ (x12 : Int32) (H : Heap) (locs : List Loc) (ls : Array Slot), k9 x12 = some r_ → Wd D A s.heap [(h0, .inr (6, [.int thrown_, .ref h_this_s, .ref h_this_saved, .int savedMany_, .ref h_this_snapshot, .int hasSnapshot_, .ref h_this_text, .int length_, .ref h_this_lumps, .int lumpMany_, .ref h_this_order, .ref h_this_nears, .int partingSet_, .int partingWeight_, .int at_, .int isWell_, .ref h_this_told, .int toldMany_])), (h_this_s, .inl (cI, 103, .inl s_))] H locs → lv_has ls 5 [(1, .int x12)] → W p l e rmX6_firstLeast s m ([.ref h0] : List Value).toArray below meth c H locs 0 0 (MQ below (Qi D r_ [(h0, .inr (6, [.int thrown_, .ref h_this_s, .ref h_this_saved, .int savedMany_, .ref h_this_snapshot, .int hasSnapshot_, .ref h_this_text, .int length_, .ref h_this_lumps, .int lumpMany_, .ref h_this_order, .ref h_this_nears, .int partingSet_, .int partingWeight_, .int at_, .int isWell_, .ref h_this_told, .int toldMany_])), (h_this_s, .inl (cI, 103, .inl s_))] A) ([.ref h0] : List Value).toArray s 0 0 A) (F0 m 56 ls [])) → ∀ (n11 : Nat), ∀ (x2 x3 x4 : Int32) (H : Heap) (locs : List Loc) (ls : Array Slot), f_X6_firstLeast_L10 N s_ k9 n11 x2 x3 x4 = some r_ → Wd D A s.heap [(h0, .inr (6, [.int thrown_, .ref h_this_s, .ref h_this_saved, .int savedMany_, .ref h_this_snapshot, .int hasSnapshot_, .ref h_this_text, .int length_, .ref h_this_lumps, .int lumpMany_, .ref h_this_order, .ref h_this_nears, .int partingSet_, .int partingWeight_, .int at_, .int isWell_, .ref h_this_told, .int toldMany_])), (h_this_s, .inl (cI, 103, .inl s_))] H locs → lv_has ls 5 [(0, .ref h0), (1, .int x2), (2, .int x3), (3, .int x4)] → W p l e rmX6_firstLeast s m ([.ref h0] : List Value).toArray below meth c H locs 0 0 (MQ below (Qi D r_ [(h0, .inr (6, [.int thrown_, .ref h_this_s, .ref h_this_saved, .int savedMany_, .ref h_this_snapshot, .int hasSnapshot_, .ref h_this_text, .int length_, .ref h_this_lumps, .int lumpMany_, .ref h_this_order, .ref h_this_nears, .int partingSet_, .int partingWeight_, .int at_, .int isWell_, .ref h_this_told, .int toldMany_])), (h_this_s, .inl (cI, 103, .inl s_))] A) ([.ref h0] : List Value).toArray s 0 0 A) (F0 m 10 ls []) := by
    intro k9 hk10 n11
    induction n11 with
    | zero => intro x2 x3 x4 H locs ls h; cases h
    | succ n11 ih10 =>
      intro x2 x3 x4 H locs ls h hw hl
      rw [f_X6_firstLeast_L10] at h
      refine lv_iload_n hx hb dX6_firstLeast_10 rfl (lv_at hl 3 rfl) ?_
      refine lv_aload_n hx hb dX6_firstLeast_11 rfl (lv_at hl 0 rfl) ?_
      obtain ⟨r5, hc, h⟩ := bd1_inv h
      refine r_cVi X hw (As := []) (rest := [.int x4]) (wr := []) (ws' := [(h0, .inr (6, [.int thrown_, .ref h_this_s, .ref h_this_saved, .int savedMany_, .ref h_this_snapshot, .int hasSnapshot_, .ref h_this_text, .int length_, .ref h_this_lumps, .int lumpMany_, .ref h_this_order, .ref h_this_nears, .int partingSet_, .int partingWeight_, .int at_, .int isWell_, .ref h_this_told, .int toldMany_])), (h_this_s, .inl (cI, 103, .inl s_))]) (c_X6_all l D cI cC cO h0 h_this_s h_this_saved h_this_snapshot h_this_text h_this_lumps h_this_order h_this_nears h_this_told thrown_ savedMany_ hasSnapshot_ length_ lumpMany_ partingSet_ partingWeight_ at_ isWell_ toldMany_ s_ r5 hc) (cs_X6_49 X (by decide)) [0, 1] [] [0, 1] rfl rfl rfl rfl (by decide) rfl rfl 0 rfl rfl rfl rfl hl.1 rfl (Nat.le_of_ble_eq_true rfl) dX6_firstLeast_12 ⟨Nat.zero_le _, Nat.zero_le _⟩ (fun H locs hw => ?_)
      refine lv_icmp_ge (tgt := 56) hx hb dX6_firstLeast_15 (by decide) (fun c1 => ?_) (fun c1 => ?_)
      · replace h := ip c1 h
        exact hk10 x2 _ _ _ h hw (lv_sub hl [1] rfl)
      · replace h := ig c1 h
        refine lv_aload_n hx hb dX6_firstLeast_18 rfl (lv_at hl 0 rfl) ?_
        refine lv_iload_n hx hb dX6_firstLeast_19 rfl (lv_at hl 3 rfl) ?_
        obtain ⟨r6, hc, h⟩ := bd1_inv h
        refine r_cVi X hw (As := [.int x4]) (rest := []) (wr := []) (ws' := [(h0, .inr (6, [.int thrown_, .ref h_this_s, .ref h_this_saved, .int savedMany_, .ref h_this_snapshot, .int hasSnapshot_, .ref h_this_text, .int length_, .ref h_this_lumps, .int lumpMany_, .ref h_this_order, .ref h_this_nears, .int partingSet_, .int partingWeight_, .int at_, .int isWell_, .ref h_this_told, .int toldMany_])), (h_this_s, .inl (cI, 103, .inl s_))]) (c_X6_weightOf l D cI cC cO N h0 h_this_s h_this_saved h_this_snapshot h_this_text h_this_lumps h_this_order h_this_nears h_this_told x4 thrown_ savedMany_ hasSnapshot_ length_ lumpMany_ partingSet_ partingWeight_ at_ isWell_ toldMany_ s_ r6 hc) (cs_X6_60 X (by decide)) [0, 1] [] [0, 1] rfl rfl rfl rfl (by decide) rfl rfl 0 rfl rfl rfl rfl hl.1 rfl (Nat.le_of_ble_eq_true rfl) dX6_firstLeast_20 ⟨Nat.zero_le _, Nat.zero_le _⟩ (fun H locs hw => ?_)
        refine lv_istore (lv' := [(4, .int r6), (0, .ref h0), (1, .int x2), (2, .int x3), (3, .int x4)]) hx hb dX6_firstLeast_23 hl (by decide) rfl (fun ls hl => ?_)
        refine lv_iload hx hb dX6_firstLeast_25 (lv_at hl 0 rfl) ?_
        refine lv_iload_n hx hb dX6_firstLeast_27 rfl (lv_at hl 3 rfl) ?_
        have J36 : ∀ (x7 : Int32) (H : Heap) (locs : List Loc) (ls : Array Slot), f_X6_firstLeast_J36 x3 r6 (f_X6_firstLeast_L10 N s_ k9 n11) x4 x7 = some r_ → Wd D A s.heap [(h0, .inr (6, [.int thrown_, .ref h_this_s, .ref h_this_saved, .int savedMany_, .ref h_this_snapshot, .int hasSnapshot_, .ref h_this_text, .int length_, .ref h_this_lumps, .int lumpMany_, .ref h_this_order, .ref h_this_nears, .int partingSet_, .int partingWeight_, .int at_, .int isWell_, .ref h_this_told, .int toldMany_])), (h_this_s, .inl (cI, 103, .inl s_))] H locs → lv_has ls 5 [(0, .ref h0), (2, .int x3), (3, .int x4), (4, .int r6)] → W p l e rmX6_firstLeast s m ([.ref h0] : List Value).toArray below meth c H locs 0 0 (MQ below (Qi D r_ [(h0, .inr (6, [.int thrown_, .ref h_this_s, .ref h_this_saved, .int savedMany_, .ref h_this_snapshot, .int hasSnapshot_, .ref h_this_text, .int length_, .ref h_this_lumps, .int lumpMany_, .ref h_this_order, .ref h_this_nears, .int partingSet_, .int partingWeight_, .int at_, .int isWell_, .ref h_this_told, .int toldMany_])), (h_this_s, .inl (cI, 103, .inl s_))] A) ([.ref h0] : List Value).toArray s 0 0 A) (F0 m 36 ls [.int x7]) := by
          intro x7 H locs ls h hw hl
          unfold f_X6_firstLeast_J36 at h
          refine lv_istore_n (lv' := [(1, .int x7), (0, .ref h0), (2, .int x3), (3, .int x4), (4, .int r6)]) hx hb dX6_firstLeast_36 rfl hl (by decide) rfl (fun ls hl => ?_)
          refine lv_iload hx hb dX6_firstLeast_37 (lv_at hl 4 rfl) ?_
          refine lv_iload_n hx hb dX6_firstLeast_39 rfl (lv_at hl 2 rfl) ?_
          have J49 : ∀ (x8 : Int32) (H : Heap) (locs : List Loc) (ls : Array Slot), f_X6_firstLeast_J49 (f_X6_firstLeast_L10 N s_ k9 n11) x7 x4 x8 = some r_ → Wd D A s.heap [(h0, .inr (6, [.int thrown_, .ref h_this_s, .ref h_this_saved, .int savedMany_, .ref h_this_snapshot, .int hasSnapshot_, .ref h_this_text, .int length_, .ref h_this_lumps, .int lumpMany_, .ref h_this_order, .ref h_this_nears, .int partingSet_, .int partingWeight_, .int at_, .int isWell_, .ref h_this_told, .int toldMany_])), (h_this_s, .inl (cI, 103, .inl s_))] H locs → lv_has ls 5 [(0, .ref h0), (1, .int x7), (3, .int x4)] → W p l e rmX6_firstLeast s m ([.ref h0] : List Value).toArray below meth c H locs 0 0 (MQ below (Qi D r_ [(h0, .inr (6, [.int thrown_, .ref h_this_s, .ref h_this_saved, .int savedMany_, .ref h_this_snapshot, .int hasSnapshot_, .ref h_this_text, .int length_, .ref h_this_lumps, .int lumpMany_, .ref h_this_order, .ref h_this_nears, .int partingSet_, .int partingWeight_, .int at_, .int isWell_, .ref h_this_told, .int toldMany_])), (h_this_s, .inl (cI, 103, .inl s_))] A) ([.ref h0] : List Value).toArray s 0 0 A) (F0 m 49 ls [.int x8]) := by
            intro x8 H locs ls h hw hl
            unfold f_X6_firstLeast_J49 at h
            refine lv_istore_n (lv' := [(2, .int x8), (0, .ref h0), (1, .int x7), (3, .int x4)]) hx hb dX6_firstLeast_49 rfl hl (by decide) rfl (fun ls hl => ?_)
            refine lv_iinc (v := (x4 + (2 : Int32))) (lv' := [(3, .int (x4 + (2 : Int32))), (2, .int x8), (0, .ref h0), (1, .int x7)]) hx hb dX6_firstLeast_50 hl (k := 3) rfl rfl (by decide) rfl (fun ls hl => ?_)
            refine lv_goto (tgt := 10) hx hb dX6_firstLeast_53 (by decide) ?_
            exact ih10 x7 x8 (x4 + (2 : Int32)) _ _ _ h hw (lv_sub hl [2, 3, 1, 0] rfl)
          refine lv_icmp_ge (tgt := 48) hx hb dX6_firstLeast_40 (by decide) (fun c1 => ?_) (fun c1 => ?_)
          · replace h := ip c1 h
            refine lv_iload_n hx hb dX6_firstLeast_48 rfl (lv_at hl 2 rfl) ?_
            exact J49 x3 _ _ _ h hw (lv_sub hl [1, 0, 3] rfl)
          · replace h := ig c1 h
            refine lv_iload hx hb dX6_firstLeast_43 (lv_at hl 4 rfl) ?_
            refine lv_goto (tgt := 49) hx hb dX6_firstLeast_45 (by decide) ?_
            exact J49 r6 _ _ _ h hw (lv_sub hl [1, 0, 3] rfl)
        refine lv_icmp_ge (tgt := 35) hx hb dX6_firstLeast_28 (by decide) (fun c1 => ?_) (fun c1 => ?_)
        · replace h := ip c1 h
          refine lv_iload_n hx hb dX6_firstLeast_35 rfl (lv_at hl 2 rfl) ?_
          exact J36 x2 _ _ _ h hw (lv_sub hl [1, 3, 4, 0] rfl)
        · replace h := ig c1 h
          refine lv_iload_n hx hb dX6_firstLeast_31 rfl (lv_at hl 4 rfl) ?_
          refine lv_goto (tgt := 36) hx hb dX6_firstLeast_32 (by decide) ?_
          exact J36 x4 _ _ _ h hw (lv_sub hl [1, 3, 4, 0] rfl)
  exact L10 (fun x12 => f_X6_firstLeast_E56 x12) (fun x12 H locs ls h hw hl => E56 x12 H locs ls h hw hl) N (2 : Int32) r1 (4 : Int32) _ _ _ h hw (lv_sub hl [3, 2, 1, 0] rfl)
def rmX6_leastWeight : Room := { frames := 4, cells := 0, slots := 0, locals := 92 }
section
variable {p : Program} {l : Launch} {e : Env} {R : Room} {s : State} {m : MethodId} {args : Array Value} {below : List Frame} {meth : Method} {c : Code} {H : Heap} {locs : List Loc} {cells slots : Nat} {Q : State → Prop}
variable {cc : ByteArray} {pc nL : Nat} {ls : Array Slot} {rest : List Value} {D : va_G} {cI cC cO : ClassId} {A : Nat → Prop} {ws : va_W} {H0 : Heap}
theorem cs_X6_63 (X : Ctx p m c cc nL s args RX6 D cI cC cO) (hR : rmX6_firstLeast.frames + 1 ≤ R.frames ∧ 8 + (5 + 11) + rmX6_firstLeast.locals ≤ R.locals) : CallW R s args RX6 RX6 63 yX6_firstLeast cX6_firstLeast 5 (some .int) (Wy yX6_firstLeast cX6_firstLeast 5 (some .int)) rmX6_firstLeast 0 0 0 := cwV 0 X.1.2.2.2.2 (gi_V tw_761 tw_763 sw_yX6_firstLeast tw_7 tw_764) rfl rfl rfl (by decide +kernel) hR
end
set_option maxHeartbeats 4000000 in
set_option maxRecDepth 100000 in
theorem c_X6_leastWeight (l : Launch) (D : va_G) (cI cC cO : ClassId) (N : Nat) (h0 h_this_s h_this_saved h_this_snapshot h_this_text h_this_lumps h_this_order h_this_nears h_this_told : Nat) (thrown_ savedMany_ hasSnapshot_ length_ lumpMany_ partingSet_ partingWeight_ at_ isWell_ toldMany_ : Int32) (s_ : Nat → Int32) (r_ : Int32) (h : f_X6_leastWeight N s_ = some r_) : CI l yX6_leastWeight (Wy yX6_leastWeight cX6_leastWeight 1 (some .int)) rmX6_leastWeight D cI cC cO [.ref h0] [(h0, .inr (6, [.int thrown_, .ref h_this_s, .ref h_this_saved, .int savedMany_, .ref h_this_snapshot, .int hasSnapshot_, .ref h_this_text, .int length_, .ref h_this_lumps, .int lumpMany_, .ref h_this_order, .ref h_this_nears, .int partingSet_, .int partingWeight_, .int at_, .int isWell_, .ref h_this_told, .int toldMany_])), (h_this_s, .inl (cI, 103, .inl s_))] r_ [(h0, .inr (6, [.int thrown_, .ref h_this_s, .ref h_this_saved, .int savedMany_, .ref h_this_snapshot, .int hasSnapshot_, .ref h_this_text, .int length_, .ref h_this_lumps, .int lumpMany_, .ref h_this_order, .ref h_this_nears, .int partingSet_, .int partingWeight_, .int at_, .int isWell_, .ref h_this_told, .int toldMany_])), (h_this_s, .inl (cI, 103, .inl s_))] := by
  refine enter_i RX6 (by decide) rfl (Nat.le_of_ble_eq_true rfl) ?_
  intro p e s m below meth c A X hr hlk hw ls hl
  have hx := X.1.1
  have hb := X.1.2.1
  have hl : lv_has ls 1 [(0, .ref h0)] := hl
  unfold f_X6_leastWeight at h
  refine lv_aload_n hx hb dX6_leastWeight_0 rfl (lv_at hl 0 rfl) ?_
  refine lv_aload_n hx hb dX6_leastWeight_1 rfl (lv_at hl 0 rfl) ?_
  obtain ⟨r1, hc, h⟩ := bd1_inv h
  refine r_cVi X hw (As := []) (rest := [.ref h0]) (wr := []) (ws' := [(h0, .inr (6, [.int thrown_, .ref h_this_s, .ref h_this_saved, .int savedMany_, .ref h_this_snapshot, .int hasSnapshot_, .ref h_this_text, .int length_, .ref h_this_lumps, .int lumpMany_, .ref h_this_order, .ref h_this_nears, .int partingSet_, .int partingWeight_, .int at_, .int isWell_, .ref h_this_told, .int toldMany_])), (h_this_s, .inl (cI, 103, .inl s_))]) (c_X6_firstLeast l D cI cC cO N h0 h_this_s h_this_saved h_this_snapshot h_this_text h_this_lumps h_this_order h_this_nears h_this_told thrown_ savedMany_ hasSnapshot_ length_ lumpMany_ partingSet_ partingWeight_ at_ isWell_ toldMany_ s_ r1 hc) (cs_X6_63 X (by decide)) [0, 1] [] [0, 1] rfl rfl rfl rfl (by decide) rfl rfl 0 rfl rfl rfl rfl hl.1 rfl (Nat.le_of_ble_eq_true rfl) dX6_leastWeight_2 ⟨Nat.zero_le _, Nat.zero_le _⟩ (fun H locs hw => ?_)
  obtain ⟨r2, hc, h⟩ := bd1_inv h
  refine r_cVi X hw (As := [.int r1]) (rest := []) (wr := []) (ws' := [(h0, .inr (6, [.int thrown_, .ref h_this_s, .ref h_this_saved, .int savedMany_, .ref h_this_snapshot, .int hasSnapshot_, .ref h_this_text, .int length_, .ref h_this_lumps, .int lumpMany_, .ref h_this_order, .ref h_this_nears, .int partingSet_, .int partingWeight_, .int at_, .int isWell_, .ref h_this_told, .int toldMany_])), (h_this_s, .inl (cI, 103, .inl s_))]) (c_X6_weightOf l D cI cC cO N h0 h_this_s h_this_saved h_this_snapshot h_this_text h_this_lumps h_this_order h_this_nears h_this_told r1 thrown_ savedMany_ hasSnapshot_ length_ lumpMany_ partingSet_ partingWeight_ at_ isWell_ toldMany_ s_ r2 hc) (cs_X6_60 X (by decide)) [0, 1] [] [0, 1] rfl rfl rfl rfl (by decide) rfl rfl 0 rfl rfl rfl rfl hl.1 rfl (Nat.le_of_ble_eq_true rfl) dX6_leastWeight_5 ⟨Nat.zero_le _, Nat.zero_le _⟩ (fun H locs hw => ?_)
  obtain rfl := oi1 h
  exact r_ret X hw hr hlk dX6_leastWeight_8
def rmX6_leastAt : Room := { frames := 5, cells := 0, slots := 0, locals := 112 }
section
variable {p : Program} {l : Launch} {e : Env} {R : Room} {s : State} {m : MethodId} {args : Array Value} {below : List Frame} {meth : Method} {c : Code} {H : Heap} {locs : List Loc} {cells slots : Nat} {Q : State → Prop}
variable {cc : ByteArray} {pc nL : Nat} {ls : Array Slot} {rest : List Value} {D : va_G} {cI cC cO : ClassId} {A : Nat → Prop} {ws : va_W} {H0 : Heap}
theorem cs_X6_66 (X : Ctx p m c cc nL s args RX6 D cI cC cO) (hR : rmX6_leastWeight.frames + 1 ≤ R.frames ∧ 8 + (1 + 11) + rmX6_leastWeight.locals ≤ R.locals) : CallW R s args RX6 RX6 66 yX6_leastWeight cX6_leastWeight 1 (some .int) (Wy yX6_leastWeight cX6_leastWeight 1 (some .int)) rmX6_leastWeight 0 0 0 := cwV 0 X.1.2.2.2.2 (gi_V tw_757 tw_759 sw_yX6_leastWeight tw_7 tw_760) rfl rfl rfl (by decide +kernel) hR
end
set_option maxHeartbeats 4000000 in
set_option maxRecDepth 100000 in
theorem c_X6_leastAt (l : Launch) (D : va_G) (cI cC cO : ClassId) (N : Nat) (h0 h_this_s h_this_saved h_this_snapshot h_this_text h_this_lumps h_this_order h_this_nears h_this_told : Nat) (p1 thrown_ savedMany_ hasSnapshot_ length_ lumpMany_ partingSet_ partingWeight_ at_ isWell_ toldMany_ : Int32) (s_ : Nat → Int32) (r_ : Int32) (h : f_X6_leastAt N p1 s_ = some r_) : CI l yX6_leastAt (Wy yX6_leastAt cX6_leastAt 5 (some .int)) rmX6_leastAt D cI cC cO [.ref h0, .int p1] [(h0, .inr (6, [.int thrown_, .ref h_this_s, .ref h_this_saved, .int savedMany_, .ref h_this_snapshot, .int hasSnapshot_, .ref h_this_text, .int length_, .ref h_this_lumps, .int lumpMany_, .ref h_this_order, .ref h_this_nears, .int partingSet_, .int partingWeight_, .int at_, .int isWell_, .ref h_this_told, .int toldMany_])), (h_this_s, .inl (cI, 103, .inl s_))] r_ [(h0, .inr (6, [.int thrown_, .ref h_this_s, .ref h_this_saved, .int savedMany_, .ref h_this_snapshot, .int hasSnapshot_, .ref h_this_text, .int length_, .ref h_this_lumps, .int lumpMany_, .ref h_this_order, .ref h_this_nears, .int partingSet_, .int partingWeight_, .int at_, .int isWell_, .ref h_this_told, .int toldMany_])), (h_this_s, .inl (cI, 103, .inl s_))] := by
  refine enter_i RX6 (by decide) rfl (Nat.le_of_ble_eq_true rfl) ?_
  intro p e s m below meth c A X hr hlk hw ls hl
  have hx := X.1.1
  have hb := X.1.2.1
  have hl : lv_has ls 5 [(0, .ref h0), (1, .int p1)] := hl
  unfold f_X6_leastAt at h
  refine lv_aload_n hx hb dX6_leastAt_0 rfl (lv_at hl 0 rfl) ?_
  obtain ⟨r1, hc, h⟩ := bd1_inv h
  refine r_cVi X hw (As := []) (rest := []) (wr := []) (ws' := [(h0, .inr (6, [.int thrown_, .ref h_this_s, .ref h_this_saved, .int savedMany_, .ref h_this_snapshot, .int hasSnapshot_, .ref h_this_text, .int length_, .ref h_this_lumps, .int lumpMany_, .ref h_this_order, .ref h_this_nears, .int partingSet_, .int partingWeight_, .int at_, .int isWell_, .ref h_this_told, .int toldMany_])), (h_this_s, .inl (cI, 103, .inl s_))]) (c_X6_leastWeight l D cI cC cO N h0 h_this_s h_this_saved h_this_snapshot h_this_text h_this_lumps h_this_order h_this_nears h_this_told thrown_ savedMany_ hasSnapshot_ length_ lumpMany_ partingSet_ partingWeight_ at_ isWell_ toldMany_ s_ r1 hc) (cs_X6_66 X (by decide)) [0, 1] [] [0, 1] rfl rfl rfl rfl (by decide) rfl rfl 0 rfl rfl rfl rfl hl.1 rfl (Nat.le_of_ble_eq_true rfl) dX6_leastAt_1 ⟨Nat.zero_le _, Nat.zero_le _⟩ (fun H locs hw => ?_)
  refine lv_istore_n (lv' := [(2, .int r1), (0, .ref h0), (1, .int p1)]) hx hb dX6_leastAt_4 rfl hl (by decide) rfl (fun ls hl => ?_)
  refine lv_iload_n hx hb dX6_leastAt_5 rfl (lv_at hl 2 rfl) ?_
  refine lv_istore_n (lv' := [(3, .int p1), (2, .int r1), (0, .ref h0), (1, .int p1)]) hx hb dX6_leastAt_6 rfl hl (by decide) rfl (fun ls hl => ?_)
  refine lv_iconst (v := 2) hx hb dX6_leastAt_7 (by decide) ?_
  refine lv_istore (lv' := [(4, .int (2 : Int32)), (3, .int p1), (2, .int r1), (0, .ref h0), (1, .int p1)]) hx hb dX6_leastAt_8 hl (by decide) rfl (fun ls hl => ?_)
  have E50 : ∀ (H : Heap) (locs : List Loc) (ls : Array Slot), f_X6_leastAt_E50 = some r_ → Wd D A s.heap [(h0, .inr (6, [.int thrown_, .ref h_this_s, .ref h_this_saved, .int savedMany_, .ref h_this_snapshot, .int hasSnapshot_, .ref h_this_text, .int length_, .ref h_this_lumps, .int lumpMany_, .ref h_this_order, .ref h_this_nears, .int partingSet_, .int partingWeight_, .int at_, .int isWell_, .ref h_this_told, .int toldMany_])), (h_this_s, .inl (cI, 103, .inl s_))] H locs → lv_has ls 5 [] → W p l e rmX6_leastAt s m ([.ref h0, .int p1] : List Value).toArray below meth c H locs 0 0 (MQ below (Qi D r_ [(h0, .inr (6, [.int thrown_, .ref h_this_s, .ref h_this_saved, .int savedMany_, .ref h_this_snapshot, .int hasSnapshot_, .ref h_this_text, .int length_, .ref h_this_lumps, .int lumpMany_, .ref h_this_order, .ref h_this_nears, .int partingSet_, .int partingWeight_, .int at_, .int isWell_, .ref h_this_told, .int toldMany_])), (h_this_s, .inl (cI, 103, .inl s_))] A) ([.ref h0, .int p1] : List Value).toArray s 0 0 A) (F0 m 50 ls []) := by
    intro H locs ls h hw hl
    unfold f_X6_leastAt_E50 at h
    refine lv_bipush (v := -5) hx hb dX6_leastAt_50 (by decide) ?_
    obtain rfl := oi1 h
    exact r_ret X hw hr hlk dX6_leastAt_52
  have L10 : ∀ (k7 : Option (Int32)), (∀ (H : Heap) (locs : List Loc) (ls : Array Slot), k7 = some r_ → Wd D A s.heap [(h0, .inr (6, [.int thrown_, .ref h_this_s, .ref h_this_saved, .int savedMany_, .ref h_this_snapshot, .int hasSnapshot_, .ref h_this_text, .int length_, .ref h_this_lumps, .int lumpMany_, .ref h_this_order, .ref h_this_nears, .int partingSet_, .int partingWeight_, .int at_, .int isWell_, .ref h_this_told, .int toldMany_])), (h_this_s, .inl (cI, 103, .inl s_))] H locs → lv_has ls 5 [] → W p l e rmX6_leastAt s m ([.ref h0, .int p1] : List Value).toArray below meth c H locs 0 0 (MQ below (Qi D r_ [(h0, .inr (6, [.int thrown_, .ref h_this_s, .ref h_this_saved, .int savedMany_, .ref h_this_snapshot, .int hasSnapshot_, .ref h_this_text, .int length_, .ref h_this_lumps, .int lumpMany_, .ref h_this_order, .ref h_this_nears, .int partingSet_, .int partingWeight_, .int at_, .int isWell_, .ref h_this_told, .int toldMany_])), (h_this_s, .inl (cI, 103, .inl s_))] A) ([.ref h0, .int p1] : List Value).toArray s 0 0 A) (F0 m 50 ls [])) → ∀ (n9 : Nat), ∀ (x2 x3 : Int32) (H : Heap) (locs : List Loc) (ls : Array Slot), f_X6_leastAt_L10 N s_ r1 k7 n9 x2 x3 = some r_ → Wd D A s.heap [(h0, .inr (6, [.int thrown_, .ref h_this_s, .ref h_this_saved, .int savedMany_, .ref h_this_snapshot, .int hasSnapshot_, .ref h_this_text, .int length_, .ref h_this_lumps, .int lumpMany_, .ref h_this_order, .ref h_this_nears, .int partingSet_, .int partingWeight_, .int at_, .int isWell_, .ref h_this_told, .int toldMany_])), (h_this_s, .inl (cI, 103, .inl s_))] H locs → lv_has ls 5 [(0, .ref h0), (2, .int r1), (3, .int x2), (4, .int x3)] → W p l e rmX6_leastAt s m ([.ref h0, .int p1] : List Value).toArray below meth c H locs 0 0 (MQ below (Qi D r_ [(h0, .inr (6, [.int thrown_, .ref h_this_s, .ref h_this_saved, .int savedMany_, .ref h_this_snapshot, .int hasSnapshot_, .ref h_this_text, .int length_, .ref h_this_lumps, .int lumpMany_, .ref h_this_order, .ref h_this_nears, .int partingSet_, .int partingWeight_, .int at_, .int isWell_, .ref h_this_told, .int toldMany_])), (h_this_s, .inl (cI, 103, .inl s_))] A) ([.ref h0, .int p1] : List Value).toArray s 0 0 A) (F0 m 10 ls []) := by
    intro k7 hk10 n9
    induction n9 with
    | zero => intro x2 x3 H locs ls h; cases h
    | succ n9 ih10 =>
      intro x2 x3 H locs ls h hw hl
      rw [f_X6_leastAt_L10] at h
      refine lv_iload hx hb dX6_leastAt_10 (lv_at hl 3 rfl) ?_
      refine lv_aload_n hx hb dX6_leastAt_12 rfl (lv_at hl 0 rfl) ?_
      obtain ⟨r4, hc, h⟩ := bd1_inv h
      refine r_cVi X hw (As := []) (rest := [.int x3]) (wr := []) (ws' := [(h0, .inr (6, [.int thrown_, .ref h_this_s, .ref h_this_saved, .int savedMany_, .ref h_this_snapshot, .int hasSnapshot_, .ref h_this_text, .int length_, .ref h_this_lumps, .int lumpMany_, .ref h_this_order, .ref h_this_nears, .int partingSet_, .int partingWeight_, .int at_, .int isWell_, .ref h_this_told, .int toldMany_])), (h_this_s, .inl (cI, 103, .inl s_))]) (c_X6_all l D cI cC cO h0 h_this_s h_this_saved h_this_snapshot h_this_text h_this_lumps h_this_order h_this_nears h_this_told thrown_ savedMany_ hasSnapshot_ length_ lumpMany_ partingSet_ partingWeight_ at_ isWell_ toldMany_ s_ r4 hc) (cs_X6_49 X (by decide)) [0, 1] [] [0, 1] rfl rfl rfl rfl (by decide) rfl rfl 0 rfl rfl rfl rfl hl.1 rfl (Nat.le_of_ble_eq_true rfl) dX6_leastAt_13 ⟨Nat.zero_le _, Nat.zero_le _⟩ (fun H locs hw => ?_)
      refine lv_icmp_ge (tgt := 50) hx hb dX6_leastAt_16 (by decide) (fun c1 => ?_) (fun c1 => ?_)
      · replace h := ip c1 h
        exact hk10 _ _ _ h hw (lv_sub hl [] rfl)
      · replace h := ig c1 h
        refine lv_iload_n hx hb dX6_leastAt_19 rfl (lv_at hl 2 rfl) ?_
        refine lv_aload_n hx hb dX6_leastAt_20 rfl (lv_at hl 0 rfl) ?_
        refine lv_iload hx hb dX6_leastAt_21 (lv_at hl 3 rfl) ?_
        obtain ⟨r5, hc, h⟩ := bd1_inv h
        refine r_cVi X hw (As := [.int x3]) (rest := [.int x2]) (wr := []) (ws' := [(h0, .inr (6, [.int thrown_, .ref h_this_s, .ref h_this_saved, .int savedMany_, .ref h_this_snapshot, .int hasSnapshot_, .ref h_this_text, .int length_, .ref h_this_lumps, .int lumpMany_, .ref h_this_order, .ref h_this_nears, .int partingSet_, .int partingWeight_, .int at_, .int isWell_, .ref h_this_told, .int toldMany_])), (h_this_s, .inl (cI, 103, .inl s_))]) (c_X6_weightOf l D cI cC cO N h0 h_this_s h_this_saved h_this_snapshot h_this_text h_this_lumps h_this_order h_this_nears h_this_told x3 thrown_ savedMany_ hasSnapshot_ length_ lumpMany_ partingSet_ partingWeight_ at_ isWell_ toldMany_ s_ r5 hc) (cs_X6_60 X (by decide)) [0, 1] [] [0, 1] rfl rfl rfl rfl (by decide) rfl rfl 0 rfl rfl rfl rfl hl.1 rfl (Nat.le_of_ble_eq_true rfl) dX6_leastAt_23 ⟨Nat.zero_le _, Nat.zero_le _⟩ (fun H locs hw => ?_)
        refine lv_iload_n hx hb dX6_leastAt_26 rfl (lv_at hl 1 rfl) ?_
        have J35 : ∀ (x6 : Int32) (H : Heap) (locs : List Loc) (ls : Array Slot), f_X6_leastAt_J35 x2 (f_X6_leastAt_L10 N s_ r1 k7 n9) x3 x6 = some r_ → Wd D A s.heap [(h0, .inr (6, [.int thrown_, .ref h_this_s, .ref h_this_saved, .int savedMany_, .ref h_this_snapshot, .int hasSnapshot_, .ref h_this_text, .int length_, .ref h_this_lumps, .int lumpMany_, .ref h_this_order, .ref h_this_nears, .int partingSet_, .int partingWeight_, .int at_, .int isWell_, .ref h_this_told, .int toldMany_])), (h_this_s, .inl (cI, 103, .inl s_))] H locs → lv_has ls 5 [(0, .ref h0), (2, .int r1), (4, .int x3)] → W p l e rmX6_leastAt s m ([.ref h0, .int p1] : List Value).toArray below meth c H locs 0 0 (MQ below (Qi D r_ [(h0, .inr (6, [.int thrown_, .ref h_this_s, .ref h_this_saved, .int savedMany_, .ref h_this_snapshot, .int hasSnapshot_, .ref h_this_text, .int length_, .ref h_this_lumps, .int lumpMany_, .ref h_this_order, .ref h_this_nears, .int partingSet_, .int partingWeight_, .int at_, .int isWell_, .ref h_this_told, .int toldMany_])), (h_this_s, .inl (cI, 103, .inl s_))] A) ([.ref h0, .int p1] : List Value).toArray s 0 0 A) (F0 m 35 ls [.int x6, .int x2]) := by
          intro x6 H locs ls h hw hl
          unfold f_X6_leastAt_J35 at h
          refine lv_isub hx hb dX6_leastAt_35 ?_
          refine lv_istore_n (lv' := [(3, .int (x2 - x6)), (0, .ref h0), (2, .int r1), (4, .int x3)]) hx hb dX6_leastAt_36 rfl hl (by decide) rfl (fun ls hl => ?_)
          refine lv_iload_n hx hb dX6_leastAt_37 rfl (lv_at hl 0 rfl) ?_
          refine lv_if_ge (tgt := 44) hx hb dX6_leastAt_38 (by decide) (fun c1 => ?_) (fun c1 => ?_)
          · replace h := ip c1 h
            refine lv_iinc (v := (x3 + (2 : Int32))) (lv' := [(4, .int (x3 + (2 : Int32))), (3, .int (x2 - x6)), (0, .ref h0), (2, .int r1)]) hx hb dX6_leastAt_44 hl (k := 3) rfl rfl (by decide) rfl (fun ls hl => ?_)
            refine lv_goto (tgt := 10) hx hb dX6_leastAt_47 (by decide) ?_
            exact ih10 (x2 - x6) (x3 + (2 : Int32)) _ _ _ h hw (lv_sub hl [2, 3, 1, 0] rfl)
          · replace h := ig c1 h
            refine lv_iload hx hb dX6_leastAt_41 (lv_at hl 3 rfl) ?_
            obtain rfl := oi1 h
            exact r_ret X hw hr hlk dX6_leastAt_43
        refine lv_icmp_ne (tgt := 34) hx hb dX6_leastAt_27 (by decide) (fun c1 => ?_) (fun c1 => ?_)
        · replace h := ig c1 h
          refine lv_iconst (v := 0) hx hb dX6_leastAt_34 (by decide) ?_
          exact J35 (0 : Int32) _ _ _ h hw (lv_sub hl [0, 1, 3] rfl)
        · replace h := ip c1 h
          refine lv_iconst (v := 1) hx hb dX6_leastAt_30 (by decide) ?_
          refine lv_goto (tgt := 35) hx hb dX6_leastAt_31 (by decide) ?_
          exact J35 (1 : Int32) _ _ _ h hw (lv_sub hl [0, 1, 3] rfl)
  exact L10 (f_X6_leastAt_E50) (fun H locs ls h hw hl => E50 H locs ls h hw hl) N p1 (2 : Int32) _ _ _ h hw (lv_sub hl [3, 2, 1, 0] rfl)
def rmX6_leastMany : Room := { frames := 5, cells := 0, slots := 0, locals := 112 }
set_option maxHeartbeats 4000000 in
set_option maxRecDepth 100000 in
theorem c_X6_leastMany (l : Launch) (D : va_G) (cI cC cO : ClassId) (N : Nat) (h0 h_this_s h_this_saved h_this_snapshot h_this_text h_this_lumps h_this_order h_this_nears h_this_told : Nat) (thrown_ savedMany_ hasSnapshot_ length_ lumpMany_ partingSet_ partingWeight_ at_ isWell_ toldMany_ : Int32) (s_ : Nat → Int32) (r_ : Int32) (h : f_X6_leastMany N s_ = some r_) : CI l yX6_leastMany (Wy yX6_leastMany cX6_leastMany 4 (some .int)) rmX6_leastMany D cI cC cO [.ref h0] [(h0, .inr (6, [.int thrown_, .ref h_this_s, .ref h_this_saved, .int savedMany_, .ref h_this_snapshot, .int hasSnapshot_, .ref h_this_text, .int length_, .ref h_this_lumps, .int lumpMany_, .ref h_this_order, .ref h_this_nears, .int partingSet_, .int partingWeight_, .int at_, .int isWell_, .ref h_this_told, .int toldMany_])), (h_this_s, .inl (cI, 103, .inl s_))] r_ [(h0, .inr (6, [.int thrown_, .ref h_this_s, .ref h_this_saved, .int savedMany_, .ref h_this_snapshot, .int hasSnapshot_, .ref h_this_text, .int length_, .ref h_this_lumps, .int lumpMany_, .ref h_this_order, .ref h_this_nears, .int partingSet_, .int partingWeight_, .int at_, .int isWell_, .ref h_this_told, .int toldMany_])), (h_this_s, .inl (cI, 103, .inl s_))] := by
  refine enter_i RX6 (by decide) rfl (Nat.le_of_ble_eq_true rfl) ?_
  intro p e s m below meth c A X hr hlk hw ls hl
  have hx := X.1.1
  have hb := X.1.2.1
  have hl : lv_has ls 4 [(0, .ref h0)] := hl
  unfold f_X6_leastMany at h
  refine lv_aload_n hx hb dX6_leastMany_0 rfl (lv_at hl 0 rfl) ?_
  obtain ⟨r1, hc, h⟩ := bd1_inv h
  refine r_cVi X hw (As := []) (rest := []) (wr := []) (ws' := [(h0, .inr (6, [.int thrown_, .ref h_this_s, .ref h_this_saved, .int savedMany_, .ref h_this_snapshot, .int hasSnapshot_, .ref h_this_text, .int length_, .ref h_this_lumps, .int lumpMany_, .ref h_this_order, .ref h_this_nears, .int partingSet_, .int partingWeight_, .int at_, .int isWell_, .ref h_this_told, .int toldMany_])), (h_this_s, .inl (cI, 103, .inl s_))]) (c_X6_leastWeight l D cI cC cO N h0 h_this_s h_this_saved h_this_snapshot h_this_text h_this_lumps h_this_order h_this_nears h_this_told thrown_ savedMany_ hasSnapshot_ length_ lumpMany_ partingSet_ partingWeight_ at_ isWell_ toldMany_ s_ r1 hc) (cs_X6_66 X (by decide)) [0, 1] [] [0, 1] rfl rfl rfl rfl (by decide) rfl rfl 0 rfl rfl rfl rfl hl.1 rfl (Nat.le_of_ble_eq_true rfl) dX6_leastMany_1 ⟨Nat.zero_le _, Nat.zero_le _⟩ (fun H locs hw => ?_)
  refine lv_istore_n (lv' := [(1, .int r1), (0, .ref h0)]) hx hb dX6_leastMany_4 rfl hl (by decide) rfl (fun ls hl => ?_)
  refine lv_iconst (v := 0) hx hb dX6_leastMany_5 (by decide) ?_
  refine lv_istore_n (lv' := [(2, .int (0 : Int32)), (1, .int r1), (0, .ref h0)]) hx hb dX6_leastMany_6 rfl hl (by decide) rfl (fun ls hl => ?_)
  refine lv_iconst (v := 2) hx hb dX6_leastMany_7 (by decide) ?_
  refine lv_istore_n (lv' := [(3, .int (2 : Int32)), (2, .int (0 : Int32)), (1, .int r1), (0, .ref h0)]) hx hb dX6_leastMany_8 rfl hl (by decide) rfl (fun ls hl => ?_)
  have E40 : ∀ (x10 : Int32) (H : Heap) (locs : List Loc) (ls : Array Slot), f_X6_leastMany_E40 x10 = some r_ → Wd D A s.heap [(h0, .inr (6, [.int thrown_, .ref h_this_s, .ref h_this_saved, .int savedMany_, .ref h_this_snapshot, .int hasSnapshot_, .ref h_this_text, .int length_, .ref h_this_lumps, .int lumpMany_, .ref h_this_order, .ref h_this_nears, .int partingSet_, .int partingWeight_, .int at_, .int isWell_, .ref h_this_told, .int toldMany_])), (h_this_s, .inl (cI, 103, .inl s_))] H locs → lv_has ls 4 [(2, .int x10)] → W p l e rmX6_leastMany s m ([.ref h0] : List Value).toArray below meth c H locs 0 0 (MQ below (Qi D r_ [(h0, .inr (6, [.int thrown_, .ref h_this_s, .ref h_this_saved, .int savedMany_, .ref h_this_snapshot, .int hasSnapshot_, .ref h_this_text, .int length_, .ref h_this_lumps, .int lumpMany_, .ref h_this_order, .ref h_this_nears, .int partingSet_, .int partingWeight_, .int at_, .int isWell_, .ref h_this_told, .int toldMany_])), (h_this_s, .inl (cI, 103, .inl s_))] A) ([.ref h0] : List Value).toArray s 0 0 A) (F0 m 40 ls []) := by
    intro x10 H locs ls h hw hl
    unfold f_X6_leastMany_E40 at h
    refine lv_iload_n hx hb dX6_leastMany_40 rfl (lv_at hl 0 rfl) ?_
    obtain rfl := oi1 h
    exact r_ret X hw hr hlk dX6_leastMany_41
  have L9 : ∀ (k7 : Int32 → Option (Int32)), (∀ (x10 : Int32) (H : Heap) (locs : List Loc) (ls : Array Slot), k7 x10 = some r_ → Wd D A s.heap [(h0, .inr (6, [.int thrown_, .ref h_this_s, .ref h_this_saved, .int savedMany_, .ref h_this_snapshot, .int hasSnapshot_, .ref h_this_text, .int length_, .ref h_this_lumps, .int lumpMany_, .ref h_this_order, .ref h_this_nears, .int partingSet_, .int partingWeight_, .int at_, .int isWell_, .ref h_this_told, .int toldMany_])), (h_this_s, .inl (cI, 103, .inl s_))] H locs → lv_has ls 4 [(2, .int x10)] → W p l e rmX6_leastMany s m ([.ref h0] : List Value).toArray below meth c H locs 0 0 (MQ below (Qi D r_ [(h0, .inr (6, [.int thrown_, .ref h_this_s, .ref h_this_saved, .int savedMany_, .ref h_this_snapshot, .int hasSnapshot_, .ref h_this_text, .int length_, .ref h_this_lumps, .int lumpMany_, .ref h_this_order, .ref h_this_nears, .int partingSet_, .int partingWeight_, .int at_, .int isWell_, .ref h_this_told, .int toldMany_])), (h_this_s, .inl (cI, 103, .inl s_))] A) ([.ref h0] : List Value).toArray s 0 0 A) (F0 m 40 ls [])) → ∀ (n9 : Nat), ∀ (x2 x3 : Int32) (H : Heap) (locs : List Loc) (ls : Array Slot), f_X6_leastMany_L9 N s_ r1 k7 n9 x2 x3 = some r_ → Wd D A s.heap [(h0, .inr (6, [.int thrown_, .ref h_this_s, .ref h_this_saved, .int savedMany_, .ref h_this_snapshot, .int hasSnapshot_, .ref h_this_text, .int length_, .ref h_this_lumps, .int lumpMany_, .ref h_this_order, .ref h_this_nears, .int partingSet_, .int partingWeight_, .int at_, .int isWell_, .ref h_this_told, .int toldMany_])), (h_this_s, .inl (cI, 103, .inl s_))] H locs → lv_has ls 4 [(0, .ref h0), (1, .int r1), (2, .int x2), (3, .int x3)] → W p l e rmX6_leastMany s m ([.ref h0] : List Value).toArray below meth c H locs 0 0 (MQ below (Qi D r_ [(h0, .inr (6, [.int thrown_, .ref h_this_s, .ref h_this_saved, .int savedMany_, .ref h_this_snapshot, .int hasSnapshot_, .ref h_this_text, .int length_, .ref h_this_lumps, .int lumpMany_, .ref h_this_order, .ref h_this_nears, .int partingSet_, .int partingWeight_, .int at_, .int isWell_, .ref h_this_told, .int toldMany_])), (h_this_s, .inl (cI, 103, .inl s_))] A) ([.ref h0] : List Value).toArray s 0 0 A) (F0 m 9 ls []) := by
    intro k7 hk9 n9
    induction n9 with
    | zero => intro x2 x3 H locs ls h; cases h
    | succ n9 ih9 =>
      intro x2 x3 H locs ls h hw hl
      rw [f_X6_leastMany_L9] at h
      refine lv_iload_n hx hb dX6_leastMany_9 rfl (lv_at hl 3 rfl) ?_
      refine lv_aload_n hx hb dX6_leastMany_10 rfl (lv_at hl 0 rfl) ?_
      obtain ⟨r4, hc, h⟩ := bd1_inv h
      refine r_cVi X hw (As := []) (rest := [.int x3]) (wr := []) (ws' := [(h0, .inr (6, [.int thrown_, .ref h_this_s, .ref h_this_saved, .int savedMany_, .ref h_this_snapshot, .int hasSnapshot_, .ref h_this_text, .int length_, .ref h_this_lumps, .int lumpMany_, .ref h_this_order, .ref h_this_nears, .int partingSet_, .int partingWeight_, .int at_, .int isWell_, .ref h_this_told, .int toldMany_])), (h_this_s, .inl (cI, 103, .inl s_))]) (c_X6_all l D cI cC cO h0 h_this_s h_this_saved h_this_snapshot h_this_text h_this_lumps h_this_order h_this_nears h_this_told thrown_ savedMany_ hasSnapshot_ length_ lumpMany_ partingSet_ partingWeight_ at_ isWell_ toldMany_ s_ r4 hc) (cs_X6_49 X (by decide)) [0, 1] [] [0, 1] rfl rfl rfl rfl (by decide) rfl rfl 0 rfl rfl rfl rfl hl.1 rfl (Nat.le_of_ble_eq_true rfl) dX6_leastMany_11 ⟨Nat.zero_le _, Nat.zero_le _⟩ (fun H locs hw => ?_)
      refine lv_icmp_ge (tgt := 40) hx hb dX6_leastMany_14 (by decide) (fun c1 => ?_) (fun c1 => ?_)
      · replace h := ip c1 h
        exact hk9 x2 _ _ _ h hw (lv_sub hl [2] rfl)
      · replace h := ig c1 h
        refine lv_iload_n hx hb dX6_leastMany_17 rfl (lv_at hl 2 rfl) ?_
        refine lv_aload_n hx hb dX6_leastMany_18 rfl (lv_at hl 0 rfl) ?_
        refine lv_iload_n hx hb dX6_leastMany_19 rfl (lv_at hl 3 rfl) ?_
        obtain ⟨r5, hc, h⟩ := bd1_inv h
        refine r_cVi X hw (As := [.int x3]) (rest := [.int x2]) (wr := []) (ws' := [(h0, .inr (6, [.int thrown_, .ref h_this_s, .ref h_this_saved, .int savedMany_, .ref h_this_snapshot, .int hasSnapshot_, .ref h_this_text, .int length_, .ref h_this_lumps, .int lumpMany_, .ref h_this_order, .ref h_this_nears, .int partingSet_, .int partingWeight_, .int at_, .int isWell_, .ref h_this_told, .int toldMany_])), (h_this_s, .inl (cI, 103, .inl s_))]) (c_X6_weightOf l D cI cC cO N h0 h_this_s h_this_saved h_this_snapshot h_this_text h_this_lumps h_this_order h_this_nears h_this_told x3 thrown_ savedMany_ hasSnapshot_ length_ lumpMany_ partingSet_ partingWeight_ at_ isWell_ toldMany_ s_ r5 hc) (cs_X6_60 X (by decide)) [0, 1] [] [0, 1] rfl rfl rfl rfl (by decide) rfl rfl 0 rfl rfl rfl rfl hl.1 rfl (Nat.le_of_ble_eq_true rfl) dX6_leastMany_20 ⟨Nat.zero_le _, Nat.zero_le _⟩ (fun H locs hw => ?_)
        refine lv_iload_n hx hb dX6_leastMany_23 rfl (lv_at hl 1 rfl) ?_
        have J32 : ∀ (x6 : Int32) (H : Heap) (locs : List Loc) (ls : Array Slot), f_X6_leastMany_J32 (f_X6_leastMany_L9 N s_ r1 k7 n9) x2 x3 x6 = some r_ → Wd D A s.heap [(h0, .inr (6, [.int thrown_, .ref h_this_s, .ref h_this_saved, .int savedMany_, .ref h_this_snapshot, .int hasSnapshot_, .ref h_this_text, .int length_, .ref h_this_lumps, .int lumpMany_, .ref h_this_order, .ref h_this_nears, .int partingSet_, .int partingWeight_, .int at_, .int isWell_, .ref h_this_told, .int toldMany_])), (h_this_s, .inl (cI, 103, .inl s_))] H locs → lv_has ls 4 [(0, .ref h0), (1, .int r1), (3, .int x3)] → W p l e rmX6_leastMany s m ([.ref h0] : List Value).toArray below meth c H locs 0 0 (MQ below (Qi D r_ [(h0, .inr (6, [.int thrown_, .ref h_this_s, .ref h_this_saved, .int savedMany_, .ref h_this_snapshot, .int hasSnapshot_, .ref h_this_text, .int length_, .ref h_this_lumps, .int lumpMany_, .ref h_this_order, .ref h_this_nears, .int partingSet_, .int partingWeight_, .int at_, .int isWell_, .ref h_this_told, .int toldMany_])), (h_this_s, .inl (cI, 103, .inl s_))] A) ([.ref h0] : List Value).toArray s 0 0 A) (F0 m 32 ls [.int x6, .int x2]) := by
          intro x6 H locs ls h hw hl
          unfold f_X6_leastMany_J32 at h
          refine lv_iadd hx hb dX6_leastMany_32 ?_
          refine lv_istore_n (lv' := [(2, .int (x2 + x6)), (0, .ref h0), (1, .int r1), (3, .int x3)]) hx hb dX6_leastMany_33 rfl hl (by decide) rfl (fun ls hl => ?_)
          refine lv_iinc (v := (x3 + (2 : Int32))) (lv' := [(3, .int (x3 + (2 : Int32))), (2, .int (x2 + x6)), (0, .ref h0), (1, .int r1)]) hx hb dX6_leastMany_34 hl (k := 3) rfl rfl (by decide) rfl (fun ls hl => ?_)
          refine lv_goto (tgt := 9) hx hb dX6_leastMany_37 (by decide) ?_
          exact ih9 (x2 + x6) (x3 + (2 : Int32)) _ _ _ h hw (lv_sub hl [2, 3, 1, 0] rfl)
        refine lv_icmp_ne (tgt := 31) hx hb dX6_leastMany_24 (by decide) (fun c1 => ?_) (fun c1 => ?_)
        · replace h := ig c1 h
          refine lv_iconst (v := 0) hx hb dX6_leastMany_31 (by decide) ?_
          exact J32 (0 : Int32) _ _ _ h hw (lv_sub hl [0, 1, 3] rfl)
        · replace h := ip c1 h
          refine lv_iconst (v := 1) hx hb dX6_leastMany_27 (by decide) ?_
          refine lv_goto (tgt := 32) hx hb dX6_leastMany_28 (by decide) ?_
          exact J32 (1 : Int32) _ _ _ h hw (lv_sub hl [0, 1, 3] rfl)
  exact L9 (fun x10 => f_X6_leastMany_E40 x10) (fun x10 H locs ls h hw hl => E40 x10 H locs ls h hw hl) N (0 : Int32) (2 : Int32) _ _ _ h hw (lv_sub hl [3, 2, 1, 0] rfl)
def rmX6_leastFair : Room := { frames := 3, cells := 0, slots := 0, locals := 68 }
section
variable {p : Program} {l : Launch} {e : Env} {R : Room} {s : State} {m : MethodId} {args : Array Value} {below : List Frame} {meth : Method} {c : Code} {H : Heap} {locs : List Loc} {cells slots : Nat} {Q : State → Prop}
variable {cc : ByteArray} {pc nL : Nat} {ls : Array Slot} {rest : List Value} {D : va_G} {cI cC cO : ClassId} {A : Nat → Prop} {ws : va_W} {H0 : Heap}
theorem cs_X6_69 (X : Ctx p m c cc nL s args RX6 D cI cC cO) (hR : rmX6_isFair.frames + 1 ≤ R.frames ∧ 8 + (3 + 11) + rmX6_isFair.locals ≤ R.locals) : CallW R s args RX6 RX6 69 yX6_isFair cX6_isFair 3 (some .boolean) (Wy yX6_isFair cX6_isFair 3 (some .boolean)) rmX6_isFair 0 0 1 := cwV 1 X.1.2.2.2.2 (gi_V tw_789 tw_791 sw_yX6_isFair tw_7 tw_792) rfl rfl rfl (by decide +kernel) hR
end
set_option maxHeartbeats 4000000 in
set_option maxRecDepth 100000 in
theorem c_X6_leastFair (l : Launch) (D : va_G) (cI cC cO : ClassId) (N : Nat) (h0 h_this_s h_this_saved h_this_snapshot h_this_text h_this_lumps h_this_order h_this_nears h_this_told : Nat) (thrown_ savedMany_ hasSnapshot_ length_ lumpMany_ partingSet_ partingWeight_ at_ isWell_ toldMany_ : Int32) (s_ : Nat → Int32) (r_ : Int32) (h : f_X6_leastFair N s_ = some r_) : CI l yX6_leastFair (Wy yX6_leastFair cX6_leastFair 4 (some .int)) rmX6_leastFair D cI cC cO [.ref h0] [(h0, .inr (6, [.int thrown_, .ref h_this_s, .ref h_this_saved, .int savedMany_, .ref h_this_snapshot, .int hasSnapshot_, .ref h_this_text, .int length_, .ref h_this_lumps, .int lumpMany_, .ref h_this_order, .ref h_this_nears, .int partingSet_, .int partingWeight_, .int at_, .int isWell_, .ref h_this_told, .int toldMany_])), (h_this_s, .inl (cI, 103, .inl s_))] r_ [(h0, .inr (6, [.int thrown_, .ref h_this_s, .ref h_this_saved, .int savedMany_, .ref h_this_snapshot, .int hasSnapshot_, .ref h_this_text, .int length_, .ref h_this_lumps, .int lumpMany_, .ref h_this_order, .ref h_this_nears, .int partingSet_, .int partingWeight_, .int at_, .int isWell_, .ref h_this_told, .int toldMany_])), (h_this_s, .inl (cI, 103, .inl s_))] := by
  refine enter_i RX6 (by decide) rfl (Nat.le_of_ble_eq_true rfl) ?_
  intro p e s m below meth c A X hr hlk hw ls hl
  have hx := X.1.1
  have hb := X.1.2.1
  have hl : lv_has ls 4 [(0, .ref h0)] := hl
  unfold f_X6_leastFair at h
  refine lv_bipush (v := -5) hx hb dX6_leastFair_0 (by decide) ?_
  refine lv_istore_n (lv' := [(1, .int (-5 : Int32)), (0, .ref h0)]) hx hb dX6_leastFair_2 rfl hl (by decide) rfl (fun ls hl => ?_)
  refine lv_iconst (v := 0) hx hb dX6_leastFair_3 (by decide) ?_
  refine lv_istore_n (lv' := [(2, .int (0 : Int32)), (1, .int (-5 : Int32)), (0, .ref h0)]) hx hb dX6_leastFair_4 rfl hl (by decide) rfl (fun ls hl => ?_)
  refine lv_iconst (v := 2) hx hb dX6_leastFair_5 (by decide) ?_
  refine lv_istore_n (lv' := [(3, .int (2 : Int32)), (2, .int (0 : Int32)), (1, .int (-5 : Int32)), (0, .ref h0)]) hx hb dX6_leastFair_6 rfl hl (by decide) rfl (fun ls hl => ?_)
  have E52 : ∀ (x14 : Int32) (H : Heap) (locs : List Loc) (ls : Array Slot), f_X6_leastFair_E52 x14 = some r_ → Wd D A s.heap [(h0, .inr (6, [.int thrown_, .ref h_this_s, .ref h_this_saved, .int savedMany_, .ref h_this_snapshot, .int hasSnapshot_, .ref h_this_text, .int length_, .ref h_this_lumps, .int lumpMany_, .ref h_this_order, .ref h_this_nears, .int partingSet_, .int partingWeight_, .int at_, .int isWell_, .ref h_this_told, .int toldMany_])), (h_this_s, .inl (cI, 103, .inl s_))] H locs → lv_has ls 4 [(1, .int x14)] → W p l e rmX6_leastFair s m ([.ref h0] : List Value).toArray below meth c H locs 0 0 (MQ below (Qi D r_ [(h0, .inr (6, [.int thrown_, .ref h_this_s, .ref h_this_saved, .int savedMany_, .ref h_this_snapshot, .int hasSnapshot_, .ref h_this_text, .int length_, .ref h_this_lumps, .int lumpMany_, .ref h_this_order, .ref h_this_nears, .int partingSet_, .int partingWeight_, .int at_, .int isWell_, .ref h_this_told, .int toldMany_])), (h_this_s, .inl (cI, 103, .inl s_))] A) ([.ref h0] : List Value).toArray s 0 0 A) (F0 m 52 ls []) := by
    intro x14 H locs ls h hw hl
    unfold f_X6_leastFair_E52 at h
    refine lv_iload_n hx hb dX6_leastFair_52 rfl (lv_at hl 0 rfl) ?_
    obtain rfl := oi1 h
    exact r_ret X hw hr hlk dX6_leastFair_53
  have L7 : ∀ (k11 : Int32 → Option (Int32)), (∀ (x14 : Int32) (H : Heap) (locs : List Loc) (ls : Array Slot), k11 x14 = some r_ → Wd D A s.heap [(h0, .inr (6, [.int thrown_, .ref h_this_s, .ref h_this_saved, .int savedMany_, .ref h_this_snapshot, .int hasSnapshot_, .ref h_this_text, .int length_, .ref h_this_lumps, .int lumpMany_, .ref h_this_order, .ref h_this_nears, .int partingSet_, .int partingWeight_, .int at_, .int isWell_, .ref h_this_told, .int toldMany_])), (h_this_s, .inl (cI, 103, .inl s_))] H locs → lv_has ls 4 [(1, .int x14)] → W p l e rmX6_leastFair s m ([.ref h0] : List Value).toArray below meth c H locs 0 0 (MQ below (Qi D r_ [(h0, .inr (6, [.int thrown_, .ref h_this_s, .ref h_this_saved, .int savedMany_, .ref h_this_snapshot, .int hasSnapshot_, .ref h_this_text, .int length_, .ref h_this_lumps, .int lumpMany_, .ref h_this_order, .ref h_this_nears, .int partingSet_, .int partingWeight_, .int at_, .int isWell_, .ref h_this_told, .int toldMany_])), (h_this_s, .inl (cI, 103, .inl s_))] A) ([.ref h0] : List Value).toArray s 0 0 A) (F0 m 52 ls [])) → ∀ (n13 : Nat), ∀ (x1 x2 x3 : Int32) (H : Heap) (locs : List Loc) (ls : Array Slot), f_X6_leastFair_L7 N s_ k11 n13 x1 x2 x3 = some r_ → Wd D A s.heap [(h0, .inr (6, [.int thrown_, .ref h_this_s, .ref h_this_saved, .int savedMany_, .ref h_this_snapshot, .int hasSnapshot_, .ref h_this_text, .int length_, .ref h_this_lumps, .int lumpMany_, .ref h_this_order, .ref h_this_nears, .int partingSet_, .int partingWeight_, .int at_, .int isWell_, .ref h_this_told, .int toldMany_])), (h_this_s, .inl (cI, 103, .inl s_))] H locs → lv_has ls 4 [(0, .ref h0), (1, .int x1), (2, .int x2), (3, .int x3)] → W p l e rmX6_leastFair s m ([.ref h0] : List Value).toArray below meth c H locs 0 0 (MQ below (Qi D r_ [(h0, .inr (6, [.int thrown_, .ref h_this_s, .ref h_this_saved, .int savedMany_, .ref h_this_snapshot, .int hasSnapshot_, .ref h_this_text, .int length_, .ref h_this_lumps, .int lumpMany_, .ref h_this_order, .ref h_this_nears, .int partingSet_, .int partingWeight_, .int at_, .int isWell_, .ref h_this_told, .int toldMany_])), (h_this_s, .inl (cI, 103, .inl s_))] A) ([.ref h0] : List Value).toArray s 0 0 A) (F0 m 7 ls []) := by
    intro k11 hk7 n13
    induction n13 with
    | zero => intro x1 x2 x3 H locs ls h; cases h
    | succ n13 ih7 =>
      intro x1 x2 x3 H locs ls h hw hl
      rw [f_X6_leastFair_L7] at h
      refine lv_iload_n hx hb dX6_leastFair_7 rfl (lv_at hl 3 rfl) ?_
      refine lv_aload_n hx hb dX6_leastFair_8 rfl (lv_at hl 0 rfl) ?_
      obtain ⟨r4, hc, h⟩ := bd1_inv h
      refine r_cVi X hw (As := []) (rest := [.int x3]) (wr := []) (ws' := [(h0, .inr (6, [.int thrown_, .ref h_this_s, .ref h_this_saved, .int savedMany_, .ref h_this_snapshot, .int hasSnapshot_, .ref h_this_text, .int length_, .ref h_this_lumps, .int lumpMany_, .ref h_this_order, .ref h_this_nears, .int partingSet_, .int partingWeight_, .int at_, .int isWell_, .ref h_this_told, .int toldMany_])), (h_this_s, .inl (cI, 103, .inl s_))]) (c_X6_all l D cI cC cO h0 h_this_s h_this_saved h_this_snapshot h_this_text h_this_lumps h_this_order h_this_nears h_this_told thrown_ savedMany_ hasSnapshot_ length_ lumpMany_ partingSet_ partingWeight_ at_ isWell_ toldMany_ s_ r4 hc) (cs_X6_49 X (by decide)) [0, 1] [] [0, 1] rfl rfl rfl rfl (by decide) rfl rfl 0 rfl rfl rfl rfl hl.1 rfl (Nat.le_of_ble_eq_true rfl) dX6_leastFair_9 ⟨Nat.zero_le _, Nat.zero_le _⟩ (fun H locs hw => ?_)
      refine lv_icmp_ge (tgt := 52) hx hb dX6_leastFair_12 (by decide) (fun c1 => ?_) (fun c1 => ?_)
      · replace h := ip c1 h
        exact hk7 x1 _ _ _ h hw (lv_sub hl [1] rfl)
      · replace h := ig c1 h
        refine lv_aload_n hx hb dX6_leastFair_15 rfl (lv_at hl 0 rfl) ?_
        refine lv_iload_n hx hb dX6_leastFair_16 rfl (lv_at hl 3 rfl) ?_
        obtain ⟨r5, hc, h⟩ := bd1_inv h
        refine r_cVi X hw (As := [.int x3]) (rest := []) (wr := []) (ws' := [(h0, .inr (6, [.int thrown_, .ref h_this_s, .ref h_this_saved, .int savedMany_, .ref h_this_snapshot, .int hasSnapshot_, .ref h_this_text, .int length_, .ref h_this_lumps, .int lumpMany_, .ref h_this_order, .ref h_this_nears, .int partingSet_, .int partingWeight_, .int at_, .int isWell_, .ref h_this_told, .int toldMany_])), (h_this_s, .inl (cI, 103, .inl s_))]) (c_X6_isFair l D cI cC cO N h0 h_this_s h_this_saved h_this_snapshot h_this_text h_this_lumps h_this_order h_this_nears h_this_told x3 thrown_ savedMany_ hasSnapshot_ length_ lumpMany_ partingSet_ partingWeight_ at_ isWell_ toldMany_ s_ r5 hc) (cs_X6_69 X (by decide)) [0, 1] [] [0, 1] rfl rfl rfl rfl (by decide) rfl rfl 0 rfl rfl rfl rfl hl.1 rfl (Nat.le_of_ble_eq_true rfl) dX6_leastFair_17 ⟨Nat.zero_le _, Nat.zero_le _⟩ (fun H locs hw => ?_)
        have J46 : ∀ (x9 x10 : Int32) (H : Heap) (locs : List Loc) (ls : Array Slot), f_X6_leastFair_J46 (f_X6_leastFair_L7 N s_ k11 n13) x3 x9 x10 = some r_ → Wd D A s.heap [(h0, .inr (6, [.int thrown_, .ref h_this_s, .ref h_this_saved, .int savedMany_, .ref h_this_snapshot, .int hasSnapshot_, .ref h_this_text, .int length_, .ref h_this_lumps, .int lumpMany_, .ref h_this_order, .ref h_this_nears, .int partingSet_, .int partingWeight_, .int at_, .int isWell_, .ref h_this_told, .int toldMany_])), (h_this_s, .inl (cI, 103, .inl s_))] H locs → lv_has ls 4 [(0, .ref h0), (1, .int x9), (2, .int x10), (3, .int x3)] → W p l e rmX6_leastFair s m ([.ref h0] : List Value).toArray below meth c H locs 0 0 (MQ below (Qi D r_ [(h0, .inr (6, [.int thrown_, .ref h_this_s, .ref h_this_saved, .int savedMany_, .ref h_this_snapshot, .int hasSnapshot_, .ref h_this_text, .int length_, .ref h_this_lumps, .int lumpMany_, .ref h_this_order, .ref h_this_nears, .int partingSet_, .int partingWeight_, .int at_, .int isWell_, .ref h_this_told, .int toldMany_])), (h_this_s, .inl (cI, 103, .inl s_))] A) ([.ref h0] : List Value).toArray s 0 0 A) (F0 m 46 ls []) := by
          intro x9 x10 H locs ls h hw hl
          unfold f_X6_leastFair_J46 at h
          refine lv_iinc (v := (x3 + (2 : Int32))) (lv' := [(3, .int (x3 + (2 : Int32))), (0, .ref h0), (1, .int x9), (2, .int x10)]) hx hb dX6_leastFair_46 hl (k := 3) rfl rfl (by decide) rfl (fun ls hl => ?_)
          refine lv_goto (tgt := 7) hx hb dX6_leastFair_49 (by decide) ?_
          exact ih7 x9 x10 (x3 + (2 : Int32)) _ _ _ h hw (lv_sub hl [1, 2, 3, 0] rfl)
        refine lv_if_eq (tgt := 46) hx hb dX6_leastFair_20 (by decide) (fun c1 => ?_) (fun c1 => ?_)
        · replace h := ip c1 h
          exact J46 x1 x2 _ _ _ h hw (lv_sub hl [0, 1, 2, 3] rfl)
        · replace h := ig c1 h
          refine lv_iload_n hx hb dX6_leastFair_23 rfl (lv_at hl 1 rfl) ?_
          refine lv_bipush (v := -5) hx hb dX6_leastFair_24 (by decide) ?_
          refine lv_icmp_eq (tgt := 38) hx hb dX6_leastFair_26 (by decide) (fun c1 => ?_) (fun c1 => ?_)
          · replace h := ip c1 h
            refine lv_iload_n hx hb dX6_leastFair_38 rfl (lv_at hl 3 rfl) ?_
            refine lv_istore_n (lv' := [(1, .int x3), (0, .ref h0), (2, .int x2), (3, .int x3)]) hx hb dX6_leastFair_39 rfl hl (by decide) rfl (fun ls hl => ?_)
            refine lv_aload_n hx hb dX6_leastFair_40 rfl (lv_at hl 1 rfl) ?_
            refine lv_iload_n hx hb dX6_leastFair_41 rfl (lv_at hl 3 rfl) ?_
            obtain ⟨r6, hc, h⟩ := bd1_inv h
            refine r_cVi X hw (As := [.int x3]) (rest := []) (wr := []) (ws' := [(h0, .inr (6, [.int thrown_, .ref h_this_s, .ref h_this_saved, .int savedMany_, .ref h_this_snapshot, .int hasSnapshot_, .ref h_this_text, .int length_, .ref h_this_lumps, .int lumpMany_, .ref h_this_order, .ref h_this_nears, .int partingSet_, .int partingWeight_, .int at_, .int isWell_, .ref h_this_told, .int toldMany_])), (h_this_s, .inl (cI, 103, .inl s_))]) (c_X6_weightOf l D cI cC cO N h0 h_this_s h_this_saved h_this_snapshot h_this_text h_this_lumps h_this_order h_this_nears h_this_told x3 thrown_ savedMany_ hasSnapshot_ length_ lumpMany_ partingSet_ partingWeight_ at_ isWell_ toldMany_ s_ r6 hc) (cs_X6_60 X (by decide)) [0, 1] [] [0, 1] rfl rfl rfl rfl (by decide) rfl rfl 0 rfl rfl rfl rfl hl.1 rfl (Nat.le_of_ble_eq_true rfl) dX6_leastFair_42 ⟨Nat.zero_le _, Nat.zero_le _⟩ (fun H locs hw => ?_)
            refine lv_istore_n (lv' := [(2, .int r6), (1, .int x3), (0, .ref h0), (3, .int x3)]) hx hb dX6_leastFair_45 rfl hl (by decide) rfl (fun ls hl => ?_)
            exact J46 x3 r6 _ _ _ h hw (lv_sub hl [2, 1, 0, 3] rfl)
          · replace h := ig c1 h
            refine lv_aload_n hx hb dX6_leastFair_29 rfl (lv_at hl 0 rfl) ?_
            refine lv_iload_n hx hb dX6_leastFair_30 rfl (lv_at hl 3 rfl) ?_
            obtain ⟨r7, hc, h⟩ := bd1_inv h
            refine r_cVi X hw (As := [.int x3]) (rest := []) (wr := []) (ws' := [(h0, .inr (6, [.int thrown_, .ref h_this_s, .ref h_this_saved, .int savedMany_, .ref h_this_snapshot, .int hasSnapshot_, .ref h_this_text, .int length_, .ref h_this_lumps, .int lumpMany_, .ref h_this_order, .ref h_this_nears, .int partingSet_, .int partingWeight_, .int at_, .int isWell_, .ref h_this_told, .int toldMany_])), (h_this_s, .inl (cI, 103, .inl s_))]) (c_X6_weightOf l D cI cC cO N h0 h_this_s h_this_saved h_this_snapshot h_this_text h_this_lumps h_this_order h_this_nears h_this_told x3 thrown_ savedMany_ hasSnapshot_ length_ lumpMany_ partingSet_ partingWeight_ at_ isWell_ toldMany_ s_ r7 hc) (cs_X6_60 X (by decide)) [0, 1] [] [0, 1] rfl rfl rfl rfl (by decide) rfl rfl 0 rfl rfl rfl rfl hl.1 rfl (Nat.le_of_ble_eq_true rfl) dX6_leastFair_31 ⟨Nat.zero_le _, Nat.zero_le _⟩ (fun H locs hw => ?_)
            refine lv_iload_n hx hb dX6_leastFair_34 rfl (lv_at hl 2 rfl) ?_
            refine lv_icmp_ge (tgt := 46) hx hb dX6_leastFair_35 (by decide) (fun c1 => ?_) (fun c1 => ?_)
            · replace h := ip c1 h
              exact J46 x1 x2 _ _ _ h hw (lv_sub hl [0, 1, 2, 3] rfl)
            · replace h := ig c1 h
              refine lv_iload_n hx hb dX6_leastFair_38 rfl (lv_at hl 3 rfl) ?_
              refine lv_istore_n (lv' := [(1, .int x3), (0, .ref h0), (2, .int x2), (3, .int x3)]) hx hb dX6_leastFair_39 rfl hl (by decide) rfl (fun ls hl => ?_)
              refine lv_aload_n hx hb dX6_leastFair_40 rfl (lv_at hl 1 rfl) ?_
              refine lv_iload_n hx hb dX6_leastFair_41 rfl (lv_at hl 3 rfl) ?_
              obtain ⟨r8, hc, h⟩ := bd1_inv h
              refine r_cVi X hw (As := [.int x3]) (rest := []) (wr := []) (ws' := [(h0, .inr (6, [.int thrown_, .ref h_this_s, .ref h_this_saved, .int savedMany_, .ref h_this_snapshot, .int hasSnapshot_, .ref h_this_text, .int length_, .ref h_this_lumps, .int lumpMany_, .ref h_this_order, .ref h_this_nears, .int partingSet_, .int partingWeight_, .int at_, .int isWell_, .ref h_this_told, .int toldMany_])), (h_this_s, .inl (cI, 103, .inl s_))]) (c_X6_weightOf l D cI cC cO N h0 h_this_s h_this_saved h_this_snapshot h_this_text h_this_lumps h_this_order h_this_nears h_this_told x3 thrown_ savedMany_ hasSnapshot_ length_ lumpMany_ partingSet_ partingWeight_ at_ isWell_ toldMany_ s_ r8 hc) (cs_X6_60 X (by decide)) [0, 1] [] [0, 1] rfl rfl rfl rfl (by decide) rfl rfl 0 rfl rfl rfl rfl hl.1 rfl (Nat.le_of_ble_eq_true rfl) dX6_leastFair_42 ⟨Nat.zero_le _, Nat.zero_le _⟩ (fun H locs hw => ?_)
              refine lv_istore_n (lv' := [(2, .int r8), (1, .int x3), (0, .ref h0), (3, .int x3)]) hx hb dX6_leastFair_45 rfl hl (by decide) rfl (fun ls hl => ?_)
              exact J46 x3 r8 _ _ _ h hw (lv_sub hl [2, 1, 0, 3] rfl)
  exact L7 (fun x14 => f_X6_leastFair_E52 x14) (fun x14 H locs ls h hw hl => E52 x14 H locs ls h hw hl) N (-5 : Int32) (0 : Int32) (2 : Int32) _ _ _ h hw (lv_sub hl [3, 2, 1, 0] rfl)
def rmX6_fairMany : Room := { frames := 2, cells := 0, slots := 0, locals := 44 }
set_option maxHeartbeats 4000000 in
set_option maxRecDepth 100000 in
theorem c_X6_fairMany (l : Launch) (D : va_G) (cI cC cO : ClassId) (N : Nat) (h0 h_this_s h_this_saved h_this_snapshot h_this_text h_this_lumps h_this_order h_this_nears h_this_told : Nat) (thrown_ savedMany_ hasSnapshot_ length_ lumpMany_ partingSet_ partingWeight_ at_ isWell_ toldMany_ : Int32) (s_ : Nat → Int32) (r_ : Int32) (h : f_X6_fairMany N s_ = some r_) : CI l yX6_fairMany (Wy yX6_fairMany cX6_fairMany 3 (some .int)) rmX6_fairMany D cI cC cO [.ref h0] [(h0, .inr (6, [.int thrown_, .ref h_this_s, .ref h_this_saved, .int savedMany_, .ref h_this_snapshot, .int hasSnapshot_, .ref h_this_text, .int length_, .ref h_this_lumps, .int lumpMany_, .ref h_this_order, .ref h_this_nears, .int partingSet_, .int partingWeight_, .int at_, .int isWell_, .ref h_this_told, .int toldMany_])), (h_this_s, .inl (cI, 103, .inl s_))] r_ [(h0, .inr (6, [.int thrown_, .ref h_this_s, .ref h_this_saved, .int savedMany_, .ref h_this_snapshot, .int hasSnapshot_, .ref h_this_text, .int length_, .ref h_this_lumps, .int lumpMany_, .ref h_this_order, .ref h_this_nears, .int partingSet_, .int partingWeight_, .int at_, .int isWell_, .ref h_this_told, .int toldMany_])), (h_this_s, .inl (cI, 103, .inl s_))] := by
  refine enter_i RX6 (by decide) rfl (Nat.le_of_ble_eq_true rfl) ?_
  intro p e s m below meth c A X hr hlk hw ls hl
  have hx := X.1.1
  have hb := X.1.2.1
  have hl : lv_has ls 3 [(0, .ref h0)] := hl
  unfold f_X6_fairMany at h
  refine lv_iconst (v := 0) hx hb dX6_fairMany_0 (by decide) ?_
  refine lv_istore_n (lv' := [(1, .int (0 : Int32)), (0, .ref h0)]) hx hb dX6_fairMany_1 rfl hl (by decide) rfl (fun ls hl => ?_)
  refine lv_iconst (v := 2) hx hb dX6_fairMany_2 (by decide) ?_
  refine lv_istore_n (lv' := [(2, .int (2 : Int32)), (1, .int (0 : Int32)), (0, .ref h0)]) hx hb dX6_fairMany_3 rfl hl (by decide) rfl (fun ls hl => ?_)
  have E34 : ∀ (x9 : Int32) (H : Heap) (locs : List Loc) (ls : Array Slot), f_X6_fairMany_E34 x9 = some r_ → Wd D A s.heap [(h0, .inr (6, [.int thrown_, .ref h_this_s, .ref h_this_saved, .int savedMany_, .ref h_this_snapshot, .int hasSnapshot_, .ref h_this_text, .int length_, .ref h_this_lumps, .int lumpMany_, .ref h_this_order, .ref h_this_nears, .int partingSet_, .int partingWeight_, .int at_, .int isWell_, .ref h_this_told, .int toldMany_])), (h_this_s, .inl (cI, 103, .inl s_))] H locs → lv_has ls 3 [(1, .int x9)] → W p l e rmX6_fairMany s m ([.ref h0] : List Value).toArray below meth c H locs 0 0 (MQ below (Qi D r_ [(h0, .inr (6, [.int thrown_, .ref h_this_s, .ref h_this_saved, .int savedMany_, .ref h_this_snapshot, .int hasSnapshot_, .ref h_this_text, .int length_, .ref h_this_lumps, .int lumpMany_, .ref h_this_order, .ref h_this_nears, .int partingSet_, .int partingWeight_, .int at_, .int isWell_, .ref h_this_told, .int toldMany_])), (h_this_s, .inl (cI, 103, .inl s_))] A) ([.ref h0] : List Value).toArray s 0 0 A) (F0 m 34 ls []) := by
    intro x9 H locs ls h hw hl
    unfold f_X6_fairMany_E34 at h
    refine lv_iload_n hx hb dX6_fairMany_34 rfl (lv_at hl 0 rfl) ?_
    obtain rfl := oi1 h
    exact r_ret X hw hr hlk dX6_fairMany_35
  have L4 : ∀ (k6 : Int32 → Option (Int32)), (∀ (x9 : Int32) (H : Heap) (locs : List Loc) (ls : Array Slot), k6 x9 = some r_ → Wd D A s.heap [(h0, .inr (6, [.int thrown_, .ref h_this_s, .ref h_this_saved, .int savedMany_, .ref h_this_snapshot, .int hasSnapshot_, .ref h_this_text, .int length_, .ref h_this_lumps, .int lumpMany_, .ref h_this_order, .ref h_this_nears, .int partingSet_, .int partingWeight_, .int at_, .int isWell_, .ref h_this_told, .int toldMany_])), (h_this_s, .inl (cI, 103, .inl s_))] H locs → lv_has ls 3 [(1, .int x9)] → W p l e rmX6_fairMany s m ([.ref h0] : List Value).toArray below meth c H locs 0 0 (MQ below (Qi D r_ [(h0, .inr (6, [.int thrown_, .ref h_this_s, .ref h_this_saved, .int savedMany_, .ref h_this_snapshot, .int hasSnapshot_, .ref h_this_text, .int length_, .ref h_this_lumps, .int lumpMany_, .ref h_this_order, .ref h_this_nears, .int partingSet_, .int partingWeight_, .int at_, .int isWell_, .ref h_this_told, .int toldMany_])), (h_this_s, .inl (cI, 103, .inl s_))] A) ([.ref h0] : List Value).toArray s 0 0 A) (F0 m 34 ls [])) → ∀ (n8 : Nat), ∀ (x1 x2 : Int32) (H : Heap) (locs : List Loc) (ls : Array Slot), f_X6_fairMany_L4 N s_ k6 n8 x1 x2 = some r_ → Wd D A s.heap [(h0, .inr (6, [.int thrown_, .ref h_this_s, .ref h_this_saved, .int savedMany_, .ref h_this_snapshot, .int hasSnapshot_, .ref h_this_text, .int length_, .ref h_this_lumps, .int lumpMany_, .ref h_this_order, .ref h_this_nears, .int partingSet_, .int partingWeight_, .int at_, .int isWell_, .ref h_this_told, .int toldMany_])), (h_this_s, .inl (cI, 103, .inl s_))] H locs → lv_has ls 3 [(0, .ref h0), (1, .int x1), (2, .int x2)] → W p l e rmX6_fairMany s m ([.ref h0] : List Value).toArray below meth c H locs 0 0 (MQ below (Qi D r_ [(h0, .inr (6, [.int thrown_, .ref h_this_s, .ref h_this_saved, .int savedMany_, .ref h_this_snapshot, .int hasSnapshot_, .ref h_this_text, .int length_, .ref h_this_lumps, .int lumpMany_, .ref h_this_order, .ref h_this_nears, .int partingSet_, .int partingWeight_, .int at_, .int isWell_, .ref h_this_told, .int toldMany_])), (h_this_s, .inl (cI, 103, .inl s_))] A) ([.ref h0] : List Value).toArray s 0 0 A) (F0 m 4 ls []) := by
    intro k6 hk4 n8
    induction n8 with
    | zero => intro x1 x2 H locs ls h; cases h
    | succ n8 ih4 =>
      intro x1 x2 H locs ls h hw hl
      rw [f_X6_fairMany_L4] at h
      refine lv_iload_n hx hb dX6_fairMany_4 rfl (lv_at hl 2 rfl) ?_
      refine lv_aload_n hx hb dX6_fairMany_5 rfl (lv_at hl 0 rfl) ?_
      obtain ⟨r3, hc, h⟩ := bd1_inv h
      refine r_cVi X hw (As := []) (rest := [.int x2]) (wr := []) (ws' := [(h0, .inr (6, [.int thrown_, .ref h_this_s, .ref h_this_saved, .int savedMany_, .ref h_this_snapshot, .int hasSnapshot_, .ref h_this_text, .int length_, .ref h_this_lumps, .int lumpMany_, .ref h_this_order, .ref h_this_nears, .int partingSet_, .int partingWeight_, .int at_, .int isWell_, .ref h_this_told, .int toldMany_])), (h_this_s, .inl (cI, 103, .inl s_))]) (c_X6_all l D cI cC cO h0 h_this_s h_this_saved h_this_snapshot h_this_text h_this_lumps h_this_order h_this_nears h_this_told thrown_ savedMany_ hasSnapshot_ length_ lumpMany_ partingSet_ partingWeight_ at_ isWell_ toldMany_ s_ r3 hc) (cs_X6_49 X (by decide)) [0, 1] [] [0, 1] rfl rfl rfl rfl (by decide) rfl rfl 0 rfl rfl rfl rfl hl.1 rfl (Nat.le_of_ble_eq_true rfl) dX6_fairMany_6 ⟨Nat.zero_le _, Nat.zero_le _⟩ (fun H locs hw => ?_)
      refine lv_icmp_ge (tgt := 34) hx hb dX6_fairMany_9 (by decide) (fun c1 => ?_) (fun c1 => ?_)
      · replace h := ip c1 h
        exact hk4 x1 _ _ _ h hw (lv_sub hl [1] rfl)
      · replace h := ig c1 h
        refine lv_iload_n hx hb dX6_fairMany_12 rfl (lv_at hl 1 rfl) ?_
        refine lv_aload_n hx hb dX6_fairMany_13 rfl (lv_at hl 0 rfl) ?_
        refine lv_iload_n hx hb dX6_fairMany_14 rfl (lv_at hl 2 rfl) ?_
        obtain ⟨r4, hc, h⟩ := bd1_inv h
        refine r_cVi X hw (As := [.int x2]) (rest := [.int x1]) (wr := []) (ws' := [(h0, .inr (6, [.int thrown_, .ref h_this_s, .ref h_this_saved, .int savedMany_, .ref h_this_snapshot, .int hasSnapshot_, .ref h_this_text, .int length_, .ref h_this_lumps, .int lumpMany_, .ref h_this_order, .ref h_this_nears, .int partingSet_, .int partingWeight_, .int at_, .int isWell_, .ref h_this_told, .int toldMany_])), (h_this_s, .inl (cI, 103, .inl s_))]) (c_X6_isFair l D cI cC cO N h0 h_this_s h_this_saved h_this_snapshot h_this_text h_this_lumps h_this_order h_this_nears h_this_told x2 thrown_ savedMany_ hasSnapshot_ length_ lumpMany_ partingSet_ partingWeight_ at_ isWell_ toldMany_ s_ r4 hc) (cs_X6_69 X (by decide)) [0, 1] [] [0, 1] rfl rfl rfl rfl (by decide) rfl rfl 0 rfl rfl rfl rfl hl.1 rfl (Nat.le_of_ble_eq_true rfl) dX6_fairMany_15 ⟨Nat.zero_le _, Nat.zero_le _⟩ (fun H locs hw => ?_)
        have J26 : ∀ (x5 : Int32) (H : Heap) (locs : List Loc) (ls : Array Slot), f_X6_fairMany_J26 (f_X6_fairMany_L4 N s_ k6 n8) x1 x2 x5 = some r_ → Wd D A s.heap [(h0, .inr (6, [.int thrown_, .ref h_this_s, .ref h_this_saved, .int savedMany_, .ref h_this_snapshot, .int hasSnapshot_, .ref h_this_text, .int length_, .ref h_this_lumps, .int lumpMany_, .ref h_this_order, .ref h_this_nears, .int partingSet_, .int partingWeight_, .int at_, .int isWell_, .ref h_this_told, .int toldMany_])), (h_this_s, .inl (cI, 103, .inl s_))] H locs → lv_has ls 3 [(0, .ref h0), (2, .int x2)] → W p l e rmX6_fairMany s m ([.ref h0] : List Value).toArray below meth c H locs 0 0 (MQ below (Qi D r_ [(h0, .inr (6, [.int thrown_, .ref h_this_s, .ref h_this_saved, .int savedMany_, .ref h_this_snapshot, .int hasSnapshot_, .ref h_this_text, .int length_, .ref h_this_lumps, .int lumpMany_, .ref h_this_order, .ref h_this_nears, .int partingSet_, .int partingWeight_, .int at_, .int isWell_, .ref h_this_told, .int toldMany_])), (h_this_s, .inl (cI, 103, .inl s_))] A) ([.ref h0] : List Value).toArray s 0 0 A) (F0 m 26 ls [.int x5, .int x1]) := by
          intro x5 H locs ls h hw hl
          unfold f_X6_fairMany_J26 at h
          refine lv_iadd hx hb dX6_fairMany_26 ?_
          refine lv_istore_n (lv' := [(1, .int (x1 + x5)), (0, .ref h0), (2, .int x2)]) hx hb dX6_fairMany_27 rfl hl (by decide) rfl (fun ls hl => ?_)
          refine lv_iinc (v := (x2 + (2 : Int32))) (lv' := [(2, .int (x2 + (2 : Int32))), (1, .int (x1 + x5)), (0, .ref h0)]) hx hb dX6_fairMany_28 hl (k := 2) rfl rfl (by decide) rfl (fun ls hl => ?_)
          refine lv_goto (tgt := 4) hx hb dX6_fairMany_31 (by decide) ?_
          exact ih4 (x1 + x5) (x2 + (2 : Int32)) _ _ _ h hw (lv_sub hl [2, 1, 0] rfl)
        refine lv_if_eq (tgt := 25) hx hb dX6_fairMany_18 (by decide) (fun c1 => ?_) (fun c1 => ?_)
        · replace h := ip c1 h
          refine lv_iconst (v := 0) hx hb dX6_fairMany_25 (by decide) ?_
          exact J26 (0 : Int32) _ _ _ h hw (lv_sub hl [0, 2] rfl)
        · replace h := ig c1 h
          refine lv_iconst (v := 1) hx hb dX6_fairMany_21 (by decide) ?_
          refine lv_goto (tgt := 26) hx hb dX6_fairMany_22 (by decide) ?_
          exact J26 (1 : Int32) _ _ _ h hw (lv_sub hl [0, 2] rfl)
  exact L4 (fun x9 => f_X6_fairMany_E34 x9) (fun x9 H locs ls h hw hl => E34 x9 H locs ls h hw hl) N (0 : Int32) (2 : Int32) _ _ _ h hw (lv_sub hl [2, 1, 0] rfl)
def rmX6_leastBetween : Room := { frames := 3, cells := 0, slots := 0, locals := 68 }
set_option maxHeartbeats 4000000 in
set_option maxRecDepth 100000 in
theorem c_X6_leastBetween (l : Launch) (D : va_G) (cI cC cO : ClassId) (N : Nat) (h0 h_this_s h_this_saved h_this_snapshot h_this_text h_this_lumps h_this_order h_this_nears h_this_told : Nat) (p1 p2 thrown_ savedMany_ hasSnapshot_ length_ lumpMany_ partingSet_ partingWeight_ at_ isWell_ toldMany_ : Int32) (s_ : Nat → Int32) (r_ : Int32) (h : f_X6_leastBetween N p1 p2 s_ = some r_) : CI l yX6_leastBetween (Wy yX6_leastBetween cX6_leastBetween 7 (some .int)) rmX6_leastBetween D cI cC cO [.ref h0, .int p1, .int p2] [(h0, .inr (6, [.int thrown_, .ref h_this_s, .ref h_this_saved, .int savedMany_, .ref h_this_snapshot, .int hasSnapshot_, .ref h_this_text, .int length_, .ref h_this_lumps, .int lumpMany_, .ref h_this_order, .ref h_this_nears, .int partingSet_, .int partingWeight_, .int at_, .int isWell_, .ref h_this_told, .int toldMany_])), (h_this_s, .inl (cI, 103, .inl s_))] r_ [(h0, .inr (6, [.int thrown_, .ref h_this_s, .ref h_this_saved, .int savedMany_, .ref h_this_snapshot, .int hasSnapshot_, .ref h_this_text, .int length_, .ref h_this_lumps, .int lumpMany_, .ref h_this_order, .ref h_this_nears, .int partingSet_, .int partingWeight_, .int at_, .int isWell_, .ref h_this_told, .int toldMany_])), (h_this_s, .inl (cI, 103, .inl s_))] := by
  refine enter_i RX6 (by decide) rfl (Nat.le_of_ble_eq_true rfl) ?_
  intro p e s m below meth c A X hr hlk hw ls hl
  have hx := X.1.1
  have hb := X.1.2.1
  have hl : lv_has ls 7 [(0, .ref h0), (1, .int p1), (2, .int p2)] := hl
  unfold f_X6_leastBetween at h
  refine lv_bipush (v := -5) hx hb dX6_leastBetween_0 (by decide) ?_
  refine lv_istore_n (lv' := [(3, .int (-5 : Int32)), (0, .ref h0), (1, .int p1), (2, .int p2)]) hx hb dX6_leastBetween_2 rfl hl (by decide) rfl (fun ls hl => ?_)
  refine lv_iconst (v := 0) hx hb dX6_leastBetween_3 (by decide) ?_
  refine lv_istore (lv' := [(4, .int (0 : Int32)), (3, .int (-5 : Int32)), (0, .ref h0), (1, .int p1), (2, .int p2)]) hx hb dX6_leastBetween_4 hl (by decide) rfl (fun ls hl => ?_)
  refine lv_iconst (v := 2) hx hb dX6_leastBetween_6 (by decide) ?_
  refine lv_istore (lv' := [(5, .int (2 : Int32)), (4, .int (0 : Int32)), (3, .int (-5 : Int32)), (0, .ref h0), (1, .int p1), (2, .int p2)]) hx hb dX6_leastBetween_7 hl (by decide) rfl (fun ls hl => ?_)
  have E79 : ∀ (x14 : Int32) (H : Heap) (locs : List Loc) (ls : Array Slot), f_X6_leastBetween_E79 x14 = some r_ → Wd D A s.heap [(h0, .inr (6, [.int thrown_, .ref h_this_s, .ref h_this_saved, .int savedMany_, .ref h_this_snapshot, .int hasSnapshot_, .ref h_this_text, .int length_, .ref h_this_lumps, .int lumpMany_, .ref h_this_order, .ref h_this_nears, .int partingSet_, .int partingWeight_, .int at_, .int isWell_, .ref h_this_told, .int toldMany_])), (h_this_s, .inl (cI, 103, .inl s_))] H locs → lv_has ls 7 [(3, .int x14)] → W p l e rmX6_leastBetween s m ([.ref h0, .int p1, .int p2] : List Value).toArray below meth c H locs 0 0 (MQ below (Qi D r_ [(h0, .inr (6, [.int thrown_, .ref h_this_s, .ref h_this_saved, .int savedMany_, .ref h_this_snapshot, .int hasSnapshot_, .ref h_this_text, .int length_, .ref h_this_lumps, .int lumpMany_, .ref h_this_order, .ref h_this_nears, .int partingSet_, .int partingWeight_, .int at_, .int isWell_, .ref h_this_told, .int toldMany_])), (h_this_s, .inl (cI, 103, .inl s_))] A) ([.ref h0, .int p1, .int p2] : List Value).toArray s 0 0 A) (F0 m 79 ls []) := by
    intro x14 H locs ls h hw hl
    unfold f_X6_leastBetween_E79 at h
    refine lv_iload_n hx hb dX6_leastBetween_79 rfl (lv_at hl 0 rfl) ?_
    obtain rfl := oi1 h
    exact r_ret X hw hr hlk dX6_leastBetween_80
  have L9 : ∀ (k11 : Int32 → Option (Int32)), (∀ (x14 : Int32) (H : Heap) (locs : List Loc) (ls : Array Slot), k11 x14 = some r_ → Wd D A s.heap [(h0, .inr (6, [.int thrown_, .ref h_this_s, .ref h_this_saved, .int savedMany_, .ref h_this_snapshot, .int hasSnapshot_, .ref h_this_text, .int length_, .ref h_this_lumps, .int lumpMany_, .ref h_this_order, .ref h_this_nears, .int partingSet_, .int partingWeight_, .int at_, .int isWell_, .ref h_this_told, .int toldMany_])), (h_this_s, .inl (cI, 103, .inl s_))] H locs → lv_has ls 7 [(3, .int x14)] → W p l e rmX6_leastBetween s m ([.ref h0, .int p1, .int p2] : List Value).toArray below meth c H locs 0 0 (MQ below (Qi D r_ [(h0, .inr (6, [.int thrown_, .ref h_this_s, .ref h_this_saved, .int savedMany_, .ref h_this_snapshot, .int hasSnapshot_, .ref h_this_text, .int length_, .ref h_this_lumps, .int lumpMany_, .ref h_this_order, .ref h_this_nears, .int partingSet_, .int partingWeight_, .int at_, .int isWell_, .ref h_this_told, .int toldMany_])), (h_this_s, .inl (cI, 103, .inl s_))] A) ([.ref h0, .int p1, .int p2] : List Value).toArray s 0 0 A) (F0 m 79 ls [])) → ∀ (n13 : Nat), ∀ (x1 x2 x3 : Int32) (H : Heap) (locs : List Loc) (ls : Array Slot), f_X6_leastBetween_L9 N s_ p1 p2 k11 n13 x1 x2 x3 = some r_ → Wd D A s.heap [(h0, .inr (6, [.int thrown_, .ref h_this_s, .ref h_this_saved, .int savedMany_, .ref h_this_snapshot, .int hasSnapshot_, .ref h_this_text, .int length_, .ref h_this_lumps, .int lumpMany_, .ref h_this_order, .ref h_this_nears, .int partingSet_, .int partingWeight_, .int at_, .int isWell_, .ref h_this_told, .int toldMany_])), (h_this_s, .inl (cI, 103, .inl s_))] H locs → lv_has ls 7 [(0, .ref h0), (1, .int p1), (2, .int p2), (3, .int x1), (4, .int x2), (5, .int x3)] → W p l e rmX6_leastBetween s m ([.ref h0, .int p1, .int p2] : List Value).toArray below meth c H locs 0 0 (MQ below (Qi D r_ [(h0, .inr (6, [.int thrown_, .ref h_this_s, .ref h_this_saved, .int savedMany_, .ref h_this_snapshot, .int hasSnapshot_, .ref h_this_text, .int length_, .ref h_this_lumps, .int lumpMany_, .ref h_this_order, .ref h_this_nears, .int partingSet_, .int partingWeight_, .int at_, .int isWell_, .ref h_this_told, .int toldMany_])), (h_this_s, .inl (cI, 103, .inl s_))] A) ([.ref h0, .int p1, .int p2] : List Value).toArray s 0 0 A) (F0 m 9 ls []) := by
    intro k11 hk9 n13
    induction n13 with
    | zero => intro x1 x2 x3 H locs ls h; cases h
    | succ n13 ih9 =>
      intro x1 x2 x3 H locs ls h hw hl
      rw [f_X6_leastBetween_L9] at h
      refine lv_iload hx hb dX6_leastBetween_9 (lv_at hl 5 rfl) ?_
      refine lv_aload_n hx hb dX6_leastBetween_11 rfl (lv_at hl 0 rfl) ?_
      obtain ⟨r4, hc, h⟩ := bd1_inv h
      refine r_cVi X hw (As := []) (rest := [.int x3]) (wr := []) (ws' := [(h0, .inr (6, [.int thrown_, .ref h_this_s, .ref h_this_saved, .int savedMany_, .ref h_this_snapshot, .int hasSnapshot_, .ref h_this_text, .int length_, .ref h_this_lumps, .int lumpMany_, .ref h_this_order, .ref h_this_nears, .int partingSet_, .int partingWeight_, .int at_, .int isWell_, .ref h_this_told, .int toldMany_])), (h_this_s, .inl (cI, 103, .inl s_))]) (c_X6_all l D cI cC cO h0 h_this_s h_this_saved h_this_snapshot h_this_text h_this_lumps h_this_order h_this_nears h_this_told thrown_ savedMany_ hasSnapshot_ length_ lumpMany_ partingSet_ partingWeight_ at_ isWell_ toldMany_ s_ r4 hc) (cs_X6_49 X (by decide)) [0, 1] [] [0, 1] rfl rfl rfl rfl (by decide) rfl rfl 0 rfl rfl rfl rfl hl.1 rfl (Nat.le_of_ble_eq_true rfl) dX6_leastBetween_12 ⟨Nat.zero_le _, Nat.zero_le _⟩ (fun H locs hw => ?_)
      refine lv_icmp_ge (tgt := 79) hx hb dX6_leastBetween_15 (by decide) (fun c1 => ?_) (fun c1 => ?_)
      · replace h := ip c1 h
        exact hk9 x1 _ _ _ h hw (lv_sub hl [3] rfl)
      · replace h := ig c1 h
        refine lv_iload hx hb dX6_leastBetween_18 (lv_at hl 5 rfl) ?_
        refine lv_iload_n hx hb dX6_leastBetween_20 rfl (lv_at hl 1 rfl) ?_
        refine lv_ishr hx hb dX6_leastBetween_21 ?_
        refine lv_iconst (v := 1) hx hb dX6_leastBetween_22 (by decide) ?_
        refine lv_iand hx hb dX6_leastBetween_23 ?_
        refine lv_iload hx hb dX6_leastBetween_24 (lv_at hl 5 rfl) ?_
        refine lv_iload_n hx hb dX6_leastBetween_26 rfl (lv_at hl 2 rfl) ?_
        refine lv_ishr hx hb dX6_leastBetween_27 ?_
        refine lv_iconst (v := 1) hx hb dX6_leastBetween_28 (by decide) ?_
        refine lv_iand hx hb dX6_leastBetween_29 ?_
        have J38 : ∀ (x5 : Int32) (H : Heap) (locs : List Loc) (ls : Array Slot), f_X6_leastBetween_J38 N (f_X6_leastBetween_L9 N s_ p1 p2 k11 n13) x3 x1 x2 s_ x5 = some r_ → Wd D A s.heap [(h0, .inr (6, [.int thrown_, .ref h_this_s, .ref h_this_saved, .int savedMany_, .ref h_this_snapshot, .int hasSnapshot_, .ref h_this_text, .int length_, .ref h_this_lumps, .int lumpMany_, .ref h_this_order, .ref h_this_nears, .int partingSet_, .int partingWeight_, .int at_, .int isWell_, .ref h_this_told, .int toldMany_])), (h_this_s, .inl (cI, 103, .inl s_))] H locs → lv_has ls 7 [(0, .ref h0), (1, .int p1), (2, .int p2), (3, .int x1), (4, .int x2), (5, .int x3)] → W p l e rmX6_leastBetween s m ([.ref h0, .int p1, .int p2] : List Value).toArray below meth c H locs 0 0 (MQ below (Qi D r_ [(h0, .inr (6, [.int thrown_, .ref h_this_s, .ref h_this_saved, .int savedMany_, .ref h_this_snapshot, .int hasSnapshot_, .ref h_this_text, .int length_, .ref h_this_lumps, .int lumpMany_, .ref h_this_order, .ref h_this_nears, .int partingSet_, .int partingWeight_, .int at_, .int isWell_, .ref h_this_told, .int toldMany_])), (h_this_s, .inl (cI, 103, .inl s_))] A) ([.ref h0, .int p1, .int p2] : List Value).toArray s 0 0 A) (F0 m 38 ls [.int x5]) := by
          intro x5 H locs ls h hw hl
          unfold f_X6_leastBetween_J38 at h
          refine lv_istore (lv' := [(6, .int x5), (0, .ref h0), (1, .int p1), (2, .int p2), (3, .int x1), (4, .int x2), (5, .int x3)]) hx hb dX6_leastBetween_38 hl (by decide) rfl (fun ls hl => ?_)
          refine lv_iload hx hb dX6_leastBetween_40 (lv_at hl 0 rfl) ?_
          have J73 : ∀ (x9 x10 : Int32) (H : Heap) (locs : List Loc) (ls : Array Slot), f_X6_leastBetween_J73 (f_X6_leastBetween_L9 N s_ p1 p2 k11 n13) x3 x9 x10 = some r_ → Wd D A s.heap [(h0, .inr (6, [.int thrown_, .ref h_this_s, .ref h_this_saved, .int savedMany_, .ref h_this_snapshot, .int hasSnapshot_, .ref h_this_text, .int length_, .ref h_this_lumps, .int lumpMany_, .ref h_this_order, .ref h_this_nears, .int partingSet_, .int partingWeight_, .int at_, .int isWell_, .ref h_this_told, .int toldMany_])), (h_this_s, .inl (cI, 103, .inl s_))] H locs → lv_has ls 7 [(0, .ref h0), (1, .int p1), (2, .int p2), (3, .int x9), (4, .int x10), (5, .int x3)] → W p l e rmX6_leastBetween s m ([.ref h0, .int p1, .int p2] : List Value).toArray below meth c H locs 0 0 (MQ below (Qi D r_ [(h0, .inr (6, [.int thrown_, .ref h_this_s, .ref h_this_saved, .int savedMany_, .ref h_this_snapshot, .int hasSnapshot_, .ref h_this_text, .int length_, .ref h_this_lumps, .int lumpMany_, .ref h_this_order, .ref h_this_nears, .int partingSet_, .int partingWeight_, .int at_, .int isWell_, .ref h_this_told, .int toldMany_])), (h_this_s, .inl (cI, 103, .inl s_))] A) ([.ref h0, .int p1, .int p2] : List Value).toArray s 0 0 A) (F0 m 73 ls []) := by
            intro x9 x10 H locs ls h hw hl
            unfold f_X6_leastBetween_J73 at h
            refine lv_iinc (v := (x3 + (2 : Int32))) (lv' := [(5, .int (x3 + (2 : Int32))), (0, .ref h0), (1, .int p1), (2, .int p2), (3, .int x9), (4, .int x10)]) hx hb dX6_leastBetween_73 hl (k := 5) rfl rfl (by decide) rfl (fun ls hl => ?_)
            refine lv_goto (tgt := 9) hx hb dX6_leastBetween_76 (by decide) ?_
            exact ih9 x9 x10 (x3 + (2 : Int32)) _ _ _ h hw (lv_sub hl [1, 2, 3, 4, 5, 0] rfl)
          refine lv_if_eq (tgt := 73) hx hb dX6_leastBetween_42 (by decide) (fun c1 => ?_) (fun c1 => ?_)
          · replace h := ip c1 h
            exact J73 x1 x2 _ _ _ h hw (lv_sub hl [1, 2, 3, 4, 5, 6] rfl)
          · replace h := ig c1 h
            refine lv_iload_n hx hb dX6_leastBetween_45 rfl (lv_at hl 4 rfl) ?_
            refine lv_bipush (v := -5) hx hb dX6_leastBetween_46 (by decide) ?_
            refine lv_icmp_eq (tgt := 62) hx hb dX6_leastBetween_48 (by decide) (fun c1 => ?_) (fun c1 => ?_)
            · replace h := ip c1 h
              refine lv_iload hx hb dX6_leastBetween_62 (lv_at hl 6 rfl) ?_
              refine lv_istore_n (lv' := [(3, .int x3), (6, .int x5), (0, .ref h0), (1, .int p1), (2, .int p2), (4, .int x2), (5, .int x3)]) hx hb dX6_leastBetween_64 rfl hl (by decide) rfl (fun ls hl => ?_)
              refine lv_aload_n hx hb dX6_leastBetween_65 rfl (lv_at hl 2 rfl) ?_
              refine lv_iload hx hb dX6_leastBetween_66 (lv_at hl 6 rfl) ?_
              obtain ⟨r6, hc, h⟩ := bd1_inv h
              refine r_cVi X hw (As := [.int x3]) (rest := []) (wr := []) (ws' := [(h0, .inr (6, [.int thrown_, .ref h_this_s, .ref h_this_saved, .int savedMany_, .ref h_this_snapshot, .int hasSnapshot_, .ref h_this_text, .int length_, .ref h_this_lumps, .int lumpMany_, .ref h_this_order, .ref h_this_nears, .int partingSet_, .int partingWeight_, .int at_, .int isWell_, .ref h_this_told, .int toldMany_])), (h_this_s, .inl (cI, 103, .inl s_))]) (c_X6_weightOf l D cI cC cO N h0 h_this_s h_this_saved h_this_snapshot h_this_text h_this_lumps h_this_order h_this_nears h_this_told x3 thrown_ savedMany_ hasSnapshot_ length_ lumpMany_ partingSet_ partingWeight_ at_ isWell_ toldMany_ s_ r6 hc) (cs_X6_60 X (by decide)) [0, 1] [] [0, 1] rfl rfl rfl rfl (by decide) rfl rfl 0 rfl rfl rfl rfl hl.1 rfl (Nat.le_of_ble_eq_true rfl) dX6_leastBetween_68 ⟨Nat.zero_le _, Nat.zero_le _⟩ (fun H locs hw => ?_)
              refine lv_istore (lv' := [(4, .int r6), (3, .int x3), (6, .int x5), (0, .ref h0), (1, .int p1), (2, .int p2), (5, .int x3)]) hx hb dX6_leastBetween_71 hl (by decide) rfl (fun ls hl => ?_)
              exact J73 x3 r6 _ _ _ h hw (lv_sub hl [3, 4, 5, 1, 0, 6] rfl)
            · replace h := ig c1 h
              refine lv_aload_n hx hb dX6_leastBetween_51 rfl (lv_at hl 1 rfl) ?_
              refine lv_iload hx hb dX6_leastBetween_52 (lv_at hl 6 rfl) ?_
              obtain ⟨r7, hc, h⟩ := bd1_inv h
              refine r_cVi X hw (As := [.int x3]) (rest := []) (wr := []) (ws' := [(h0, .inr (6, [.int thrown_, .ref h_this_s, .ref h_this_saved, .int savedMany_, .ref h_this_snapshot, .int hasSnapshot_, .ref h_this_text, .int length_, .ref h_this_lumps, .int lumpMany_, .ref h_this_order, .ref h_this_nears, .int partingSet_, .int partingWeight_, .int at_, .int isWell_, .ref h_this_told, .int toldMany_])), (h_this_s, .inl (cI, 103, .inl s_))]) (c_X6_weightOf l D cI cC cO N h0 h_this_s h_this_saved h_this_snapshot h_this_text h_this_lumps h_this_order h_this_nears h_this_told x3 thrown_ savedMany_ hasSnapshot_ length_ lumpMany_ partingSet_ partingWeight_ at_ isWell_ toldMany_ s_ r7 hc) (cs_X6_60 X (by decide)) [0, 1] [] [0, 1] rfl rfl rfl rfl (by decide) rfl rfl 0 rfl rfl rfl rfl hl.1 rfl (Nat.le_of_ble_eq_true rfl) dX6_leastBetween_54 ⟨Nat.zero_le _, Nat.zero_le _⟩ (fun H locs hw => ?_)
              refine lv_iload hx hb dX6_leastBetween_57 (lv_at hl 5 rfl) ?_
              refine lv_icmp_ge (tgt := 73) hx hb dX6_leastBetween_59 (by decide) (fun c1 => ?_) (fun c1 => ?_)
              · replace h := ip c1 h
                exact J73 x1 x2 _ _ _ h hw (lv_sub hl [1, 2, 3, 4, 5, 6] rfl)
              · replace h := ig c1 h
                refine lv_iload hx hb dX6_leastBetween_62 (lv_at hl 6 rfl) ?_
                refine lv_istore_n (lv' := [(3, .int x3), (6, .int x5), (0, .ref h0), (1, .int p1), (2, .int p2), (4, .int x2), (5, .int x3)]) hx hb dX6_leastBetween_64 rfl hl (by decide) rfl (fun ls hl => ?_)
                refine lv_aload_n hx hb dX6_leastBetween_65 rfl (lv_at hl 2 rfl) ?_
                refine lv_iload hx hb dX6_leastBetween_66 (lv_at hl 6 rfl) ?_
                obtain ⟨r8, hc, h⟩ := bd1_inv h
                refine r_cVi X hw (As := [.int x3]) (rest := []) (wr := []) (ws' := [(h0, .inr (6, [.int thrown_, .ref h_this_s, .ref h_this_saved, .int savedMany_, .ref h_this_snapshot, .int hasSnapshot_, .ref h_this_text, .int length_, .ref h_this_lumps, .int lumpMany_, .ref h_this_order, .ref h_this_nears, .int partingSet_, .int partingWeight_, .int at_, .int isWell_, .ref h_this_told, .int toldMany_])), (h_this_s, .inl (cI, 103, .inl s_))]) (c_X6_weightOf l D cI cC cO N h0 h_this_s h_this_saved h_this_snapshot h_this_text h_this_lumps h_this_order h_this_nears h_this_told x3 thrown_ savedMany_ hasSnapshot_ length_ lumpMany_ partingSet_ partingWeight_ at_ isWell_ toldMany_ s_ r8 hc) (cs_X6_60 X (by decide)) [0, 1] [] [0, 1] rfl rfl rfl rfl (by decide) rfl rfl 0 rfl rfl rfl rfl hl.1 rfl (Nat.le_of_ble_eq_true rfl) dX6_leastBetween_68 ⟨Nat.zero_le _, Nat.zero_le _⟩ (fun H locs hw => ?_)
                refine lv_istore (lv' := [(4, .int r8), (3, .int x3), (6, .int x5), (0, .ref h0), (1, .int p1), (2, .int p2), (5, .int x3)]) hx hb dX6_leastBetween_71 hl (by decide) rfl (fun ls hl => ?_)
                exact J73 x3 r8 _ _ _ h hw (lv_sub hl [3, 4, 5, 1, 0, 6] rfl)
        refine lv_icmp_eq (tgt := 37) hx hb dX6_leastBetween_30 (by decide) (fun c1 => ?_) (fun c1 => ?_)
        · replace h := ip c1 h
          refine lv_iconst (v := 0) hx hb dX6_leastBetween_37 (by decide) ?_
          exact J38 (0 : Int32) _ _ _ h hw (lv_sub hl [0, 1, 2, 3, 4, 5] rfl)
        · replace h := ig c1 h
          refine lv_iconst (v := 1) hx hb dX6_leastBetween_33 (by decide) ?_
          refine lv_goto (tgt := 38) hx hb dX6_leastBetween_34 (by decide) ?_
          exact J38 (1 : Int32) _ _ _ h hw (lv_sub hl [0, 1, 2, 3, 4, 5] rfl)
  exact L9 (fun x14 => f_X6_leastBetween_E79 x14) (fun x14 H locs ls h hw hl => E79 x14 H locs ls h hw hl) N (-5 : Int32) (0 : Int32) (2 : Int32) _ _ _ h hw (lv_sub hl [3, 4, 5, 2, 1, 0] rfl)
def rmX6_isTight : Room := { frames := 5, cells := 0, slots := 0, locals := 112 }
set_option maxHeartbeats 4000000 in
set_option maxRecDepth 100000 in
theorem c_X6_isTight (l : Launch) (D : va_G) (cI cC cO : ClassId) (N : Nat) (h0 h_this_s h_this_saved h_this_snapshot h_this_text h_this_lumps h_this_order h_this_nears h_this_told : Nat) (p1 p2 thrown_ savedMany_ hasSnapshot_ length_ lumpMany_ partingSet_ partingWeight_ at_ isWell_ toldMany_ : Int32) (s_ : Nat → Int32) (r_ : Int32) (h : f_X6_isTight N p1 p2 s_ = some r_) : CI l yX6_isTight (Wy yX6_isTight cX6_isTight 6 (some .boolean)) rmX6_isTight D cI cC cO [.ref h0, .int p1, .int p2] [(h0, .inr (6, [.int thrown_, .ref h_this_s, .ref h_this_saved, .int savedMany_, .ref h_this_snapshot, .int hasSnapshot_, .ref h_this_text, .int length_, .ref h_this_lumps, .int lumpMany_, .ref h_this_order, .ref h_this_nears, .int partingSet_, .int partingWeight_, .int at_, .int isWell_, .ref h_this_told, .int toldMany_])), (h_this_s, .inl (cI, 103, .inl s_))] r_ [(h0, .inr (6, [.int thrown_, .ref h_this_s, .ref h_this_saved, .int savedMany_, .ref h_this_snapshot, .int hasSnapshot_, .ref h_this_text, .int length_, .ref h_this_lumps, .int lumpMany_, .ref h_this_order, .ref h_this_nears, .int partingSet_, .int partingWeight_, .int at_, .int isWell_, .ref h_this_told, .int toldMany_])), (h_this_s, .inl (cI, 103, .inl s_))] := by
  refine enter_i RX6 (by decide) rfl (Nat.le_of_ble_eq_true rfl) ?_
  intro p e s m below meth c A X hr hlk hw ls hl
  have hx := X.1.1
  have hb := X.1.2.1
  have hl : lv_has ls 6 [(0, .ref h0), (1, .int p1), (2, .int p2)] := hl
  unfold f_X6_isTight at h
  refine lv_aload_n hx hb dX6_isTight_0 rfl (lv_at hl 0 rfl) ?_
  refine lv_iload_n hx hb dX6_isTight_1 rfl (lv_at hl 1 rfl) ?_
  refine lv_iload_n hx hb dX6_isTight_2 rfl (lv_at hl 2 rfl) ?_
  obtain ⟨r1, hc, h⟩ := bd1_inv h
  refine r_cVi X hw (As := [.int p1, .int p2]) (rest := []) (wr := []) (ws' := [(h0, .inr (6, [.int thrown_, .ref h_this_s, .ref h_this_saved, .int savedMany_, .ref h_this_snapshot, .int hasSnapshot_, .ref h_this_text, .int length_, .ref h_this_lumps, .int lumpMany_, .ref h_this_order, .ref h_this_nears, .int partingSet_, .int partingWeight_, .int at_, .int isWell_, .ref h_this_told, .int toldMany_])), (h_this_s, .inl (cI, 103, .inl s_))]) (c_X6_tied l D cI cC cO h0 h_this_s h_this_saved h_this_snapshot h_this_text h_this_lumps h_this_order h_this_nears h_this_told p1 p2 thrown_ savedMany_ hasSnapshot_ length_ lumpMany_ partingSet_ partingWeight_ at_ isWell_ toldMany_ s_ r1 hc) (cs_X6_45 X (by decide)) [0, 1] [] [0, 1] rfl rfl rfl rfl (by decide) rfl rfl 0 rfl rfl rfl rfl hl.1 rfl (Nat.le_of_ble_eq_true rfl) dX6_isTight_3 ⟨Nat.zero_le _, Nat.zero_le _⟩ (fun H locs hw => ?_)
  have J14 : ∀ (x2 : Int32) (H : Heap) (locs : List Loc) (ls : Array Slot), f_X6_isTight_J14 N s_ p1 p2 x2 = some r_ → Wd D A s.heap [(h0, .inr (6, [.int thrown_, .ref h_this_s, .ref h_this_saved, .int savedMany_, .ref h_this_snapshot, .int hasSnapshot_, .ref h_this_text, .int length_, .ref h_this_lumps, .int lumpMany_, .ref h_this_order, .ref h_this_nears, .int partingSet_, .int partingWeight_, .int at_, .int isWell_, .ref h_this_told, .int toldMany_])), (h_this_s, .inl (cI, 103, .inl s_))] H locs → lv_has ls 6 [(0, .ref h0), (1, .int p1), (2, .int p2)] → W p l e rmX6_isTight s m ([.ref h0, .int p1, .int p2] : List Value).toArray below meth c H locs 0 0 (MQ below (Qi D r_ [(h0, .inr (6, [.int thrown_, .ref h_this_s, .ref h_this_saved, .int savedMany_, .ref h_this_snapshot, .int hasSnapshot_, .ref h_this_text, .int length_, .ref h_this_lumps, .int lumpMany_, .ref h_this_order, .ref h_this_nears, .int partingSet_, .int partingWeight_, .int at_, .int isWell_, .ref h_this_told, .int toldMany_])), (h_this_s, .inl (cI, 103, .inl s_))] A) ([.ref h0, .int p1, .int p2] : List Value).toArray s 0 0 A) (F0 m 14 ls [.int x2]) := by
    intro x2 H locs ls h hw hl
    unfold f_X6_isTight_J14 at h
    refine lv_istore_n (lv' := [(3, .int x2), (0, .ref h0), (1, .int p1), (2, .int p2)]) hx hb dX6_isTight_14 rfl hl (by decide) rfl (fun ls hl => ?_)
    refine lv_iload_n hx hb dX6_isTight_15 rfl (lv_at hl 0 rfl) ?_
    have J27 : ∀ (x4 : Int32) (H : Heap) (locs : List Loc) (ls : Array Slot), f_X6_isTight_J27 N s_ p1 p2 x2 x4 = some r_ → Wd D A s.heap [(h0, .inr (6, [.int thrown_, .ref h_this_s, .ref h_this_saved, .int savedMany_, .ref h_this_snapshot, .int hasSnapshot_, .ref h_this_text, .int length_, .ref h_this_lumps, .int lumpMany_, .ref h_this_order, .ref h_this_nears, .int partingSet_, .int partingWeight_, .int at_, .int isWell_, .ref h_this_told, .int toldMany_])), (h_this_s, .inl (cI, 103, .inl s_))] H locs → lv_has ls 6 [(0, .ref h0), (1, .int p1), (2, .int p2), (3, .int x2)] → W p l e rmX6_isTight s m ([.ref h0, .int p1, .int p2] : List Value).toArray below meth c H locs 0 0 (MQ below (Qi D r_ [(h0, .inr (6, [.int thrown_, .ref h_this_s, .ref h_this_saved, .int savedMany_, .ref h_this_snapshot, .int hasSnapshot_, .ref h_this_text, .int length_, .ref h_this_lumps, .int lumpMany_, .ref h_this_order, .ref h_this_nears, .int partingSet_, .int partingWeight_, .int at_, .int isWell_, .ref h_this_told, .int toldMany_])), (h_this_s, .inl (cI, 103, .inl s_))] A) ([.ref h0, .int p1, .int p2] : List Value).toArray s 0 0 A) (F0 m 27 ls [.int x4]) := by
      intro x4 H locs ls h hw hl
      unfold f_X6_isTight_J27 at h
      refine lv_istore (lv' := [(4, .int x4), (0, .ref h0), (1, .int p1), (2, .int p2), (3, .int x2)]) hx hb dX6_isTight_27 hl (by decide) rfl (fun ls hl => ?_)
      refine lv_iconst (v := 2) hx hb dX6_isTight_29 (by decide) ?_
      refine lv_istore (lv' := [(5, .int (2 : Int32)), (4, .int x4), (0, .ref h0), (1, .int p1), (2, .int p2), (3, .int x2)]) hx hb dX6_isTight_30 hl (by decide) rfl (fun ls hl => ?_)
      have E83 : ∀ (x13 : Int32) (H : Heap) (locs : List Loc) (ls : Array Slot), f_X6_isTight_E83 x13 = some r_ → Wd D A s.heap [(h0, .inr (6, [.int thrown_, .ref h_this_s, .ref h_this_saved, .int savedMany_, .ref h_this_snapshot, .int hasSnapshot_, .ref h_this_text, .int length_, .ref h_this_lumps, .int lumpMany_, .ref h_this_order, .ref h_this_nears, .int partingSet_, .int partingWeight_, .int at_, .int isWell_, .ref h_this_told, .int toldMany_])), (h_this_s, .inl (cI, 103, .inl s_))] H locs → lv_has ls 6 [(3, .int x13)] → W p l e rmX6_isTight s m ([.ref h0, .int p1, .int p2] : List Value).toArray below meth c H locs 0 0 (MQ below (Qi D r_ [(h0, .inr (6, [.int thrown_, .ref h_this_s, .ref h_this_saved, .int savedMany_, .ref h_this_snapshot, .int hasSnapshot_, .ref h_this_text, .int length_, .ref h_this_lumps, .int lumpMany_, .ref h_this_order, .ref h_this_nears, .int partingSet_, .int partingWeight_, .int at_, .int isWell_, .ref h_this_told, .int toldMany_])), (h_this_s, .inl (cI, 103, .inl s_))] A) ([.ref h0, .int p1, .int p2] : List Value).toArray s 0 0 A) (F0 m 83 ls []) := by
        intro x13 H locs ls h hw hl
        unfold f_X6_isTight_E83 at h
        refine lv_iload_n hx hb dX6_isTight_83 rfl (lv_at hl 0 rfl) ?_
        obtain ⟨b1, h⟩ := chkB_inv h
        obtain rfl := oi1 h
        exact r_retz X hw hr b1 hlk dX6_isTight_84
      have L32 : ∀ (k10 : Int32 → Option (Int32)), (∀ (x13 : Int32) (H : Heap) (locs : List Loc) (ls : Array Slot), k10 x13 = some r_ → Wd D A s.heap [(h0, .inr (6, [.int thrown_, .ref h_this_s, .ref h_this_saved, .int savedMany_, .ref h_this_snapshot, .int hasSnapshot_, .ref h_this_text, .int length_, .ref h_this_lumps, .int lumpMany_, .ref h_this_order, .ref h_this_nears, .int partingSet_, .int partingWeight_, .int at_, .int isWell_, .ref h_this_told, .int toldMany_])), (h_this_s, .inl (cI, 103, .inl s_))] H locs → lv_has ls 6 [(3, .int x13)] → W p l e rmX6_isTight s m ([.ref h0, .int p1, .int p2] : List Value).toArray below meth c H locs 0 0 (MQ below (Qi D r_ [(h0, .inr (6, [.int thrown_, .ref h_this_s, .ref h_this_saved, .int savedMany_, .ref h_this_snapshot, .int hasSnapshot_, .ref h_this_text, .int length_, .ref h_this_lumps, .int lumpMany_, .ref h_this_order, .ref h_this_nears, .int partingSet_, .int partingWeight_, .int at_, .int isWell_, .ref h_this_told, .int toldMany_])), (h_this_s, .inl (cI, 103, .inl s_))] A) ([.ref h0, .int p1, .int p2] : List Value).toArray s 0 0 A) (F0 m 83 ls [])) → ∀ (n12 : Nat), ∀ (x5 x6 : Int32) (H : Heap) (locs : List Loc) (ls : Array Slot), f_X6_isTight_L32 N s_ x4 p1 p2 k10 n12 x5 x6 = some r_ → Wd D A s.heap [(h0, .inr (6, [.int thrown_, .ref h_this_s, .ref h_this_saved, .int savedMany_, .ref h_this_snapshot, .int hasSnapshot_, .ref h_this_text, .int length_, .ref h_this_lumps, .int lumpMany_, .ref h_this_order, .ref h_this_nears, .int partingSet_, .int partingWeight_, .int at_, .int isWell_, .ref h_this_told, .int toldMany_])), (h_this_s, .inl (cI, 103, .inl s_))] H locs → lv_has ls 6 [(0, .ref h0), (1, .int p1), (2, .int p2), (3, .int x5), (4, .int x4), (5, .int x6)] → W p l e rmX6_isTight s m ([.ref h0, .int p1, .int p2] : List Value).toArray below meth c H locs 0 0 (MQ below (Qi D r_ [(h0, .inr (6, [.int thrown_, .ref h_this_s, .ref h_this_saved, .int savedMany_, .ref h_this_snapshot, .int hasSnapshot_, .ref h_this_text, .int length_, .ref h_this_lumps, .int lumpMany_, .ref h_this_order, .ref h_this_nears, .int partingSet_, .int partingWeight_, .int at_, .int isWell_, .ref h_this_told, .int toldMany_])), (h_this_s, .inl (cI, 103, .inl s_))] A) ([.ref h0, .int p1, .int p2] : List Value).toArray s 0 0 A) (F0 m 32 ls []) := by
        intro k10 hk32 n12
        induction n12 with
        | zero => intro x5 x6 H locs ls h; cases h
        | succ n12 ih32 =>
          intro x5 x6 H locs ls h hw hl
          rw [f_X6_isTight_L32] at h
          refine lv_iload hx hb dX6_isTight_32 (lv_at hl 5 rfl) ?_
          refine lv_aload_n hx hb dX6_isTight_34 rfl (lv_at hl 0 rfl) ?_
          obtain ⟨r7, hc, h⟩ := bd1_inv h
          refine r_cVi X hw (As := []) (rest := [.int x6]) (wr := []) (ws' := [(h0, .inr (6, [.int thrown_, .ref h_this_s, .ref h_this_saved, .int savedMany_, .ref h_this_snapshot, .int hasSnapshot_, .ref h_this_text, .int length_, .ref h_this_lumps, .int lumpMany_, .ref h_this_order, .ref h_this_nears, .int partingSet_, .int partingWeight_, .int at_, .int isWell_, .ref h_this_told, .int toldMany_])), (h_this_s, .inl (cI, 103, .inl s_))]) (c_X6_all l D cI cC cO h0 h_this_s h_this_saved h_this_snapshot h_this_text h_this_lumps h_this_order h_this_nears h_this_told thrown_ savedMany_ hasSnapshot_ length_ lumpMany_ partingSet_ partingWeight_ at_ isWell_ toldMany_ s_ r7 hc) (cs_X6_49 X (by decide)) [0, 1] [] [0, 1] rfl rfl rfl rfl (by decide) rfl rfl 0 rfl rfl rfl rfl hl.1 rfl (Nat.le_of_ble_eq_true rfl) dX6_isTight_35 ⟨Nat.zero_le _, Nat.zero_le _⟩ (fun H locs hw => ?_)
          refine lv_icmp_ge (tgt := 83) hx hb dX6_isTight_38 (by decide) (fun c1 => ?_) (fun c1 => ?_)
          · replace h := ip c1 h
            exact hk32 x5 _ _ _ h hw (lv_sub hl [3] rfl)
          · replace h := ig c1 h
            refine lv_iload_n hx hb dX6_isTight_41 rfl (lv_at hl 3 rfl) ?_
            refine lv_if_eq (tgt := 83) hx hb dX6_isTight_42 (by decide) (fun c1 => ?_) (fun c1 => ?_)
            · replace h := ip c1 h
              exact hk32 x5 _ _ _ h hw (lv_sub hl [3] rfl)
            · replace h := ig c1 h
              refine lv_aload_n hx hb dX6_isTight_45 rfl (lv_at hl 0 rfl) ?_
              refine lv_iload hx hb dX6_isTight_46 (lv_at hl 5 rfl) ?_
              obtain ⟨r8, hc, h⟩ := bd1_inv h
              refine r_cVi X hw (As := [.int x6]) (rest := []) (wr := []) (ws' := [(h0, .inr (6, [.int thrown_, .ref h_this_s, .ref h_this_saved, .int savedMany_, .ref h_this_snapshot, .int hasSnapshot_, .ref h_this_text, .int length_, .ref h_this_lumps, .int lumpMany_, .ref h_this_order, .ref h_this_nears, .int partingSet_, .int partingWeight_, .int at_, .int isWell_, .ref h_this_told, .int toldMany_])), (h_this_s, .inl (cI, 103, .inl s_))]) (c_X6_weightOf l D cI cC cO N h0 h_this_s h_this_saved h_this_snapshot h_this_text h_this_lumps h_this_order h_this_nears h_this_told x6 thrown_ savedMany_ hasSnapshot_ length_ lumpMany_ partingSet_ partingWeight_ at_ isWell_ toldMany_ s_ r8 hc) (cs_X6_60 X (by decide)) [0, 1] [] [0, 1] rfl rfl rfl rfl (by decide) rfl rfl 0 rfl rfl rfl rfl hl.1 rfl (Nat.le_of_ble_eq_true rfl) dX6_isTight_48 ⟨Nat.zero_le _, Nat.zero_le _⟩ (fun H locs hw => ?_)
              refine lv_iload hx hb dX6_isTight_51 (lv_at hl 4 rfl) ?_
              have J76 : ∀ (x9 : Int32) (H : Heap) (locs : List Loc) (ls : Array Slot), f_X6_isTight_J76 (f_X6_isTight_L32 N s_ x4 p1 p2 k10 n12) x6 x9 = some r_ → Wd D A s.heap [(h0, .inr (6, [.int thrown_, .ref h_this_s, .ref h_this_saved, .int savedMany_, .ref h_this_snapshot, .int hasSnapshot_, .ref h_this_text, .int length_, .ref h_this_lumps, .int lumpMany_, .ref h_this_order, .ref h_this_nears, .int partingSet_, .int partingWeight_, .int at_, .int isWell_, .ref h_this_told, .int toldMany_])), (h_this_s, .inl (cI, 103, .inl s_))] H locs → lv_has ls 6 [(0, .ref h0), (1, .int p1), (2, .int p2), (4, .int x4), (5, .int x6)] → W p l e rmX6_isTight s m ([.ref h0, .int p1, .int p2] : List Value).toArray below meth c H locs 0 0 (MQ below (Qi D r_ [(h0, .inr (6, [.int thrown_, .ref h_this_s, .ref h_this_saved, .int savedMany_, .ref h_this_snapshot, .int hasSnapshot_, .ref h_this_text, .int length_, .ref h_this_lumps, .int lumpMany_, .ref h_this_order, .ref h_this_nears, .int partingSet_, .int partingWeight_, .int at_, .int isWell_, .ref h_this_told, .int toldMany_])), (h_this_s, .inl (cI, 103, .inl s_))] A) ([.ref h0, .int p1, .int p2] : List Value).toArray s 0 0 A) (F0 m 76 ls [.int x9]) := by
                intro x9 H locs ls h hw hl
                unfold f_X6_isTight_J76 at h
                refine lv_istore_n (lv' := [(3, .int x9), (0, .ref h0), (1, .int p1), (2, .int p2), (4, .int x4), (5, .int x6)]) hx hb dX6_isTight_76 rfl hl (by decide) rfl (fun ls hl => ?_)
                refine lv_iinc (v := (x6 + (2 : Int32))) (lv' := [(5, .int (x6 + (2 : Int32))), (3, .int x9), (0, .ref h0), (1, .int p1), (2, .int p2), (4, .int x4)]) hx hb dX6_isTight_77 hl (k := 5) rfl rfl (by decide) rfl (fun ls hl => ?_)
                refine lv_goto (tgt := 32) hx hb dX6_isTight_80 (by decide) ?_
                exact ih32 x9 (x6 + (2 : Int32)) _ _ _ h hw (lv_sub hl [2, 3, 4, 1, 5, 0] rfl)
              refine lv_icmp_ne (tgt := 71) hx hb dX6_isTight_53 (by decide) (fun c1 => ?_) (fun c1 => ?_)
              · replace h := ig c1 h
                refine lv_iconst (v := 1) hx hb dX6_isTight_71 (by decide) ?_
                refine lv_goto (tgt := 76) hx hb dX6_isTight_72 (by decide) ?_
                exact J76 (1 : Int32) _ _ _ h hw (lv_sub hl [0, 1, 2, 4, 5] rfl)
              · replace h := ip c1 h
                refine lv_iload hx hb dX6_isTight_56 (lv_at hl 5 rfl) ?_
                refine lv_iload_n hx hb dX6_isTight_58 rfl (lv_at hl 1 rfl) ?_
                refine lv_ishr hx hb dX6_isTight_59 ?_
                refine lv_iconst (v := 1) hx hb dX6_isTight_60 (by decide) ?_
                refine lv_iand hx hb dX6_isTight_61 ?_
                refine lv_iload hx hb dX6_isTight_62 (lv_at hl 5 rfl) ?_
                refine lv_iload_n hx hb dX6_isTight_64 rfl (lv_at hl 2 rfl) ?_
                refine lv_ishr hx hb dX6_isTight_65 ?_
                refine lv_iconst (v := 1) hx hb dX6_isTight_66 (by decide) ?_
                refine lv_iand hx hb dX6_isTight_67 ?_
                refine lv_icmp_eq (tgt := 75) hx hb dX6_isTight_68 (by decide) (fun c1 => ?_) (fun c1 => ?_)
                · replace h := ip c1 h
                  refine lv_iconst (v := 0) hx hb dX6_isTight_75 (by decide) ?_
                  exact J76 (0 : Int32) _ _ _ h hw (lv_sub hl [0, 1, 2, 4, 5] rfl)
                · replace h := ig c1 h
                  refine lv_iconst (v := 1) hx hb dX6_isTight_71 (by decide) ?_
                  refine lv_goto (tgt := 76) hx hb dX6_isTight_72 (by decide) ?_
                  exact J76 (1 : Int32) _ _ _ h hw (lv_sub hl [0, 1, 2, 4, 5] rfl)
      exact L32 (fun x13 => f_X6_isTight_E83 x13) (fun x13 H locs ls h hw hl => E83 x13 H locs ls h hw hl) N x2 (2 : Int32) _ _ _ h hw (lv_sub hl [2, 3, 4, 5, 1, 0] rfl)
    refine lv_if_eq (tgt := 26) hx hb dX6_isTight_16 (by decide) (fun c1 => ?_) (fun c1 => ?_)
    · replace h := ip c1 h
      refine lv_iconst (v := 0) hx hb dX6_isTight_26 (by decide) ?_
      exact J27 (0 : Int32) _ _ _ h hw (lv_sub hl [1, 2, 3, 0] rfl)
    · replace h := ig c1 h
      refine lv_aload_n hx hb dX6_isTight_19 rfl (lv_at hl 1 rfl) ?_
      obtain ⟨r3, hc, h⟩ := bd1_inv h
      refine r_cVi X hw (As := []) (rest := []) (wr := []) (ws' := [(h0, .inr (6, [.int thrown_, .ref h_this_s, .ref h_this_saved, .int savedMany_, .ref h_this_snapshot, .int hasSnapshot_, .ref h_this_text, .int length_, .ref h_this_lumps, .int lumpMany_, .ref h_this_order, .ref h_this_nears, .int partingSet_, .int partingWeight_, .int at_, .int isWell_, .ref h_this_told, .int toldMany_])), (h_this_s, .inl (cI, 103, .inl s_))]) (c_X6_leastWeight l D cI cC cO N h0 h_this_s h_this_saved h_this_snapshot h_this_text h_this_lumps h_this_order h_this_nears h_this_told thrown_ savedMany_ hasSnapshot_ length_ lumpMany_ partingSet_ partingWeight_ at_ isWell_ toldMany_ s_ r3 hc) (cs_X6_66 X (by decide)) [0, 1] [] [0, 1] rfl rfl rfl rfl (by decide) rfl rfl 0 rfl rfl rfl rfl hl.1 rfl (Nat.le_of_ble_eq_true rfl) dX6_isTight_20 ⟨Nat.zero_le _, Nat.zero_le _⟩ (fun H locs hw => ?_)
      refine lv_goto (tgt := 27) hx hb dX6_isTight_23 (by decide) ?_
      exact J27 r3 _ _ _ h hw (lv_sub hl [1, 2, 3, 0] rfl)
  refine lv_if_le (tgt := 13) hx hb dX6_isTight_6 (by decide) (fun c1 => ?_) (fun c1 => ?_)
  · replace h := ip c1 h
    refine lv_iconst (v := 0) hx hb dX6_isTight_13 (by decide) ?_
    exact J14 (0 : Int32) _ _ _ h hw (lv_sub hl [0, 1, 2] rfl)
  · replace h := ig c1 h
    refine lv_iconst (v := 1) hx hb dX6_isTight_9 (by decide) ?_
    refine lv_goto (tgt := 14) hx hb dX6_isTight_10 (by decide) ?_
    exact J14 (1 : Int32) _ _ _ h hw (lv_sub hl [0, 1, 2] rfl)
def rmX6_tightAt : Room := { frames := 6, cells := 0, slots := 0, locals := 137 }
section
variable {p : Program} {l : Launch} {e : Env} {R : Room} {s : State} {m : MethodId} {args : Array Value} {below : List Frame} {meth : Method} {c : Code} {H : Heap} {locs : List Loc} {cells slots : Nat} {Q : State → Prop}
variable {cc : ByteArray} {pc nL : Nat} {ls : Array Slot} {rest : List Value} {D : va_G} {cI cC cO : ClassId} {A : Nat → Prop} {ws : va_W} {H0 : Heap}
theorem cs_X6_73 (X : Ctx p m c cc nL s args RX6 D cI cC cO) (hR : rmX6_isTight.frames + 1 ≤ R.frames ∧ 8 + (6 + 11) + rmX6_isTight.locals ≤ R.locals) : CallW R s args RX6 RX6 73 yX6_isTight cX6_isTight 6 (some .boolean) (Wy yX6_isTight cX6_isTight 6 (some .boolean)) rmX6_isTight 0 0 2 := cwV 2 X.1.2.2.2.2 (gi_V tw_753 tw_755 sw_yX6_isTight tw_7 tw_756) rfl rfl rfl (by decide +kernel) hR
end
set_option maxHeartbeats 4000000 in
set_option maxRecDepth 100000 in
theorem c_X6_tightAt (l : Launch) (D : va_G) (cI cC cO : ClassId) (N : Nat) (h0 h_this_s h_this_saved h_this_snapshot h_this_text h_this_lumps h_this_order h_this_nears h_this_told : Nat) (p1 thrown_ savedMany_ hasSnapshot_ length_ lumpMany_ partingSet_ partingWeight_ at_ isWell_ toldMany_ : Int32) (s_ : Nat → Int32) (r_ : Int32) (h : f_X6_tightAt N p1 s_ = some r_) : CI l yX6_tightAt (Wy yX6_tightAt cX6_tightAt 5 (some .int)) rmX6_tightAt D cI cC cO [.ref h0, .int p1] [(h0, .inr (6, [.int thrown_, .ref h_this_s, .ref h_this_saved, .int savedMany_, .ref h_this_snapshot, .int hasSnapshot_, .ref h_this_text, .int length_, .ref h_this_lumps, .int lumpMany_, .ref h_this_order, .ref h_this_nears, .int partingSet_, .int partingWeight_, .int at_, .int isWell_, .ref h_this_told, .int toldMany_])), (h_this_s, .inl (cI, 103, .inl s_))] r_ [(h0, .inr (6, [.int thrown_, .ref h_this_s, .ref h_this_saved, .int savedMany_, .ref h_this_snapshot, .int hasSnapshot_, .ref h_this_text, .int length_, .ref h_this_lumps, .int lumpMany_, .ref h_this_order, .ref h_this_nears, .int partingSet_, .int partingWeight_, .int at_, .int isWell_, .ref h_this_told, .int toldMany_])), (h_this_s, .inl (cI, 103, .inl s_))] := by
  refine enter_i RX6 (by decide) rfl (Nat.le_of_ble_eq_true rfl) ?_
  intro p e s m below meth c A X hr hlk hw ls hl
  have hx := X.1.1
  have hb := X.1.2.1
  have hl : lv_has ls 5 [(0, .ref h0), (1, .int p1)] := hl
  unfold f_X6_tightAt at h
  refine lv_iload_n hx hb dX6_tightAt_0 rfl (lv_at hl 1 rfl) ?_
  refine lv_istore_n (lv' := [(2, .int p1), (0, .ref h0), (1, .int p1)]) hx hb dX6_tightAt_1 rfl hl (by decide) rfl (fun ls hl => ?_)
  refine lv_iconst (v := 0) hx hb dX6_tightAt_2 (by decide) ?_
  refine lv_istore_n (lv' := [(3, .int (0 : Int32)), (2, .int p1), (0, .ref h0), (1, .int p1)]) hx hb dX6_tightAt_3 rfl hl (by decide) rfl (fun ls hl => ?_)
  have E72 : ∀ (H : Heap) (locs : List Loc) (ls : Array Slot), f_X6_tightAt_E72 = some r_ → Wd D A s.heap [(h0, .inr (6, [.int thrown_, .ref h_this_s, .ref h_this_saved, .int savedMany_, .ref h_this_snapshot, .int hasSnapshot_, .ref h_this_text, .int length_, .ref h_this_lumps, .int lumpMany_, .ref h_this_order, .ref h_this_nears, .int partingSet_, .int partingWeight_, .int at_, .int isWell_, .ref h_this_told, .int toldMany_])), (h_this_s, .inl (cI, 103, .inl s_))] H locs → lv_has ls 5 [] → W p l e rmX6_tightAt s m ([.ref h0, .int p1] : List Value).toArray below meth c H locs 0 0 (MQ below (Qi D r_ [(h0, .inr (6, [.int thrown_, .ref h_this_s, .ref h_this_saved, .int savedMany_, .ref h_this_snapshot, .int hasSnapshot_, .ref h_this_text, .int length_, .ref h_this_lumps, .int lumpMany_, .ref h_this_order, .ref h_this_nears, .int partingSet_, .int partingWeight_, .int at_, .int isWell_, .ref h_this_told, .int toldMany_])), (h_this_s, .inl (cI, 103, .inl s_))] A) ([.ref h0, .int p1] : List Value).toArray s 0 0 A) (F0 m 72 ls []) := by
    intro H locs ls h hw hl
    unfold f_X6_tightAt_E72 at h
    refine lv_bipush (v := -5) hx hb dX6_tightAt_72 (by decide) ?_
    obtain rfl := oi1 h
    exact r_ret X hw hr hlk dX6_tightAt_74
  have L4 : ∀ (k11 : Option (Int32)), (∀ (H : Heap) (locs : List Loc) (ls : Array Slot), k11 = some r_ → Wd D A s.heap [(h0, .inr (6, [.int thrown_, .ref h_this_s, .ref h_this_saved, .int savedMany_, .ref h_this_snapshot, .int hasSnapshot_, .ref h_this_text, .int length_, .ref h_this_lumps, .int lumpMany_, .ref h_this_order, .ref h_this_nears, .int partingSet_, .int partingWeight_, .int at_, .int isWell_, .ref h_this_told, .int toldMany_])), (h_this_s, .inl (cI, 103, .inl s_))] H locs → lv_has ls 5 [] → W p l e rmX6_tightAt s m ([.ref h0, .int p1] : List Value).toArray below meth c H locs 0 0 (MQ below (Qi D r_ [(h0, .inr (6, [.int thrown_, .ref h_this_s, .ref h_this_saved, .int savedMany_, .ref h_this_snapshot, .int hasSnapshot_, .ref h_this_text, .int length_, .ref h_this_lumps, .int lumpMany_, .ref h_this_order, .ref h_this_nears, .int partingSet_, .int partingWeight_, .int at_, .int isWell_, .ref h_this_told, .int toldMany_])), (h_this_s, .inl (cI, 103, .inl s_))] A) ([.ref h0, .int p1] : List Value).toArray s 0 0 A) (F0 m 72 ls [])) → ∀ (n13 : Nat), ∀ (x1 x2 : Int32) (H : Heap) (locs : List Loc) (ls : Array Slot), f_X6_tightAt_L4 N s_ k11 n13 x1 x2 = some r_ → Wd D A s.heap [(h0, .inr (6, [.int thrown_, .ref h_this_s, .ref h_this_saved, .int savedMany_, .ref h_this_snapshot, .int hasSnapshot_, .ref h_this_text, .int length_, .ref h_this_lumps, .int lumpMany_, .ref h_this_order, .ref h_this_nears, .int partingSet_, .int partingWeight_, .int at_, .int isWell_, .ref h_this_told, .int toldMany_])), (h_this_s, .inl (cI, 103, .inl s_))] H locs → lv_has ls 5 [(0, .ref h0), (2, .int x1), (3, .int x2)] → W p l e rmX6_tightAt s m ([.ref h0, .int p1] : List Value).toArray below meth c H locs 0 0 (MQ below (Qi D r_ [(h0, .inr (6, [.int thrown_, .ref h_this_s, .ref h_this_saved, .int savedMany_, .ref h_this_snapshot, .int hasSnapshot_, .ref h_this_text, .int length_, .ref h_this_lumps, .int lumpMany_, .ref h_this_order, .ref h_this_nears, .int partingSet_, .int partingWeight_, .int at_, .int isWell_, .ref h_this_told, .int toldMany_])), (h_this_s, .inl (cI, 103, .inl s_))] A) ([.ref h0, .int p1] : List Value).toArray s 0 0 A) (F0 m 4 ls []) := by
    intro k11 hk4 n13
    induction n13 with
    | zero => intro x1 x2 H locs ls h; cases h
    | succ n13 ih4 =>
      intro x1 x2 H locs ls h hw hl
      rw [f_X6_tightAt_L4] at h
      refine lv_iload_n hx hb dX6_tightAt_4 rfl (lv_at hl 2 rfl) ?_
      refine lv_aload_n hx hb dX6_tightAt_5 rfl (lv_at hl 0 rfl) ?_
      refine fg_X6_7 X hw 0 rfl rfl dX6_tightAt_6 ?_
      refine lv_iconst (v := 0) hx hb dX6_tightAt_9 (by decide) ?_
      refine r_iald X hw 1 rfl (v := (s_ 0)) (vp_lit (by decide)) rfl dX6_tightAt_10 ?_
      refine lv_icmp_ge (tgt := 72) hx hb dX6_tightAt_11 (by decide) (fun c1 => ?_) (fun c1 => ?_)
      · replace h := ip c1 h
        exact hk4 _ _ _ h hw (lv_sub hl [] rfl)
      · replace h := ig c1 h
        refine lv_iload_n hx hb dX6_tightAt_14 rfl (lv_at hl 2 rfl) ?_
        refine lv_iconst (v := 1) hx hb dX6_tightAt_15 (by decide) ?_
        refine lv_iadd hx hb dX6_tightAt_16 ?_
        refine lv_istore (lv' := [(4, .int (x2 + (1 : Int32))), (0, .ref h0), (2, .int x1), (3, .int x2)]) hx hb dX6_tightAt_17 hl (by decide) rfl (fun ls hl => ?_)
        have E66 : ∀ (x10 : Int32) (H : Heap) (locs : List Loc) (ls : Array Slot), f_X6_tightAt_E66 (f_X6_tightAt_L4 N s_ k11 n13) x2 x10 = some r_ → Wd D A s.heap [(h0, .inr (6, [.int thrown_, .ref h_this_s, .ref h_this_saved, .int savedMany_, .ref h_this_snapshot, .int hasSnapshot_, .ref h_this_text, .int length_, .ref h_this_lumps, .int lumpMany_, .ref h_this_order, .ref h_this_nears, .int partingSet_, .int partingWeight_, .int at_, .int isWell_, .ref h_this_told, .int toldMany_])), (h_this_s, .inl (cI, 103, .inl s_))] H locs → lv_has ls 5 [(0, .ref h0), (2, .int x10), (3, .int x2)] → W p l e rmX6_tightAt s m ([.ref h0, .int p1] : List Value).toArray below meth c H locs 0 0 (MQ below (Qi D r_ [(h0, .inr (6, [.int thrown_, .ref h_this_s, .ref h_this_saved, .int savedMany_, .ref h_this_snapshot, .int hasSnapshot_, .ref h_this_text, .int length_, .ref h_this_lumps, .int lumpMany_, .ref h_this_order, .ref h_this_nears, .int partingSet_, .int partingWeight_, .int at_, .int isWell_, .ref h_this_told, .int toldMany_])), (h_this_s, .inl (cI, 103, .inl s_))] A) ([.ref h0, .int p1] : List Value).toArray s 0 0 A) (F0 m 66 ls []) := by
          intro x10 H locs ls h hw hl
          unfold f_X6_tightAt_E66 at h
          refine lv_iinc (v := (x2 + (1 : Int32))) (lv' := [(3, .int (x2 + (1 : Int32))), (0, .ref h0), (2, .int x10)]) hx hb dX6_tightAt_66 hl (k := 2) rfl rfl (by decide) rfl (fun ls hl => ?_)
          refine lv_goto (tgt := 4) hx hb dX6_tightAt_69 (by decide) ?_
          exact ih4 x10 (x2 + (1 : Int32)) _ _ _ h hw (lv_sub hl [1, 2, 0] rfl)
        have L19 : ∀ (k7 : Int32 → Option (Int32)), (∀ (x10 : Int32) (H : Heap) (locs : List Loc) (ls : Array Slot), k7 x10 = some r_ → Wd D A s.heap [(h0, .inr (6, [.int thrown_, .ref h_this_s, .ref h_this_saved, .int savedMany_, .ref h_this_snapshot, .int hasSnapshot_, .ref h_this_text, .int length_, .ref h_this_lumps, .int lumpMany_, .ref h_this_order, .ref h_this_nears, .int partingSet_, .int partingWeight_, .int at_, .int isWell_, .ref h_this_told, .int toldMany_])), (h_this_s, .inl (cI, 103, .inl s_))] H locs → lv_has ls 5 [(0, .ref h0), (2, .int x10), (3, .int x2)] → W p l e rmX6_tightAt s m ([.ref h0, .int p1] : List Value).toArray below meth c H locs 0 0 (MQ below (Qi D r_ [(h0, .inr (6, [.int thrown_, .ref h_this_s, .ref h_this_saved, .int savedMany_, .ref h_this_snapshot, .int hasSnapshot_, .ref h_this_text, .int length_, .ref h_this_lumps, .int lumpMany_, .ref h_this_order, .ref h_this_nears, .int partingSet_, .int partingWeight_, .int at_, .int isWell_, .ref h_this_told, .int toldMany_])), (h_this_s, .inl (cI, 103, .inl s_))] A) ([.ref h0, .int p1] : List Value).toArray s 0 0 A) (F0 m 66 ls [])) → ∀ (n9 : Nat), ∀ (x3 x4 : Int32) (H : Heap) (locs : List Loc) (ls : Array Slot), f_X6_tightAt_L19 N s_ x2 k7 n9 x3 x4 = some r_ → Wd D A s.heap [(h0, .inr (6, [.int thrown_, .ref h_this_s, .ref h_this_saved, .int savedMany_, .ref h_this_snapshot, .int hasSnapshot_, .ref h_this_text, .int length_, .ref h_this_lumps, .int lumpMany_, .ref h_this_order, .ref h_this_nears, .int partingSet_, .int partingWeight_, .int at_, .int isWell_, .ref h_this_told, .int toldMany_])), (h_this_s, .inl (cI, 103, .inl s_))] H locs → lv_has ls 5 [(0, .ref h0), (2, .int x3), (3, .int x2), (4, .int x4)] → W p l e rmX6_tightAt s m ([.ref h0, .int p1] : List Value).toArray below meth c H locs 0 0 (MQ below (Qi D r_ [(h0, .inr (6, [.int thrown_, .ref h_this_s, .ref h_this_saved, .int savedMany_, .ref h_this_snapshot, .int hasSnapshot_, .ref h_this_text, .int length_, .ref h_this_lumps, .int lumpMany_, .ref h_this_order, .ref h_this_nears, .int partingSet_, .int partingWeight_, .int at_, .int isWell_, .ref h_this_told, .int toldMany_])), (h_this_s, .inl (cI, 103, .inl s_))] A) ([.ref h0, .int p1] : List Value).toArray s 0 0 A) (F0 m 19 ls []) := by
          intro k7 hk19 n9
          induction n9 with
          | zero => intro x3 x4 H locs ls h; cases h
          | succ n9 ih19 =>
            intro x3 x4 H locs ls h hw hl
            rw [f_X6_tightAt_L19] at h
            refine lv_iload hx hb dX6_tightAt_19 (lv_at hl 3 rfl) ?_
            refine lv_aload_n hx hb dX6_tightAt_21 rfl (lv_at hl 0 rfl) ?_
            refine fg_X6_7 X hw 0 rfl rfl dX6_tightAt_22 ?_
            refine lv_iconst (v := 0) hx hb dX6_tightAt_25 (by decide) ?_
            refine r_iald X hw 1 rfl (v := (s_ 0)) (vp_lit (by decide)) rfl dX6_tightAt_26 ?_
            refine lv_icmp_ge (tgt := 66) hx hb dX6_tightAt_27 (by decide) (fun c1 => ?_) (fun c1 => ?_)
            · replace h := ip c1 h
              exact hk19 x3 _ _ _ h hw (lv_sub hl [0, 1, 2] rfl)
            · replace h := ig c1 h
              refine lv_iload_n hx hb dX6_tightAt_30 rfl (lv_at hl 1 rfl) ?_
              refine lv_aload_n hx hb dX6_tightAt_31 rfl (lv_at hl 0 rfl) ?_
              refine lv_iload_n hx hb dX6_tightAt_32 rfl (lv_at hl 2 rfl) ?_
              refine lv_iload hx hb dX6_tightAt_33 (lv_at hl 3 rfl) ?_
              obtain ⟨r5, hc, h⟩ := bd1_inv h
              refine r_cVi X hw (As := [.int x2, .int x4]) (rest := [.int x3]) (wr := []) (ws' := [(h0, .inr (6, [.int thrown_, .ref h_this_s, .ref h_this_saved, .int savedMany_, .ref h_this_snapshot, .int hasSnapshot_, .ref h_this_text, .int length_, .ref h_this_lumps, .int lumpMany_, .ref h_this_order, .ref h_this_nears, .int partingSet_, .int partingWeight_, .int at_, .int isWell_, .ref h_this_told, .int toldMany_])), (h_this_s, .inl (cI, 103, .inl s_))]) (c_X6_isTight l D cI cC cO N h0 h_this_s h_this_saved h_this_snapshot h_this_text h_this_lumps h_this_order h_this_nears h_this_told x2 x4 thrown_ savedMany_ hasSnapshot_ length_ lumpMany_ partingSet_ partingWeight_ at_ isWell_ toldMany_ s_ r5 hc) (cs_X6_73 X (by decide)) [0, 1] [] [0, 1] rfl rfl rfl rfl (by decide) rfl rfl 0 rfl rfl rfl rfl hl.1 rfl (Nat.le_of_ble_eq_true rfl) dX6_tightAt_35 ⟨Nat.zero_le _, Nat.zero_le _⟩ (fun H locs hw => ?_)
              have J46 : ∀ (x6 : Int32) (H : Heap) (locs : List Loc) (ls : Array Slot), f_X6_tightAt_J46 x3 (f_X6_tightAt_L19 N s_ x2 k7 n9) x4 x2 x6 = some r_ → Wd D A s.heap [(h0, .inr (6, [.int thrown_, .ref h_this_s, .ref h_this_saved, .int savedMany_, .ref h_this_snapshot, .int hasSnapshot_, .ref h_this_text, .int length_, .ref h_this_lumps, .int lumpMany_, .ref h_this_order, .ref h_this_nears, .int partingSet_, .int partingWeight_, .int at_, .int isWell_, .ref h_this_told, .int toldMany_])), (h_this_s, .inl (cI, 103, .inl s_))] H locs → lv_has ls 5 [(0, .ref h0), (3, .int x2), (4, .int x4)] → W p l e rmX6_tightAt s m ([.ref h0, .int p1] : List Value).toArray below meth c H locs 0 0 (MQ below (Qi D r_ [(h0, .inr (6, [.int thrown_, .ref h_this_s, .ref h_this_saved, .int savedMany_, .ref h_this_snapshot, .int hasSnapshot_, .ref h_this_text, .int length_, .ref h_this_lumps, .int lumpMany_, .ref h_this_order, .ref h_this_nears, .int partingSet_, .int partingWeight_, .int at_, .int isWell_, .ref h_this_told, .int toldMany_])), (h_this_s, .inl (cI, 103, .inl s_))] A) ([.ref h0, .int p1] : List Value).toArray s 0 0 A) (F0 m 46 ls [.int x6, .int x3]) := by
                intro x6 H locs ls h hw hl
                unfold f_X6_tightAt_J46 at h
                refine lv_isub hx hb dX6_tightAt_46 ?_
                refine lv_istore_n (lv' := [(2, .int (x3 - x6)), (0, .ref h0), (3, .int x2), (4, .int x4)]) hx hb dX6_tightAt_47 rfl hl (by decide) rfl (fun ls hl => ?_)
                refine lv_iload_n hx hb dX6_tightAt_48 rfl (lv_at hl 0 rfl) ?_
                refine lv_if_ge (tgt := 60) hx hb dX6_tightAt_49 (by decide) (fun c1 => ?_) (fun c1 => ?_)
                · replace h := ip c1 h
                  refine lv_iinc (v := (x4 + (1 : Int32))) (lv' := [(4, .int (x4 + (1 : Int32))), (2, .int (x3 - x6)), (0, .ref h0), (3, .int x2)]) hx hb dX6_tightAt_60 hl (k := 3) rfl rfl (by decide) rfl (fun ls hl => ?_)
                  refine lv_goto (tgt := 19) hx hb dX6_tightAt_63 (by decide) ?_
                  exact ih19 (x3 - x6) (x4 + (1 : Int32)) _ _ _ h hw (lv_sub hl [2, 1, 3, 0] rfl)
                · replace h := ig c1 h
                  refine lv_bipush (v := 10) hx hb dX6_tightAt_52 (by decide) ?_
                  refine lv_iload_n hx hb dX6_tightAt_54 rfl (lv_at hl 2 rfl) ?_
                  refine lv_imul hx hb dX6_tightAt_55 ?_
                  refine lv_iload hx hb dX6_tightAt_56 (lv_at hl 3 rfl) ?_
                  refine lv_iadd hx hb dX6_tightAt_58 ?_
                  obtain rfl := oi1 h
                  exact r_ret X hw hr hlk dX6_tightAt_59
              refine lv_if_eq (tgt := 45) hx hb dX6_tightAt_38 (by decide) (fun c1 => ?_) (fun c1 => ?_)
              · replace h := ip c1 h
                refine lv_iconst (v := 0) hx hb dX6_tightAt_45 (by decide) ?_
                exact J46 (0 : Int32) _ _ _ h hw (lv_sub hl [0, 2, 3] rfl)
              · replace h := ig c1 h
                refine lv_iconst (v := 1) hx hb dX6_tightAt_41 (by decide) ?_
                refine lv_goto (tgt := 46) hx hb dX6_tightAt_42 (by decide) ?_
                exact J46 (1 : Int32) _ _ _ h hw (lv_sub hl [0, 2, 3] rfl)
        exact L19 (fun x10 => f_X6_tightAt_E66 (f_X6_tightAt_L4 N s_ k11 n13) x2 x10) (fun x10 H locs ls h hw hl => E66 x10 H locs ls h hw hl) N x1 (x2 + (1 : Int32)) _ _ _ h hw (lv_sub hl [1, 2, 3, 0] rfl)
  exact L4 (f_X6_tightAt_E72) (fun H locs ls h hw hl => E72 H locs ls h hw hl) N p1 (0 : Int32) _ _ _ h hw (lv_sub hl [2, 1, 0] rfl)
def rmX6_tightMany : Room := { frames := 6, cells := 0, slots := 0, locals := 137 }
set_option maxHeartbeats 4000000 in
set_option maxRecDepth 100000 in
theorem c_X6_tightMany (l : Launch) (D : va_G) (cI cC cO : ClassId) (N : Nat) (h0 h_this_s h_this_saved h_this_snapshot h_this_text h_this_lumps h_this_order h_this_nears h_this_told : Nat) (p1 thrown_ savedMany_ hasSnapshot_ length_ lumpMany_ partingSet_ partingWeight_ at_ isWell_ toldMany_ : Int32) (s_ : Nat → Int32) (r_ : Int32) (h : f_X6_tightMany N p1 s_ = some r_) : CI l yX6_tightMany (Wy yX6_tightMany cX6_tightMany 5 (some .int)) rmX6_tightMany D cI cC cO [.ref h0, .int p1] [(h0, .inr (6, [.int thrown_, .ref h_this_s, .ref h_this_saved, .int savedMany_, .ref h_this_snapshot, .int hasSnapshot_, .ref h_this_text, .int length_, .ref h_this_lumps, .int lumpMany_, .ref h_this_order, .ref h_this_nears, .int partingSet_, .int partingWeight_, .int at_, .int isWell_, .ref h_this_told, .int toldMany_])), (h_this_s, .inl (cI, 103, .inl s_))] r_ [(h0, .inr (6, [.int thrown_, .ref h_this_s, .ref h_this_saved, .int savedMany_, .ref h_this_snapshot, .int hasSnapshot_, .ref h_this_text, .int length_, .ref h_this_lumps, .int lumpMany_, .ref h_this_order, .ref h_this_nears, .int partingSet_, .int partingWeight_, .int at_, .int isWell_, .ref h_this_told, .int toldMany_])), (h_this_s, .inl (cI, 103, .inl s_))] := by
  refine enter_i RX6 (by decide) rfl (Nat.le_of_ble_eq_true rfl) ?_
  intro p e s m below meth c A X hr hlk hw ls hl
  have hx := X.1.1
  have hb := X.1.2.1
  have hl : lv_has ls 5 [(0, .ref h0), (1, .int p1)] := hl
  unfold f_X6_tightMany at h
  refine lv_iconst (v := 0) hx hb dX6_tightMany_0 (by decide) ?_
  refine lv_istore_n (lv' := [(2, .int (0 : Int32)), (0, .ref h0), (1, .int p1)]) hx hb dX6_tightMany_1 rfl hl (by decide) rfl (fun ls hl => ?_)
  refine lv_iconst (v := 0) hx hb dX6_tightMany_2 (by decide) ?_
  refine lv_istore_n (lv' := [(3, .int (0 : Int32)), (2, .int (0 : Int32)), (0, .ref h0), (1, .int p1)]) hx hb dX6_tightMany_3 rfl hl (by decide) rfl (fun ls hl => ?_)
  have E77 : ∀ (x16 : Int32) (H : Heap) (locs : List Loc) (ls : Array Slot), f_X6_tightMany_E77 x16 = some r_ → Wd D A s.heap [(h0, .inr (6, [.int thrown_, .ref h_this_s, .ref h_this_saved, .int savedMany_, .ref h_this_snapshot, .int hasSnapshot_, .ref h_this_text, .int length_, .ref h_this_lumps, .int lumpMany_, .ref h_this_order, .ref h_this_nears, .int partingSet_, .int partingWeight_, .int at_, .int isWell_, .ref h_this_told, .int toldMany_])), (h_this_s, .inl (cI, 103, .inl s_))] H locs → lv_has ls 5 [(2, .int x16)] → W p l e rmX6_tightMany s m ([.ref h0, .int p1] : List Value).toArray below meth c H locs 0 0 (MQ below (Qi D r_ [(h0, .inr (6, [.int thrown_, .ref h_this_s, .ref h_this_saved, .int savedMany_, .ref h_this_snapshot, .int hasSnapshot_, .ref h_this_text, .int length_, .ref h_this_lumps, .int lumpMany_, .ref h_this_order, .ref h_this_nears, .int partingSet_, .int partingWeight_, .int at_, .int isWell_, .ref h_this_told, .int toldMany_])), (h_this_s, .inl (cI, 103, .inl s_))] A) ([.ref h0, .int p1] : List Value).toArray s 0 0 A) (F0 m 77 ls []) := by
    intro x16 H locs ls h hw hl
    unfold f_X6_tightMany_E77 at h
    refine lv_iload_n hx hb dX6_tightMany_77 rfl (lv_at hl 0 rfl) ?_
    obtain rfl := oi1 h
    exact r_ret X hw hr hlk dX6_tightMany_78
  have L4 : ∀ (k13 : Int32 → Option (Int32)), (∀ (x16 : Int32) (H : Heap) (locs : List Loc) (ls : Array Slot), k13 x16 = some r_ → Wd D A s.heap [(h0, .inr (6, [.int thrown_, .ref h_this_s, .ref h_this_saved, .int savedMany_, .ref h_this_snapshot, .int hasSnapshot_, .ref h_this_text, .int length_, .ref h_this_lumps, .int lumpMany_, .ref h_this_order, .ref h_this_nears, .int partingSet_, .int partingWeight_, .int at_, .int isWell_, .ref h_this_told, .int toldMany_])), (h_this_s, .inl (cI, 103, .inl s_))] H locs → lv_has ls 5 [(2, .int x16)] → W p l e rmX6_tightMany s m ([.ref h0, .int p1] : List Value).toArray below meth c H locs 0 0 (MQ below (Qi D r_ [(h0, .inr (6, [.int thrown_, .ref h_this_s, .ref h_this_saved, .int savedMany_, .ref h_this_snapshot, .int hasSnapshot_, .ref h_this_text, .int length_, .ref h_this_lumps, .int lumpMany_, .ref h_this_order, .ref h_this_nears, .int partingSet_, .int partingWeight_, .int at_, .int isWell_, .ref h_this_told, .int toldMany_])), (h_this_s, .inl (cI, 103, .inl s_))] A) ([.ref h0, .int p1] : List Value).toArray s 0 0 A) (F0 m 77 ls [])) → ∀ (n15 : Nat), ∀ (x1 x2 : Int32) (H : Heap) (locs : List Loc) (ls : Array Slot), f_X6_tightMany_L4 N s_ p1 k13 n15 x1 x2 = some r_ → Wd D A s.heap [(h0, .inr (6, [.int thrown_, .ref h_this_s, .ref h_this_saved, .int savedMany_, .ref h_this_snapshot, .int hasSnapshot_, .ref h_this_text, .int length_, .ref h_this_lumps, .int lumpMany_, .ref h_this_order, .ref h_this_nears, .int partingSet_, .int partingWeight_, .int at_, .int isWell_, .ref h_this_told, .int toldMany_])), (h_this_s, .inl (cI, 103, .inl s_))] H locs → lv_has ls 5 [(0, .ref h0), (1, .int p1), (2, .int x1), (3, .int x2)] → W p l e rmX6_tightMany s m ([.ref h0, .int p1] : List Value).toArray below meth c H locs 0 0 (MQ below (Qi D r_ [(h0, .inr (6, [.int thrown_, .ref h_this_s, .ref h_this_saved, .int savedMany_, .ref h_this_snapshot, .int hasSnapshot_, .ref h_this_text, .int length_, .ref h_this_lumps, .int lumpMany_, .ref h_this_order, .ref h_this_nears, .int partingSet_, .int partingWeight_, .int at_, .int isWell_, .ref h_this_told, .int toldMany_])), (h_this_s, .inl (cI, 103, .inl s_))] A) ([.ref h0, .int p1] : List Value).toArray s 0 0 A) (F0 m 4 ls []) := by
    intro k13 hk4 n15
    induction n15 with
    | zero => intro x1 x2 H locs ls h; cases h
    | succ n15 ih4 =>
      intro x1 x2 H locs ls h hw hl
      rw [f_X6_tightMany_L4] at h
      refine lv_iload_n hx hb dX6_tightMany_4 rfl (lv_at hl 3 rfl) ?_
      refine lv_aload_n hx hb dX6_tightMany_5 rfl (lv_at hl 0 rfl) ?_
      refine fg_X6_7 X hw 0 rfl rfl dX6_tightMany_6 ?_
      refine lv_iconst (v := 0) hx hb dX6_tightMany_9 (by decide) ?_
      refine r_iald X hw 1 rfl (v := (s_ 0)) (vp_lit (by decide)) rfl dX6_tightMany_10 ?_
      refine lv_icmp_ge (tgt := 77) hx hb dX6_tightMany_11 (by decide) (fun c1 => ?_) (fun c1 => ?_)
      · replace h := ip c1 h
        exact hk4 x1 _ _ _ h hw (lv_sub hl [2] rfl)
      · replace h := ig c1 h
        refine lv_iload_n hx hb dX6_tightMany_14 rfl (lv_at hl 3 rfl) ?_
        refine lv_iconst (v := 1) hx hb dX6_tightMany_15 (by decide) ?_
        refine lv_iadd hx hb dX6_tightMany_16 ?_
        refine lv_istore (lv' := [(4, .int (x2 + (1 : Int32))), (0, .ref h0), (1, .int p1), (2, .int x1), (3, .int x2)]) hx hb dX6_tightMany_17 hl (by decide) rfl (fun ls hl => ?_)
        have E71 : ∀ (x12 : Int32) (H : Heap) (locs : List Loc) (ls : Array Slot), f_X6_tightMany_E71 (f_X6_tightMany_L4 N s_ p1 k13 n15) x2 x12 = some r_ → Wd D A s.heap [(h0, .inr (6, [.int thrown_, .ref h_this_s, .ref h_this_saved, .int savedMany_, .ref h_this_snapshot, .int hasSnapshot_, .ref h_this_text, .int length_, .ref h_this_lumps, .int lumpMany_, .ref h_this_order, .ref h_this_nears, .int partingSet_, .int partingWeight_, .int at_, .int isWell_, .ref h_this_told, .int toldMany_])), (h_this_s, .inl (cI, 103, .inl s_))] H locs → lv_has ls 5 [(0, .ref h0), (1, .int p1), (2, .int x12), (3, .int x2)] → W p l e rmX6_tightMany s m ([.ref h0, .int p1] : List Value).toArray below meth c H locs 0 0 (MQ below (Qi D r_ [(h0, .inr (6, [.int thrown_, .ref h_this_s, .ref h_this_saved, .int savedMany_, .ref h_this_snapshot, .int hasSnapshot_, .ref h_this_text, .int length_, .ref h_this_lumps, .int lumpMany_, .ref h_this_order, .ref h_this_nears, .int partingSet_, .int partingWeight_, .int at_, .int isWell_, .ref h_this_told, .int toldMany_])), (h_this_s, .inl (cI, 103, .inl s_))] A) ([.ref h0, .int p1] : List Value).toArray s 0 0 A) (F0 m 71 ls []) := by
          intro x12 H locs ls h hw hl
          unfold f_X6_tightMany_E71 at h
          refine lv_iinc (v := (x2 + (1 : Int32))) (lv' := [(3, .int (x2 + (1 : Int32))), (0, .ref h0), (1, .int p1), (2, .int x12)]) hx hb dX6_tightMany_71 hl (k := 3) rfl rfl (by decide) rfl (fun ls hl => ?_)
          refine lv_goto (tgt := 4) hx hb dX6_tightMany_74 (by decide) ?_
          exact ih4 x12 (x2 + (1 : Int32)) _ _ _ h hw (lv_sub hl [1, 2, 3, 0] rfl)
        have L19 : ∀ (k9 : Int32 → Option (Int32)), (∀ (x12 : Int32) (H : Heap) (locs : List Loc) (ls : Array Slot), k9 x12 = some r_ → Wd D A s.heap [(h0, .inr (6, [.int thrown_, .ref h_this_s, .ref h_this_saved, .int savedMany_, .ref h_this_snapshot, .int hasSnapshot_, .ref h_this_text, .int length_, .ref h_this_lumps, .int lumpMany_, .ref h_this_order, .ref h_this_nears, .int partingSet_, .int partingWeight_, .int at_, .int isWell_, .ref h_this_told, .int toldMany_])), (h_this_s, .inl (cI, 103, .inl s_))] H locs → lv_has ls 5 [(0, .ref h0), (1, .int p1), (2, .int x12), (3, .int x2)] → W p l e rmX6_tightMany s m ([.ref h0, .int p1] : List Value).toArray below meth c H locs 0 0 (MQ below (Qi D r_ [(h0, .inr (6, [.int thrown_, .ref h_this_s, .ref h_this_saved, .int savedMany_, .ref h_this_snapshot, .int hasSnapshot_, .ref h_this_text, .int length_, .ref h_this_lumps, .int lumpMany_, .ref h_this_order, .ref h_this_nears, .int partingSet_, .int partingWeight_, .int at_, .int isWell_, .ref h_this_told, .int toldMany_])), (h_this_s, .inl (cI, 103, .inl s_))] A) ([.ref h0, .int p1] : List Value).toArray s 0 0 A) (F0 m 71 ls [])) → ∀ (n11 : Nat), ∀ (x3 x4 : Int32) (H : Heap) (locs : List Loc) (ls : Array Slot), f_X6_tightMany_L19 N s_ p1 x2 k9 n11 x3 x4 = some r_ → Wd D A s.heap [(h0, .inr (6, [.int thrown_, .ref h_this_s, .ref h_this_saved, .int savedMany_, .ref h_this_snapshot, .int hasSnapshot_, .ref h_this_text, .int length_, .ref h_this_lumps, .int lumpMany_, .ref h_this_order, .ref h_this_nears, .int partingSet_, .int partingWeight_, .int at_, .int isWell_, .ref h_this_told, .int toldMany_])), (h_this_s, .inl (cI, 103, .inl s_))] H locs → lv_has ls 5 [(0, .ref h0), (1, .int p1), (2, .int x3), (3, .int x2), (4, .int x4)] → W p l e rmX6_tightMany s m ([.ref h0, .int p1] : List Value).toArray below meth c H locs 0 0 (MQ below (Qi D r_ [(h0, .inr (6, [.int thrown_, .ref h_this_s, .ref h_this_saved, .int savedMany_, .ref h_this_snapshot, .int hasSnapshot_, .ref h_this_text, .int length_, .ref h_this_lumps, .int lumpMany_, .ref h_this_order, .ref h_this_nears, .int partingSet_, .int partingWeight_, .int at_, .int isWell_, .ref h_this_told, .int toldMany_])), (h_this_s, .inl (cI, 103, .inl s_))] A) ([.ref h0, .int p1] : List Value).toArray s 0 0 A) (F0 m 19 ls []) := by
          intro k9 hk19 n11
          induction n11 with
          | zero => intro x3 x4 H locs ls h; cases h
          | succ n11 ih19 =>
            intro x3 x4 H locs ls h hw hl
            rw [f_X6_tightMany_L19] at h
            refine lv_iload hx hb dX6_tightMany_19 (lv_at hl 4 rfl) ?_
            refine lv_aload_n hx hb dX6_tightMany_21 rfl (lv_at hl 0 rfl) ?_
            refine fg_X6_7 X hw 0 rfl rfl dX6_tightMany_22 ?_
            refine lv_iconst (v := 0) hx hb dX6_tightMany_25 (by decide) ?_
            refine r_iald X hw 1 rfl (v := (s_ 0)) (vp_lit (by decide)) rfl dX6_tightMany_26 ?_
            refine lv_icmp_ge (tgt := 71) hx hb dX6_tightMany_27 (by decide) (fun c1 => ?_) (fun c1 => ?_)
            · replace h := ip c1 h
              exact hk19 x3 _ _ _ h hw (lv_sub hl [0, 1, 2, 3] rfl)
            · replace h := ig c1 h
              refine lv_iload_n hx hb dX6_tightMany_30 rfl (lv_at hl 2 rfl) ?_
              refine lv_iload_n hx hb dX6_tightMany_31 rfl (lv_at hl 1 rfl) ?_
              refine lv_bipush (v := -5) hx hb dX6_tightMany_32 (by decide) ?_
              have J63 : ∀ (x8 : Int32) (H : Heap) (locs : List Loc) (ls : Array Slot), f_X6_tightMany_J63 (f_X6_tightMany_L19 N s_ p1 x2 k9 n11) x3 x4 x8 = some r_ → Wd D A s.heap [(h0, .inr (6, [.int thrown_, .ref h_this_s, .ref h_this_saved, .int savedMany_, .ref h_this_snapshot, .int hasSnapshot_, .ref h_this_text, .int length_, .ref h_this_lumps, .int lumpMany_, .ref h_this_order, .ref h_this_nears, .int partingSet_, .int partingWeight_, .int at_, .int isWell_, .ref h_this_told, .int toldMany_])), (h_this_s, .inl (cI, 103, .inl s_))] H locs → lv_has ls 5 [(0, .ref h0), (1, .int p1), (3, .int x2), (4, .int x4)] → W p l e rmX6_tightMany s m ([.ref h0, .int p1] : List Value).toArray below meth c H locs 0 0 (MQ below (Qi D r_ [(h0, .inr (6, [.int thrown_, .ref h_this_s, .ref h_this_saved, .int savedMany_, .ref h_this_snapshot, .int hasSnapshot_, .ref h_this_text, .int length_, .ref h_this_lumps, .int lumpMany_, .ref h_this_order, .ref h_this_nears, .int partingSet_, .int partingWeight_, .int at_, .int isWell_, .ref h_this_told, .int toldMany_])), (h_this_s, .inl (cI, 103, .inl s_))] A) ([.ref h0, .int p1] : List Value).toArray s 0 0 A) (F0 m 63 ls [.int x8, .int x3]) := by
                intro x8 H locs ls h hw hl
                unfold f_X6_tightMany_J63 at h
                refine lv_iadd hx hb dX6_tightMany_63 ?_
                refine lv_istore_n (lv' := [(2, .int (x3 + x8)), (0, .ref h0), (1, .int p1), (3, .int x2), (4, .int x4)]) hx hb dX6_tightMany_64 rfl hl (by decide) rfl (fun ls hl => ?_)
                refine lv_iinc (v := (x4 + (1 : Int32))) (lv' := [(4, .int (x4 + (1 : Int32))), (2, .int (x3 + x8)), (0, .ref h0), (1, .int p1), (3, .int x2)]) hx hb dX6_tightMany_65 hl (k := 4) rfl rfl (by decide) rfl (fun ls hl => ?_)
                refine lv_goto (tgt := 19) hx hb dX6_tightMany_68 (by decide) ?_
                exact ih19 (x3 + x8) (x4 + (1 : Int32)) _ _ _ h hw (lv_sub hl [2, 3, 1, 4, 0] rfl)
              refine lv_icmp_eq (tgt := 48) hx hb dX6_tightMany_34 (by decide) (fun c1 => ?_) (fun c1 => ?_)
              · replace h := ip c1 h
                refine lv_aload_n hx hb dX6_tightMany_48 rfl (lv_at hl 0 rfl) ?_
                refine lv_iload_n hx hb dX6_tightMany_49 rfl (lv_at hl 3 rfl) ?_
                refine lv_iload hx hb dX6_tightMany_50 (lv_at hl 4 rfl) ?_
                obtain ⟨r5, hc, h⟩ := bd1_inv h
                refine r_cVi X hw (As := [.int x2, .int x4]) (rest := [.int x3]) (wr := []) (ws' := [(h0, .inr (6, [.int thrown_, .ref h_this_s, .ref h_this_saved, .int savedMany_, .ref h_this_snapshot, .int hasSnapshot_, .ref h_this_text, .int length_, .ref h_this_lumps, .int lumpMany_, .ref h_this_order, .ref h_this_nears, .int partingSet_, .int partingWeight_, .int at_, .int isWell_, .ref h_this_told, .int toldMany_])), (h_this_s, .inl (cI, 103, .inl s_))]) (c_X6_isTight l D cI cC cO N h0 h_this_s h_this_saved h_this_snapshot h_this_text h_this_lumps h_this_order h_this_nears h_this_told x2 x4 thrown_ savedMany_ hasSnapshot_ length_ lumpMany_ partingSet_ partingWeight_ at_ isWell_ toldMany_ s_ r5 hc) (cs_X6_73 X (by decide)) [0, 1] [] [0, 1] rfl rfl rfl rfl (by decide) rfl rfl 0 rfl rfl rfl rfl hl.1 rfl (Nat.le_of_ble_eq_true rfl) dX6_tightMany_52 ⟨Nat.zero_le _, Nat.zero_le _⟩ (fun H locs hw => ?_)
                refine lv_if_eq (tgt := 62) hx hb dX6_tightMany_55 (by decide) (fun c1 => ?_) (fun c1 => ?_)
                · replace h := ip c1 h
                  refine lv_iconst (v := 0) hx hb dX6_tightMany_62 (by decide) ?_
                  exact J63 (0 : Int32) _ _ _ h hw (lv_sub hl [0, 1, 3, 4] rfl)
                · replace h := ig c1 h
                  refine lv_iconst (v := 1) hx hb dX6_tightMany_58 (by decide) ?_
                  refine lv_goto (tgt := 63) hx hb dX6_tightMany_59 (by decide) ?_
                  exact J63 (1 : Int32) _ _ _ h hw (lv_sub hl [0, 1, 3, 4] rfl)
              · replace h := ig c1 h
                refine lv_iload_n hx hb dX6_tightMany_37 rfl (lv_at hl 3 rfl) ?_
                refine lv_iload_n hx hb dX6_tightMany_38 rfl (lv_at hl 1 rfl) ?_
                refine lv_icmp_eq (tgt := 48) hx hb dX6_tightMany_39 (by decide) (fun c1 => ?_) (fun c1 => ?_)
                · replace h := ip c1 h
                  refine lv_aload_n hx hb dX6_tightMany_48 rfl (lv_at hl 0 rfl) ?_
                  refine lv_iload_n hx hb dX6_tightMany_49 rfl (lv_at hl 3 rfl) ?_
                  refine lv_iload hx hb dX6_tightMany_50 (lv_at hl 4 rfl) ?_
                  obtain ⟨r6, hc, h⟩ := bd1_inv h
                  refine r_cVi X hw (As := [.int x2, .int x4]) (rest := [.int x3]) (wr := []) (ws' := [(h0, .inr (6, [.int thrown_, .ref h_this_s, .ref h_this_saved, .int savedMany_, .ref h_this_snapshot, .int hasSnapshot_, .ref h_this_text, .int length_, .ref h_this_lumps, .int lumpMany_, .ref h_this_order, .ref h_this_nears, .int partingSet_, .int partingWeight_, .int at_, .int isWell_, .ref h_this_told, .int toldMany_])), (h_this_s, .inl (cI, 103, .inl s_))]) (c_X6_isTight l D cI cC cO N h0 h_this_s h_this_saved h_this_snapshot h_this_text h_this_lumps h_this_order h_this_nears h_this_told x2 x4 thrown_ savedMany_ hasSnapshot_ length_ lumpMany_ partingSet_ partingWeight_ at_ isWell_ toldMany_ s_ r6 hc) (cs_X6_73 X (by decide)) [0, 1] [] [0, 1] rfl rfl rfl rfl (by decide) rfl rfl 0 rfl rfl rfl rfl hl.1 rfl (Nat.le_of_ble_eq_true rfl) dX6_tightMany_52 ⟨Nat.zero_le _, Nat.zero_le _⟩ (fun H locs hw => ?_)
                  refine lv_if_eq (tgt := 62) hx hb dX6_tightMany_55 (by decide) (fun c1 => ?_) (fun c1 => ?_)
                  · replace h := ip c1 h
                    refine lv_iconst (v := 0) hx hb dX6_tightMany_62 (by decide) ?_
                    exact J63 (0 : Int32) _ _ _ h hw (lv_sub hl [0, 1, 3, 4] rfl)
                  · replace h := ig c1 h
                    refine lv_iconst (v := 1) hx hb dX6_tightMany_58 (by decide) ?_
                    refine lv_goto (tgt := 63) hx hb dX6_tightMany_59 (by decide) ?_
                    exact J63 (1 : Int32) _ _ _ h hw (lv_sub hl [0, 1, 3, 4] rfl)
                · replace h := ig c1 h
                  refine lv_iload hx hb dX6_tightMany_42 (lv_at hl 4 rfl) ?_
                  refine lv_iload_n hx hb dX6_tightMany_44 rfl (lv_at hl 1 rfl) ?_
                  refine lv_icmp_ne (tgt := 62) hx hb dX6_tightMany_45 (by decide) (fun c1 => ?_) (fun c1 => ?_)
                  · replace h := ig c1 h
                    refine lv_iconst (v := 0) hx hb dX6_tightMany_62 (by decide) ?_
                    exact J63 (0 : Int32) _ _ _ h hw (lv_sub hl [0, 1, 3, 4] rfl)
                  · replace h := ip c1 h
                    refine lv_aload_n hx hb dX6_tightMany_48 rfl (lv_at hl 0 rfl) ?_
                    refine lv_iload_n hx hb dX6_tightMany_49 rfl (lv_at hl 3 rfl) ?_
                    refine lv_iload hx hb dX6_tightMany_50 (lv_at hl 4 rfl) ?_
                    obtain ⟨r7, hc, h⟩ := bd1_inv h
                    refine r_cVi X hw (As := [.int x2, .int x4]) (rest := [.int x3]) (wr := []) (ws' := [(h0, .inr (6, [.int thrown_, .ref h_this_s, .ref h_this_saved, .int savedMany_, .ref h_this_snapshot, .int hasSnapshot_, .ref h_this_text, .int length_, .ref h_this_lumps, .int lumpMany_, .ref h_this_order, .ref h_this_nears, .int partingSet_, .int partingWeight_, .int at_, .int isWell_, .ref h_this_told, .int toldMany_])), (h_this_s, .inl (cI, 103, .inl s_))]) (c_X6_isTight l D cI cC cO N h0 h_this_s h_this_saved h_this_snapshot h_this_text h_this_lumps h_this_order h_this_nears h_this_told x2 x4 thrown_ savedMany_ hasSnapshot_ length_ lumpMany_ partingSet_ partingWeight_ at_ isWell_ toldMany_ s_ r7 hc) (cs_X6_73 X (by decide)) [0, 1] [] [0, 1] rfl rfl rfl rfl (by decide) rfl rfl 0 rfl rfl rfl rfl hl.1 rfl (Nat.le_of_ble_eq_true rfl) dX6_tightMany_52 ⟨Nat.zero_le _, Nat.zero_le _⟩ (fun H locs hw => ?_)
                    refine lv_if_eq (tgt := 62) hx hb dX6_tightMany_55 (by decide) (fun c1 => ?_) (fun c1 => ?_)
                    · replace h := ip c1 h
                      refine lv_iconst (v := 0) hx hb dX6_tightMany_62 (by decide) ?_
                      exact J63 (0 : Int32) _ _ _ h hw (lv_sub hl [0, 1, 3, 4] rfl)
                    · replace h := ig c1 h
                      refine lv_iconst (v := 1) hx hb dX6_tightMany_58 (by decide) ?_
                      refine lv_goto (tgt := 63) hx hb dX6_tightMany_59 (by decide) ?_
                      exact J63 (1 : Int32) _ _ _ h hw (lv_sub hl [0, 1, 3, 4] rfl)
        exact L19 (fun x12 => f_X6_tightMany_E71 (f_X6_tightMany_L4 N s_ p1 k13 n15) x2 x12) (fun x12 H locs ls h hw hl => E71 x12 H locs ls h hw hl) N x1 (x2 + (1 : Int32)) _ _ _ h hw (lv_sub hl [1, 2, 3, 4, 0] rfl)
  exact L4 (fun x16 => f_X6_tightMany_E77 x16) (fun x16 H locs ls h hw hl => E77 x16 H locs ls h hw hl) N (0 : Int32) (0 : Int32) _ _ _ h hw (lv_sub hl [2, 3, 1, 0] rfl)
def rmX6_nameOf : Room := { frames := 0, cells := 0, slots := 0, locals := 0 }
set_option maxHeartbeats 4000000 in
set_option maxRecDepth 100000 in
theorem c_X6_nameOf (l : Launch) (D : va_G) (cI cC cO : ClassId) (N : Nat) (p0 : Int32) (r_ : Int32) (h : f_X6_nameOf N p0 = some r_) : CI l yX6_nameOf (Wy yX6_nameOf cX6_nameOf 2 (some .int)) rmX6_nameOf D cI cC cO [.int p0] [] r_ [] := by
  refine enter_i RX6 (by decide) rfl (Nat.le_of_ble_eq_true rfl) ?_
  intro p e s m below meth c A X hr hlk hw ls hl
  have hx := X.1.1
  have hb := X.1.2.1
  have hl : lv_has ls 2 [(0, .int p0)] := hl
  unfold f_X6_nameOf at h
  refine lv_iconst (v := 0) hx hb dX6_nameOf_0 (by decide) ?_
  refine lv_istore_n (lv' := [(1, .int (0 : Int32)), (0, .int p0)]) hx hb dX6_nameOf_1 rfl hl (by decide) rfl (fun ls hl => ?_)
  have E16 : ∀ (x5 : Int32) (H : Heap) (locs : List Loc) (ls : Array Slot), f_X6_nameOf_E16 x5 = some r_ → Wd D A s.heap [] H locs → lv_has ls 2 [(1, .int x5)] → W p l e rmX6_nameOf s m ([.int p0] : List Value).toArray below meth c H locs 0 0 (MQ below (Qi D r_ [] A) ([.int p0] : List Value).toArray s 0 0 A) (F0 m 16 ls []) := by
    intro x5 H locs ls h hw hl
    unfold f_X6_nameOf_E16 at h
    refine lv_iload_n hx hb dX6_nameOf_16 rfl (lv_at hl 0 rfl) ?_
    obtain rfl := oi1 h
    exact r_ret X hw hr hlk dX6_nameOf_17
  have L2 : ∀ (k2 : Int32 → Option (Int32)), (∀ (x5 : Int32) (H : Heap) (locs : List Loc) (ls : Array Slot), k2 x5 = some r_ → Wd D A s.heap [] H locs → lv_has ls 2 [(1, .int x5)] → W p l e rmX6_nameOf s m ([.int p0] : List Value).toArray below meth c H locs 0 0 (MQ below (Qi D r_ [] A) ([.int p0] : List Value).toArray s 0 0 A) (F0 m 16 ls [])) → ∀ (n4 : Nat), ∀ (x1 : Int32) (H : Heap) (locs : List Loc) (ls : Array Slot), f_X6_nameOf_L2 p0 k2 n4 x1 = some r_ → Wd D A s.heap [] H locs → lv_has ls 2 [(0, .int p0), (1, .int x1)] → W p l e rmX6_nameOf s m ([.int p0] : List Value).toArray below meth c H locs 0 0 (MQ below (Qi D r_ [] A) ([.int p0] : List Value).toArray s 0 0 A) (F0 m 2 ls []) := by
    intro k2 hk2 n4
    induction n4 with
    | zero => intro x1 H locs ls h; cases h
    | succ n4 ih2 =>
      intro x1 H locs ls h hw hl
      rw [f_X6_nameOf_L2] at h
      refine lv_iload_n hx hb dX6_nameOf_2 rfl (lv_at hl 0 rfl) ?_
      refine lv_iload_n hx hb dX6_nameOf_3 rfl (lv_at hl 1 rfl) ?_
      refine lv_ishr hx hb dX6_nameOf_4 ?_
      refine lv_iconst (v := 1) hx hb dX6_nameOf_5 (by decide) ?_
      refine lv_iand hx hb dX6_nameOf_6 ?_
      refine lv_if_ne (tgt := 16) hx hb dX6_nameOf_7 (by decide) (fun c1 => ?_) (fun c1 => ?_)
      · replace h := ig c1 h
        exact hk2 x1 _ _ _ h hw (lv_sub hl [1] rfl)
      · replace h := ip c1 h
        refine lv_iinc (v := (x1 + (1 : Int32))) (lv' := [(1, .int (x1 + (1 : Int32))), (0, .int p0)]) hx hb dX6_nameOf_10 hl (k := 1) rfl rfl (by decide) rfl (fun ls hl => ?_)
        refine lv_goto (tgt := 2) hx hb dX6_nameOf_13 (by decide) ?_
        exact ih2 (x1 + (1 : Int32)) _ _ _ h hw (lv_sub hl [1, 0] rfl)
  exact L2 (fun x5 => f_X6_nameOf_E16 x5) (fun x5 H locs ls h hw hl => E16 x5 H locs ls h hw hl) N (0 : Int32) _ _ _ h hw (lv_sub hl [1, 0] rfl)
def rmX6_nearest : Room := { frames := 2, cells := 0, slots := 0, locals := 47 }
section
variable {p : Program} {l : Launch} {e : Env} {R : Room} {s : State} {m : MethodId} {args : Array Value} {below : List Frame} {meth : Method} {c : Code} {H : Heap} {locs : List Loc} {cells slots : Nat} {Q : State → Prop}
variable {cc : ByteArray} {pc nL : Nat} {ls : Array Slot} {rest : List Value} {D : va_G} {cI cC cO : ClassId} {A : Nat → Prop} {ws : va_W} {H0 : Heap}
theorem cs_X6_80 (X : Ctx p m c cc nL s args RX6 D cI cC cO) (hR : rmX6_nameOf.frames + 1 ≤ R.frames ∧ 8 + (2 + 11) + rmX6_nameOf.locals ≤ R.locals) : CallB R s args RX6 80 yX6_nameOf cX6_nameOf 2 (some .int) (Wy yX6_nameOf cX6_nameOf 2 (some .int)) rmX6_nameOf 0 0 1 ∧ (Cond.static yX6_nameOf).before args s = true := va_cwS 1 X.1.2.2.2.2 (gi_S tw_678 tw_679 tw_7 tw_680) rfl rfl rfl (by decide +kernel) hR
end
set_option maxHeartbeats 4000000 in
set_option maxRecDepth 100000 in
theorem c_X6_nearest (l : Launch) (D : va_G) (cI cC cO : ClassId) (N : Nat) (h0 h_this_s h_this_saved h_this_snapshot h_this_text h_this_lumps h_this_order h_this_nears h_this_told : Nat) (p1 thrown_ savedMany_ hasSnapshot_ length_ lumpMany_ partingSet_ partingWeight_ at_ isWell_ toldMany_ : Int32) (s_ lumps_ : Nat → Int32) (r_ : Int32) (h : f_X6_nearest N p1 lumpMany_ s_ lumps_ = some r_) : CI l yX6_nearest (Wy yX6_nearest cX6_nearest 7 (some .int)) rmX6_nearest D cI cC cO [.ref h0, .int p1] [(h0, .inr (6, [.int thrown_, .ref h_this_s, .ref h_this_saved, .int savedMany_, .ref h_this_snapshot, .int hasSnapshot_, .ref h_this_text, .int length_, .ref h_this_lumps, .int lumpMany_, .ref h_this_order, .ref h_this_nears, .int partingSet_, .int partingWeight_, .int at_, .int isWell_, .ref h_this_told, .int toldMany_])), (h_this_s, .inl (cI, 103, .inl s_)), (h_this_lumps, .inl (cI, 10, .inl lumps_))] r_ [(h0, .inr (6, [.int thrown_, .ref h_this_s, .ref h_this_saved, .int savedMany_, .ref h_this_snapshot, .int hasSnapshot_, .ref h_this_text, .int length_, .ref h_this_lumps, .int lumpMany_, .ref h_this_order, .ref h_this_nears, .int partingSet_, .int partingWeight_, .int at_, .int isWell_, .ref h_this_told, .int toldMany_])), (h_this_s, .inl (cI, 103, .inl s_)), (h_this_lumps, .inl (cI, 10, .inl lumps_))] := by
  refine enter_i RX6 (by decide) rfl (Nat.le_of_ble_eq_true rfl) ?_
  intro p e s m below meth c A X hr hlk hw ls hl
  have hx := X.1.1
  have hb := X.1.2.1
  have hl : lv_has ls 7 [(0, .ref h0), (1, .int p1)] := hl
  unfold f_X6_nearest at h
  refine lv_bipush (v := -5) hx hb dX6_nearest_0 (by decide) ?_
  refine lv_istore_n (lv' := [(2, .int (-5 : Int32)), (0, .ref h0), (1, .int p1)]) hx hb dX6_nearest_2 rfl hl (by decide) rfl (fun ls hl => ?_)
  refine lv_iconst (v := 0) hx hb dX6_nearest_3 (by decide) ?_
  refine lv_istore_n (lv' := [(3, .int (0 : Int32)), (2, .int (-5 : Int32)), (0, .ref h0), (1, .int p1)]) hx hb dX6_nearest_4 rfl hl (by decide) rfl (fun ls hl => ?_)
  refine lv_iconst (v := 0) hx hb dX6_nearest_5 (by decide) ?_
  refine lv_istore (lv' := [(4, .int (0 : Int32)), (3, .int (0 : Int32)), (2, .int (-5 : Int32)), (0, .ref h0), (1, .int p1)]) hx hb dX6_nearest_6 hl (by decide) rfl (fun ls hl => ?_)
  have E120 : ∀ (x15 : Int32) (H : Heap) (locs : List Loc) (ls : Array Slot), f_X6_nearest_E120 x15 = some r_ → Wd D A s.heap [(h0, .inr (6, [.int thrown_, .ref h_this_s, .ref h_this_saved, .int savedMany_, .ref h_this_snapshot, .int hasSnapshot_, .ref h_this_text, .int length_, .ref h_this_lumps, .int lumpMany_, .ref h_this_order, .ref h_this_nears, .int partingSet_, .int partingWeight_, .int at_, .int isWell_, .ref h_this_told, .int toldMany_])), (h_this_s, .inl (cI, 103, .inl s_)), (h_this_lumps, .inl (cI, 10, .inl lumps_))] H locs → lv_has ls 7 [(2, .int x15)] → W p l e rmX6_nearest s m ([.ref h0, .int p1] : List Value).toArray below meth c H locs 0 0 (MQ below (Qi D r_ [(h0, .inr (6, [.int thrown_, .ref h_this_s, .ref h_this_saved, .int savedMany_, .ref h_this_snapshot, .int hasSnapshot_, .ref h_this_text, .int length_, .ref h_this_lumps, .int lumpMany_, .ref h_this_order, .ref h_this_nears, .int partingSet_, .int partingWeight_, .int at_, .int isWell_, .ref h_this_told, .int toldMany_])), (h_this_s, .inl (cI, 103, .inl s_)), (h_this_lumps, .inl (cI, 10, .inl lumps_))] A) ([.ref h0, .int p1] : List Value).toArray s 0 0 A) (F0 m 120 ls []) := by
    intro x15 H locs ls h hw hl
    unfold f_X6_nearest_E120 at h
    refine lv_iload_n hx hb dX6_nearest_120 rfl (lv_at hl 0 rfl) ?_
    obtain rfl := oi1 h
    exact r_ret X hw hr hlk dX6_nearest_121
  have L8 : ∀ (k12 : Int32 → Option (Int32)), (∀ (x15 : Int32) (H : Heap) (locs : List Loc) (ls : Array Slot), k12 x15 = some r_ → Wd D A s.heap [(h0, .inr (6, [.int thrown_, .ref h_this_s, .ref h_this_saved, .int savedMany_, .ref h_this_snapshot, .int hasSnapshot_, .ref h_this_text, .int length_, .ref h_this_lumps, .int lumpMany_, .ref h_this_order, .ref h_this_nears, .int partingSet_, .int partingWeight_, .int at_, .int isWell_, .ref h_this_told, .int toldMany_])), (h_this_s, .inl (cI, 103, .inl s_)), (h_this_lumps, .inl (cI, 10, .inl lumps_))] H locs → lv_has ls 7 [(2, .int x15)] → W p l e rmX6_nearest s m ([.ref h0, .int p1] : List Value).toArray below meth c H locs 0 0 (MQ below (Qi D r_ [(h0, .inr (6, [.int thrown_, .ref h_this_s, .ref h_this_saved, .int savedMany_, .ref h_this_snapshot, .int hasSnapshot_, .ref h_this_text, .int length_, .ref h_this_lumps, .int lumpMany_, .ref h_this_order, .ref h_this_nears, .int partingSet_, .int partingWeight_, .int at_, .int isWell_, .ref h_this_told, .int toldMany_])), (h_this_s, .inl (cI, 103, .inl s_)), (h_this_lumps, .inl (cI, 10, .inl lumps_))] A) ([.ref h0, .int p1] : List Value).toArray s 0 0 A) (F0 m 120 ls [])) → ∀ (n14 : Nat), ∀ (x1 x2 x3 : Int32) (H : Heap) (locs : List Loc) (ls : Array Slot), f_X6_nearest_L8 N lumpMany_ lumps_ p1 s_ k12 n14 x1 x2 x3 = some r_ → Wd D A s.heap [(h0, .inr (6, [.int thrown_, .ref h_this_s, .ref h_this_saved, .int savedMany_, .ref h_this_snapshot, .int hasSnapshot_, .ref h_this_text, .int length_, .ref h_this_lumps, .int lumpMany_, .ref h_this_order, .ref h_this_nears, .int partingSet_, .int partingWeight_, .int at_, .int isWell_, .ref h_this_told, .int toldMany_])), (h_this_s, .inl (cI, 103, .inl s_)), (h_this_lumps, .inl (cI, 10, .inl lumps_))] H locs → lv_has ls 7 [(0, .ref h0), (1, .int p1), (2, .int x1), (3, .int x2), (4, .int x3)] → W p l e rmX6_nearest s m ([.ref h0, .int p1] : List Value).toArray below meth c H locs 0 0 (MQ below (Qi D r_ [(h0, .inr (6, [.int thrown_, .ref h_this_s, .ref h_this_saved, .int savedMany_, .ref h_this_snapshot, .int hasSnapshot_, .ref h_this_text, .int length_, .ref h_this_lumps, .int lumpMany_, .ref h_this_order, .ref h_this_nears, .int partingSet_, .int partingWeight_, .int at_, .int isWell_, .ref h_this_told, .int toldMany_])), (h_this_s, .inl (cI, 103, .inl s_)), (h_this_lumps, .inl (cI, 10, .inl lumps_))] A) ([.ref h0, .int p1] : List Value).toArray s 0 0 A) (F0 m 8 ls []) := by
    intro k12 hk8 n14
    induction n14 with
    | zero => intro x1 x2 x3 H locs ls h; cases h
    | succ n14 ih8 =>
      intro x1 x2 x3 H locs ls h hw hl
      rw [f_X6_nearest_L8] at h
      refine lv_iload hx hb dX6_nearest_8 (lv_at hl 4 rfl) ?_
      refine lv_aload_n hx hb dX6_nearest_10 rfl (lv_at hl 0 rfl) ?_
      refine fg_X6_77 X hw 0 rfl rfl dX6_nearest_11 ?_
      refine lv_icmp_ge (tgt := 120) hx hb dX6_nearest_14 (by decide) (fun c1 => ?_) (fun c1 => ?_)
      · replace h := ip c1 h
        exact hk8 x1 _ _ _ h hw (lv_sub hl [2] rfl)
      · replace h := ig c1 h
        refine lv_aload_n hx hb dX6_nearest_17 rfl (lv_at hl 0 rfl) ?_
        refine fg_X6_22 X hw 0 rfl rfl dX6_nearest_18 ?_
        refine lv_iload hx hb dX6_nearest_21 (lv_at hl 4 rfl) ?_
        obtain ⟨b1, h⟩ := chk_inv h
        refine r_iald X hw 2 rfl b1 rfl dX6_nearest_23 ?_
        refine lv_iload_n hx hb dX6_nearest_24 rfl (lv_at hl 1 rfl) ?_
        refine lv_iand hx hb dX6_nearest_25 ?_
        have J114 : ∀ (x10 x11 : Int32) (H : Heap) (locs : List Loc) (ls : Array Slot), f_X6_nearest_J114 (f_X6_nearest_L8 N lumpMany_ lumps_ p1 s_ k12 n14) x3 x10 x11 = some r_ → Wd D A s.heap [(h0, .inr (6, [.int thrown_, .ref h_this_s, .ref h_this_saved, .int savedMany_, .ref h_this_snapshot, .int hasSnapshot_, .ref h_this_text, .int length_, .ref h_this_lumps, .int lumpMany_, .ref h_this_order, .ref h_this_nears, .int partingSet_, .int partingWeight_, .int at_, .int isWell_, .ref h_this_told, .int toldMany_])), (h_this_s, .inl (cI, 103, .inl s_)), (h_this_lumps, .inl (cI, 10, .inl lumps_))] H locs → lv_has ls 7 [(0, .ref h0), (1, .int p1), (2, .int x10), (3, .int x11), (4, .int x3)] → W p l e rmX6_nearest s m ([.ref h0, .int p1] : List Value).toArray below meth c H locs 0 0 (MQ below (Qi D r_ [(h0, .inr (6, [.int thrown_, .ref h_this_s, .ref h_this_saved, .int savedMany_, .ref h_this_snapshot, .int hasSnapshot_, .ref h_this_text, .int length_, .ref h_this_lumps, .int lumpMany_, .ref h_this_order, .ref h_this_nears, .int partingSet_, .int partingWeight_, .int at_, .int isWell_, .ref h_this_told, .int toldMany_])), (h_this_s, .inl (cI, 103, .inl s_)), (h_this_lumps, .inl (cI, 10, .inl lumps_))] A) ([.ref h0, .int p1] : List Value).toArray s 0 0 A) (F0 m 114 ls []) := by
          intro x10 x11 H locs ls h hw hl
          unfold f_X6_nearest_J114 at h
          refine lv_iinc (v := (x3 + (1 : Int32))) (lv' := [(4, .int (x3 + (1 : Int32))), (0, .ref h0), (1, .int p1), (2, .int x10), (3, .int x11)]) hx hb dX6_nearest_114 hl (k := 4) rfl rfl (by decide) rfl (fun ls hl => ?_)
          refine lv_goto (tgt := 8) hx hb dX6_nearest_117 (by decide) ?_
          exact ih8 x10 x11 (x3 + (1 : Int32)) _ _ _ h hw (lv_sub hl [1, 2, 3, 4, 0] rfl)
        refine lv_if_ne (tgt := 114) hx hb dX6_nearest_26 (by decide) (fun c1 => ?_) (fun c1 => ?_)
        · replace h := ig c1 h
          exact J114 x1 x2 _ _ _ h hw (lv_sub hl [0, 1, 2, 3, 4] rfl)
        · replace h := ip c1 h
          refine lv_aload_n hx hb dX6_nearest_29 rfl (lv_at hl 0 rfl) ?_
          refine lv_aload_n hx hb dX6_nearest_30 rfl (lv_at hl 0 rfl) ?_
          refine fg_X6_22 X hw 0 rfl rfl dX6_nearest_31 ?_
          refine lv_iload hx hb dX6_nearest_34 (lv_at hl 4 rfl) ?_
          obtain ⟨b1, h⟩ := chk_inv h
          refine r_iald X hw 2 rfl b1 rfl dX6_nearest_36 ?_
          refine lv_iload_n hx hb dX6_nearest_37 rfl (lv_at hl 1 rfl) ?_
          obtain ⟨r4, hc, h⟩ := bd1_inv h
          refine r_cVi X hw (As := [.int (lumps_ (x3).toNatClampNeg), .int p1]) (rest := []) (wr := [(h_this_lumps, .inl (cI, 10, .inl lumps_))]) (ws' := [(h0, .inr (6, [.int thrown_, .ref h_this_s, .ref h_this_saved, .int savedMany_, .ref h_this_snapshot, .int hasSnapshot_, .ref h_this_text, .int length_, .ref h_this_lumps, .int lumpMany_, .ref h_this_order, .ref h_this_nears, .int partingSet_, .int partingWeight_, .int at_, .int isWell_, .ref h_this_told, .int toldMany_])), (h_this_s, .inl (cI, 103, .inl s_)), (h_this_lumps, .inl (cI, 10, .inl lumps_))]) (c_X6_weightBetween l D cI cC cO N h0 h_this_s h_this_saved h_this_snapshot h_this_text h_this_lumps h_this_order h_this_nears h_this_told (lumps_ (x3).toNatClampNeg) p1 thrown_ savedMany_ hasSnapshot_ length_ lumpMany_ partingSet_ partingWeight_ at_ isWell_ toldMany_ s_ r4 hc) (cs_X6_53 X (by decide)) [0, 1] [2] [1, 2, 0] rfl rfl rfl rfl (by decide) rfl rfl 0 rfl rfl rfl rfl hl.1 rfl (Nat.le_of_ble_eq_true rfl) dX6_nearest_38 ⟨Nat.zero_le _, Nat.zero_le _⟩ (fun H locs hw => ?_)
          refine lv_istore (lv' := [(5, .int r4), (0, .ref h0), (1, .int p1), (2, .int x1), (3, .int x2), (4, .int x3)]) hx hb dX6_nearest_41 hl (by decide) rfl (fun ls hl => ?_)
          refine lv_iload_n hx hb dX6_nearest_43 rfl (lv_at hl 3 rfl) ?_
          refine lv_bipush (v := -5) hx hb dX6_nearest_44 (by decide) ?_
          have J88 : ∀ (x7 : Int32) (H : Heap) (locs : List Loc) (ls : Array Slot), f_X6_nearest_J88 (f_X6_nearest_L8 N lumpMany_ lumps_ p1 s_ k12 n14) x3 x2 r4 x1 x7 = some r_ → Wd D A s.heap [(h0, .inr (6, [.int thrown_, .ref h_this_s, .ref h_this_saved, .int savedMany_, .ref h_this_snapshot, .int hasSnapshot_, .ref h_this_text, .int length_, .ref h_this_lumps, .int lumpMany_, .ref h_this_order, .ref h_this_nears, .int partingSet_, .int partingWeight_, .int at_, .int isWell_, .ref h_this_told, .int toldMany_])), (h_this_s, .inl (cI, 103, .inl s_)), (h_this_lumps, .inl (cI, 10, .inl lumps_))] H locs → lv_has ls 7 [(0, .ref h0), (1, .int p1), (2, .int x1), (3, .int x2), (4, .int x3), (5, .int r4)] → W p l e rmX6_nearest s m ([.ref h0, .int p1] : List Value).toArray below meth c H locs 0 0 (MQ below (Qi D r_ [(h0, .inr (6, [.int thrown_, .ref h_this_s, .ref h_this_saved, .int savedMany_, .ref h_this_snapshot, .int hasSnapshot_, .ref h_this_text, .int length_, .ref h_this_lumps, .int lumpMany_, .ref h_this_order, .ref h_this_nears, .int partingSet_, .int partingWeight_, .int at_, .int isWell_, .ref h_this_told, .int toldMany_])), (h_this_s, .inl (cI, 103, .inl s_)), (h_this_lumps, .inl (cI, 10, .inl lumps_))] A) ([.ref h0, .int p1] : List Value).toArray s 0 0 A) (F0 m 88 ls [.int x7]) := by
            intro x7 H locs ls h hw hl
            unfold f_X6_nearest_J88 at h
            refine lv_istore (lv' := [(6, .int x7), (0, .ref h0), (1, .int p1), (2, .int x1), (3, .int x2), (4, .int x3), (5, .int r4)]) hx hb dX6_nearest_88 hl (by decide) rfl (fun ls hl => ?_)
            refine lv_iload hx hb dX6_nearest_90 (lv_at hl 0 rfl) ?_
            have J101 : ∀ (x8 : Int32) (H : Heap) (locs : List Loc) (ls : Array Slot), f_X6_nearest_J101 x7 (f_X6_nearest_L8 N lumpMany_ lumps_ p1 s_ k12 n14) x3 x2 r4 x8 = some r_ → Wd D A s.heap [(h0, .inr (6, [.int thrown_, .ref h_this_s, .ref h_this_saved, .int savedMany_, .ref h_this_snapshot, .int hasSnapshot_, .ref h_this_text, .int length_, .ref h_this_lumps, .int lumpMany_, .ref h_this_order, .ref h_this_nears, .int partingSet_, .int partingWeight_, .int at_, .int isWell_, .ref h_this_told, .int toldMany_])), (h_this_s, .inl (cI, 103, .inl s_)), (h_this_lumps, .inl (cI, 10, .inl lumps_))] H locs → lv_has ls 7 [(0, .ref h0), (1, .int p1), (3, .int x2), (4, .int x3), (5, .int r4), (6, .int x7)] → W p l e rmX6_nearest s m ([.ref h0, .int p1] : List Value).toArray below meth c H locs 0 0 (MQ below (Qi D r_ [(h0, .inr (6, [.int thrown_, .ref h_this_s, .ref h_this_saved, .int savedMany_, .ref h_this_snapshot, .int hasSnapshot_, .ref h_this_text, .int length_, .ref h_this_lumps, .int lumpMany_, .ref h_this_order, .ref h_this_nears, .int partingSet_, .int partingWeight_, .int at_, .int isWell_, .ref h_this_told, .int toldMany_])), (h_this_s, .inl (cI, 103, .inl s_)), (h_this_lumps, .inl (cI, 10, .inl lumps_))] A) ([.ref h0, .int p1] : List Value).toArray s 0 0 A) (F0 m 101 ls [.int x8]) := by
              intro x8 H locs ls h hw hl
              unfold f_X6_nearest_J101 at h
              refine lv_istore_n (lv' := [(2, .int x8), (0, .ref h0), (1, .int p1), (3, .int x2), (4, .int x3), (5, .int r4), (6, .int x7)]) hx hb dX6_nearest_101 rfl hl (by decide) rfl (fun ls hl => ?_)
              refine lv_iload hx hb dX6_nearest_102 (lv_at hl 6 rfl) ?_
              have J113 : ∀ (x9 : Int32) (H : Heap) (locs : List Loc) (ls : Array Slot), f_X6_nearest_J113 (f_X6_nearest_L8 N lumpMany_ lumps_ p1 s_ k12 n14) x3 x8 x9 = some r_ → Wd D A s.heap [(h0, .inr (6, [.int thrown_, .ref h_this_s, .ref h_this_saved, .int savedMany_, .ref h_this_snapshot, .int hasSnapshot_, .ref h_this_text, .int length_, .ref h_this_lumps, .int lumpMany_, .ref h_this_order, .ref h_this_nears, .int partingSet_, .int partingWeight_, .int at_, .int isWell_, .ref h_this_told, .int toldMany_])), (h_this_s, .inl (cI, 103, .inl s_)), (h_this_lumps, .inl (cI, 10, .inl lumps_))] H locs → lv_has ls 7 [(0, .ref h0), (1, .int p1), (2, .int x8), (4, .int x3)] → W p l e rmX6_nearest s m ([.ref h0, .int p1] : List Value).toArray below meth c H locs 0 0 (MQ below (Qi D r_ [(h0, .inr (6, [.int thrown_, .ref h_this_s, .ref h_this_saved, .int savedMany_, .ref h_this_snapshot, .int hasSnapshot_, .ref h_this_text, .int length_, .ref h_this_lumps, .int lumpMany_, .ref h_this_order, .ref h_this_nears, .int partingSet_, .int partingWeight_, .int at_, .int isWell_, .ref h_this_told, .int toldMany_])), (h_this_s, .inl (cI, 103, .inl s_)), (h_this_lumps, .inl (cI, 10, .inl lumps_))] A) ([.ref h0, .int p1] : List Value).toArray s 0 0 A) (F0 m 113 ls [.int x9]) := by
                intro x9 H locs ls h hw hl
                unfold f_X6_nearest_J113 at h
                refine lv_istore_n (lv' := [(3, .int x9), (0, .ref h0), (1, .int p1), (2, .int x8), (4, .int x3)]) hx hb dX6_nearest_113 rfl hl (by decide) rfl (fun ls hl => ?_)
                exact J114 x8 x9 _ _ _ h hw (lv_sub hl [1, 2, 3, 0, 4] rfl)
              refine lv_if_eq (tgt := 112) hx hb dX6_nearest_104 (by decide) (fun c1 => ?_) (fun c1 => ?_)
              · replace h := ip c1 h
                refine lv_iload_n hx hb dX6_nearest_112 rfl (lv_at hl 3 rfl) ?_
                exact J113 x2 _ _ _ h hw (lv_sub hl [1, 2, 0, 4] rfl)
              · replace h := ig c1 h
                refine lv_iload hx hb dX6_nearest_107 (lv_at hl 5 rfl) ?_
                refine lv_goto (tgt := 113) hx hb dX6_nearest_109 (by decide) ?_
                exact J113 r4 _ _ _ h hw (lv_sub hl [1, 2, 0, 4] rfl)
            refine lv_if_eq (tgt := 100) hx hb dX6_nearest_92 (by decide) (fun c1 => ?_) (fun c1 => ?_)
            · replace h := ip c1 h
              refine lv_iload_n hx hb dX6_nearest_100 rfl (lv_at hl 3 rfl) ?_
              exact J101 x1 _ _ _ h hw (lv_sub hl [1, 2, 4, 5, 6, 0] rfl)
            · replace h := ig c1 h
              refine lv_iload hx hb dX6_nearest_95 (lv_at hl 5 rfl) ?_
              refine lv_goto (tgt := 101) hx hb dX6_nearest_97 (by decide) ?_
              exact J101 x3 _ _ _ h hw (lv_sub hl [1, 2, 4, 5, 6, 0] rfl)
          refine lv_icmp_eq (tgt := 83) hx hb dX6_nearest_46 (by decide) (fun c1 => ?_) (fun c1 => ?_)
          · replace h := ip c1 h
            refine lv_iconst (v := 1) hx hb dX6_nearest_83 (by decide) ?_
            refine lv_goto (tgt := 88) hx hb dX6_nearest_84 (by decide) ?_
            exact J88 (1 : Int32) _ _ _ h hw (lv_sub hl [1, 2, 3, 4, 5, 0] rfl)
          · replace h := ig c1 h
            refine lv_iload hx hb dX6_nearest_49 (lv_at hl 0 rfl) ?_
            refine lv_iload_n hx hb dX6_nearest_51 rfl (lv_at hl 4 rfl) ?_
            refine lv_icmp_gt (tgt := 83) hx hb dX6_nearest_52 (by decide) (fun c1 => ?_) (fun c1 => ?_)
            · replace h := ip c1 h
              refine lv_iconst (v := 1) hx hb dX6_nearest_83 (by decide) ?_
              refine lv_goto (tgt := 88) hx hb dX6_nearest_84 (by decide) ?_
              exact J88 (1 : Int32) _ _ _ h hw (lv_sub hl [1, 2, 3, 4, 5, 0] rfl)
            · replace h := ig c1 h
              refine lv_iload hx hb dX6_nearest_55 (lv_at hl 0 rfl) ?_
              refine lv_iload_n hx hb dX6_nearest_57 rfl (lv_at hl 4 rfl) ?_
              refine lv_icmp_ne (tgt := 87) hx hb dX6_nearest_58 (by decide) (fun c1 => ?_) (fun c1 => ?_)
              · replace h := ig c1 h
                refine lv_iconst (v := 0) hx hb dX6_nearest_87 (by decide) ?_
                exact J88 (0 : Int32) _ _ _ h hw (lv_sub hl [1, 2, 3, 4, 5, 0] rfl)
              · replace h := ip c1 h
                refine lv_aload_n hx hb dX6_nearest_61 rfl (lv_at hl 1 rfl) ?_
                refine fg_X6_22 X hw 0 rfl rfl dX6_nearest_62 ?_
                refine lv_iload hx hb dX6_nearest_65 (lv_at hl 5 rfl) ?_
                obtain ⟨b1, h⟩ := chk_inv h
                refine r_iald X hw 2 rfl b1 rfl dX6_nearest_67 ?_
                obtain ⟨r5, hc, h⟩ := bd1_inv h
                refine r_cSi X hw (As := [.int (lumps_ (x3).toNatClampNeg)]) (rest := []) (c_X6_nameOf l D cI cC cO N (lumps_ (x3).toNatClampNeg) r5 hc) (cs_X6_80 X (by decide)) rfl hl.1 rfl (Nat.le_of_ble_eq_true rfl) dX6_nearest_68 ⟨Nat.zero_le _, Nat.zero_le _⟩ (fun H locs hw => ?_)
                refine lv_aload_n hx hb dX6_nearest_71 rfl (lv_at hl 1 rfl) ?_
                refine fg_X6_22 X hw 0 rfl rfl dX6_nearest_72 ?_
                refine lv_iload_n hx hb dX6_nearest_75 rfl (lv_at hl 3 rfl) ?_
                obtain ⟨b1, h⟩ := chk_inv h
                refine r_iald X hw 2 rfl b1 rfl dX6_nearest_76 ?_
                obtain ⟨r6, hc, h⟩ := bd1_inv h
                refine r_cSi X hw (As := [.int (lumps_ (x1).toNatClampNeg)]) (rest := [.int r5]) (c_X6_nameOf l D cI cC cO N (lumps_ (x1).toNatClampNeg) r6 hc) (cs_X6_80 X (by decide)) rfl hl.1 rfl (Nat.le_of_ble_eq_true rfl) dX6_nearest_77 ⟨Nat.zero_le _, Nat.zero_le _⟩ (fun H locs hw => ?_)
                refine lv_icmp_ge (tgt := 87) hx hb dX6_nearest_80 (by decide) (fun c1 => ?_) (fun c1 => ?_)
                · replace h := ip c1 h
                  refine lv_iconst (v := 0) hx hb dX6_nearest_87 (by decide) ?_
                  exact J88 (0 : Int32) _ _ _ h hw (lv_sub hl [1, 2, 3, 4, 5, 0] rfl)
                · replace h := ig c1 h
                  refine lv_iconst (v := 1) hx hb dX6_nearest_83 (by decide) ?_
                  refine lv_goto (tgt := 88) hx hb dX6_nearest_84 (by decide) ?_
                  exact J88 (1 : Int32) _ _ _ h hw (lv_sub hl [1, 2, 3, 4, 5, 0] rfl)
  exact L8 (fun x15 => f_X6_nearest_E120 x15) (fun x15 H locs ls h hw hl => E120 x15 H locs ls h hw hl) N (-5 : Int32) (0 : Int32) (0 : Int32) _ _ _ h hw (lv_sub hl [3, 4, 2, 1, 0] rfl)
def rmX6_swallows : Room := { frames := 3, cells := 0, slots := 0, locals := 73 }
section
variable {p : Program} {l : Launch} {e : Env} {R : Room} {s : State} {m : MethodId} {args : Array Value} {below : List Frame} {meth : Method} {c : Code} {H : Heap} {locs : List Loc} {cells slots : Nat} {Q : State → Prop}
variable {cc : ByteArray} {pc nL : Nat} {ls : Array Slot} {rest : List Value} {D : va_G} {cI cC cO : ClassId} {A : Nat → Prop} {ws : va_W} {H0 : Heap}
theorem cs_X6_83 (X : Ctx p m c cc nL s args RX6 D cI cC cO) (hR : rmX6_nearest.frames + 1 ≤ R.frames ∧ 8 + (7 + 11) + rmX6_nearest.locals ≤ R.locals) : CallW R s args RX6 RX6 83 yX6_nearest cX6_nearest 7 (some .int) (Wy yX6_nearest cX6_nearest 7 (some .int)) rmX6_nearest 0 0 1 := cwV 1 X.1.2.2.2.2 (gi_V tw_670 tw_672 sw_yX6_nearest tw_7 tw_673) rfl rfl rfl (by decide +kernel) hR
end
set_option maxHeartbeats 4000000 in
set_option maxRecDepth 100000 in
theorem c_X6_swallows (l : Launch) (D : va_G) (cI cC cO : ClassId) (N : Nat) (h0 h_this_s h_this_saved h_this_snapshot h_this_text h_this_lumps h_this_order h_this_nears h_this_told : Nat) (thrown_ savedMany_ hasSnapshot_ length_ lumpMany_ partingSet_ partingWeight_ at_ isWell_ toldMany_ : Int32) (s_ lumps_ order_ nears_ : Nat → Int32) (partingSet_' : Int32) (partingWeight_' : Int32) (order_' : Nat → Int32) (nears_' : Nat → Int32) (h : f_X6_swallows N lumpMany_ s_ lumps_ order_ nears_ = some (partingSet_', partingWeight_', order_', nears_')) : CV l yX6_swallows (Wy yX6_swallows cX6_swallows 4 none) rmX6_swallows D cI cC cO [.ref h0] [(h0, .inr (6, [.int thrown_, .ref h_this_s, .ref h_this_saved, .int savedMany_, .ref h_this_snapshot, .int hasSnapshot_, .ref h_this_text, .int length_, .ref h_this_lumps, .int lumpMany_, .ref h_this_order, .ref h_this_nears, .int partingSet_, .int partingWeight_, .int at_, .int isWell_, .ref h_this_told, .int toldMany_])), (h_this_s, .inl (cI, 103, .inl s_)), (h_this_lumps, .inl (cI, 10, .inl lumps_)), (h_this_order, .inl (cI, 10, .inl order_)), (h_this_nears, .inl (cI, 10, .inl nears_))] [(h0, .inr (6, [.int thrown_, .ref h_this_s, .ref h_this_saved, .int savedMany_, .ref h_this_snapshot, .int hasSnapshot_, .ref h_this_text, .int length_, .ref h_this_lumps, .int lumpMany_, .ref h_this_order, .ref h_this_nears, .int partingSet_', .int partingWeight_', .int at_, .int isWell_, .ref h_this_told, .int toldMany_])), (h_this_s, .inl (cI, 103, .inl s_)), (h_this_lumps, .inl (cI, 10, .inl lumps_)), (h_this_order, .inl (cI, 10, .inl order_')), (h_this_nears, .inl (cI, 10, .inl nears_'))] := by
  refine enter_v RX6 (by decide) rfl (Nat.le_of_ble_eq_true rfl) ?_
  intro p e s m below meth c A X hr hlk hw ls hl
  have hx := X.1.1
  have hb := X.1.2.1
  have hl : lv_has ls 4 [(0, .ref h0)] := hl
  unfold f_X6_swallows at h
  refine lv_iconst (v := 0) hx hb dX6_swallows_0 (by decide) ?_
  refine lv_istore_n (lv' := [(1, .int (0 : Int32)), (0, .ref h0)]) hx hb dX6_swallows_1 rfl hl (by decide) rfl (fun ls hl => ?_)
  refine lv_iconst (v := 0) hx hb dX6_swallows_2 (by decide) ?_
  refine lv_istore_n (lv' := [(2, .int (0 : Int32)), (1, .int (0 : Int32)), (0, .ref h0)]) hx hb dX6_swallows_3 rfl hl (by decide) rfl (fun ls hl => ?_)
  have E50 : ∀ (x7 : Int32) (H : Heap) (locs : List Loc) (ls : Array Slot), f_X6_swallows_E50 N lumpMany_ s_ lumps_ order_ nears_ x7 = some (partingSet_', partingWeight_', order_', nears_') → Wd D A s.heap [(h0, .inr (6, [.int thrown_, .ref h_this_s, .ref h_this_saved, .int savedMany_, .ref h_this_snapshot, .int hasSnapshot_, .ref h_this_text, .int length_, .ref h_this_lumps, .int lumpMany_, .ref h_this_order, .ref h_this_nears, .int partingSet_, .int partingWeight_, .int at_, .int isWell_, .ref h_this_told, .int toldMany_])), (h_this_s, .inl (cI, 103, .inl s_)), (h_this_lumps, .inl (cI, 10, .inl lumps_)), (h_this_order, .inl (cI, 10, .inl order_)), (h_this_nears, .inl (cI, 10, .inl nears_))] H locs → lv_has ls 4 [(0, .ref h0), (1, .int x7)] → W p l e rmX6_swallows s m ([.ref h0] : List Value).toArray below meth c H locs 0 0 (MQ below (Qv D [(h0, .inr (6, [.int thrown_, .ref h_this_s, .ref h_this_saved, .int savedMany_, .ref h_this_snapshot, .int hasSnapshot_, .ref h_this_text, .int length_, .ref h_this_lumps, .int lumpMany_, .ref h_this_order, .ref h_this_nears, .int partingSet_', .int partingWeight_', .int at_, .int isWell_, .ref h_this_told, .int toldMany_])), (h_this_s, .inl (cI, 103, .inl s_)), (h_this_lumps, .inl (cI, 10, .inl lumps_)), (h_this_order, .inl (cI, 10, .inl order_')), (h_this_nears, .inl (cI, 10, .inl nears_'))] A) ([.ref h0] : List Value).toArray s 0 0 A) (F0 m 50 ls []) := by
    intro x7 H locs ls h hw hl
    unfold f_X6_swallows_E50 at h
    refine lv_aload_n hx hb dX6_swallows_50 rfl (lv_at hl 0 rfl) ?_
    refine fg_X6_25 X hw 0 rfl rfl dX6_swallows_51 ?_
    refine lv_iconst (v := 0) hx hb dX6_swallows_54 (by decide) ?_
    refine lv_iload_n hx hb dX6_swallows_55 rfl (lv_at hl 1 rfl) ?_
    refine r_iast X hw 3 rfl (vp_lit (by decide)) rfl dX6_swallows_56 (fun H locs hw => ?_)
    have hw : Wd D A s.heap [(h0, .inr (6, [.int thrown_, .ref h_this_s, .ref h_this_saved, .int savedMany_, .ref h_this_snapshot, .int hasSnapshot_, .ref h_this_text, .int length_, .ref h_this_lumps, .int lumpMany_, .ref h_this_order, .ref h_this_nears, .int partingSet_, .int partingWeight_, .int at_, .int isWell_, .ref h_this_told, .int toldMany_])), (h_this_s, .inl (cI, 103, .inl s_)), (h_this_lumps, .inl (cI, 10, .inl lumps_)), (h_this_order, .inl (cI, 10, .inl (upd order_ 0 x7))), (h_this_nears, .inl (cI, 10, .inl nears_))] H locs := hw
    refine lv_aload_n hx hb dX6_swallows_57 rfl (lv_at hl 0 rfl) ?_
    refine fg_X6_28 X hw 0 rfl rfl dX6_swallows_58 ?_
    refine lv_iconst (v := 0) hx hb dX6_swallows_61 (by decide) ?_
    refine lv_iconst (v := 0) hx hb dX6_swallows_62 (by decide) ?_
    refine r_iast X hw 4 rfl (vp_lit (by decide)) rfl dX6_swallows_63 (fun H locs hw => ?_)
    have hw : Wd D A s.heap [(h0, .inr (6, [.int thrown_, .ref h_this_s, .ref h_this_saved, .int savedMany_, .ref h_this_snapshot, .int hasSnapshot_, .ref h_this_text, .int length_, .ref h_this_lumps, .int lumpMany_, .ref h_this_order, .ref h_this_nears, .int partingSet_, .int partingWeight_, .int at_, .int isWell_, .ref h_this_told, .int toldMany_])), (h_this_s, .inl (cI, 103, .inl s_)), (h_this_lumps, .inl (cI, 10, .inl lumps_)), (h_this_order, .inl (cI, 10, .inl (upd order_ 0 x7))), (h_this_nears, .inl (cI, 10, .inl (upd nears_ 0 (0 : Int32))))] H locs := hw
    refine lv_iconst (v := 1) hx hb dX6_swallows_64 (by decide) ?_
    refine lv_istore_n (lv' := [(2, .int (1 : Int32)), (0, .ref h0), (1, .int x7)]) hx hb dX6_swallows_65 rfl hl (by decide) rfl (fun ls hl => ?_)
    have E124 : ∀ (a17 a18 : Nat → Int32) (H : Heap) (locs : List Loc) (ls : Array Slot), f_X6_swallows_E124 lumpMany_ s_ a17 a18 = some (partingSet_', partingWeight_', order_', nears_') → Wd D A s.heap [(h0, .inr (6, [.int thrown_, .ref h_this_s, .ref h_this_saved, .int savedMany_, .ref h_this_snapshot, .int hasSnapshot_, .ref h_this_text, .int length_, .ref h_this_lumps, .int lumpMany_, .ref h_this_order, .ref h_this_nears, .int partingSet_, .int partingWeight_, .int at_, .int isWell_, .ref h_this_told, .int toldMany_])), (h_this_s, .inl (cI, 103, .inl s_)), (h_this_lumps, .inl (cI, 10, .inl lumps_)), (h_this_order, .inl (cI, 10, .inl a17)), (h_this_nears, .inl (cI, 10, .inl a18))] H locs → lv_has ls 4 [(0, .ref h0)] → W p l e rmX6_swallows s m ([.ref h0] : List Value).toArray below meth c H locs 0 0 (MQ below (Qv D [(h0, .inr (6, [.int thrown_, .ref h_this_s, .ref h_this_saved, .int savedMany_, .ref h_this_snapshot, .int hasSnapshot_, .ref h_this_text, .int length_, .ref h_this_lumps, .int lumpMany_, .ref h_this_order, .ref h_this_nears, .int partingSet_', .int partingWeight_', .int at_, .int isWell_, .ref h_this_told, .int toldMany_])), (h_this_s, .inl (cI, 103, .inl s_)), (h_this_lumps, .inl (cI, 10, .inl lumps_)), (h_this_order, .inl (cI, 10, .inl order_')), (h_this_nears, .inl (cI, 10, .inl nears_'))] A) ([.ref h0] : List Value).toArray s 0 0 A) (F0 m 124 ls []) := by
      intro a17 a18 H locs ls h hw hl
      unfold f_X6_swallows_E124 at h
      refine lv_aload_n hx hb dX6_swallows_124 rfl (lv_at hl 0 rfl) ?_
      refine fg_X6_25 X hw 0 rfl rfl dX6_swallows_125 ?_
      refine lv_aload_n hx hb dX6_swallows_128 rfl (lv_at hl 0 rfl) ?_
      refine fg_X6_77 X hw 0 rfl rfl dX6_swallows_129 ?_
      refine lv_iconst (v := 1) hx hb dX6_swallows_132 (by decide) ?_
      refine lv_isub hx hb dX6_swallows_133 ?_
      obtain ⟨b1, h⟩ := chk_inv h
      refine r_iald X hw 3 rfl b1 rfl dX6_swallows_134 ?_
      refine lv_istore_n (lv' := [(2, .int (a17 ((lumpMany_ - (1 : Int32))).toNatClampNeg)), (0, .ref h0)]) hx hb dX6_swallows_135 rfl hl (by decide) rfl (fun ls hl => ?_)
      refine lv_aload_n hx hb dX6_swallows_136 rfl (lv_at hl 1 rfl) ?_
      refine lv_iload_n hx hb dX6_swallows_137 rfl (lv_at hl 0 rfl) ?_
      refine lv_iconst (v := 1) hx hb dX6_swallows_138 (by decide) ?_
      refine lv_iand hx hb dX6_swallows_139 ?_
      refine lv_iconst (v := 1) hx hb dX6_swallows_140 (by decide) ?_
      have J156 : ∀ (x20 : Int32) (H : Heap) (locs : List Loc) (ls : Array Slot), f_X6_swallows_J156 lumpMany_ a18 a17 x20 = some (partingSet_', partingWeight_', order_', nears_') → Wd D A s.heap [(h0, .inr (6, [.int thrown_, .ref h_this_s, .ref h_this_saved, .int savedMany_, .ref h_this_snapshot, .int hasSnapshot_, .ref h_this_text, .int length_, .ref h_this_lumps, .int lumpMany_, .ref h_this_order, .ref h_this_nears, .int partingSet_, .int partingWeight_, .int at_, .int isWell_, .ref h_this_told, .int toldMany_])), (h_this_s, .inl (cI, 103, .inl s_)), (h_this_lumps, .inl (cI, 10, .inl lumps_)), (h_this_order, .inl (cI, 10, .inl a17)), (h_this_nears, .inl (cI, 10, .inl a18))] H locs → lv_has ls 4 [(0, .ref h0)] → W p l e rmX6_swallows s m ([.ref h0] : List Value).toArray below meth c H locs 0 0 (MQ below (Qv D [(h0, .inr (6, [.int thrown_, .ref h_this_s, .ref h_this_saved, .int savedMany_, .ref h_this_snapshot, .int hasSnapshot_, .ref h_this_text, .int length_, .ref h_this_lumps, .int lumpMany_, .ref h_this_order, .ref h_this_nears, .int partingSet_', .int partingWeight_', .int at_, .int isWell_, .ref h_this_told, .int toldMany_])), (h_this_s, .inl (cI, 103, .inl s_)), (h_this_lumps, .inl (cI, 10, .inl lumps_)), (h_this_order, .inl (cI, 10, .inl order_')), (h_this_nears, .inl (cI, 10, .inl nears_'))] A) ([.ref h0] : List Value).toArray s 0 0 A) (F0 m 156 ls [.int x20, .ref h0]) := by
        intro x20 H locs ls h hw hl
        unfold f_X6_swallows_J156 at h
        refine fp_X6_86 X hw 0 rfl rfl dX6_swallows_156 (fun H locs hw => ?_)
        have hw : Wd D A s.heap [(h0, .inr (6, [.int thrown_, .ref h_this_s, .ref h_this_saved, .int savedMany_, .ref h_this_snapshot, .int hasSnapshot_, .ref h_this_text, .int length_, .ref h_this_lumps, .int lumpMany_, .ref h_this_order, .ref h_this_nears, .int x20, .int partingWeight_, .int at_, .int isWell_, .ref h_this_told, .int toldMany_])), (h_this_s, .inl (cI, 103, .inl s_)), (h_this_lumps, .inl (cI, 10, .inl lumps_)), (h_this_order, .inl (cI, 10, .inl a17)), (h_this_nears, .inl (cI, 10, .inl a18))] H locs := hw
        refine lv_aload_n hx hb dX6_swallows_159 rfl (lv_at hl 0 rfl) ?_
        refine lv_aload_n hx hb dX6_swallows_160 rfl (lv_at hl 0 rfl) ?_
        refine fg_X6_28 X hw 0 rfl rfl dX6_swallows_161 ?_
        refine lv_aload_n hx hb dX6_swallows_164 rfl (lv_at hl 0 rfl) ?_
        refine fg_X6_77 X hw 0 rfl rfl dX6_swallows_165 ?_
        refine lv_iconst (v := 1) hx hb dX6_swallows_168 (by decide) ?_
        refine lv_isub hx hb dX6_swallows_169 ?_
        obtain ⟨b1, h⟩ := chk_inv h
        refine r_iald X hw 4 rfl b1 rfl dX6_swallows_170 ?_
        refine fp_X6_89 X hw 0 rfl rfl dX6_swallows_171 (fun H locs hw => ?_)
        have hw : Wd D A s.heap [(h0, .inr (6, [.int thrown_, .ref h_this_s, .ref h_this_saved, .int savedMany_, .ref h_this_snapshot, .int hasSnapshot_, .ref h_this_text, .int length_, .ref h_this_lumps, .int lumpMany_, .ref h_this_order, .ref h_this_nears, .int x20, .int (a18 ((lumpMany_ - (1 : Int32))).toNatClampNeg), .int at_, .int isWell_, .ref h_this_told, .int toldMany_])), (h_this_s, .inl (cI, 103, .inl s_)), (h_this_lumps, .inl (cI, 10, .inl lumps_)), (h_this_order, .inl (cI, 10, .inl a17)), (h_this_nears, .inl (cI, 10, .inl a18))] H locs := hw
        obtain ⟨rfl, rfl, rfl, rfl⟩ := oi4 h
        exact r_retv X hw hr hlk dX6_swallows_174
      refine lv_icmp_ne (tgt := 155) hx hb dX6_swallows_141 (by decide) (fun c1 => ?_) (fun c1 => ?_)
      · replace h := ig c1 h
        refine lv_iload_n hx hb dX6_swallows_155 rfl (lv_at hl 0 rfl) ?_
        exact J156 (a17 ((lumpMany_ - (1 : Int32))).toNatClampNeg) _ _ _ h hw (lv_sub hl [1] rfl)
      · replace h := ip c1 h
        refine lv_aload_n hx hb dX6_swallows_144 rfl (lv_at hl 1 rfl) ?_
        obtain ⟨r19, hc, h⟩ := bd1_inv h
        refine r_cVi X hw (As := []) (rest := [.ref h0]) (wr := [(h_this_lumps, .inl (cI, 10, .inl lumps_)), (h_this_order, .inl (cI, 10, .inl a17)), (h_this_nears, .inl (cI, 10, .inl a18))]) (ws' := [(h0, .inr (6, [.int thrown_, .ref h_this_s, .ref h_this_saved, .int savedMany_, .ref h_this_snapshot, .int hasSnapshot_, .ref h_this_text, .int length_, .ref h_this_lumps, .int lumpMany_, .ref h_this_order, .ref h_this_nears, .int partingSet_, .int partingWeight_, .int at_, .int isWell_, .ref h_this_told, .int toldMany_])), (h_this_s, .inl (cI, 103, .inl s_)), (h_this_lumps, .inl (cI, 10, .inl lumps_)), (h_this_order, .inl (cI, 10, .inl a17)), (h_this_nears, .inl (cI, 10, .inl a18))]) (c_X6_all l D cI cC cO h0 h_this_s h_this_saved h_this_snapshot h_this_text h_this_lumps h_this_order h_this_nears h_this_told thrown_ savedMany_ hasSnapshot_ length_ lumpMany_ partingSet_ partingWeight_ at_ isWell_ toldMany_ s_ r19 hc) (cs_X6_49 X (by decide)) [0, 1] [2, 3, 4] [3, 4, 0, 1, 2] rfl rfl rfl rfl (by decide) rfl rfl 0 rfl rfl rfl rfl hl.1 rfl (Nat.le_of_ble_eq_true rfl) dX6_swallows_145 ⟨Nat.zero_le _, Nat.zero_le _⟩ (fun H locs hw => ?_)
        refine lv_iload_n hx hb dX6_swallows_148 rfl (lv_at hl 0 rfl) ?_
        refine lv_iconst (v := -1) hx hb dX6_swallows_149 (by decide) ?_
        refine lv_ixor hx hb dX6_swallows_150 ?_
        refine lv_iand hx hb dX6_swallows_151 ?_
        refine lv_goto (tgt := 156) hx hb dX6_swallows_152 (by decide) ?_
        exact J156 (r19 &&& ((a17 ((lumpMany_ - (1 : Int32))).toNatClampNeg) ^^^ (-1 : Int32))) _ _ _ h hw (lv_sub hl [1] rfl)
    have L66 : ∀ (k14 : (Nat → Int32) → (Nat → Int32) → Option (Int32 × Int32 × (Nat → Int32) × (Nat → Int32))), (∀ (a17 a18 : Nat → Int32) (H : Heap) (locs : List Loc) (ls : Array Slot), k14 a17 a18 = some (partingSet_', partingWeight_', order_', nears_') → Wd D A s.heap [(h0, .inr (6, [.int thrown_, .ref h_this_s, .ref h_this_saved, .int savedMany_, .ref h_this_snapshot, .int hasSnapshot_, .ref h_this_text, .int length_, .ref h_this_lumps, .int lumpMany_, .ref h_this_order, .ref h_this_nears, .int partingSet_, .int partingWeight_, .int at_, .int isWell_, .ref h_this_told, .int toldMany_])), (h_this_s, .inl (cI, 103, .inl s_)), (h_this_lumps, .inl (cI, 10, .inl lumps_)), (h_this_order, .inl (cI, 10, .inl a17)), (h_this_nears, .inl (cI, 10, .inl a18))] H locs → lv_has ls 4 [(0, .ref h0)] → W p l e rmX6_swallows s m ([.ref h0] : List Value).toArray below meth c H locs 0 0 (MQ below (Qv D [(h0, .inr (6, [.int thrown_, .ref h_this_s, .ref h_this_saved, .int savedMany_, .ref h_this_snapshot, .int hasSnapshot_, .ref h_this_text, .int length_, .ref h_this_lumps, .int lumpMany_, .ref h_this_order, .ref h_this_nears, .int partingSet_', .int partingWeight_', .int at_, .int isWell_, .ref h_this_told, .int toldMany_])), (h_this_s, .inl (cI, 103, .inl s_)), (h_this_lumps, .inl (cI, 10, .inl lumps_)), (h_this_order, .inl (cI, 10, .inl order_')), (h_this_nears, .inl (cI, 10, .inl nears_'))] A) ([.ref h0] : List Value).toArray s 0 0 A) (F0 m 124 ls [])) → ∀ (n16 : Nat), ∀ (x8 x9 : Int32) (a10 a11 : Nat → Int32) (H : Heap) (locs : List Loc) (ls : Array Slot), f_X6_swallows_L66 N lumpMany_ s_ lumps_ k14 n16 x8 x9 a10 a11 = some (partingSet_', partingWeight_', order_', nears_') → Wd D A s.heap [(h0, .inr (6, [.int thrown_, .ref h_this_s, .ref h_this_saved, .int savedMany_, .ref h_this_snapshot, .int hasSnapshot_, .ref h_this_text, .int length_, .ref h_this_lumps, .int lumpMany_, .ref h_this_order, .ref h_this_nears, .int partingSet_, .int partingWeight_, .int at_, .int isWell_, .ref h_this_told, .int toldMany_])), (h_this_s, .inl (cI, 103, .inl s_)), (h_this_lumps, .inl (cI, 10, .inl lumps_)), (h_this_order, .inl (cI, 10, .inl a10)), (h_this_nears, .inl (cI, 10, .inl a11))] H locs → lv_has ls 4 [(0, .ref h0), (1, .int x8), (2, .int x9)] → W p l e rmX6_swallows s m ([.ref h0] : List Value).toArray below meth c H locs 0 0 (MQ below (Qv D [(h0, .inr (6, [.int thrown_, .ref h_this_s, .ref h_this_saved, .int savedMany_, .ref h_this_snapshot, .int hasSnapshot_, .ref h_this_text, .int length_, .ref h_this_lumps, .int lumpMany_, .ref h_this_order, .ref h_this_nears, .int partingSet_', .int partingWeight_', .int at_, .int isWell_, .ref h_this_told, .int toldMany_])), (h_this_s, .inl (cI, 103, .inl s_)), (h_this_lumps, .inl (cI, 10, .inl lumps_)), (h_this_order, .inl (cI, 10, .inl order_')), (h_this_nears, .inl (cI, 10, .inl nears_'))] A) ([.ref h0] : List Value).toArray s 0 0 A) (F0 m 66 ls []) := by
      intro k14 hk66 n16
      induction n16 with
      | zero => intro x8 x9 a10 a11 H locs ls h; cases h
      | succ n16 ih66 =>
        intro x8 x9 a10 a11 H locs ls h hw hl
        rw [f_X6_swallows_L66] at h
        refine lv_iload_n hx hb dX6_swallows_66 rfl (lv_at hl 2 rfl) ?_
        refine lv_aload_n hx hb dX6_swallows_67 rfl (lv_at hl 0 rfl) ?_
        refine fg_X6_77 X hw 0 rfl rfl dX6_swallows_68 ?_
        refine lv_icmp_ge (tgt := 124) hx hb dX6_swallows_71 (by decide) (fun c1 => ?_) (fun c1 => ?_)
        · replace h := ip c1 h
          exact hk66 a10 a11 _ _ _ h hw (lv_sub hl [0] rfl)
        · replace h := ig c1 h
          refine lv_aload_n hx hb dX6_swallows_74 rfl (lv_at hl 0 rfl) ?_
          refine lv_iload_n hx hb dX6_swallows_75 rfl (lv_at hl 1 rfl) ?_
          obtain ⟨r12, hc, h⟩ := bd1_inv h
          refine r_cVi X hw (As := [.int x8]) (rest := []) (wr := [(h_this_order, .inl (cI, 10, .inl a10)), (h_this_nears, .inl (cI, 10, .inl a11))]) (ws' := [(h0, .inr (6, [.int thrown_, .ref h_this_s, .ref h_this_saved, .int savedMany_, .ref h_this_snapshot, .int hasSnapshot_, .ref h_this_text, .int length_, .ref h_this_lumps, .int lumpMany_, .ref h_this_order, .ref h_this_nears, .int partingSet_, .int partingWeight_, .int at_, .int isWell_, .ref h_this_told, .int toldMany_])), (h_this_s, .inl (cI, 103, .inl s_)), (h_this_lumps, .inl (cI, 10, .inl lumps_)), (h_this_order, .inl (cI, 10, .inl a10)), (h_this_nears, .inl (cI, 10, .inl a11))]) (c_X6_nearest l D cI cC cO N h0 h_this_s h_this_saved h_this_snapshot h_this_text h_this_lumps h_this_order h_this_nears h_this_told x8 thrown_ savedMany_ hasSnapshot_ length_ lumpMany_ partingSet_ partingWeight_ at_ isWell_ toldMany_ s_ lumps_ r12 hc) (cs_X6_83 X (by decide)) [0, 1, 2] [3, 4] [2, 3, 4, 0, 1] rfl rfl rfl rfl (by decide) rfl rfl 0 rfl rfl rfl rfl hl.1 rfl (Nat.le_of_ble_eq_true rfl) dX6_swallows_76 ⟨Nat.zero_le _, Nat.zero_le _⟩ (fun H locs hw => ?_)
          refine lv_istore_n (lv' := [(3, .int r12), (0, .ref h0), (1, .int x8), (2, .int x9)]) hx hb dX6_swallows_79 rfl hl (by decide) rfl (fun ls hl => ?_)
          refine lv_aload_n hx hb dX6_swallows_80 rfl (lv_at hl 1 rfl) ?_
          refine fg_X6_25 X hw 0 rfl rfl dX6_swallows_81 ?_
          refine lv_iload_n hx hb dX6_swallows_84 rfl (lv_at hl 3 rfl) ?_
          refine lv_aload_n hx hb dX6_swallows_85 rfl (lv_at hl 1 rfl) ?_
          refine fg_X6_22 X hw 0 rfl rfl dX6_swallows_86 ?_
          refine lv_iload_n hx hb dX6_swallows_89 rfl (lv_at hl 0 rfl) ?_
          obtain ⟨b1, h⟩ := chk_inv h
          refine r_iald X hw 2 rfl b1 rfl dX6_swallows_90 ?_
          obtain ⟨b1, h⟩ := chk_inv h
          refine r_iast X hw 3 rfl b1 rfl dX6_swallows_91 (fun H locs hw => ?_)
          have hw : Wd D A s.heap [(h0, .inr (6, [.int thrown_, .ref h_this_s, .ref h_this_saved, .int savedMany_, .ref h_this_snapshot, .int hasSnapshot_, .ref h_this_text, .int length_, .ref h_this_lumps, .int lumpMany_, .ref h_this_order, .ref h_this_nears, .int partingSet_, .int partingWeight_, .int at_, .int isWell_, .ref h_this_told, .int toldMany_])), (h_this_s, .inl (cI, 103, .inl s_)), (h_this_lumps, .inl (cI, 10, .inl lumps_)), (h_this_order, .inl (cI, 10, .inl (upd a10 (x9).toNatClampNeg (lumps_ (r12).toNatClampNeg)))), (h_this_nears, .inl (cI, 10, .inl a11))] H locs := hw
          refine lv_aload_n hx hb dX6_swallows_92 rfl (lv_at hl 1 rfl) ?_
          refine fg_X6_28 X hw 0 rfl rfl dX6_swallows_93 ?_
          refine lv_iload_n hx hb dX6_swallows_96 rfl (lv_at hl 3 rfl) ?_
          refine lv_aload_n hx hb dX6_swallows_97 rfl (lv_at hl 1 rfl) ?_
          refine lv_aload_n hx hb dX6_swallows_98 rfl (lv_at hl 1 rfl) ?_
          refine fg_X6_22 X hw 0 rfl rfl dX6_swallows_99 ?_
          refine lv_iload_n hx hb dX6_swallows_102 rfl (lv_at hl 0 rfl) ?_
          obtain ⟨b1, h⟩ := chk_inv h
          refine r_iald X hw 2 rfl b1 rfl dX6_swallows_103 ?_
          refine lv_iload_n hx hb dX6_swallows_104 rfl (lv_at hl 2 rfl) ?_
          obtain ⟨r13, hc, h⟩ := bd1_inv h
          refine r_cVi X hw (As := [.int (lumps_ (r12).toNatClampNeg), .int x8]) (rest := [.int x9, .ref h_this_nears]) (wr := [(h_this_lumps, .inl (cI, 10, .inl lumps_)), (h_this_order, .inl (cI, 10, .inl (upd a10 (x9).toNatClampNeg (lumps_ (r12).toNatClampNeg)))), (h_this_nears, .inl (cI, 10, .inl a11))]) (ws' := [(h0, .inr (6, [.int thrown_, .ref h_this_s, .ref h_this_saved, .int savedMany_, .ref h_this_snapshot, .int hasSnapshot_, .ref h_this_text, .int length_, .ref h_this_lumps, .int lumpMany_, .ref h_this_order, .ref h_this_nears, .int partingSet_, .int partingWeight_, .int at_, .int isWell_, .ref h_this_told, .int toldMany_])), (h_this_s, .inl (cI, 103, .inl s_)), (h_this_lumps, .inl (cI, 10, .inl lumps_)), (h_this_order, .inl (cI, 10, .inl (upd a10 (x9).toNatClampNeg (lumps_ (r12).toNatClampNeg)))), (h_this_nears, .inl (cI, 10, .inl a11))]) (c_X6_weightBetween l D cI cC cO N h0 h_this_s h_this_saved h_this_snapshot h_this_text h_this_lumps h_this_order h_this_nears h_this_told (lumps_ (r12).toNatClampNeg) x8 thrown_ savedMany_ hasSnapshot_ length_ lumpMany_ partingSet_ partingWeight_ at_ isWell_ toldMany_ s_ r13 hc) (cs_X6_53 X (by decide)) [0, 1] [2, 3, 4] [3, 4, 0, 1, 2] rfl rfl rfl rfl (by decide) rfl rfl 0 rfl rfl rfl rfl hl.1 rfl (Nat.le_of_ble_eq_true rfl) dX6_swallows_105 ⟨Nat.zero_le _, Nat.zero_le _⟩ (fun H locs hw => ?_)
          obtain ⟨b1, h⟩ := chk_inv h
          refine r_iast X hw 4 rfl b1 rfl dX6_swallows_108 (fun H locs hw => ?_)
          have hw : Wd D A s.heap [(h0, .inr (6, [.int thrown_, .ref h_this_s, .ref h_this_saved, .int savedMany_, .ref h_this_snapshot, .int hasSnapshot_, .ref h_this_text, .int length_, .ref h_this_lumps, .int lumpMany_, .ref h_this_order, .ref h_this_nears, .int partingSet_, .int partingWeight_, .int at_, .int isWell_, .ref h_this_told, .int toldMany_])), (h_this_s, .inl (cI, 103, .inl s_)), (h_this_lumps, .inl (cI, 10, .inl lumps_)), (h_this_order, .inl (cI, 10, .inl (upd a10 (x9).toNatClampNeg (lumps_ (r12).toNatClampNeg)))), (h_this_nears, .inl (cI, 10, .inl (upd a11 (x9).toNatClampNeg r13)))] H locs := hw
          refine lv_iload_n hx hb dX6_swallows_109 rfl (lv_at hl 2 rfl) ?_
          refine lv_aload_n hx hb dX6_swallows_110 rfl (lv_at hl 1 rfl) ?_
          refine fg_X6_22 X hw 0 rfl rfl dX6_swallows_111 ?_
          refine lv_iload_n hx hb dX6_swallows_114 rfl (lv_at hl 0 rfl) ?_
          obtain ⟨b1, h⟩ := chk_inv h
          refine r_iald X hw 2 rfl b1 rfl dX6_swallows_115 ?_
          refine lv_ior hx hb dX6_swallows_116 ?_
          refine lv_istore_n (lv' := [(1, .int (x8 ||| (lumps_ (r12).toNatClampNeg))), (3, .int r12), (0, .ref h0), (2, .int x9)]) hx hb dX6_swallows_117 rfl hl (by decide) rfl (fun ls hl => ?_)
          refine lv_iinc (v := (x9 + (1 : Int32))) (lv' := [(2, .int (x9 + (1 : Int32))), (1, .int (x8 ||| (lumps_ (r12).toNatClampNeg))), (3, .int r12), (0, .ref h0)]) hx hb dX6_swallows_118 hl (k := 3) rfl rfl (by decide) rfl (fun ls hl => ?_)
          refine lv_goto (tgt := 66) hx hb dX6_swallows_121 (by decide) ?_
          exact ih66 (x8 ||| (lumps_ (r12).toNatClampNeg)) (x9 + (1 : Int32)) (upd a10 (x9).toNatClampNeg (lumps_ (r12).toNatClampNeg)) (upd a11 (x9).toNatClampNeg r13) _ _ _ h hw (lv_sub hl [3, 1, 0] rfl)
    exact L66 (fun a17 a18 => f_X6_swallows_E124 lumpMany_ s_ a17 a18) (fun a17 a18 H locs ls h hw hl => E124 a17 a18 H locs ls h hw hl) N x7 (1 : Int32) (upd order_ 0 x7) (upd nears_ 0 (0 : Int32)) _ _ _ h hw (lv_sub hl [1, 2, 0] rfl)
  have L4 : ∀ (k4 : Int32 → Option (Int32 × Int32 × (Nat → Int32) × (Nat → Int32))), (∀ (x7 : Int32) (H : Heap) (locs : List Loc) (ls : Array Slot), k4 x7 = some (partingSet_', partingWeight_', order_', nears_') → Wd D A s.heap [(h0, .inr (6, [.int thrown_, .ref h_this_s, .ref h_this_saved, .int savedMany_, .ref h_this_snapshot, .int hasSnapshot_, .ref h_this_text, .int length_, .ref h_this_lumps, .int lumpMany_, .ref h_this_order, .ref h_this_nears, .int partingSet_, .int partingWeight_, .int at_, .int isWell_, .ref h_this_told, .int toldMany_])), (h_this_s, .inl (cI, 103, .inl s_)), (h_this_lumps, .inl (cI, 10, .inl lumps_)), (h_this_order, .inl (cI, 10, .inl order_)), (h_this_nears, .inl (cI, 10, .inl nears_))] H locs → lv_has ls 4 [(0, .ref h0), (1, .int x7)] → W p l e rmX6_swallows s m ([.ref h0] : List Value).toArray below meth c H locs 0 0 (MQ below (Qv D [(h0, .inr (6, [.int thrown_, .ref h_this_s, .ref h_this_saved, .int savedMany_, .ref h_this_snapshot, .int hasSnapshot_, .ref h_this_text, .int length_, .ref h_this_lumps, .int lumpMany_, .ref h_this_order, .ref h_this_nears, .int partingSet_', .int partingWeight_', .int at_, .int isWell_, .ref h_this_told, .int toldMany_])), (h_this_s, .inl (cI, 103, .inl s_)), (h_this_lumps, .inl (cI, 10, .inl lumps_)), (h_this_order, .inl (cI, 10, .inl order_')), (h_this_nears, .inl (cI, 10, .inl nears_'))] A) ([.ref h0] : List Value).toArray s 0 0 A) (F0 m 50 ls [])) → ∀ (n6 : Nat), ∀ (x1 x2 : Int32) (H : Heap) (locs : List Loc) (ls : Array Slot), f_X6_swallows_L4 lumpMany_ lumps_ s_ k4 n6 x1 x2 = some (partingSet_', partingWeight_', order_', nears_') → Wd D A s.heap [(h0, .inr (6, [.int thrown_, .ref h_this_s, .ref h_this_saved, .int savedMany_, .ref h_this_snapshot, .int hasSnapshot_, .ref h_this_text, .int length_, .ref h_this_lumps, .int lumpMany_, .ref h_this_order, .ref h_this_nears, .int partingSet_, .int partingWeight_, .int at_, .int isWell_, .ref h_this_told, .int toldMany_])), (h_this_s, .inl (cI, 103, .inl s_)), (h_this_lumps, .inl (cI, 10, .inl lumps_)), (h_this_order, .inl (cI, 10, .inl order_)), (h_this_nears, .inl (cI, 10, .inl nears_))] H locs → lv_has ls 4 [(0, .ref h0), (1, .int x1), (2, .int x2)] → W p l e rmX6_swallows s m ([.ref h0] : List Value).toArray below meth c H locs 0 0 (MQ below (Qv D [(h0, .inr (6, [.int thrown_, .ref h_this_s, .ref h_this_saved, .int savedMany_, .ref h_this_snapshot, .int hasSnapshot_, .ref h_this_text, .int length_, .ref h_this_lumps, .int lumpMany_, .ref h_this_order, .ref h_this_nears, .int partingSet_', .int partingWeight_', .int at_, .int isWell_, .ref h_this_told, .int toldMany_])), (h_this_s, .inl (cI, 103, .inl s_)), (h_this_lumps, .inl (cI, 10, .inl lumps_)), (h_this_order, .inl (cI, 10, .inl order_')), (h_this_nears, .inl (cI, 10, .inl nears_'))] A) ([.ref h0] : List Value).toArray s 0 0 A) (F0 m 4 ls []) := by
    intro k4 hk4 n6
    induction n6 with
    | zero => intro x1 x2 H locs ls h; cases h
    | succ n6 ih4 =>
      intro x1 x2 H locs ls h hw hl
      rw [f_X6_swallows_L4] at h
      refine lv_iload_n hx hb dX6_swallows_4 rfl (lv_at hl 2 rfl) ?_
      refine lv_aload_n hx hb dX6_swallows_5 rfl (lv_at hl 0 rfl) ?_
      refine fg_X6_77 X hw 0 rfl rfl dX6_swallows_6 ?_
      refine lv_icmp_ge (tgt := 50) hx hb dX6_swallows_9 (by decide) (fun c1 => ?_) (fun c1 => ?_)
      · replace h := ip c1 h
        exact hk4 x1 _ _ _ h hw (lv_sub hl [0, 1] rfl)
      · replace h := ig c1 h
        refine lv_iload_n hx hb dX6_swallows_12 rfl (lv_at hl 1 rfl) ?_
        refine lv_aload_n hx hb dX6_swallows_13 rfl (lv_at hl 0 rfl) ?_
        refine fg_X6_22 X hw 0 rfl rfl dX6_swallows_14 ?_
        refine lv_iload_n hx hb dX6_swallows_17 rfl (lv_at hl 2 rfl) ?_
        obtain ⟨b1, h⟩ := chk_inv h
        refine r_iald X hw 2 rfl b1 rfl dX6_swallows_18 ?_
        refine lv_aload_n hx hb dX6_swallows_19 rfl (lv_at hl 0 rfl) ?_
        refine fg_X6_7 X hw 0 rfl rfl dX6_swallows_20 ?_
        refine lv_iconst (v := 1) hx hb dX6_swallows_23 (by decide) ?_
        refine r_iald X hw 1 rfl (v := (s_ 1)) (vp_lit (by decide)) rfl dX6_swallows_24 ?_
        refine lv_ishr hx hb dX6_swallows_25 ?_
        refine lv_iconst (v := 1) hx hb dX6_swallows_26 (by decide) ?_
        refine lv_iand hx hb dX6_swallows_27 ?_
        refine lv_iconst (v := 1) hx hb dX6_swallows_28 (by decide) ?_
        have J42 : ∀ (x3 : Int32) (H : Heap) (locs : List Loc) (ls : Array Slot), f_X6_swallows_J42 (f_X6_swallows_L4 lumpMany_ lumps_ s_ k4 n6) x1 x2 x3 = some (partingSet_', partingWeight_', order_', nears_') → Wd D A s.heap [(h0, .inr (6, [.int thrown_, .ref h_this_s, .ref h_this_saved, .int savedMany_, .ref h_this_snapshot, .int hasSnapshot_, .ref h_this_text, .int length_, .ref h_this_lumps, .int lumpMany_, .ref h_this_order, .ref h_this_nears, .int partingSet_, .int partingWeight_, .int at_, .int isWell_, .ref h_this_told, .int toldMany_])), (h_this_s, .inl (cI, 103, .inl s_)), (h_this_lumps, .inl (cI, 10, .inl lumps_)), (h_this_order, .inl (cI, 10, .inl order_)), (h_this_nears, .inl (cI, 10, .inl nears_))] H locs → lv_has ls 4 [(0, .ref h0), (2, .int x2)] → W p l e rmX6_swallows s m ([.ref h0] : List Value).toArray below meth c H locs 0 0 (MQ below (Qv D [(h0, .inr (6, [.int thrown_, .ref h_this_s, .ref h_this_saved, .int savedMany_, .ref h_this_snapshot, .int hasSnapshot_, .ref h_this_text, .int length_, .ref h_this_lumps, .int lumpMany_, .ref h_this_order, .ref h_this_nears, .int partingSet_', .int partingWeight_', .int at_, .int isWell_, .ref h_this_told, .int toldMany_])), (h_this_s, .inl (cI, 103, .inl s_)), (h_this_lumps, .inl (cI, 10, .inl lumps_)), (h_this_order, .inl (cI, 10, .inl order_')), (h_this_nears, .inl (cI, 10, .inl nears_'))] A) ([.ref h0] : List Value).toArray s 0 0 A) (F0 m 42 ls [.int x3, .int x1]) := by
          intro x3 H locs ls h hw hl
          unfold f_X6_swallows_J42 at h
          refine lv_ior hx hb dX6_swallows_42 ?_
          refine lv_istore_n (lv' := [(1, .int (x1 ||| x3)), (0, .ref h0), (2, .int x2)]) hx hb dX6_swallows_43 rfl hl (by decide) rfl (fun ls hl => ?_)
          refine lv_iinc (v := (x2 + (1 : Int32))) (lv' := [(2, .int (x2 + (1 : Int32))), (1, .int (x1 ||| x3)), (0, .ref h0)]) hx hb dX6_swallows_44 hl (k := 2) rfl rfl (by decide) rfl (fun ls hl => ?_)
          refine lv_goto (tgt := 4) hx hb dX6_swallows_47 (by decide) ?_
          exact ih4 (x1 ||| x3) (x2 + (1 : Int32)) _ _ _ h hw (lv_sub hl [2, 1, 0] rfl)
        refine lv_icmp_ne (tgt := 41) hx hb dX6_swallows_29 (by decide) (fun c1 => ?_) (fun c1 => ?_)
        · replace h := ig c1 h
          refine lv_iconst (v := 0) hx hb dX6_swallows_41 (by decide) ?_
          exact J42 (0 : Int32) _ _ _ h hw (lv_sub hl [0, 2] rfl)
        · replace h := ip c1 h
          refine lv_aload_n hx hb dX6_swallows_32 rfl (lv_at hl 0 rfl) ?_
          refine fg_X6_22 X hw 0 rfl rfl dX6_swallows_33 ?_
          refine lv_iload_n hx hb dX6_swallows_36 rfl (lv_at hl 2 rfl) ?_
          obtain ⟨b1, h⟩ := chk_inv h
          refine r_iald X hw 2 rfl b1 rfl dX6_swallows_37 ?_
          refine lv_goto (tgt := 42) hx hb dX6_swallows_38 (by decide) ?_
          exact J42 (lumps_ (x2).toNatClampNeg) _ _ _ h hw (lv_sub hl [0, 2] rfl)
  exact L4 (fun x7 => f_X6_swallows_E50 N lumpMany_ s_ lumps_ order_ nears_ x7) (fun x7 H locs ls h hw hl => E50 x7 H locs ls h hw hl) N (0 : Int32) (0 : Int32) _ _ _ h hw (lv_sub hl [2, 1, 0] rfl)
def rmX6_joinsLast : Room := { frames := 0, cells := 0, slots := 0, locals := 0 }
set_option maxHeartbeats 4000000 in
set_option maxRecDepth 100000 in
theorem c_X6_joinsLast (l : Launch) (D : va_G) (cI cC cO : ClassId) (N : Nat) (h0 h_this_s h_this_saved h_this_snapshot h_this_text h_this_lumps h_this_order h_this_nears h_this_told : Nat) (thrown_ savedMany_ hasSnapshot_ length_ lumpMany_ partingSet_ partingWeight_ at_ isWell_ toldMany_ : Int32) (lumps_ order_ : Nat → Int32) (lumpMany_' : Int32) (lumps_' : Nat → Int32) (h : f_X6_joinsLast N lumpMany_ lumps_ order_ = some (lumpMany_', lumps_')) : CV l yX6_joinsLast (Wy yX6_joinsLast cX6_joinsLast 5 none) rmX6_joinsLast D cI cC cO [.ref h0] [(h0, .inr (6, [.int thrown_, .ref h_this_s, .ref h_this_saved, .int savedMany_, .ref h_this_snapshot, .int hasSnapshot_, .ref h_this_text, .int length_, .ref h_this_lumps, .int lumpMany_, .ref h_this_order, .ref h_this_nears, .int partingSet_, .int partingWeight_, .int at_, .int isWell_, .ref h_this_told, .int toldMany_])), (h_this_lumps, .inl (cI, 10, .inl lumps_)), (h_this_order, .inl (cI, 10, .inl order_))] [(h0, .inr (6, [.int thrown_, .ref h_this_s, .ref h_this_saved, .int savedMany_, .ref h_this_snapshot, .int hasSnapshot_, .ref h_this_text, .int length_, .ref h_this_lumps, .int lumpMany_', .ref h_this_order, .ref h_this_nears, .int partingSet_, .int partingWeight_, .int at_, .int isWell_, .ref h_this_told, .int toldMany_])), (h_this_lumps, .inl (cI, 10, .inl lumps_')), (h_this_order, .inl (cI, 10, .inl order_))] := by
  refine enter_v RX6 (by decide) rfl (Nat.le_of_ble_eq_true rfl) ?_
  intro p e s m below meth c A X hr hlk hw ls hl
  have hx := X.1.1
  have hb := X.1.2.1
  have hl : lv_has ls 5 [(0, .ref h0)] := hl
  unfold f_X6_joinsLast at h
  refine lv_aload_n hx hb dX6_joinsLast_0 rfl (lv_at hl 0 rfl) ?_
  refine fg_X6_25 X hw 0 rfl rfl dX6_joinsLast_1 ?_
  refine lv_aload_n hx hb dX6_joinsLast_4 rfl (lv_at hl 0 rfl) ?_
  refine fg_X6_77 X hw 0 rfl rfl dX6_joinsLast_5 ?_
  refine lv_iconst (v := 1) hx hb dX6_joinsLast_8 (by decide) ?_
  refine lv_isub hx hb dX6_joinsLast_9 ?_
  obtain ⟨b1, h⟩ := chk_inv h
  refine r_iald X hw 2 rfl b1 rfl dX6_joinsLast_10 ?_
  refine lv_istore_n (lv' := [(1, .int (order_ ((lumpMany_ - (1 : Int32))).toNatClampNeg)), (0, .ref h0)]) hx hb dX6_joinsLast_11 rfl hl (by decide) rfl (fun ls hl => ?_)
  refine lv_aload_n hx hb dX6_joinsLast_12 rfl (lv_at hl 1 rfl) ?_
  refine fg_X6_25 X hw 0 rfl rfl dX6_joinsLast_13 ?_
  refine lv_aload_n hx hb dX6_joinsLast_16 rfl (lv_at hl 1 rfl) ?_
  refine fg_X6_77 X hw 0 rfl rfl dX6_joinsLast_17 ?_
  refine lv_iconst (v := 2) hx hb dX6_joinsLast_20 (by decide) ?_
  refine lv_isub hx hb dX6_joinsLast_21 ?_
  obtain ⟨b1, h⟩ := chk_inv h
  refine r_iald X hw 2 rfl b1 rfl dX6_joinsLast_22 ?_
  refine lv_istore_n (lv' := [(2, .int (order_ ((lumpMany_ - (2 : Int32))).toNatClampNeg)), (1, .int (order_ ((lumpMany_ - (1 : Int32))).toNatClampNeg)), (0, .ref h0)]) hx hb dX6_joinsLast_23 rfl hl (by decide) rfl (fun ls hl => ?_)
  refine lv_iconst (v := 0) hx hb dX6_joinsLast_24 (by decide) ?_
  refine lv_istore_n (lv' := [(3, .int (0 : Int32)), (2, .int (order_ ((lumpMany_ - (2 : Int32))).toNatClampNeg)), (1, .int (order_ ((lumpMany_ - (1 : Int32))).toNatClampNeg)), (0, .ref h0)]) hx hb dX6_joinsLast_25 rfl hl (by decide) rfl (fun ls hl => ?_)
  refine lv_iconst (v := 0) hx hb dX6_joinsLast_26 (by decide) ?_
  refine lv_istore (lv' := [(4, .int (0 : Int32)), (3, .int (0 : Int32)), (2, .int (order_ ((lumpMany_ - (2 : Int32))).toNatClampNeg)), (1, .int (order_ ((lumpMany_ - (1 : Int32))).toNatClampNeg)), (0, .ref h0)]) hx hb dX6_joinsLast_27 hl (by decide) rfl (fun ls hl => ?_)
  have E88 : ∀ (x10 : Int32) (a11 : Nat → Int32) (H : Heap) (locs : List Loc) (ls : Array Slot), f_X6_joinsLast_E88 x10 a11 = some (lumpMany_', lumps_') → Wd D A s.heap [(h0, .inr (6, [.int thrown_, .ref h_this_s, .ref h_this_saved, .int savedMany_, .ref h_this_snapshot, .int hasSnapshot_, .ref h_this_text, .int length_, .ref h_this_lumps, .int lumpMany_, .ref h_this_order, .ref h_this_nears, .int partingSet_, .int partingWeight_, .int at_, .int isWell_, .ref h_this_told, .int toldMany_])), (h_this_lumps, .inl (cI, 10, .inl a11)), (h_this_order, .inl (cI, 10, .inl order_))] H locs → lv_has ls 5 [(0, .ref h0), (3, .int x10)] → W p l e rmX6_joinsLast s m ([.ref h0] : List Value).toArray below meth c H locs 0 0 (MQ below (Qv D [(h0, .inr (6, [.int thrown_, .ref h_this_s, .ref h_this_saved, .int savedMany_, .ref h_this_snapshot, .int hasSnapshot_, .ref h_this_text, .int length_, .ref h_this_lumps, .int lumpMany_', .ref h_this_order, .ref h_this_nears, .int partingSet_, .int partingWeight_, .int at_, .int isWell_, .ref h_this_told, .int toldMany_])), (h_this_lumps, .inl (cI, 10, .inl lumps_')), (h_this_order, .inl (cI, 10, .inl order_))] A) ([.ref h0] : List Value).toArray s 0 0 A) (F0 m 88 ls []) := by
    intro x10 a11 H locs ls h hw hl
    unfold f_X6_joinsLast_E88 at h
    refine lv_aload_n hx hb dX6_joinsLast_88 rfl (lv_at hl 0 rfl) ?_
    refine lv_iload_n hx hb dX6_joinsLast_89 rfl (lv_at hl 1 rfl) ?_
    refine fp_X6_77 X hw 0 rfl rfl dX6_joinsLast_90 (fun H locs hw => ?_)
    have hw : Wd D A s.heap [(h0, .inr (6, [.int thrown_, .ref h_this_s, .ref h_this_saved, .int savedMany_, .ref h_this_snapshot, .int hasSnapshot_, .ref h_this_text, .int length_, .ref h_this_lumps, .int x10, .ref h_this_order, .ref h_this_nears, .int partingSet_, .int partingWeight_, .int at_, .int isWell_, .ref h_this_told, .int toldMany_])), (h_this_lumps, .inl (cI, 10, .inl a11)), (h_this_order, .inl (cI, 10, .inl order_))] H locs := hw
    obtain ⟨rfl, rfl⟩ := oi2 h
    exact r_retv X hw hr hlk dX6_joinsLast_93
  have L29 : ∀ (k7 : Int32 → (Nat → Int32) → Option (Int32 × (Nat → Int32))), (∀ (x10 : Int32) (a11 : Nat → Int32) (H : Heap) (locs : List Loc) (ls : Array Slot), k7 x10 a11 = some (lumpMany_', lumps_') → Wd D A s.heap [(h0, .inr (6, [.int thrown_, .ref h_this_s, .ref h_this_saved, .int savedMany_, .ref h_this_snapshot, .int hasSnapshot_, .ref h_this_text, .int length_, .ref h_this_lumps, .int lumpMany_, .ref h_this_order, .ref h_this_nears, .int partingSet_, .int partingWeight_, .int at_, .int isWell_, .ref h_this_told, .int toldMany_])), (h_this_lumps, .inl (cI, 10, .inl a11)), (h_this_order, .inl (cI, 10, .inl order_))] H locs → lv_has ls 5 [(0, .ref h0), (3, .int x10)] → W p l e rmX6_joinsLast s m ([.ref h0] : List Value).toArray below meth c H locs 0 0 (MQ below (Qv D [(h0, .inr (6, [.int thrown_, .ref h_this_s, .ref h_this_saved, .int savedMany_, .ref h_this_snapshot, .int hasSnapshot_, .ref h_this_text, .int length_, .ref h_this_lumps, .int lumpMany_', .ref h_this_order, .ref h_this_nears, .int partingSet_, .int partingWeight_, .int at_, .int isWell_, .ref h_this_told, .int toldMany_])), (h_this_lumps, .inl (cI, 10, .inl lumps_')), (h_this_order, .inl (cI, 10, .inl order_))] A) ([.ref h0] : List Value).toArray s 0 0 A) (F0 m 88 ls [])) → ∀ (n9 : Nat), ∀ (x1 x2 : Int32) (a3 : Nat → Int32) (H : Heap) (locs : List Loc) (ls : Array Slot), f_X6_joinsLast_L29 lumpMany_ order_ k7 n9 x1 x2 a3 = some (lumpMany_', lumps_') → Wd D A s.heap [(h0, .inr (6, [.int thrown_, .ref h_this_s, .ref h_this_saved, .int savedMany_, .ref h_this_snapshot, .int hasSnapshot_, .ref h_this_text, .int length_, .ref h_this_lumps, .int lumpMany_, .ref h_this_order, .ref h_this_nears, .int partingSet_, .int partingWeight_, .int at_, .int isWell_, .ref h_this_told, .int toldMany_])), (h_this_lumps, .inl (cI, 10, .inl a3)), (h_this_order, .inl (cI, 10, .inl order_))] H locs → lv_has ls 5 [(0, .ref h0), (1, .int (order_ ((lumpMany_ - (1 : Int32))).toNatClampNeg)), (2, .int (order_ ((lumpMany_ - (2 : Int32))).toNatClampNeg)), (3, .int x1), (4, .int x2)] → W p l e rmX6_joinsLast s m ([.ref h0] : List Value).toArray below meth c H locs 0 0 (MQ below (Qv D [(h0, .inr (6, [.int thrown_, .ref h_this_s, .ref h_this_saved, .int savedMany_, .ref h_this_snapshot, .int hasSnapshot_, .ref h_this_text, .int length_, .ref h_this_lumps, .int lumpMany_', .ref h_this_order, .ref h_this_nears, .int partingSet_, .int partingWeight_, .int at_, .int isWell_, .ref h_this_told, .int toldMany_])), (h_this_lumps, .inl (cI, 10, .inl lumps_')), (h_this_order, .inl (cI, 10, .inl order_))] A) ([.ref h0] : List Value).toArray s 0 0 A) (F0 m 29 ls []) := by
    intro k7 hk29 n9
    induction n9 with
    | zero => intro x1 x2 a3 H locs ls h; cases h
    | succ n9 ih29 =>
      intro x1 x2 a3 H locs ls h hw hl
      rw [f_X6_joinsLast_L29] at h
      refine lv_iload hx hb dX6_joinsLast_29 (lv_at hl 4 rfl) ?_
      refine lv_aload_n hx hb dX6_joinsLast_31 rfl (lv_at hl 0 rfl) ?_
      refine fg_X6_77 X hw 0 rfl rfl dX6_joinsLast_32 ?_
      refine lv_icmp_ge (tgt := 88) hx hb dX6_joinsLast_35 (by decide) (fun c1 => ?_) (fun c1 => ?_)
      · replace h := ip c1 h
        exact hk29 x1 a3 _ _ _ h hw (lv_sub hl [0, 3] rfl)
      · replace h := ig c1 h
        refine lv_aload_n hx hb dX6_joinsLast_38 rfl (lv_at hl 0 rfl) ?_
        refine fg_X6_22 X hw 0 rfl rfl dX6_joinsLast_39 ?_
        refine lv_iload hx hb dX6_joinsLast_42 (lv_at hl 4 rfl) ?_
        obtain ⟨b1, h⟩ := chk_inv h
        refine r_iald X hw 1 rfl b1 rfl dX6_joinsLast_44 ?_
        refine lv_iload_n hx hb dX6_joinsLast_45 rfl (lv_at hl 1 rfl) ?_
        have J82 : ∀ (x5 : Int32) (a6 : Nat → Int32) (H : Heap) (locs : List Loc) (ls : Array Slot), f_X6_joinsLast_J82 (f_X6_joinsLast_L29 lumpMany_ order_ k7 n9) x2 x5 a6 = some (lumpMany_', lumps_') → Wd D A s.heap [(h0, .inr (6, [.int thrown_, .ref h_this_s, .ref h_this_saved, .int savedMany_, .ref h_this_snapshot, .int hasSnapshot_, .ref h_this_text, .int length_, .ref h_this_lumps, .int lumpMany_, .ref h_this_order, .ref h_this_nears, .int partingSet_, .int partingWeight_, .int at_, .int isWell_, .ref h_this_told, .int toldMany_])), (h_this_lumps, .inl (cI, 10, .inl a6)), (h_this_order, .inl (cI, 10, .inl order_))] H locs → lv_has ls 5 [(0, .ref h0), (1, .int (order_ ((lumpMany_ - (1 : Int32))).toNatClampNeg)), (2, .int (order_ ((lumpMany_ - (2 : Int32))).toNatClampNeg)), (3, .int x5), (4, .int x2)] → W p l e rmX6_joinsLast s m ([.ref h0] : List Value).toArray below meth c H locs 0 0 (MQ below (Qv D [(h0, .inr (6, [.int thrown_, .ref h_this_s, .ref h_this_saved, .int savedMany_, .ref h_this_snapshot, .int hasSnapshot_, .ref h_this_text, .int length_, .ref h_this_lumps, .int lumpMany_', .ref h_this_order, .ref h_this_nears, .int partingSet_, .int partingWeight_, .int at_, .int isWell_, .ref h_this_told, .int toldMany_])), (h_this_lumps, .inl (cI, 10, .inl lumps_')), (h_this_order, .inl (cI, 10, .inl order_))] A) ([.ref h0] : List Value).toArray s 0 0 A) (F0 m 82 ls []) := by
          intro x5 a6 H locs ls h hw hl
          unfold f_X6_joinsLast_J82 at h
          refine lv_iinc (v := (x2 + (1 : Int32))) (lv' := [(4, .int (x2 + (1 : Int32))), (0, .ref h0), (1, .int (order_ ((lumpMany_ - (1 : Int32))).toNatClampNeg)), (2, .int (order_ ((lumpMany_ - (2 : Int32))).toNatClampNeg)), (3, .int x5)]) hx hb dX6_joinsLast_82 hl (k := 4) rfl rfl (by decide) rfl (fun ls hl => ?_)
          refine lv_goto (tgt := 29) hx hb dX6_joinsLast_85 (by decide) ?_
          exact ih29 x5 (x2 + (1 : Int32)) a6 _ _ _ h hw (lv_sub hl [1, 2, 3, 4, 0] rfl)
        refine lv_icmp_eq (tgt := 82) hx hb dX6_joinsLast_46 (by decide) (fun c1 => ?_) (fun c1 => ?_)
        · replace h := ip c1 h
          exact J82 x1 a3 _ _ _ h hw (lv_sub hl [0, 1, 2, 3, 4] rfl)
        · replace h := ig c1 h
          refine lv_aload_n hx hb dX6_joinsLast_49 rfl (lv_at hl 0 rfl) ?_
          refine fg_X6_22 X hw 0 rfl rfl dX6_joinsLast_50 ?_
          refine lv_iload_n hx hb dX6_joinsLast_53 rfl (lv_at hl 3 rfl) ?_
          refine lv_aload_n hx hb dX6_joinsLast_54 rfl (lv_at hl 0 rfl) ?_
          refine fg_X6_22 X hw 0 rfl rfl dX6_joinsLast_55 ?_
          refine lv_iload hx hb dX6_joinsLast_58 (lv_at hl 4 rfl) ?_
          obtain ⟨b1, h⟩ := chk_inv h
          refine r_iald X hw 1 rfl b1 rfl dX6_joinsLast_60 ?_
          refine lv_iload_n hx hb dX6_joinsLast_61 rfl (lv_at hl 2 rfl) ?_
          have J78 : ∀ (x4 : Int32) (H : Heap) (locs : List Loc) (ls : Array Slot), f_X6_joinsLast_J78 x1 (f_X6_joinsLast_L29 lumpMany_ order_ k7 n9) x2 a3 x4 = some (lumpMany_', lumps_') → Wd D A s.heap [(h0, .inr (6, [.int thrown_, .ref h_this_s, .ref h_this_saved, .int savedMany_, .ref h_this_snapshot, .int hasSnapshot_, .ref h_this_text, .int length_, .ref h_this_lumps, .int lumpMany_, .ref h_this_order, .ref h_this_nears, .int partingSet_, .int partingWeight_, .int at_, .int isWell_, .ref h_this_told, .int toldMany_])), (h_this_lumps, .inl (cI, 10, .inl a3)), (h_this_order, .inl (cI, 10, .inl order_))] H locs → lv_has ls 5 [(0, .ref h0), (1, .int (order_ ((lumpMany_ - (1 : Int32))).toNatClampNeg)), (2, .int (order_ ((lumpMany_ - (2 : Int32))).toNatClampNeg)), (3, .int x1), (4, .int x2)] → W p l e rmX6_joinsLast s m ([.ref h0] : List Value).toArray below meth c H locs 0 0 (MQ below (Qv D [(h0, .inr (6, [.int thrown_, .ref h_this_s, .ref h_this_saved, .int savedMany_, .ref h_this_snapshot, .int hasSnapshot_, .ref h_this_text, .int length_, .ref h_this_lumps, .int lumpMany_', .ref h_this_order, .ref h_this_nears, .int partingSet_, .int partingWeight_, .int at_, .int isWell_, .ref h_this_told, .int toldMany_])), (h_this_lumps, .inl (cI, 10, .inl lumps_')), (h_this_order, .inl (cI, 10, .inl order_))] A) ([.ref h0] : List Value).toArray s 0 0 A) (F0 m 78 ls [.int x4, .int x1, .ref h_this_lumps]) := by
            intro x4 H locs ls h hw hl
            unfold f_X6_joinsLast_J78 at h
            obtain ⟨b1, h⟩ := chk_inv h
            refine r_iast X hw 1 rfl b1 rfl dX6_joinsLast_78 (fun H locs hw => ?_)
            have hw : Wd D A s.heap [(h0, .inr (6, [.int thrown_, .ref h_this_s, .ref h_this_saved, .int savedMany_, .ref h_this_snapshot, .int hasSnapshot_, .ref h_this_text, .int length_, .ref h_this_lumps, .int lumpMany_, .ref h_this_order, .ref h_this_nears, .int partingSet_, .int partingWeight_, .int at_, .int isWell_, .ref h_this_told, .int toldMany_])), (h_this_lumps, .inl (cI, 10, .inl (upd a3 (x1).toNatClampNeg x4))), (h_this_order, .inl (cI, 10, .inl order_))] H locs := hw
            refine lv_iinc (v := (x1 + (1 : Int32))) (lv' := [(3, .int (x1 + (1 : Int32))), (0, .ref h0), (1, .int (order_ ((lumpMany_ - (1 : Int32))).toNatClampNeg)), (2, .int (order_ ((lumpMany_ - (2 : Int32))).toNatClampNeg)), (4, .int x2)]) hx hb dX6_joinsLast_79 hl (k := 3) rfl rfl (by decide) rfl (fun ls hl => ?_)
            exact J82 (x1 + (1 : Int32)) (upd a3 (x1).toNatClampNeg x4) _ _ _ h hw (lv_sub hl [1, 2, 3, 0, 4] rfl)
          refine lv_icmp_ne (tgt := 71) hx hb dX6_joinsLast_62 (by decide) (fun c1 => ?_) (fun c1 => ?_)
          · replace h := ig c1 h
            refine lv_aload_n hx hb dX6_joinsLast_71 rfl (lv_at hl 0 rfl) ?_
            refine fg_X6_22 X hw 0 rfl rfl dX6_joinsLast_72 ?_
            refine lv_iload hx hb dX6_joinsLast_75 (lv_at hl 4 rfl) ?_
            obtain ⟨b1, h⟩ := chk_inv h
            refine r_iald X hw 1 rfl b1 rfl dX6_joinsLast_77 ?_
            exact J78 (a3 (x2).toNatClampNeg) _ _ _ h hw (lv_sub hl [0, 1, 2, 3, 4] rfl)
          · replace h := ip c1 h
            refine lv_iload_n hx hb dX6_joinsLast_65 rfl (lv_at hl 2 rfl) ?_
            refine lv_iload_n hx hb dX6_joinsLast_66 rfl (lv_at hl 1 rfl) ?_
            refine lv_ior hx hb dX6_joinsLast_67 ?_
            refine lv_goto (tgt := 78) hx hb dX6_joinsLast_68 (by decide) ?_
            exact J78 ((order_ ((lumpMany_ - (2 : Int32))).toNatClampNeg) ||| (order_ ((lumpMany_ - (1 : Int32))).toNatClampNeg)) _ _ _ h hw (lv_sub hl [0, 1, 2, 3, 4] rfl)
  exact L29 (fun x10 a11 => f_X6_joinsLast_E88 x10 a11) (fun x10 a11 H locs ls h hw hl => E88 x10 a11 H locs ls h hw hl) N (0 : Int32) (0 : Int32) lumps_ _ _ _ h hw (lv_sub hl [4, 3, 2, 1, 0] rfl)
def rmX6_laysPhase : Room := { frames := 4, cells := 0, slots := 0, locals := 96 }
section
variable {p : Program} {l : Launch} {e : Env} {R : Room} {s : State} {m : MethodId} {args : Array Value} {below : List Frame} {meth : Method} {c : Code} {H : Heap} {locs : List Loc} {cells slots : Nat} {Q : State → Prop}
variable {cc : ByteArray} {pc nL : Nat} {ls : Array Slot} {rest : List Value} {D : va_G} {cI cC cO : ClassId} {A : Nat → Prop} {ws : va_W} {H0 : Heap}
theorem cs_X6_92 (X : Ctx p m c cc nL s args RX6 D cI cC cO) (hR : rmX6_swallows.frames + 1 ≤ R.frames ∧ 8 + (4 + 11) + rmX6_swallows.locals ≤ R.locals) : CallW R s args RX6 RX6 92 yX6_swallows cX6_swallows 4 none (Wy yX6_swallows cX6_swallows 4 none) rmX6_swallows 0 0 0 := cwV 0 X.1.2.2.2.2 (gi_V tw_666 tw_668 sw_yX6_swallows tw_7 tw_669) rfl rfl rfl (by decide +kernel) hR
theorem cs_X6_95 (X : Ctx p m c cc nL s args RX6 D cI cC cO) (hR : rmX6_joinsLast.frames + 1 ≤ R.frames ∧ 8 + (5 + 11) + rmX6_joinsLast.locals ≤ R.locals) : CallW R s args RX6 RX6 95 yX6_joinsLast cX6_joinsLast 5 none (Wy yX6_joinsLast cX6_joinsLast 5 none) rmX6_joinsLast 0 0 0 := cwV 0 X.1.2.2.2.2 (gi_V tw_685 tw_687 sw_yX6_joinsLast tw_7 tw_688) rfl rfl rfl (by decide +kernel) hR
end
set_option maxHeartbeats 4000000 in
set_option maxRecDepth 100000 in
theorem c_X6_laysPhase (l : Launch) (D : va_G) (cI cC cO : ClassId) (N : Nat) (h0 h_this_s h_this_saved h_this_snapshot h_this_text h_this_lumps h_this_order h_this_nears h_this_told : Nat) (p1 thrown_ savedMany_ hasSnapshot_ length_ lumpMany_ partingSet_ partingWeight_ at_ isWell_ toldMany_ : Int32) (s_ lumps_ order_ nears_ : Nat → Int32) (lumpMany_' : Int32) (partingSet_' : Int32) (partingWeight_' : Int32) (lumps_' : Nat → Int32) (order_' : Nat → Int32) (nears_' : Nat → Int32) (h : f_X6_laysPhase N p1 s_ lumps_ order_ nears_ = some (lumpMany_', partingSet_', partingWeight_', lumps_', order_', nears_')) : CV l yX6_laysPhase (Wy yX6_laysPhase cX6_laysPhase 3 none) rmX6_laysPhase D cI cC cO [.ref h0, .int p1] [(h0, .inr (6, [.int thrown_, .ref h_this_s, .ref h_this_saved, .int savedMany_, .ref h_this_snapshot, .int hasSnapshot_, .ref h_this_text, .int length_, .ref h_this_lumps, .int lumpMany_, .ref h_this_order, .ref h_this_nears, .int partingSet_, .int partingWeight_, .int at_, .int isWell_, .ref h_this_told, .int toldMany_])), (h_this_s, .inl (cI, 103, .inl s_)), (h_this_lumps, .inl (cI, 10, .inl lumps_)), (h_this_order, .inl (cI, 10, .inl order_)), (h_this_nears, .inl (cI, 10, .inl nears_))] [(h0, .inr (6, [.int thrown_, .ref h_this_s, .ref h_this_saved, .int savedMany_, .ref h_this_snapshot, .int hasSnapshot_, .ref h_this_text, .int length_, .ref h_this_lumps, .int lumpMany_', .ref h_this_order, .ref h_this_nears, .int partingSet_', .int partingWeight_', .int at_, .int isWell_, .ref h_this_told, .int toldMany_])), (h_this_s, .inl (cI, 103, .inl s_)), (h_this_lumps, .inl (cI, 10, .inl lumps_')), (h_this_order, .inl (cI, 10, .inl order_')), (h_this_nears, .inl (cI, 10, .inl nears_'))] := by
  refine enter_v RX6 (by decide) rfl (Nat.le_of_ble_eq_true rfl) ?_
  intro p e s m below meth c A X hr hlk hw ls hl
  have hx := X.1.1
  have hb := X.1.2.1
  have hl : lv_has ls 3 [(0, .ref h0), (1, .int p1)] := hl
  unfold f_X6_laysPhase at h
  refine lv_aload_n hx hb dX6_laysPhase_0 rfl (lv_at hl 0 rfl) ?_
  refine lv_aload_n hx hb dX6_laysPhase_1 rfl (lv_at hl 0 rfl) ?_
  refine fg_X6_7 X hw 0 rfl rfl dX6_laysPhase_2 ?_
  refine lv_iconst (v := 0) hx hb dX6_laysPhase_5 (by decide) ?_
  refine r_iald X hw 1 rfl (v := (s_ 0)) (vp_lit (by decide)) rfl dX6_laysPhase_6 ?_
  refine fp_X6_77 X hw 0 rfl rfl dX6_laysPhase_7 (fun H locs hw => ?_)
  have hw : Wd D A s.heap [(h0, .inr (6, [.int thrown_, .ref h_this_s, .ref h_this_saved, .int savedMany_, .ref h_this_snapshot, .int hasSnapshot_, .ref h_this_text, .int length_, .ref h_this_lumps, .int (s_ 0), .ref h_this_order, .ref h_this_nears, .int partingSet_, .int partingWeight_, .int at_, .int isWell_, .ref h_this_told, .int toldMany_])), (h_this_s, .inl (cI, 103, .inl s_)), (h_this_lumps, .inl (cI, 10, .inl lumps_)), (h_this_order, .inl (cI, 10, .inl order_)), (h_this_nears, .inl (cI, 10, .inl nears_))] H locs := hw
  refine lv_iconst (v := 0) hx hb dX6_laysPhase_10 (by decide) ?_
  refine lv_istore_n (lv' := [(2, .int (0 : Int32)), (0, .ref h0), (1, .int p1)]) hx hb dX6_laysPhase_11 rfl hl (by decide) rfl (fun ls hl => ?_)
  have E35 : ∀ (a6 : Nat → Int32) (H : Heap) (locs : List Loc) (ls : Array Slot), f_X6_laysPhase_E35 N s_ order_ nears_ p1 a6 = some (lumpMany_', partingSet_', partingWeight_', lumps_', order_', nears_') → Wd D A s.heap [(h0, .inr (6, [.int thrown_, .ref h_this_s, .ref h_this_saved, .int savedMany_, .ref h_this_snapshot, .int hasSnapshot_, .ref h_this_text, .int length_, .ref h_this_lumps, .int (s_ 0), .ref h_this_order, .ref h_this_nears, .int partingSet_, .int partingWeight_, .int at_, .int isWell_, .ref h_this_told, .int toldMany_])), (h_this_s, .inl (cI, 103, .inl s_)), (h_this_lumps, .inl (cI, 10, .inl a6)), (h_this_order, .inl (cI, 10, .inl order_)), (h_this_nears, .inl (cI, 10, .inl nears_))] H locs → lv_has ls 3 [(0, .ref h0), (1, .int p1)] → W p l e rmX6_laysPhase s m ([.ref h0, .int p1] : List Value).toArray below meth c H locs 0 0 (MQ below (Qv D [(h0, .inr (6, [.int thrown_, .ref h_this_s, .ref h_this_saved, .int savedMany_, .ref h_this_snapshot, .int hasSnapshot_, .ref h_this_text, .int length_, .ref h_this_lumps, .int lumpMany_', .ref h_this_order, .ref h_this_nears, .int partingSet_', .int partingWeight_', .int at_, .int isWell_, .ref h_this_told, .int toldMany_])), (h_this_s, .inl (cI, 103, .inl s_)), (h_this_lumps, .inl (cI, 10, .inl lumps_')), (h_this_order, .inl (cI, 10, .inl order_')), (h_this_nears, .inl (cI, 10, .inl nears_'))] A) ([.ref h0, .int p1] : List Value).toArray s 0 0 A) (F0 m 35 ls []) := by
    intro a6 H locs ls h hw hl
    unfold f_X6_laysPhase_E35 at h
    refine lv_aload_n hx hb dX6_laysPhase_35 rfl (lv_at hl 0 rfl) ?_
    obtain ⟨x7, x8, a9, a10, hc, h⟩ := bd4_inv h
    refine r_cVv X hw (As := []) (rest := []) (wr := []) (ws' := [(h0, .inr (6, [.int thrown_, .ref h_this_s, .ref h_this_saved, .int savedMany_, .ref h_this_snapshot, .int hasSnapshot_, .ref h_this_text, .int length_, .ref h_this_lumps, .int (s_ 0), .ref h_this_order, .ref h_this_nears, .int x7, .int x8, .int at_, .int isWell_, .ref h_this_told, .int toldMany_])), (h_this_s, .inl (cI, 103, .inl s_)), (h_this_lumps, .inl (cI, 10, .inl a6)), (h_this_order, .inl (cI, 10, .inl a9)), (h_this_nears, .inl (cI, 10, .inl a10))]) (c_X6_swallows l D cI cC cO N h0 h_this_s h_this_saved h_this_snapshot h_this_text h_this_lumps h_this_order h_this_nears h_this_told thrown_ savedMany_ hasSnapshot_ length_ (s_ 0) partingSet_ partingWeight_ at_ isWell_ toldMany_ s_ a6 order_ nears_ x7 x8 a9 a10 hc) (cs_X6_92 X (by decide)) [0, 1, 2, 3, 4] [] [0, 1, 2, 3, 4] rfl rfl rfl rfl (by decide) rfl rfl 0 rfl rfl rfl rfl hl.1 rfl (Nat.le_of_ble_eq_true rfl) dX6_laysPhase_36 ⟨Nat.zero_le _, Nat.zero_le _⟩ (fun H locs hw => ?_)
    refine lv_iconst (v := 0) hx hb dX6_laysPhase_39 (by decide) ?_
    refine lv_istore_n (lv' := [(2, .int (0 : Int32)), (0, .ref h0), (1, .int p1)]) hx hb dX6_laysPhase_40 rfl hl (by decide) rfl (fun ls hl => ?_)
    have E60 : ∀ (x27 x28 x29 : Int32) (a30 a31 a32 : Nat → Int32) (H : Heap) (locs : List Loc) (ls : Array Slot), f_X6_laysPhase_E60 x27 x28 x29 a30 a31 a32 = some (lumpMany_', partingSet_', partingWeight_', lumps_', order_', nears_') → Wd D A s.heap [(h0, .inr (6, [.int thrown_, .ref h_this_s, .ref h_this_saved, .int savedMany_, .ref h_this_snapshot, .int hasSnapshot_, .ref h_this_text, .int length_, .ref h_this_lumps, .int x27, .ref h_this_order, .ref h_this_nears, .int x28, .int x29, .int at_, .int isWell_, .ref h_this_told, .int toldMany_])), (h_this_s, .inl (cI, 103, .inl s_)), (h_this_lumps, .inl (cI, 10, .inl a30)), (h_this_order, .inl (cI, 10, .inl a31)), (h_this_nears, .inl (cI, 10, .inl a32))] H locs → lv_has ls 3 [] → W p l e rmX6_laysPhase s m ([.ref h0, .int p1] : List Value).toArray below meth c H locs 0 0 (MQ below (Qv D [(h0, .inr (6, [.int thrown_, .ref h_this_s, .ref h_this_saved, .int savedMany_, .ref h_this_snapshot, .int hasSnapshot_, .ref h_this_text, .int length_, .ref h_this_lumps, .int lumpMany_', .ref h_this_order, .ref h_this_nears, .int partingSet_', .int partingWeight_', .int at_, .int isWell_, .ref h_this_told, .int toldMany_])), (h_this_s, .inl (cI, 103, .inl s_)), (h_this_lumps, .inl (cI, 10, .inl lumps_')), (h_this_order, .inl (cI, 10, .inl order_')), (h_this_nears, .inl (cI, 10, .inl nears_'))] A) ([.ref h0, .int p1] : List Value).toArray s 0 0 A) (F0 m 60 ls []) := by
      intro x27 x28 x29 a30 a31 a32 H locs ls h hw hl
      unfold f_X6_laysPhase_E60 at h
      obtain ⟨rfl, rfl, rfl, rfl, rfl, rfl⟩ := oi6 h
      exact r_retv X hw hr hlk dX6_laysPhase_60
    have L41 : ∀ (k24 : Int32 → Int32 → Int32 → (Nat → Int32) → (Nat → Int32) → (Nat → Int32) → Option (Int32 × Int32 × Int32 × (Nat → Int32) × (Nat → Int32) × (Nat → Int32))), (∀ (x27 x28 x29 : Int32) (a30 a31 a32 : Nat → Int32) (H : Heap) (locs : List Loc) (ls : Array Slot), k24 x27 x28 x29 a30 a31 a32 = some (lumpMany_', partingSet_', partingWeight_', lumps_', order_', nears_') → Wd D A s.heap [(h0, .inr (6, [.int thrown_, .ref h_this_s, .ref h_this_saved, .int savedMany_, .ref h_this_snapshot, .int hasSnapshot_, .ref h_this_text, .int length_, .ref h_this_lumps, .int x27, .ref h_this_order, .ref h_this_nears, .int x28, .int x29, .int at_, .int isWell_, .ref h_this_told, .int toldMany_])), (h_this_s, .inl (cI, 103, .inl s_)), (h_this_lumps, .inl (cI, 10, .inl a30)), (h_this_order, .inl (cI, 10, .inl a31)), (h_this_nears, .inl (cI, 10, .inl a32))] H locs → lv_has ls 3 [] → W p l e rmX6_laysPhase s m ([.ref h0, .int p1] : List Value).toArray below meth c H locs 0 0 (MQ below (Qv D [(h0, .inr (6, [.int thrown_, .ref h_this_s, .ref h_this_saved, .int savedMany_, .ref h_this_snapshot, .int hasSnapshot_, .ref h_this_text, .int length_, .ref h_this_lumps, .int lumpMany_', .ref h_this_order, .ref h_this_nears, .int partingSet_', .int partingWeight_', .int at_, .int isWell_, .ref h_this_told, .int toldMany_])), (h_this_s, .inl (cI, 103, .inl s_)), (h_this_lumps, .inl (cI, 10, .inl lumps_')), (h_this_order, .inl (cI, 10, .inl order_')), (h_this_nears, .inl (cI, 10, .inl nears_'))] A) ([.ref h0, .int p1] : List Value).toArray s 0 0 A) (F0 m 60 ls [])) → ∀ (n26 : Nat), ∀ (x11 x12 x13 x14 : Int32) (a15 a16 a17 : Nat → Int32) (H : Heap) (locs : List Loc) (ls : Array Slot), f_X6_laysPhase_L41 N p1 s_ k24 n26 x11 x12 x13 x14 a15 a16 a17 = some (lumpMany_', partingSet_', partingWeight_', lumps_', order_', nears_') → Wd D A s.heap [(h0, .inr (6, [.int thrown_, .ref h_this_s, .ref h_this_saved, .int savedMany_, .ref h_this_snapshot, .int hasSnapshot_, .ref h_this_text, .int length_, .ref h_this_lumps, .int x12, .ref h_this_order, .ref h_this_nears, .int x13, .int x14, .int at_, .int isWell_, .ref h_this_told, .int toldMany_])), (h_this_s, .inl (cI, 103, .inl s_)), (h_this_lumps, .inl (cI, 10, .inl a15)), (h_this_order, .inl (cI, 10, .inl a16)), (h_this_nears, .inl (cI, 10, .inl a17))] H locs → lv_has ls 3 [(0, .ref h0), (1, .int p1), (2, .int x11)] → W p l e rmX6_laysPhase s m ([.ref h0, .int p1] : List Value).toArray below meth c H locs 0 0 (MQ below (Qv D [(h0, .inr (6, [.int thrown_, .ref h_this_s, .ref h_this_saved, .int savedMany_, .ref h_this_snapshot, .int hasSnapshot_, .ref h_this_text, .int length_, .ref h_this_lumps, .int lumpMany_', .ref h_this_order, .ref h_this_nears, .int partingSet_', .int partingWeight_', .int at_, .int isWell_, .ref h_this_told, .int toldMany_])), (h_this_s, .inl (cI, 103, .inl s_)), (h_this_lumps, .inl (cI, 10, .inl lumps_')), (h_this_order, .inl (cI, 10, .inl order_')), (h_this_nears, .inl (cI, 10, .inl nears_'))] A) ([.ref h0, .int p1] : List Value).toArray s 0 0 A) (F0 m 41 ls []) := by
      intro k24 hk41 n26
      induction n26 with
      | zero => intro x11 x12 x13 x14 a15 a16 a17 H locs ls h; cases h
      | succ n26 ih41 =>
        intro x11 x12 x13 x14 a15 a16 a17 H locs ls h hw hl
        rw [f_X6_laysPhase_L41] at h
        refine lv_iload_n hx hb dX6_laysPhase_41 rfl (lv_at hl 2 rfl) ?_
        refine lv_iload_n hx hb dX6_laysPhase_42 rfl (lv_at hl 1 rfl) ?_
        refine lv_icmp_ge (tgt := 60) hx hb dX6_laysPhase_43 (by decide) (fun c1 => ?_) (fun c1 => ?_)
        · replace h := ip c1 h
          exact hk41 x12 x13 x14 a15 a16 a17 _ _ _ h hw (lv_sub hl [] rfl)
        · replace h := ig c1 h
          refine lv_aload_n hx hb dX6_laysPhase_46 rfl (lv_at hl 0 rfl) ?_
          obtain ⟨x18, a19, hc, h⟩ := bd2_inv h
          refine r_cVv X hw (As := []) (rest := []) (wr := [(h_this_s, .inl (cI, 103, .inl s_)), (h_this_nears, .inl (cI, 10, .inl a17))]) (ws' := [(h0, .inr (6, [.int thrown_, .ref h_this_s, .ref h_this_saved, .int savedMany_, .ref h_this_snapshot, .int hasSnapshot_, .ref h_this_text, .int length_, .ref h_this_lumps, .int x18, .ref h_this_order, .ref h_this_nears, .int x13, .int x14, .int at_, .int isWell_, .ref h_this_told, .int toldMany_])), (h_this_s, .inl (cI, 103, .inl s_)), (h_this_lumps, .inl (cI, 10, .inl a19)), (h_this_order, .inl (cI, 10, .inl a16)), (h_this_nears, .inl (cI, 10, .inl a17))]) (c_X6_joinsLast l D cI cC cO N h0 h_this_s h_this_saved h_this_snapshot h_this_text h_this_lumps h_this_order h_this_nears h_this_told thrown_ savedMany_ hasSnapshot_ length_ x12 x13 x14 at_ isWell_ toldMany_ a15 a16 x18 a19 hc) (cs_X6_95 X (by decide)) [0, 2, 3] [1, 4] [2, 0, 3, 4, 1] rfl rfl rfl rfl (by decide) rfl rfl 0 rfl rfl rfl rfl hl.1 rfl (Nat.le_of_ble_eq_true rfl) dX6_laysPhase_47 ⟨Nat.zero_le _, Nat.zero_le _⟩ (fun H locs hw => ?_)
          refine lv_aload_n hx hb dX6_laysPhase_50 rfl (lv_at hl 0 rfl) ?_
          obtain ⟨x20, x21, a22, a23, hc, h⟩ := bd4_inv h
          refine r_cVv X hw (As := []) (rest := []) (wr := []) (ws' := [(h0, .inr (6, [.int thrown_, .ref h_this_s, .ref h_this_saved, .int savedMany_, .ref h_this_snapshot, .int hasSnapshot_, .ref h_this_text, .int length_, .ref h_this_lumps, .int x18, .ref h_this_order, .ref h_this_nears, .int x20, .int x21, .int at_, .int isWell_, .ref h_this_told, .int toldMany_])), (h_this_s, .inl (cI, 103, .inl s_)), (h_this_lumps, .inl (cI, 10, .inl a19)), (h_this_order, .inl (cI, 10, .inl a22)), (h_this_nears, .inl (cI, 10, .inl a23))]) (c_X6_swallows l D cI cC cO N h0 h_this_s h_this_saved h_this_snapshot h_this_text h_this_lumps h_this_order h_this_nears h_this_told thrown_ savedMany_ hasSnapshot_ length_ x18 x13 x14 at_ isWell_ toldMany_ s_ a19 a16 a17 x20 x21 a22 a23 hc) (cs_X6_92 X (by decide)) [0, 1, 2, 3, 4] [] [0, 1, 2, 3, 4] rfl rfl rfl rfl (by decide) rfl rfl 0 rfl rfl rfl rfl hl.1 rfl (Nat.le_of_ble_eq_true rfl) dX6_laysPhase_51 ⟨Nat.zero_le _, Nat.zero_le _⟩ (fun H locs hw => ?_)
          refine lv_iinc (v := (x11 + (1 : Int32))) (lv' := [(2, .int (x11 + (1 : Int32))), (0, .ref h0), (1, .int p1)]) hx hb dX6_laysPhase_54 hl (k := 2) rfl rfl (by decide) rfl (fun ls hl => ?_)
          refine lv_goto (tgt := 41) hx hb dX6_laysPhase_57 (by decide) ?_
          exact ih41 (x11 + (1 : Int32)) x18 x20 x21 a19 a22 a23 _ _ _ h hw (lv_sub hl [1, 2, 0] rfl)
    exact L41 (fun x27 x28 x29 a30 a31 a32 => f_X6_laysPhase_E60 x27 x28 x29 a30 a31 a32) (fun x27 x28 x29 a30 a31 a32 H locs ls h hw hl => E60 x27 x28 x29 a30 a31 a32 H locs ls h hw hl) N (0 : Int32) (s_ 0) x7 x8 a6 a9 a10 _ _ _ h hw (lv_sub hl [1, 2, 0] rfl)
  have L12 : ∀ (k3 : (Nat → Int32) → Option (Int32 × Int32 × Int32 × (Nat → Int32) × (Nat → Int32) × (Nat → Int32))), (∀ (a6 : Nat → Int32) (H : Heap) (locs : List Loc) (ls : Array Slot), k3 a6 = some (lumpMany_', partingSet_', partingWeight_', lumps_', order_', nears_') → Wd D A s.heap [(h0, .inr (6, [.int thrown_, .ref h_this_s, .ref h_this_saved, .int savedMany_, .ref h_this_snapshot, .int hasSnapshot_, .ref h_this_text, .int length_, .ref h_this_lumps, .int (s_ 0), .ref h_this_order, .ref h_this_nears, .int partingSet_, .int partingWeight_, .int at_, .int isWell_, .ref h_this_told, .int toldMany_])), (h_this_s, .inl (cI, 103, .inl s_)), (h_this_lumps, .inl (cI, 10, .inl a6)), (h_this_order, .inl (cI, 10, .inl order_)), (h_this_nears, .inl (cI, 10, .inl nears_))] H locs → lv_has ls 3 [(0, .ref h0), (1, .int p1)] → W p l e rmX6_laysPhase s m ([.ref h0, .int p1] : List Value).toArray below meth c H locs 0 0 (MQ below (Qv D [(h0, .inr (6, [.int thrown_, .ref h_this_s, .ref h_this_saved, .int savedMany_, .ref h_this_snapshot, .int hasSnapshot_, .ref h_this_text, .int length_, .ref h_this_lumps, .int lumpMany_', .ref h_this_order, .ref h_this_nears, .int partingSet_', .int partingWeight_', .int at_, .int isWell_, .ref h_this_told, .int toldMany_])), (h_this_s, .inl (cI, 103, .inl s_)), (h_this_lumps, .inl (cI, 10, .inl lumps_')), (h_this_order, .inl (cI, 10, .inl order_')), (h_this_nears, .inl (cI, 10, .inl nears_'))] A) ([.ref h0, .int p1] : List Value).toArray s 0 0 A) (F0 m 35 ls [])) → ∀ (n5 : Nat), ∀ (x1 : Int32) (a2 : Nat → Int32) (H : Heap) (locs : List Loc) (ls : Array Slot), f_X6_laysPhase_L12 s_ k3 n5 x1 a2 = some (lumpMany_', partingSet_', partingWeight_', lumps_', order_', nears_') → Wd D A s.heap [(h0, .inr (6, [.int thrown_, .ref h_this_s, .ref h_this_saved, .int savedMany_, .ref h_this_snapshot, .int hasSnapshot_, .ref h_this_text, .int length_, .ref h_this_lumps, .int (s_ 0), .ref h_this_order, .ref h_this_nears, .int partingSet_, .int partingWeight_, .int at_, .int isWell_, .ref h_this_told, .int toldMany_])), (h_this_s, .inl (cI, 103, .inl s_)), (h_this_lumps, .inl (cI, 10, .inl a2)), (h_this_order, .inl (cI, 10, .inl order_)), (h_this_nears, .inl (cI, 10, .inl nears_))] H locs → lv_has ls 3 [(0, .ref h0), (1, .int p1), (2, .int x1)] → W p l e rmX6_laysPhase s m ([.ref h0, .int p1] : List Value).toArray below meth c H locs 0 0 (MQ below (Qv D [(h0, .inr (6, [.int thrown_, .ref h_this_s, .ref h_this_saved, .int savedMany_, .ref h_this_snapshot, .int hasSnapshot_, .ref h_this_text, .int length_, .ref h_this_lumps, .int lumpMany_', .ref h_this_order, .ref h_this_nears, .int partingSet_', .int partingWeight_', .int at_, .int isWell_, .ref h_this_told, .int toldMany_])), (h_this_s, .inl (cI, 103, .inl s_)), (h_this_lumps, .inl (cI, 10, .inl lumps_')), (h_this_order, .inl (cI, 10, .inl order_')), (h_this_nears, .inl (cI, 10, .inl nears_'))] A) ([.ref h0, .int p1] : List Value).toArray s 0 0 A) (F0 m 12 ls []) := by
    intro k3 hk12 n5
    induction n5 with
    | zero => intro x1 a2 H locs ls h; cases h
    | succ n5 ih12 =>
      intro x1 a2 H locs ls h hw hl
      rw [f_X6_laysPhase_L12] at h
      refine lv_iload_n hx hb dX6_laysPhase_12 rfl (lv_at hl 2 rfl) ?_
      refine lv_aload_n hx hb dX6_laysPhase_13 rfl (lv_at hl 0 rfl) ?_
      refine fg_X6_77 X hw 0 rfl rfl dX6_laysPhase_14 ?_
      refine lv_icmp_ge (tgt := 35) hx hb dX6_laysPhase_17 (by decide) (fun c1 => ?_) (fun c1 => ?_)
      · replace h := ip c1 h
        exact hk12 a2 _ _ _ h hw (lv_sub hl [0, 1] rfl)
      · replace h := ig c1 h
        refine lv_aload_n hx hb dX6_laysPhase_20 rfl (lv_at hl 0 rfl) ?_
        refine fg_X6_22 X hw 0 rfl rfl dX6_laysPhase_21 ?_
        refine lv_iload_n hx hb dX6_laysPhase_24 rfl (lv_at hl 2 rfl) ?_
        refine lv_iconst (v := 1) hx hb dX6_laysPhase_25 (by decide) ?_
        refine lv_iload_n hx hb dX6_laysPhase_26 rfl (lv_at hl 2 rfl) ?_
        refine lv_ishl hx hb dX6_laysPhase_27 ?_
        obtain ⟨b1, h⟩ := chk_inv h
        refine r_iast X hw 2 rfl b1 rfl dX6_laysPhase_28 (fun H locs hw => ?_)
        have hw : Wd D A s.heap [(h0, .inr (6, [.int thrown_, .ref h_this_s, .ref h_this_saved, .int savedMany_, .ref h_this_snapshot, .int hasSnapshot_, .ref h_this_text, .int length_, .ref h_this_lumps, .int (s_ 0), .ref h_this_order, .ref h_this_nears, .int partingSet_, .int partingWeight_, .int at_, .int isWell_, .ref h_this_told, .int toldMany_])), (h_this_s, .inl (cI, 103, .inl s_)), (h_this_lumps, .inl (cI, 10, .inl (upd a2 (x1).toNatClampNeg ((1 : Int32) <<< (x1 &&& (31 : Int32)))))), (h_this_order, .inl (cI, 10, .inl order_)), (h_this_nears, .inl (cI, 10, .inl nears_))] H locs := hw
        refine lv_iinc (v := (x1 + (1 : Int32))) (lv' := [(2, .int (x1 + (1 : Int32))), (0, .ref h0), (1, .int p1)]) hx hb dX6_laysPhase_29 hl (k := 2) rfl rfl (by decide) rfl (fun ls hl => ?_)
        refine lv_goto (tgt := 12) hx hb dX6_laysPhase_32 (by decide) ?_
        exact ih12 (x1 + (1 : Int32)) (upd a2 (x1).toNatClampNeg ((1 : Int32) <<< (x1 &&& (31 : Int32)))) _ _ _ h hw (lv_sub hl [1, 2, 0] rfl)
  exact L12 (fun a6 => f_X6_laysPhase_E35 N s_ order_ nears_ p1 a6) (fun a6 H locs ls h hw hl => E35 a6 H locs ls h hw hl) N (0 : Int32) lumps_ _ _ _ h hw (lv_sub hl [1, 2, 0] rfl)
def rmX6_leastPhase : Room := { frames := 5, cells := 0, slots := 0, locals := 118 }
section
variable {p : Program} {l : Launch} {e : Env} {R : Room} {s : State} {m : MethodId} {args : Array Value} {below : List Frame} {meth : Method} {c : Code} {H : Heap} {locs : List Loc} {cells slots : Nat} {Q : State → Prop}
variable {cc : ByteArray} {pc nL : Nat} {ls : Array Slot} {rest : List Value} {D : va_G} {cI cC cO : ClassId} {A : Nat → Prop} {ws : va_W} {H0 : Heap}
theorem cs_X6_98 (X : Ctx p m c cc nL s args RX6 D cI cC cO) (hR : rmX6_laysPhase.frames + 1 ≤ R.frames ∧ 8 + (3 + 11) + rmX6_laysPhase.locals ≤ R.locals) : CallW R s args RX6 RX6 98 yX6_laysPhase cX6_laysPhase 3 none (Wy yX6_laysPhase cX6_laysPhase 3 none) rmX6_laysPhase 0 0 1 := cwV 1 X.1.2.2.2.2 (gi_V tw_662 tw_664 sw_yX6_laysPhase tw_7 tw_665) rfl rfl rfl (by decide +kernel) hR
end
set_option maxHeartbeats 4000000 in
set_option maxRecDepth 100000 in
theorem c_X6_leastPhase (l : Launch) (D : va_G) (cI cC cO : ClassId) (N : Nat) (h0 h_this_s h_this_saved h_this_snapshot h_this_text h_this_lumps h_this_order h_this_nears h_this_told : Nat) (thrown_ savedMany_ hasSnapshot_ length_ lumpMany_ partingSet_ partingWeight_ at_ isWell_ toldMany_ : Int32) (s_ lumps_ order_ nears_ : Nat → Int32) (r_ : Int32) (lumpMany_' : Int32) (partingSet_' : Int32) (partingWeight_' : Int32) (lumps_' : Nat → Int32) (order_' : Nat → Int32) (nears_' : Nat → Int32) (h : f_X6_leastPhase N s_ lumps_ order_ nears_ = some (r_, lumpMany_', partingSet_', partingWeight_', lumps_', order_', nears_')) : CI l yX6_leastPhase (Wy yX6_leastPhase cX6_leastPhase 4 (some .int)) rmX6_leastPhase D cI cC cO [.ref h0] [(h0, .inr (6, [.int thrown_, .ref h_this_s, .ref h_this_saved, .int savedMany_, .ref h_this_snapshot, .int hasSnapshot_, .ref h_this_text, .int length_, .ref h_this_lumps, .int lumpMany_, .ref h_this_order, .ref h_this_nears, .int partingSet_, .int partingWeight_, .int at_, .int isWell_, .ref h_this_told, .int toldMany_])), (h_this_s, .inl (cI, 103, .inl s_)), (h_this_lumps, .inl (cI, 10, .inl lumps_)), (h_this_order, .inl (cI, 10, .inl order_)), (h_this_nears, .inl (cI, 10, .inl nears_))] r_ [(h0, .inr (6, [.int thrown_, .ref h_this_s, .ref h_this_saved, .int savedMany_, .ref h_this_snapshot, .int hasSnapshot_, .ref h_this_text, .int length_, .ref h_this_lumps, .int lumpMany_', .ref h_this_order, .ref h_this_nears, .int partingSet_', .int partingWeight_', .int at_, .int isWell_, .ref h_this_told, .int toldMany_])), (h_this_s, .inl (cI, 103, .inl s_)), (h_this_lumps, .inl (cI, 10, .inl lumps_')), (h_this_order, .inl (cI, 10, .inl order_')), (h_this_nears, .inl (cI, 10, .inl nears_'))] := by
  refine enter_i RX6 (by decide) rfl (Nat.le_of_ble_eq_true rfl) ?_
  intro p e s m below meth c A X hr hlk hw ls hl
  have hx := X.1.1
  have hb := X.1.2.1
  have hl : lv_has ls 4 [(0, .ref h0)] := hl
  unfold f_X6_leastPhase at h
  refine lv_aload_n hx hb dX6_leastPhase_0 rfl (lv_at hl 0 rfl) ?_
  refine lv_iconst (v := 0) hx hb dX6_leastPhase_1 (by decide) ?_
  obtain ⟨x1, x2, x3, a4, a5, a6, hc, h⟩ := bd6_inv h
  refine r_cVv X hw (As := [.int (0 : Int32)]) (rest := []) (wr := []) (ws' := [(h0, .inr (6, [.int thrown_, .ref h_this_s, .ref h_this_saved, .int savedMany_, .ref h_this_snapshot, .int hasSnapshot_, .ref h_this_text, .int length_, .ref h_this_lumps, .int x1, .ref h_this_order, .ref h_this_nears, .int x2, .int x3, .int at_, .int isWell_, .ref h_this_told, .int toldMany_])), (h_this_s, .inl (cI, 103, .inl s_)), (h_this_lumps, .inl (cI, 10, .inl a4)), (h_this_order, .inl (cI, 10, .inl a5)), (h_this_nears, .inl (cI, 10, .inl a6))]) (c_X6_laysPhase l D cI cC cO N h0 h_this_s h_this_saved h_this_snapshot h_this_text h_this_lumps h_this_order h_this_nears h_this_told (0 : Int32) thrown_ savedMany_ hasSnapshot_ length_ lumpMany_ partingSet_ partingWeight_ at_ isWell_ toldMany_ s_ lumps_ order_ nears_ x1 x2 x3 a4 a5 a6 hc) (cs_X6_98 X (by decide)) [0, 1, 2, 3, 4] [] [0, 1, 2, 3, 4] rfl rfl rfl rfl (by decide) rfl rfl 0 rfl rfl rfl rfl hl.1 rfl (Nat.le_of_ble_eq_true rfl) dX6_leastPhase_2 ⟨Nat.zero_le _, Nat.zero_le _⟩ (fun H locs hw => ?_)
  refine lv_iconst (v := 0) hx hb dX6_leastPhase_5 (by decide) ?_
  refine lv_istore_n (lv' := [(1, .int (0 : Int32)), (0, .ref h0)]) hx hb dX6_leastPhase_6 rfl hl (by decide) rfl (fun ls hl => ?_)
  refine lv_aload_n hx hb dX6_leastPhase_7 rfl (lv_at hl 1 rfl) ?_
  refine fg_X6_89 X hw 0 rfl rfl dX6_leastPhase_8 ?_
  refine lv_istore_n (lv' := [(2, .int x3), (1, .int (0 : Int32)), (0, .ref h0)]) hx hb dX6_leastPhase_11 rfl hl (by decide) rfl (fun ls hl => ?_)
  refine lv_iconst (v := 1) hx hb dX6_leastPhase_12 (by decide) ?_
  refine lv_istore_n (lv' := [(3, .int (1 : Int32)), (2, .int x3), (1, .int (0 : Int32)), (0, .ref h0)]) hx hb dX6_leastPhase_13 rfl hl (by decide) rfl (fun ls hl => ?_)
  have E71 : ∀ (x27 x28 x29 x30 : Int32) (a31 a32 a33 : Nat → Int32) (H : Heap) (locs : List Loc) (ls : Array Slot), f_X6_leastPhase_E71 x27 x28 x29 x30 a31 a32 a33 = some (r_, lumpMany_', partingSet_', partingWeight_', lumps_', order_', nears_') → Wd D A s.heap [(h0, .inr (6, [.int thrown_, .ref h_this_s, .ref h_this_saved, .int savedMany_, .ref h_this_snapshot, .int hasSnapshot_, .ref h_this_text, .int length_, .ref h_this_lumps, .int x28, .ref h_this_order, .ref h_this_nears, .int x29, .int x30, .int at_, .int isWell_, .ref h_this_told, .int toldMany_])), (h_this_s, .inl (cI, 103, .inl s_)), (h_this_lumps, .inl (cI, 10, .inl a31)), (h_this_order, .inl (cI, 10, .inl a32)), (h_this_nears, .inl (cI, 10, .inl a33))] H locs → lv_has ls 4 [(1, .int x27)] → W p l e rmX6_leastPhase s m ([.ref h0] : List Value).toArray below meth c H locs 0 0 (MQ below (Qi D r_ [(h0, .inr (6, [.int thrown_, .ref h_this_s, .ref h_this_saved, .int savedMany_, .ref h_this_snapshot, .int hasSnapshot_, .ref h_this_text, .int length_, .ref h_this_lumps, .int lumpMany_', .ref h_this_order, .ref h_this_nears, .int partingSet_', .int partingWeight_', .int at_, .int isWell_, .ref h_this_told, .int toldMany_])), (h_this_s, .inl (cI, 103, .inl s_)), (h_this_lumps, .inl (cI, 10, .inl lumps_')), (h_this_order, .inl (cI, 10, .inl order_')), (h_this_nears, .inl (cI, 10, .inl nears_'))] A) ([.ref h0] : List Value).toArray s 0 0 A) (F0 m 71 ls []) := by
    intro x27 x28 x29 x30 a31 a32 a33 H locs ls h hw hl
    unfold f_X6_leastPhase_E71 at h
    refine lv_iload_n hx hb dX6_leastPhase_71 rfl (lv_at hl 0 rfl) ?_
    obtain ⟨rfl, rfl, rfl, rfl, rfl, rfl, rfl⟩ := oi7 h
    exact r_ret X hw hr hlk dX6_leastPhase_72
  have L14 : ∀ (k24 : Int32 → Int32 → Int32 → Int32 → (Nat → Int32) → (Nat → Int32) → (Nat → Int32) → Option (Int32 × Int32 × Int32 × Int32 × (Nat → Int32) × (Nat → Int32) × (Nat → Int32))), (∀ (x27 x28 x29 x30 : Int32) (a31 a32 a33 : Nat → Int32) (H : Heap) (locs : List Loc) (ls : Array Slot), k24 x27 x28 x29 x30 a31 a32 a33 = some (r_, lumpMany_', partingSet_', partingWeight_', lumps_', order_', nears_') → Wd D A s.heap [(h0, .inr (6, [.int thrown_, .ref h_this_s, .ref h_this_saved, .int savedMany_, .ref h_this_snapshot, .int hasSnapshot_, .ref h_this_text, .int length_, .ref h_this_lumps, .int x28, .ref h_this_order, .ref h_this_nears, .int x29, .int x30, .int at_, .int isWell_, .ref h_this_told, .int toldMany_])), (h_this_s, .inl (cI, 103, .inl s_)), (h_this_lumps, .inl (cI, 10, .inl a31)), (h_this_order, .inl (cI, 10, .inl a32)), (h_this_nears, .inl (cI, 10, .inl a33))] H locs → lv_has ls 4 [(1, .int x27)] → W p l e rmX6_leastPhase s m ([.ref h0] : List Value).toArray below meth c H locs 0 0 (MQ below (Qi D r_ [(h0, .inr (6, [.int thrown_, .ref h_this_s, .ref h_this_saved, .int savedMany_, .ref h_this_snapshot, .int hasSnapshot_, .ref h_this_text, .int length_, .ref h_this_lumps, .int lumpMany_', .ref h_this_order, .ref h_this_nears, .int partingSet_', .int partingWeight_', .int at_, .int isWell_, .ref h_this_told, .int toldMany_])), (h_this_s, .inl (cI, 103, .inl s_)), (h_this_lumps, .inl (cI, 10, .inl lumps_')), (h_this_order, .inl (cI, 10, .inl order_')), (h_this_nears, .inl (cI, 10, .inl nears_'))] A) ([.ref h0] : List Value).toArray s 0 0 A) (F0 m 71 ls [])) → ∀ (n26 : Nat), ∀ (x7 x8 x9 x10 x11 x12 : Int32) (a13 a14 a15 : Nat → Int32) (H : Heap) (locs : List Loc) (ls : Array Slot), f_X6_leastPhase_L14 N s_ k24 n26 x7 x8 x9 x10 x11 x12 a13 a14 a15 = some (r_, lumpMany_', partingSet_', partingWeight_', lumps_', order_', nears_') → Wd D A s.heap [(h0, .inr (6, [.int thrown_, .ref h_this_s, .ref h_this_saved, .int savedMany_, .ref h_this_snapshot, .int hasSnapshot_, .ref h_this_text, .int length_, .ref h_this_lumps, .int x10, .ref h_this_order, .ref h_this_nears, .int x11, .int x12, .int at_, .int isWell_, .ref h_this_told, .int toldMany_])), (h_this_s, .inl (cI, 103, .inl s_)), (h_this_lumps, .inl (cI, 10, .inl a13)), (h_this_order, .inl (cI, 10, .inl a14)), (h_this_nears, .inl (cI, 10, .inl a15))] H locs → lv_has ls 4 [(0, .ref h0), (1, .int x7), (2, .int x8), (3, .int x9)] → W p l e rmX6_leastPhase s m ([.ref h0] : List Value).toArray below meth c H locs 0 0 (MQ below (Qi D r_ [(h0, .inr (6, [.int thrown_, .ref h_this_s, .ref h_this_saved, .int savedMany_, .ref h_this_snapshot, .int hasSnapshot_, .ref h_this_text, .int length_, .ref h_this_lumps, .int lumpMany_', .ref h_this_order, .ref h_this_nears, .int partingSet_', .int partingWeight_', .int at_, .int isWell_, .ref h_this_told, .int toldMany_])), (h_this_s, .inl (cI, 103, .inl s_)), (h_this_lumps, .inl (cI, 10, .inl lumps_')), (h_this_order, .inl (cI, 10, .inl order_')), (h_this_nears, .inl (cI, 10, .inl nears_'))] A) ([.ref h0] : List Value).toArray s 0 0 A) (F0 m 14 ls []) := by
    intro k24 hk14 n26
    induction n26 with
    | zero => intro x7 x8 x9 x10 x11 x12 a13 a14 a15 H locs ls h; cases h
    | succ n26 ih14 =>
      intro x7 x8 x9 x10 x11 x12 a13 a14 a15 H locs ls h hw hl
      rw [f_X6_leastPhase_L14] at h
      refine lv_iload_n hx hb dX6_leastPhase_14 rfl (lv_at hl 3 rfl) ?_
      refine lv_aload_n hx hb dX6_leastPhase_15 rfl (lv_at hl 0 rfl) ?_
      refine fg_X6_7 X hw 0 rfl rfl dX6_leastPhase_16 ?_
      refine lv_iconst (v := 0) hx hb dX6_leastPhase_19 (by decide) ?_
      refine r_iald X hw 1 rfl (v := (s_ 0)) (vp_lit (by decide)) rfl dX6_leastPhase_20 ?_
      refine lv_iconst (v := 1) hx hb dX6_leastPhase_21 (by decide) ?_
      refine lv_isub hx hb dX6_leastPhase_22 ?_
      refine lv_icmp_ge (tgt := 71) hx hb dX6_leastPhase_23 (by decide) (fun c1 => ?_) (fun c1 => ?_)
      · replace h := ip c1 h
        exact hk14 x7 x10 x11 x12 a13 a14 a15 _ _ _ h hw (lv_sub hl [1] rfl)
      · replace h := ig c1 h
        refine lv_aload_n hx hb dX6_leastPhase_26 rfl (lv_at hl 0 rfl) ?_
        obtain ⟨x16, a17, hc, h⟩ := bd2_inv h
        refine r_cVv X hw (As := []) (rest := []) (wr := [(h_this_s, .inl (cI, 103, .inl s_)), (h_this_nears, .inl (cI, 10, .inl a15))]) (ws' := [(h0, .inr (6, [.int thrown_, .ref h_this_s, .ref h_this_saved, .int savedMany_, .ref h_this_snapshot, .int hasSnapshot_, .ref h_this_text, .int length_, .ref h_this_lumps, .int x16, .ref h_this_order, .ref h_this_nears, .int x11, .int x12, .int at_, .int isWell_, .ref h_this_told, .int toldMany_])), (h_this_s, .inl (cI, 103, .inl s_)), (h_this_lumps, .inl (cI, 10, .inl a17)), (h_this_order, .inl (cI, 10, .inl a14)), (h_this_nears, .inl (cI, 10, .inl a15))]) (c_X6_joinsLast l D cI cC cO N h0 h_this_s h_this_saved h_this_snapshot h_this_text h_this_lumps h_this_order h_this_nears h_this_told thrown_ savedMany_ hasSnapshot_ length_ x10 x11 x12 at_ isWell_ toldMany_ a13 a14 x16 a17 hc) (cs_X6_95 X (by decide)) [0, 2, 3] [1, 4] [2, 0, 3, 4, 1] rfl rfl rfl rfl (by decide) rfl rfl 0 rfl rfl rfl rfl hl.1 rfl (Nat.le_of_ble_eq_true rfl) dX6_leastPhase_27 ⟨Nat.zero_le _, Nat.zero_le _⟩ (fun H locs hw => ?_)
        refine lv_aload_n hx hb dX6_leastPhase_30 rfl (lv_at hl 0 rfl) ?_
        obtain ⟨x18, x19, a20, a21, hc, h⟩ := bd4_inv h
        refine r_cVv X hw (As := []) (rest := []) (wr := []) (ws' := [(h0, .inr (6, [.int thrown_, .ref h_this_s, .ref h_this_saved, .int savedMany_, .ref h_this_snapshot, .int hasSnapshot_, .ref h_this_text, .int length_, .ref h_this_lumps, .int x16, .ref h_this_order, .ref h_this_nears, .int x18, .int x19, .int at_, .int isWell_, .ref h_this_told, .int toldMany_])), (h_this_s, .inl (cI, 103, .inl s_)), (h_this_lumps, .inl (cI, 10, .inl a17)), (h_this_order, .inl (cI, 10, .inl a20)), (h_this_nears, .inl (cI, 10, .inl a21))]) (c_X6_swallows l D cI cC cO N h0 h_this_s h_this_saved h_this_snapshot h_this_text h_this_lumps h_this_order h_this_nears h_this_told thrown_ savedMany_ hasSnapshot_ length_ x16 x11 x12 at_ isWell_ toldMany_ s_ a17 a14 a15 x18 x19 a20 a21 hc) (cs_X6_92 X (by decide)) [0, 1, 2, 3, 4] [] [0, 1, 2, 3, 4] rfl rfl rfl rfl (by decide) rfl rfl 0 rfl rfl rfl rfl hl.1 rfl (Nat.le_of_ble_eq_true rfl) dX6_leastPhase_31 ⟨Nat.zero_le _, Nat.zero_le _⟩ (fun H locs hw => ?_)
        refine lv_aload_n hx hb dX6_leastPhase_34 rfl (lv_at hl 0 rfl) ?_
        refine fg_X6_89 X hw 0 rfl rfl dX6_leastPhase_35 ?_
        refine lv_iload_n hx hb dX6_leastPhase_38 rfl (lv_at hl 2 rfl) ?_
        have J47 : ∀ (x22 : Int32) (H : Heap) (locs : List Loc) (ls : Array Slot), f_X6_leastPhase_J47 x8 x19 (f_X6_leastPhase_L14 N s_ k24 n26) x9 x16 x18 a17 a20 a21 x22 = some (r_, lumpMany_', partingSet_', partingWeight_', lumps_', order_', nears_') → Wd D A s.heap [(h0, .inr (6, [.int thrown_, .ref h_this_s, .ref h_this_saved, .int savedMany_, .ref h_this_snapshot, .int hasSnapshot_, .ref h_this_text, .int length_, .ref h_this_lumps, .int x16, .ref h_this_order, .ref h_this_nears, .int x18, .int x19, .int at_, .int isWell_, .ref h_this_told, .int toldMany_])), (h_this_s, .inl (cI, 103, .inl s_)), (h_this_lumps, .inl (cI, 10, .inl a17)), (h_this_order, .inl (cI, 10, .inl a20)), (h_this_nears, .inl (cI, 10, .inl a21))] H locs → lv_has ls 4 [(0, .ref h0), (2, .int x8), (3, .int x9)] → W p l e rmX6_leastPhase s m ([.ref h0] : List Value).toArray below meth c H locs 0 0 (MQ below (Qi D r_ [(h0, .inr (6, [.int thrown_, .ref h_this_s, .ref h_this_saved, .int savedMany_, .ref h_this_snapshot, .int hasSnapshot_, .ref h_this_text, .int length_, .ref h_this_lumps, .int lumpMany_', .ref h_this_order, .ref h_this_nears, .int partingSet_', .int partingWeight_', .int at_, .int isWell_, .ref h_this_told, .int toldMany_])), (h_this_s, .inl (cI, 103, .inl s_)), (h_this_lumps, .inl (cI, 10, .inl lumps_')), (h_this_order, .inl (cI, 10, .inl order_')), (h_this_nears, .inl (cI, 10, .inl nears_'))] A) ([.ref h0] : List Value).toArray s 0 0 A) (F0 m 47 ls [.int x22]) := by
          intro x22 H locs ls h hw hl
          unfold f_X6_leastPhase_J47 at h
          refine lv_istore_n (lv' := [(1, .int x22), (0, .ref h0), (2, .int x8), (3, .int x9)]) hx hb dX6_leastPhase_47 rfl hl (by decide) rfl (fun ls hl => ?_)
          refine lv_aload_n hx hb dX6_leastPhase_48 rfl (lv_at hl 1 rfl) ?_
          refine fg_X6_89 X hw 0 rfl rfl dX6_leastPhase_49 ?_
          refine lv_iload_n hx hb dX6_leastPhase_52 rfl (lv_at hl 2 rfl) ?_
          have J64 : ∀ (x23 : Int32) (H : Heap) (locs : List Loc) (ls : Array Slot), f_X6_leastPhase_J64 (f_X6_leastPhase_L14 N s_ k24 n26) x22 x9 x16 x18 x19 a17 a20 a21 x23 = some (r_, lumpMany_', partingSet_', partingWeight_', lumps_', order_', nears_') → Wd D A s.heap [(h0, .inr (6, [.int thrown_, .ref h_this_s, .ref h_this_saved, .int savedMany_, .ref h_this_snapshot, .int hasSnapshot_, .ref h_this_text, .int length_, .ref h_this_lumps, .int x16, .ref h_this_order, .ref h_this_nears, .int x18, .int x19, .int at_, .int isWell_, .ref h_this_told, .int toldMany_])), (h_this_s, .inl (cI, 103, .inl s_)), (h_this_lumps, .inl (cI, 10, .inl a17)), (h_this_order, .inl (cI, 10, .inl a20)), (h_this_nears, .inl (cI, 10, .inl a21))] H locs → lv_has ls 4 [(0, .ref h0), (1, .int x22), (3, .int x9)] → W p l e rmX6_leastPhase s m ([.ref h0] : List Value).toArray below meth c H locs 0 0 (MQ below (Qi D r_ [(h0, .inr (6, [.int thrown_, .ref h_this_s, .ref h_this_saved, .int savedMany_, .ref h_this_snapshot, .int hasSnapshot_, .ref h_this_text, .int length_, .ref h_this_lumps, .int lumpMany_', .ref h_this_order, .ref h_this_nears, .int partingSet_', .int partingWeight_', .int at_, .int isWell_, .ref h_this_told, .int toldMany_])), (h_this_s, .inl (cI, 103, .inl s_)), (h_this_lumps, .inl (cI, 10, .inl lumps_')), (h_this_order, .inl (cI, 10, .inl order_')), (h_this_nears, .inl (cI, 10, .inl nears_'))] A) ([.ref h0] : List Value).toArray s 0 0 A) (F0 m 64 ls [.int x23]) := by
            intro x23 H locs ls h hw hl
            unfold f_X6_leastPhase_J64 at h
            refine lv_istore_n (lv' := [(2, .int x23), (0, .ref h0), (1, .int x22), (3, .int x9)]) hx hb dX6_leastPhase_64 rfl hl (by decide) rfl (fun ls hl => ?_)
            refine lv_iinc (v := (x9 + (1 : Int32))) (lv' := [(3, .int (x9 + (1 : Int32))), (2, .int x23), (0, .ref h0), (1, .int x22)]) hx hb dX6_leastPhase_65 hl (k := 3) rfl rfl (by decide) rfl (fun ls hl => ?_)
            refine lv_goto (tgt := 14) hx hb dX6_leastPhase_68 (by decide) ?_
            exact ih14 x22 x23 (x9 + (1 : Int32)) x16 x18 x19 a17 a20 a21 _ _ _ h hw (lv_sub hl [2, 3, 1, 0] rfl)
          refine lv_icmp_ge (tgt := 63) hx hb dX6_leastPhase_53 (by decide) (fun c1 => ?_) (fun c1 => ?_)
          · replace h := ip c1 h
            refine lv_iload_n hx hb dX6_leastPhase_63 rfl (lv_at hl 2 rfl) ?_
            exact J64 x8 _ _ _ h hw (lv_sub hl [1, 0, 3] rfl)
          · replace h := ig c1 h
            refine lv_aload_n hx hb dX6_leastPhase_56 rfl (lv_at hl 1 rfl) ?_
            refine fg_X6_89 X hw 0 rfl rfl dX6_leastPhase_57 ?_
            refine lv_goto (tgt := 64) hx hb dX6_leastPhase_60 (by decide) ?_
            exact J64 x19 _ _ _ h hw (lv_sub hl [1, 0, 3] rfl)
        refine lv_icmp_ge (tgt := 46) hx hb dX6_leastPhase_39 (by decide) (fun c1 => ?_) (fun c1 => ?_)
        · replace h := ip c1 h
          refine lv_iload_n hx hb dX6_leastPhase_46 rfl (lv_at hl 1 rfl) ?_
          exact J47 x7 _ _ _ h hw (lv_sub hl [0, 2, 3] rfl)
        · replace h := ig c1 h
          refine lv_iload_n hx hb dX6_leastPhase_42 rfl (lv_at hl 3 rfl) ?_
          refine lv_goto (tgt := 47) hx hb dX6_leastPhase_43 (by decide) ?_
          exact J47 x9 _ _ _ h hw (lv_sub hl [0, 2, 3] rfl)
  exact L14 (fun x27 x28 x29 x30 a31 a32 a33 => f_X6_leastPhase_E71 x27 x28 x29 x30 a31 a32 a33) (fun x27 x28 x29 x30 a31 a32 a33 H locs ls h hw hl => E71 x27 x28 x29 x30 a31 a32 a33 H locs ls h hw hl) N (0 : Int32) x3 (1 : Int32) x1 x2 x3 a4 a5 a6 _ _ _ h hw (lv_sub hl [3, 2, 1, 0] rfl)
def rmX6_leastByPhases : Room := { frames := 6, cells := 0, slots := 0, locals := 141 }
section
variable {p : Program} {l : Launch} {e : Env} {R : Room} {s : State} {m : MethodId} {args : Array Value} {below : List Frame} {meth : Method} {c : Code} {H : Heap} {locs : List Loc} {cells slots : Nat} {Q : State → Prop}
variable {cc : ByteArray} {pc nL : Nat} {ls : Array Slot} {rest : List Value} {D : va_G} {cI cC cO : ClassId} {A : Nat → Prop} {ws : va_W} {H0 : Heap}
theorem cs_X6_102 (X : Ctx p m c cc nL s args RX6 D cI cC cO) (hR : rmX6_leastPhase.frames + 1 ≤ R.frames ∧ 8 + (4 + 11) + rmX6_leastPhase.locals ≤ R.locals) : CallW R s args RX6 RX6 102 yX6_leastPhase cX6_leastPhase 4 (some .int) (Wy yX6_leastPhase cX6_leastPhase 4 (some .int)) rmX6_leastPhase 0 0 0 := cwV 0 X.1.2.2.2.2 (gi_V tw_658 tw_660 sw_yX6_leastPhase tw_7 tw_661) rfl rfl rfl (by decide +kernel) hR
end
set_option maxHeartbeats 4000000 in
set_option maxRecDepth 100000 in
theorem c_X6_leastByPhases (l : Launch) (D : va_G) (cI cC cO : ClassId) (N : Nat) (h0 h_this_s h_this_saved h_this_snapshot h_this_text h_this_lumps h_this_order h_this_nears h_this_told : Nat) (thrown_ savedMany_ hasSnapshot_ length_ lumpMany_ partingSet_ partingWeight_ at_ isWell_ toldMany_ : Int32) (s_ lumps_ order_ nears_ : Nat → Int32) (r_ : Int32) (lumpMany_' : Int32) (partingSet_' : Int32) (partingWeight_' : Int32) (lumps_' : Nat → Int32) (order_' : Nat → Int32) (nears_' : Nat → Int32) (h : f_X6_leastByPhases N s_ lumps_ order_ nears_ = some (r_, lumpMany_', partingSet_', partingWeight_', lumps_', order_', nears_')) : CI l yX6_leastByPhases (Wy yX6_leastByPhases cX6_leastByPhases 1 (some .int)) rmX6_leastByPhases D cI cC cO [.ref h0] [(h0, .inr (6, [.int thrown_, .ref h_this_s, .ref h_this_saved, .int savedMany_, .ref h_this_snapshot, .int hasSnapshot_, .ref h_this_text, .int length_, .ref h_this_lumps, .int lumpMany_, .ref h_this_order, .ref h_this_nears, .int partingSet_, .int partingWeight_, .int at_, .int isWell_, .ref h_this_told, .int toldMany_])), (h_this_s, .inl (cI, 103, .inl s_)), (h_this_lumps, .inl (cI, 10, .inl lumps_)), (h_this_order, .inl (cI, 10, .inl order_)), (h_this_nears, .inl (cI, 10, .inl nears_))] r_ [(h0, .inr (6, [.int thrown_, .ref h_this_s, .ref h_this_saved, .int savedMany_, .ref h_this_snapshot, .int hasSnapshot_, .ref h_this_text, .int length_, .ref h_this_lumps, .int lumpMany_', .ref h_this_order, .ref h_this_nears, .int partingSet_', .int partingWeight_', .int at_, .int isWell_, .ref h_this_told, .int toldMany_])), (h_this_s, .inl (cI, 103, .inl s_)), (h_this_lumps, .inl (cI, 10, .inl lumps_')), (h_this_order, .inl (cI, 10, .inl order_')), (h_this_nears, .inl (cI, 10, .inl nears_'))] := by
  refine enter_i RX6 (by decide) rfl (Nat.le_of_ble_eq_true rfl) ?_
  intro p e s m below meth c A X hr hlk hw ls hl
  have hx := X.1.1
  have hb := X.1.2.1
  have hl : lv_has ls 1 [(0, .ref h0)] := hl
  unfold f_X6_leastByPhases at h
  refine lv_aload_n hx hb dX6_leastByPhases_0 rfl (lv_at hl 0 rfl) ?_
  refine lv_aload_n hx hb dX6_leastByPhases_1 rfl (lv_at hl 0 rfl) ?_
  obtain ⟨r1, x2, x3, x4, a5, a6, a7, hc, h⟩ := bd7_inv h
  refine r_cVi X hw (As := []) (rest := [.ref h0]) (wr := []) (ws' := [(h0, .inr (6, [.int thrown_, .ref h_this_s, .ref h_this_saved, .int savedMany_, .ref h_this_snapshot, .int hasSnapshot_, .ref h_this_text, .int length_, .ref h_this_lumps, .int x2, .ref h_this_order, .ref h_this_nears, .int x3, .int x4, .int at_, .int isWell_, .ref h_this_told, .int toldMany_])), (h_this_s, .inl (cI, 103, .inl s_)), (h_this_lumps, .inl (cI, 10, .inl a5)), (h_this_order, .inl (cI, 10, .inl a6)), (h_this_nears, .inl (cI, 10, .inl a7))]) (c_X6_leastPhase l D cI cC cO N h0 h_this_s h_this_saved h_this_snapshot h_this_text h_this_lumps h_this_order h_this_nears h_this_told thrown_ savedMany_ hasSnapshot_ length_ lumpMany_ partingSet_ partingWeight_ at_ isWell_ toldMany_ s_ lumps_ order_ nears_ r1 x2 x3 x4 a5 a6 a7 hc) (cs_X6_102 X (by decide)) [0, 1, 2, 3, 4] [] [0, 1, 2, 3, 4] rfl rfl rfl rfl (by decide) rfl rfl 0 rfl rfl rfl rfl hl.1 rfl (Nat.le_of_ble_eq_true rfl) dX6_leastByPhases_2 ⟨Nat.zero_le _, Nat.zero_le _⟩ (fun H locs hw => ?_)
  obtain ⟨x8, x9, x10, a11, a12, a13, hc, h⟩ := bd6_inv h
  refine r_cVv X hw (As := [.int r1]) (rest := []) (wr := []) (ws' := [(h0, .inr (6, [.int thrown_, .ref h_this_s, .ref h_this_saved, .int savedMany_, .ref h_this_snapshot, .int hasSnapshot_, .ref h_this_text, .int length_, .ref h_this_lumps, .int x8, .ref h_this_order, .ref h_this_nears, .int x9, .int x10, .int at_, .int isWell_, .ref h_this_told, .int toldMany_])), (h_this_s, .inl (cI, 103, .inl s_)), (h_this_lumps, .inl (cI, 10, .inl a11)), (h_this_order, .inl (cI, 10, .inl a12)), (h_this_nears, .inl (cI, 10, .inl a13))]) (c_X6_laysPhase l D cI cC cO N h0 h_this_s h_this_saved h_this_snapshot h_this_text h_this_lumps h_this_order h_this_nears h_this_told r1 thrown_ savedMany_ hasSnapshot_ length_ x2 x3 x4 at_ isWell_ toldMany_ s_ a5 a6 a7 x8 x9 x10 a11 a12 a13 hc) (cs_X6_98 X (by decide)) [0, 1, 2, 3, 4] [] [0, 1, 2, 3, 4] rfl rfl rfl rfl (by decide) rfl rfl 0 rfl rfl rfl rfl hl.1 rfl (Nat.le_of_ble_eq_true rfl) dX6_leastByPhases_5 ⟨Nat.zero_le _, Nat.zero_le _⟩ (fun H locs hw => ?_)
  refine lv_aload_n hx hb dX6_leastByPhases_8 rfl (lv_at hl 0 rfl) ?_
  refine fg_X6_86 X hw 0 rfl rfl dX6_leastByPhases_9 ?_
  obtain ⟨rfl, rfl, rfl, rfl, rfl, rfl, rfl⟩ := oi7 h
  exact r_ret X hw hr hlk dX6_leastByPhases_12
def rmX6_grow : Room := { frames := 1, cells := 0, slots := 0, locals := 21 }
section
variable {p : Program} {l : Launch} {e : Env} {R : Room} {s : State} {m : MethodId} {args : Array Value} {below : List Frame} {meth : Method} {c : Code} {H : Heap} {locs : List Loc} {cells slots : Nat} {Q : State → Prop}
variable {cc : ByteArray} {pc nL : Nat} {ls : Array Slot} {rest : List Value} {D : va_G} {cI cC cO : ClassId} {A : Nat → Prop} {ws : va_W} {H0 : Heap}
theorem cs_X6_105 (X : Ctx p m c cc nL s args RX6 D cI cC cO) (hR : rmX6_records.frames + 1 ≤ R.frames ∧ 8 + (2 + 11) + rmX6_records.locals ≤ R.locals) : CallW R s args RX6 RX6 105 yX6_records cX6_records 2 none (Wy yX6_records cX6_records 2 none) rmX6_records 0 0 0 := cwV 0 X.1.2.2.2.2 (gi_V tw_607 tw_609 sw_yX6_records tw_7 tw_610) rfl rfl rfl (by decide +kernel) hR
end
set_option maxHeartbeats 4000000 in
set_option maxRecDepth 100000 in
theorem c_X6_grow (l : Launch) (D : va_G) (cI cC cO : ClassId) (N : Nat) (h0 h_this_s h_this_saved h_this_snapshot h_this_text h_this_lumps h_this_order h_this_nears h_this_told : Nat) (thrown_ savedMany_ hasSnapshot_ length_ lumpMany_ partingSet_ partingWeight_ at_ isWell_ toldMany_ : Int32) (s_ saved_ : Nat → Int32) (r_ : Int32) (thrown_' : Int32) (savedMany_' : Int32) (s_' : Nat → Int32) (saved_' : Nat → Int32) (h : f_X6_grow N savedMany_ s_ saved_ = some (r_, thrown_', savedMany_', s_', saved_')) : CI l yX6_grow (Wy yX6_grow cX6_grow 1 (some .int)) rmX6_grow D cI cC cO [.ref h0] [(h0, .inr (6, [.int thrown_, .ref h_this_s, .ref h_this_saved, .int savedMany_, .ref h_this_snapshot, .int hasSnapshot_, .ref h_this_text, .int length_, .ref h_this_lumps, .int lumpMany_, .ref h_this_order, .ref h_this_nears, .int partingSet_, .int partingWeight_, .int at_, .int isWell_, .ref h_this_told, .int toldMany_])), (h_this_s, .inl (cI, 103, .inl s_)), (h_this_saved, .inl (cI, 412, .inl saved_))] r_ [(h0, .inr (6, [.int thrown_', .ref h_this_s, .ref h_this_saved, .int savedMany_', .ref h_this_snapshot, .int hasSnapshot_, .ref h_this_text, .int length_, .ref h_this_lumps, .int lumpMany_, .ref h_this_order, .ref h_this_nears, .int partingSet_, .int partingWeight_, .int at_, .int isWell_, .ref h_this_told, .int toldMany_])), (h_this_s, .inl (cI, 103, .inl s_')), (h_this_saved, .inl (cI, 412, .inl saved_'))] := by
  refine enter_i RX6 (by decide) rfl (Nat.le_of_ble_eq_true rfl) ?_
  intro p e s m below meth c A X hr hlk hw ls hl
  have hx := X.1.1
  have hb := X.1.2.1
  have hl : lv_has ls 1 [(0, .ref h0)] := hl
  unfold f_X6_grow at h
  refine lv_aload_n hx hb dX6_grow_0 rfl (lv_at hl 0 rfl) ?_
  refine lv_iconst (v := 0) hx hb dX6_grow_1 (by decide) ?_
  refine fp_X6_34 X hw 0 rfl rfl dX6_grow_2 (fun H locs hw => ?_)
  have hw : Wd D A s.heap [(h0, .inr (6, [.int (0 : Int32), .ref h_this_s, .ref h_this_saved, .int savedMany_, .ref h_this_snapshot, .int hasSnapshot_, .ref h_this_text, .int length_, .ref h_this_lumps, .int lumpMany_, .ref h_this_order, .ref h_this_nears, .int partingSet_, .int partingWeight_, .int at_, .int isWell_, .ref h_this_told, .int toldMany_])), (h_this_s, .inl (cI, 103, .inl s_)), (h_this_saved, .inl (cI, 412, .inl saved_))] H locs := hw
  refine lv_aload_n hx hb dX6_grow_5 rfl (lv_at hl 0 rfl) ?_
  refine fg_X6_7 X hw 0 rfl rfl dX6_grow_6 ?_
  refine lv_iconst (v := 0) hx hb dX6_grow_9 (by decide) ?_
  refine r_iald X hw 1 rfl (v := (s_ 0)) (vp_lit (by decide)) rfl dX6_grow_10 ?_
  refine lv_bipush (v := 10) hx hb dX6_grow_11 (by decide) ?_
  refine lv_icmp_ne (tgt := 19) hx hb dX6_grow_13 (by decide) (fun c1 => ?_) (fun c1 => ?_)
  · replace h := ig c1 h
    refine lv_aload_n hx hb dX6_grow_19 rfl (lv_at hl 0 rfl) ?_
    obtain ⟨x1, a2, hc, h⟩ := bd2_inv h
    refine r_cVv X hw (As := []) (rest := []) (wr := []) (ws' := [(h0, .inr (6, [.int (0 : Int32), .ref h_this_s, .ref h_this_saved, .int x1, .ref h_this_snapshot, .int hasSnapshot_, .ref h_this_text, .int length_, .ref h_this_lumps, .int lumpMany_, .ref h_this_order, .ref h_this_nears, .int partingSet_, .int partingWeight_, .int at_, .int isWell_, .ref h_this_told, .int toldMany_])), (h_this_s, .inl (cI, 103, .inl s_)), (h_this_saved, .inl (cI, 412, .inl a2))]) (c_X6_records l D cI cC cO N h0 h_this_s h_this_saved h_this_snapshot h_this_text h_this_lumps h_this_order h_this_nears h_this_told (0 : Int32) savedMany_ hasSnapshot_ length_ lumpMany_ partingSet_ partingWeight_ at_ isWell_ toldMany_ s_ saved_ x1 a2 hc) (cs_X6_105 X (by decide)) [0, 1, 2] [] [0, 1, 2] rfl rfl rfl rfl (by decide) rfl rfl 0 rfl rfl rfl rfl hl.1 rfl (Nat.le_of_ble_eq_true rfl) dX6_grow_20 ⟨Nat.zero_le _, Nat.zero_le _⟩ (fun H locs hw => ?_)
    refine lv_aload_n hx hb dX6_grow_23 rfl (lv_at hl 0 rfl) ?_
    refine fg_X6_7 X hw 0 rfl rfl dX6_grow_24 ?_
    refine lv_iconst (v := 0) hx hb dX6_grow_27 (by decide) ?_
    refine lv_dup2_11 hx hb dX6_grow_28 rfl rfl ?_
    refine r_iald X hw 1 rfl (v := (s_ 0)) (vp_lit (by decide)) rfl dX6_grow_29 ?_
    refine lv_iconst (v := 1) hx hb dX6_grow_30 (by decide) ?_
    refine lv_iadd hx hb dX6_grow_31 ?_
    refine r_iast X hw 1 rfl (vp_lit (by decide)) rfl dX6_grow_32 (fun H locs hw => ?_)
    have hw : Wd D A s.heap [(h0, .inr (6, [.int (0 : Int32), .ref h_this_s, .ref h_this_saved, .int x1, .ref h_this_snapshot, .int hasSnapshot_, .ref h_this_text, .int length_, .ref h_this_lumps, .int lumpMany_, .ref h_this_order, .ref h_this_nears, .int partingSet_, .int partingWeight_, .int at_, .int isWell_, .ref h_this_told, .int toldMany_])), (h_this_s, .inl (cI, 103, .inl (upd s_ 0 ((s_ 0) + (1 : Int32))))), (h_this_saved, .inl (cI, 412, .inl a2))] H locs := hw
    refine lv_aload_n hx hb dX6_grow_33 rfl (lv_at hl 0 rfl) ?_
    refine fg_X6_7 X hw 0 rfl rfl dX6_grow_34 ?_
    refine lv_iconst (v := 0) hx hb dX6_grow_37 (by decide) ?_
    refine r_iald X hw 1 rfl (v := ((upd s_ 0 ((s_ 0) + (1 : Int32))) 0)) (vp_lit (by decide)) rfl dX6_grow_38 ?_
    refine lv_iconst (v := 1) hx hb dX6_grow_39 (by decide) ?_
    refine lv_isub hx hb dX6_grow_40 ?_
    obtain ⟨rfl, rfl, rfl, rfl, rfl⟩ := oi5 h
    exact r_ret X hw hr hlk dX6_grow_41
  · replace h := ip c1 h
    refine lv_bipush (v := -3) hx hb dX6_grow_16 (by decide) ?_
    obtain ⟨rfl, rfl, rfl, rfl, rfl⟩ := oi5 h
    exact r_ret X hw hr hlk dX6_grow_18
def rmX6_drops : Room := { frames := 1, cells := 0, slots := 0, locals := 22 }
set_option maxHeartbeats 4000000 in
set_option maxRecDepth 100000 in
theorem c_X6_drops (l : Launch) (D : va_G) (cI cC cO : ClassId) (N : Nat) (h0 h_this_s h_this_saved h_this_snapshot h_this_text h_this_lumps h_this_order h_this_nears h_this_told : Nat) (p1 thrown_ savedMany_ hasSnapshot_ length_ lumpMany_ partingSet_ partingWeight_ at_ isWell_ toldMany_ : Int32) (s_ : Nat → Int32) (s_' : Nat → Int32) (h : f_X6_drops N p1 s_ = some s_') : CV l yX6_drops (Wy yX6_drops cX6_drops 5 none) rmX6_drops D cI cC cO [.ref h0, .int p1] [(h0, .inr (6, [.int thrown_, .ref h_this_s, .ref h_this_saved, .int savedMany_, .ref h_this_snapshot, .int hasSnapshot_, .ref h_this_text, .int length_, .ref h_this_lumps, .int lumpMany_, .ref h_this_order, .ref h_this_nears, .int partingSet_, .int partingWeight_, .int at_, .int isWell_, .ref h_this_told, .int toldMany_])), (h_this_s, .inl (cI, 103, .inl s_))] [(h0, .inr (6, [.int thrown_, .ref h_this_s, .ref h_this_saved, .int savedMany_, .ref h_this_snapshot, .int hasSnapshot_, .ref h_this_text, .int length_, .ref h_this_lumps, .int lumpMany_, .ref h_this_order, .ref h_this_nears, .int partingSet_, .int partingWeight_, .int at_, .int isWell_, .ref h_this_told, .int toldMany_])), (h_this_s, .inl (cI, 103, .inl s_'))] := by
  refine enter_v RX6 (by decide) rfl (Nat.le_of_ble_eq_true rfl) ?_
  intro p e s m below meth c A X hr hlk hw ls hl
  have hx := X.1.1
  have hb := X.1.2.1
  have hl : lv_has ls 5 [(0, .ref h0), (1, .int p1)] := hl
  unfold f_X6_drops at h
  refine lv_aload_n hx hb dX6_drops_0 rfl (lv_at hl 0 rfl) ?_
  refine fg_X6_7 X hw 0 rfl rfl dX6_drops_1 ?_
  refine lv_iconst (v := 0) hx hb dX6_drops_4 (by decide) ?_
  refine r_iald X hw 1 rfl (v := (s_ 0)) (vp_lit (by decide)) rfl dX6_drops_5 ?_
  refine lv_iconst (v := 1) hx hb dX6_drops_6 (by decide) ?_
  refine lv_isub hx hb dX6_drops_7 ?_
  refine lv_istore_n (lv' := [(2, .int ((s_ 0) - (1 : Int32))), (0, .ref h0), (1, .int p1)]) hx hb dX6_drops_8 rfl hl (by decide) rfl (fun ls hl => ?_)
  refine lv_iconst (v := 0) hx hb dX6_drops_9 (by decide) ?_
  refine lv_istore_n (lv' := [(3, .int (0 : Int32)), (2, .int ((s_ 0) - (1 : Int32))), (0, .ref h0), (1, .int p1)]) hx hb dX6_drops_10 rfl hl (by decide) rfl (fun ls hl => ?_)
  have E74 : ∀ (a13 : Nat → Int32) (H : Heap) (locs : List Loc) (ls : Array Slot), f_X6_drops_E74 N s_ p1 a13 = some s_' → Wd D A s.heap [(h0, .inr (6, [.int thrown_, .ref h_this_s, .ref h_this_saved, .int savedMany_, .ref h_this_snapshot, .int hasSnapshot_, .ref h_this_text, .int length_, .ref h_this_lumps, .int lumpMany_, .ref h_this_order, .ref h_this_nears, .int partingSet_, .int partingWeight_, .int at_, .int isWell_, .ref h_this_told, .int toldMany_])), (h_this_s, .inl (cI, 103, .inl a13))] H locs → lv_has ls 5 [(0, .ref h0), (1, .int p1), (2, .int ((s_ 0) - (1 : Int32)))] → W p l e rmX6_drops s m ([.ref h0, .int p1] : List Value).toArray below meth c H locs 0 0 (MQ below (Qv D [(h0, .inr (6, [.int thrown_, .ref h_this_s, .ref h_this_saved, .int savedMany_, .ref h_this_snapshot, .int hasSnapshot_, .ref h_this_text, .int length_, .ref h_this_lumps, .int lumpMany_, .ref h_this_order, .ref h_this_nears, .int partingSet_, .int partingWeight_, .int at_, .int isWell_, .ref h_this_told, .int toldMany_])), (h_this_s, .inl (cI, 103, .inl s_'))] A) ([.ref h0, .int p1] : List Value).toArray s 0 0 A) (F0 m 74 ls []) := by
    intro a13 H locs ls h hw hl
    unfold f_X6_drops_E74 at h
    refine lv_iload_n hx hb dX6_drops_74 rfl (lv_at hl 1 rfl) ?_
    refine lv_istore_n (lv' := [(3, .int p1), (0, .ref h0), (1, .int p1), (2, .int ((s_ 0) - (1 : Int32)))]) hx hb dX6_drops_75 rfl hl (by decide) rfl (fun ls hl => ?_)
    have E125 : ∀ (a26 : Nat → Int32) (H : Heap) (locs : List Loc) (ls : Array Slot), f_X6_drops_E125 N s_ a26 = some s_' → Wd D A s.heap [(h0, .inr (6, [.int thrown_, .ref h_this_s, .ref h_this_saved, .int savedMany_, .ref h_this_snapshot, .int hasSnapshot_, .ref h_this_text, .int length_, .ref h_this_lumps, .int lumpMany_, .ref h_this_order, .ref h_this_nears, .int partingSet_, .int partingWeight_, .int at_, .int isWell_, .ref h_this_told, .int toldMany_])), (h_this_s, .inl (cI, 103, .inl a26))] H locs → lv_has ls 5 [(0, .ref h0), (2, .int ((s_ 0) - (1 : Int32)))] → W p l e rmX6_drops s m ([.ref h0, .int p1] : List Value).toArray below meth c H locs 0 0 (MQ below (Qv D [(h0, .inr (6, [.int thrown_, .ref h_this_s, .ref h_this_saved, .int savedMany_, .ref h_this_snapshot, .int hasSnapshot_, .ref h_this_text, .int length_, .ref h_this_lumps, .int lumpMany_, .ref h_this_order, .ref h_this_nears, .int partingSet_, .int partingWeight_, .int at_, .int isWell_, .ref h_this_told, .int toldMany_])), (h_this_s, .inl (cI, 103, .inl s_'))] A) ([.ref h0, .int p1] : List Value).toArray s 0 0 A) (F0 m 125 ls []) := by
      intro a26 H locs ls h hw hl
      unfold f_X6_drops_E125 at h
      refine lv_iconst (v := 0) hx hb dX6_drops_125 (by decide) ?_
      refine lv_istore_n (lv' := [(3, .int (0 : Int32)), (0, .ref h0), (2, .int ((s_ 0) - (1 : Int32)))]) hx hb dX6_drops_126 rfl hl (by decide) rfl (fun ls hl => ?_)
      have E153 : ∀ (a32 : Nat → Int32) (H : Heap) (locs : List Loc) (ls : Array Slot), f_X6_drops_E153 a32 = some s_' → Wd D A s.heap [(h0, .inr (6, [.int thrown_, .ref h_this_s, .ref h_this_saved, .int savedMany_, .ref h_this_snapshot, .int hasSnapshot_, .ref h_this_text, .int length_, .ref h_this_lumps, .int lumpMany_, .ref h_this_order, .ref h_this_nears, .int partingSet_, .int partingWeight_, .int at_, .int isWell_, .ref h_this_told, .int toldMany_])), (h_this_s, .inl (cI, 103, .inl a32))] H locs → lv_has ls 5 [(0, .ref h0)] → W p l e rmX6_drops s m ([.ref h0, .int p1] : List Value).toArray below meth c H locs 0 0 (MQ below (Qv D [(h0, .inr (6, [.int thrown_, .ref h_this_s, .ref h_this_saved, .int savedMany_, .ref h_this_snapshot, .int hasSnapshot_, .ref h_this_text, .int length_, .ref h_this_lumps, .int lumpMany_, .ref h_this_order, .ref h_this_nears, .int partingSet_, .int partingWeight_, .int at_, .int isWell_, .ref h_this_told, .int toldMany_])), (h_this_s, .inl (cI, 103, .inl s_'))] A) ([.ref h0, .int p1] : List Value).toArray s 0 0 A) (F0 m 153 ls []) := by
        intro a32 H locs ls h hw hl
        unfold f_X6_drops_E153 at h
        refine lv_aload_n hx hb dX6_drops_153 rfl (lv_at hl 0 rfl) ?_
        refine fg_X6_7 X hw 0 rfl rfl dX6_drops_154 ?_
        refine lv_iconst (v := 0) hx hb dX6_drops_157 (by decide) ?_
        refine lv_dup2_11 hx hb dX6_drops_158 rfl rfl ?_
        refine r_iald X hw 1 rfl (v := (a32 0)) (vp_lit (by decide)) rfl dX6_drops_159 ?_
        refine lv_iconst (v := 1) hx hb dX6_drops_160 (by decide) ?_
        refine lv_isub hx hb dX6_drops_161 ?_
        refine r_iast X hw 1 rfl (vp_lit (by decide)) rfl dX6_drops_162 (fun H locs hw => ?_)
        have hw : Wd D A s.heap [(h0, .inr (6, [.int thrown_, .ref h_this_s, .ref h_this_saved, .int savedMany_, .ref h_this_snapshot, .int hasSnapshot_, .ref h_this_text, .int length_, .ref h_this_lumps, .int lumpMany_, .ref h_this_order, .ref h_this_nears, .int partingSet_, .int partingWeight_, .int at_, .int isWell_, .ref h_this_told, .int toldMany_])), (h_this_s, .inl (cI, 103, .inl (upd a32 0 ((a32 0) - (1 : Int32)))))] H locs := hw
        obtain rfl := oi1 h
        exact r_retv X hw hr hlk dX6_drops_163
      have L127 : ∀ (k29 : (Nat → Int32) → Option ((Nat → Int32))), (∀ (a32 : Nat → Int32) (H : Heap) (locs : List Loc) (ls : Array Slot), k29 a32 = some s_' → Wd D A s.heap [(h0, .inr (6, [.int thrown_, .ref h_this_s, .ref h_this_saved, .int savedMany_, .ref h_this_snapshot, .int hasSnapshot_, .ref h_this_text, .int length_, .ref h_this_lumps, .int lumpMany_, .ref h_this_order, .ref h_this_nears, .int partingSet_, .int partingWeight_, .int at_, .int isWell_, .ref h_this_told, .int toldMany_])), (h_this_s, .inl (cI, 103, .inl a32))] H locs → lv_has ls 5 [(0, .ref h0)] → W p l e rmX6_drops s m ([.ref h0, .int p1] : List Value).toArray below meth c H locs 0 0 (MQ below (Qv D [(h0, .inr (6, [.int thrown_, .ref h_this_s, .ref h_this_saved, .int savedMany_, .ref h_this_snapshot, .int hasSnapshot_, .ref h_this_text, .int length_, .ref h_this_lumps, .int lumpMany_, .ref h_this_order, .ref h_this_nears, .int partingSet_, .int partingWeight_, .int at_, .int isWell_, .ref h_this_told, .int toldMany_])), (h_this_s, .inl (cI, 103, .inl s_'))] A) ([.ref h0, .int p1] : List Value).toArray s 0 0 A) (F0 m 153 ls [])) → ∀ (n31 : Nat), ∀ (x27 : Int32) (a28 : Nat → Int32) (H : Heap) (locs : List Loc) (ls : Array Slot), f_X6_drops_L127 s_ k29 n31 x27 a28 = some s_' → Wd D A s.heap [(h0, .inr (6, [.int thrown_, .ref h_this_s, .ref h_this_saved, .int savedMany_, .ref h_this_snapshot, .int hasSnapshot_, .ref h_this_text, .int length_, .ref h_this_lumps, .int lumpMany_, .ref h_this_order, .ref h_this_nears, .int partingSet_, .int partingWeight_, .int at_, .int isWell_, .ref h_this_told, .int toldMany_])), (h_this_s, .inl (cI, 103, .inl a28))] H locs → lv_has ls 5 [(0, .ref h0), (2, .int ((s_ 0) - (1 : Int32))), (3, .int x27)] → W p l e rmX6_drops s m ([.ref h0, .int p1] : List Value).toArray below meth c H locs 0 0 (MQ below (Qv D [(h0, .inr (6, [.int thrown_, .ref h_this_s, .ref h_this_saved, .int savedMany_, .ref h_this_snapshot, .int hasSnapshot_, .ref h_this_text, .int length_, .ref h_this_lumps, .int lumpMany_, .ref h_this_order, .ref h_this_nears, .int partingSet_, .int partingWeight_, .int at_, .int isWell_, .ref h_this_told, .int toldMany_])), (h_this_s, .inl (cI, 103, .inl s_'))] A) ([.ref h0, .int p1] : List Value).toArray s 0 0 A) (F0 m 127 ls []) := by
        intro k29 hk127 n31
        induction n31 with
        | zero => intro x27 a28 H locs ls h; cases h
        | succ n31 ih127 =>
          intro x27 a28 H locs ls h hw hl
          rw [f_X6_drops_L127] at h
          refine lv_iload_n hx hb dX6_drops_127 rfl (lv_at hl 2 rfl) ?_
          refine lv_bipush (v := 10) hx hb dX6_drops_128 (by decide) ?_
          refine lv_icmp_ge (tgt := 153) hx hb dX6_drops_130 (by decide) (fun c1 => ?_) (fun c1 => ?_)
          · replace h := ip c1 h
            exact hk127 a28 _ _ _ h hw (lv_sub hl [0] rfl)
          · replace h := ig c1 h
            refine lv_aload_n hx hb dX6_drops_133 rfl (lv_at hl 0 rfl) ?_
            refine fg_X6_7 X hw 0 rfl rfl dX6_drops_134 ?_
            refine lv_iconst (v := 3) hx hb dX6_drops_137 (by decide) ?_
            refine lv_bipush (v := 10) hx hb dX6_drops_138 (by decide) ?_
            refine lv_iload_n hx hb dX6_drops_140 rfl (lv_at hl 1 rfl) ?_
            refine lv_imul hx hb dX6_drops_141 ?_
            refine lv_iadd hx hb dX6_drops_142 ?_
            refine lv_iload_n hx hb dX6_drops_143 rfl (lv_at hl 2 rfl) ?_
            refine lv_iadd hx hb dX6_drops_144 ?_
            refine lv_iconst (v := 0) hx hb dX6_drops_145 (by decide) ?_
            obtain ⟨b1, h⟩ := chk_inv h
            refine r_iast X hw 1 rfl b1 rfl dX6_drops_146 (fun H locs hw => ?_)
            have hw : Wd D A s.heap [(h0, .inr (6, [.int thrown_, .ref h_this_s, .ref h_this_saved, .int savedMany_, .ref h_this_snapshot, .int hasSnapshot_, .ref h_this_text, .int length_, .ref h_this_lumps, .int lumpMany_, .ref h_this_order, .ref h_this_nears, .int partingSet_, .int partingWeight_, .int at_, .int isWell_, .ref h_this_told, .int toldMany_])), (h_this_s, .inl (cI, 103, .inl (upd a28 ((((3 : Int32) + ((10 : Int32) * ((s_ 0) - (1 : Int32)))) + x27)).toNatClampNeg (0 : Int32))))] H locs := hw
            refine lv_iinc (v := (x27 + (1 : Int32))) (lv' := [(3, .int (x27 + (1 : Int32))), (0, .ref h0), (2, .int ((s_ 0) - (1 : Int32)))]) hx hb dX6_drops_147 hl (k := 2) rfl rfl (by decide) rfl (fun ls hl => ?_)
            refine lv_goto (tgt := 127) hx hb dX6_drops_150 (by decide) ?_
            exact ih127 (x27 + (1 : Int32)) (upd a28 ((((3 : Int32) + ((10 : Int32) * ((s_ 0) - (1 : Int32)))) + x27)).toNatClampNeg (0 : Int32)) _ _ _ h hw (lv_sub hl [1, 2, 0] rfl)
      exact L127 (fun a32 => f_X6_drops_E153 a32) (fun a32 H locs ls h hw hl => E153 a32 H locs ls h hw hl) N (0 : Int32) a26 _ _ _ h hw (lv_sub hl [1, 2, 0] rfl)
    have L76 : ∀ (k23 : (Nat → Int32) → Option ((Nat → Int32))), (∀ (a26 : Nat → Int32) (H : Heap) (locs : List Loc) (ls : Array Slot), k23 a26 = some s_' → Wd D A s.heap [(h0, .inr (6, [.int thrown_, .ref h_this_s, .ref h_this_saved, .int savedMany_, .ref h_this_snapshot, .int hasSnapshot_, .ref h_this_text, .int length_, .ref h_this_lumps, .int lumpMany_, .ref h_this_order, .ref h_this_nears, .int partingSet_, .int partingWeight_, .int at_, .int isWell_, .ref h_this_told, .int toldMany_])), (h_this_s, .inl (cI, 103, .inl a26))] H locs → lv_has ls 5 [(0, .ref h0), (2, .int ((s_ 0) - (1 : Int32)))] → W p l e rmX6_drops s m ([.ref h0, .int p1] : List Value).toArray below meth c H locs 0 0 (MQ below (Qv D [(h0, .inr (6, [.int thrown_, .ref h_this_s, .ref h_this_saved, .int savedMany_, .ref h_this_snapshot, .int hasSnapshot_, .ref h_this_text, .int length_, .ref h_this_lumps, .int lumpMany_, .ref h_this_order, .ref h_this_nears, .int partingSet_, .int partingWeight_, .int at_, .int isWell_, .ref h_this_told, .int toldMany_])), (h_this_s, .inl (cI, 103, .inl s_'))] A) ([.ref h0, .int p1] : List Value).toArray s 0 0 A) (F0 m 125 ls [])) → ∀ (n25 : Nat), ∀ (x14 : Int32) (a15 : Nat → Int32) (H : Heap) (locs : List Loc) (ls : Array Slot), f_X6_drops_L76 N s_ k23 n25 x14 a15 = some s_' → Wd D A s.heap [(h0, .inr (6, [.int thrown_, .ref h_this_s, .ref h_this_saved, .int savedMany_, .ref h_this_snapshot, .int hasSnapshot_, .ref h_this_text, .int length_, .ref h_this_lumps, .int lumpMany_, .ref h_this_order, .ref h_this_nears, .int partingSet_, .int partingWeight_, .int at_, .int isWell_, .ref h_this_told, .int toldMany_])), (h_this_s, .inl (cI, 103, .inl a15))] H locs → lv_has ls 5 [(0, .ref h0), (2, .int ((s_ 0) - (1 : Int32))), (3, .int x14)] → W p l e rmX6_drops s m ([.ref h0, .int p1] : List Value).toArray below meth c H locs 0 0 (MQ below (Qv D [(h0, .inr (6, [.int thrown_, .ref h_this_s, .ref h_this_saved, .int savedMany_, .ref h_this_snapshot, .int hasSnapshot_, .ref h_this_text, .int length_, .ref h_this_lumps, .int lumpMany_, .ref h_this_order, .ref h_this_nears, .int partingSet_, .int partingWeight_, .int at_, .int isWell_, .ref h_this_told, .int toldMany_])), (h_this_s, .inl (cI, 103, .inl s_'))] A) ([.ref h0, .int p1] : List Value).toArray s 0 0 A) (F0 m 76 ls []) := by
      intro k23 hk76 n25
      induction n25 with
      | zero => intro x14 a15 H locs ls h; cases h
      | succ n25 ih76 =>
        intro x14 a15 H locs ls h hw hl
        rw [f_X6_drops_L76] at h
        refine lv_iload_n hx hb dX6_drops_76 rfl (lv_at hl 2 rfl) ?_
        refine lv_iload_n hx hb dX6_drops_77 rfl (lv_at hl 1 rfl) ?_
        refine lv_icmp_ge (tgt := 125) hx hb dX6_drops_78 (by decide) (fun c1 => ?_) (fun c1 => ?_)
        · replace h := ip c1 h
          exact hk76 a15 _ _ _ h hw (lv_sub hl [0, 1] rfl)
        · replace h := ig c1 h
          refine lv_iconst (v := 0) hx hb dX6_drops_81 (by decide) ?_
          refine lv_istore (lv' := [(4, .int (0 : Int32)), (0, .ref h0), (2, .int ((s_ 0) - (1 : Int32))), (3, .int x14)]) hx hb dX6_drops_82 hl (by decide) rfl (fun ls hl => ?_)
          have E119 : ∀ (a22 : Nat → Int32) (H : Heap) (locs : List Loc) (ls : Array Slot), f_X6_drops_E119 (f_X6_drops_L76 N s_ k23 n25) x14 a22 = some s_' → Wd D A s.heap [(h0, .inr (6, [.int thrown_, .ref h_this_s, .ref h_this_saved, .int savedMany_, .ref h_this_snapshot, .int hasSnapshot_, .ref h_this_text, .int length_, .ref h_this_lumps, .int lumpMany_, .ref h_this_order, .ref h_this_nears, .int partingSet_, .int partingWeight_, .int at_, .int isWell_, .ref h_this_told, .int toldMany_])), (h_this_s, .inl (cI, 103, .inl a22))] H locs → lv_has ls 5 [(0, .ref h0), (2, .int ((s_ 0) - (1 : Int32))), (3, .int x14)] → W p l e rmX6_drops s m ([.ref h0, .int p1] : List Value).toArray below meth c H locs 0 0 (MQ below (Qv D [(h0, .inr (6, [.int thrown_, .ref h_this_s, .ref h_this_saved, .int savedMany_, .ref h_this_snapshot, .int hasSnapshot_, .ref h_this_text, .int length_, .ref h_this_lumps, .int lumpMany_, .ref h_this_order, .ref h_this_nears, .int partingSet_, .int partingWeight_, .int at_, .int isWell_, .ref h_this_told, .int toldMany_])), (h_this_s, .inl (cI, 103, .inl s_'))] A) ([.ref h0, .int p1] : List Value).toArray s 0 0 A) (F0 m 119 ls []) := by
            intro a22 H locs ls h hw hl
            unfold f_X6_drops_E119 at h
            refine lv_iinc (v := (x14 + (1 : Int32))) (lv' := [(3, .int (x14 + (1 : Int32))), (0, .ref h0), (2, .int ((s_ 0) - (1 : Int32)))]) hx hb dX6_drops_119 hl (k := 2) rfl rfl (by decide) rfl (fun ls hl => ?_)
            refine lv_goto (tgt := 76) hx hb dX6_drops_122 (by decide) ?_
            exact ih76 (x14 + (1 : Int32)) a22 _ _ _ h hw (lv_sub hl [1, 2, 0] rfl)
          have L84 : ∀ (k19 : (Nat → Int32) → Option ((Nat → Int32))), (∀ (a22 : Nat → Int32) (H : Heap) (locs : List Loc) (ls : Array Slot), k19 a22 = some s_' → Wd D A s.heap [(h0, .inr (6, [.int thrown_, .ref h_this_s, .ref h_this_saved, .int savedMany_, .ref h_this_snapshot, .int hasSnapshot_, .ref h_this_text, .int length_, .ref h_this_lumps, .int lumpMany_, .ref h_this_order, .ref h_this_nears, .int partingSet_, .int partingWeight_, .int at_, .int isWell_, .ref h_this_told, .int toldMany_])), (h_this_s, .inl (cI, 103, .inl a22))] H locs → lv_has ls 5 [(0, .ref h0), (2, .int ((s_ 0) - (1 : Int32))), (3, .int x14)] → W p l e rmX6_drops s m ([.ref h0, .int p1] : List Value).toArray below meth c H locs 0 0 (MQ below (Qv D [(h0, .inr (6, [.int thrown_, .ref h_this_s, .ref h_this_saved, .int savedMany_, .ref h_this_snapshot, .int hasSnapshot_, .ref h_this_text, .int length_, .ref h_this_lumps, .int lumpMany_, .ref h_this_order, .ref h_this_nears, .int partingSet_, .int partingWeight_, .int at_, .int isWell_, .ref h_this_told, .int toldMany_])), (h_this_s, .inl (cI, 103, .inl s_'))] A) ([.ref h0, .int p1] : List Value).toArray s 0 0 A) (F0 m 119 ls [])) → ∀ (n21 : Nat), ∀ (x16 : Int32) (a17 : Nat → Int32) (H : Heap) (locs : List Loc) (ls : Array Slot), f_X6_drops_L84 s_ x14 k19 n21 x16 a17 = some s_' → Wd D A s.heap [(h0, .inr (6, [.int thrown_, .ref h_this_s, .ref h_this_saved, .int savedMany_, .ref h_this_snapshot, .int hasSnapshot_, .ref h_this_text, .int length_, .ref h_this_lumps, .int lumpMany_, .ref h_this_order, .ref h_this_nears, .int partingSet_, .int partingWeight_, .int at_, .int isWell_, .ref h_this_told, .int toldMany_])), (h_this_s, .inl (cI, 103, .inl a17))] H locs → lv_has ls 5 [(0, .ref h0), (2, .int ((s_ 0) - (1 : Int32))), (3, .int x14), (4, .int x16)] → W p l e rmX6_drops s m ([.ref h0, .int p1] : List Value).toArray below meth c H locs 0 0 (MQ below (Qv D [(h0, .inr (6, [.int thrown_, .ref h_this_s, .ref h_this_saved, .int savedMany_, .ref h_this_snapshot, .int hasSnapshot_, .ref h_this_text, .int length_, .ref h_this_lumps, .int lumpMany_, .ref h_this_order, .ref h_this_nears, .int partingSet_, .int partingWeight_, .int at_, .int isWell_, .ref h_this_told, .int toldMany_])), (h_this_s, .inl (cI, 103, .inl s_'))] A) ([.ref h0, .int p1] : List Value).toArray s 0 0 A) (F0 m 84 ls []) := by
            intro k19 hk84 n21
            induction n21 with
            | zero => intro x16 a17 H locs ls h; cases h
            | succ n21 ih84 =>
              intro x16 a17 H locs ls h hw hl
              rw [f_X6_drops_L84] at h
              refine lv_iload hx hb dX6_drops_84 (lv_at hl 3 rfl) ?_
              refine lv_iload_n hx hb dX6_drops_86 rfl (lv_at hl 1 rfl) ?_
              refine lv_icmp_ge (tgt := 119) hx hb dX6_drops_87 (by decide) (fun c1 => ?_) (fun c1 => ?_)
              · replace h := ip c1 h
                exact hk84 a17 _ _ _ h hw (lv_sub hl [0, 1, 2] rfl)
              · replace h := ig c1 h
                refine lv_aload_n hx hb dX6_drops_90 rfl (lv_at hl 0 rfl) ?_
                refine fg_X6_7 X hw 0 rfl rfl dX6_drops_91 ?_
                refine lv_iconst (v := 3) hx hb dX6_drops_94 (by decide) ?_
                refine lv_bipush (v := 10) hx hb dX6_drops_95 (by decide) ?_
                refine lv_iload_n hx hb dX6_drops_97 rfl (lv_at hl 2 rfl) ?_
                refine lv_imul hx hb dX6_drops_98 ?_
                refine lv_iadd hx hb dX6_drops_99 ?_
                refine lv_iload hx hb dX6_drops_100 (lv_at hl 3 rfl) ?_
                refine lv_iadd hx hb dX6_drops_102 ?_
                refine lv_aload_n hx hb dX6_drops_103 rfl (lv_at hl 0 rfl) ?_
                refine lv_iload_n hx hb dX6_drops_104 rfl (lv_at hl 2 rfl) ?_
                refine lv_iconst (v := 1) hx hb dX6_drops_105 (by decide) ?_
                refine lv_iadd hx hb dX6_drops_106 ?_
                refine lv_iload hx hb dX6_drops_107 (lv_at hl 3 rfl) ?_
                obtain ⟨r18, hc, h⟩ := bd1_inv h
                refine r_cVi X hw (As := [.int (x14 + (1 : Int32)), .int x16]) (rest := [.int (((3 : Int32) + ((10 : Int32) * x14)) + x16), .ref h_this_s]) (wr := []) (ws' := [(h0, .inr (6, [.int thrown_, .ref h_this_s, .ref h_this_saved, .int savedMany_, .ref h_this_snapshot, .int hasSnapshot_, .ref h_this_text, .int length_, .ref h_this_lumps, .int lumpMany_, .ref h_this_order, .ref h_this_nears, .int partingSet_, .int partingWeight_, .int at_, .int isWell_, .ref h_this_told, .int toldMany_])), (h_this_s, .inl (cI, 103, .inl a17))]) (c_X6_tied l D cI cC cO h0 h_this_s h_this_saved h_this_snapshot h_this_text h_this_lumps h_this_order h_this_nears h_this_told (x14 + (1 : Int32)) x16 thrown_ savedMany_ hasSnapshot_ length_ lumpMany_ partingSet_ partingWeight_ at_ isWell_ toldMany_ a17 r18 hc) (cs_X6_45 X (by decide)) [0, 1] [] [0, 1] rfl rfl rfl rfl (by decide) rfl rfl 0 rfl rfl rfl rfl hl.1 rfl (Nat.le_of_ble_eq_true rfl) dX6_drops_109 ⟨Nat.zero_le _, Nat.zero_le _⟩ (fun H locs hw => ?_)
                obtain ⟨b1, h⟩ := chk_inv h
                refine r_iast X hw 1 rfl b1 rfl dX6_drops_112 (fun H locs hw => ?_)
                have hw : Wd D A s.heap [(h0, .inr (6, [.int thrown_, .ref h_this_s, .ref h_this_saved, .int savedMany_, .ref h_this_snapshot, .int hasSnapshot_, .ref h_this_text, .int length_, .ref h_this_lumps, .int lumpMany_, .ref h_this_order, .ref h_this_nears, .int partingSet_, .int partingWeight_, .int at_, .int isWell_, .ref h_this_told, .int toldMany_])), (h_this_s, .inl (cI, 103, .inl (upd a17 ((((3 : Int32) + ((10 : Int32) * x14)) + x16)).toNatClampNeg r18)))] H locs := hw
                refine lv_iinc (v := (x16 + (1 : Int32))) (lv' := [(4, .int (x16 + (1 : Int32))), (0, .ref h0), (2, .int ((s_ 0) - (1 : Int32))), (3, .int x14)]) hx hb dX6_drops_113 hl (k := 3) rfl rfl (by decide) rfl (fun ls hl => ?_)
                refine lv_goto (tgt := 84) hx hb dX6_drops_116 (by decide) ?_
                exact ih84 (x16 + (1 : Int32)) (upd a17 ((((3 : Int32) + ((10 : Int32) * x14)) + x16)).toNatClampNeg r18) _ _ _ h hw (lv_sub hl [1, 2, 3, 0] rfl)
          exact L84 (fun a22 => f_X6_drops_E119 (f_X6_drops_L76 N s_ k23 n25) x14 a22) (fun a22 H locs ls h hw hl => E119 a22 H locs ls h hw hl) N (0 : Int32) a15 _ _ _ h hw (lv_sub hl [1, 2, 3, 0] rfl)
    exact L76 (fun a26 => f_X6_drops_E125 N s_ a26) (fun a26 H locs ls h hw hl => E125 a26 H locs ls h hw hl) N p1 a13 _ _ _ h hw (lv_sub hl [1, 3, 0] rfl)
  have L11 : ∀ (k10 : (Nat → Int32) → Option ((Nat → Int32))), (∀ (a13 : Nat → Int32) (H : Heap) (locs : List Loc) (ls : Array Slot), k10 a13 = some s_' → Wd D A s.heap [(h0, .inr (6, [.int thrown_, .ref h_this_s, .ref h_this_saved, .int savedMany_, .ref h_this_snapshot, .int hasSnapshot_, .ref h_this_text, .int length_, .ref h_this_lumps, .int lumpMany_, .ref h_this_order, .ref h_this_nears, .int partingSet_, .int partingWeight_, .int at_, .int isWell_, .ref h_this_told, .int toldMany_])), (h_this_s, .inl (cI, 103, .inl a13))] H locs → lv_has ls 5 [(0, .ref h0), (1, .int p1), (2, .int ((s_ 0) - (1 : Int32)))] → W p l e rmX6_drops s m ([.ref h0, .int p1] : List Value).toArray below meth c H locs 0 0 (MQ below (Qv D [(h0, .inr (6, [.int thrown_, .ref h_this_s, .ref h_this_saved, .int savedMany_, .ref h_this_snapshot, .int hasSnapshot_, .ref h_this_text, .int length_, .ref h_this_lumps, .int lumpMany_, .ref h_this_order, .ref h_this_nears, .int partingSet_, .int partingWeight_, .int at_, .int isWell_, .ref h_this_told, .int toldMany_])), (h_this_s, .inl (cI, 103, .inl s_'))] A) ([.ref h0, .int p1] : List Value).toArray s 0 0 A) (F0 m 74 ls [])) → ∀ (n12 : Nat), ∀ (x1 : Int32) (a2 : Nat → Int32) (H : Heap) (locs : List Loc) (ls : Array Slot), f_X6_drops_L11 N s_ p1 k10 n12 x1 a2 = some s_' → Wd D A s.heap [(h0, .inr (6, [.int thrown_, .ref h_this_s, .ref h_this_saved, .int savedMany_, .ref h_this_snapshot, .int hasSnapshot_, .ref h_this_text, .int length_, .ref h_this_lumps, .int lumpMany_, .ref h_this_order, .ref h_this_nears, .int partingSet_, .int partingWeight_, .int at_, .int isWell_, .ref h_this_told, .int toldMany_])), (h_this_s, .inl (cI, 103, .inl a2))] H locs → lv_has ls 5 [(0, .ref h0), (1, .int p1), (2, .int ((s_ 0) - (1 : Int32))), (3, .int x1)] → W p l e rmX6_drops s m ([.ref h0, .int p1] : List Value).toArray below meth c H locs 0 0 (MQ below (Qv D [(h0, .inr (6, [.int thrown_, .ref h_this_s, .ref h_this_saved, .int savedMany_, .ref h_this_snapshot, .int hasSnapshot_, .ref h_this_text, .int length_, .ref h_this_lumps, .int lumpMany_, .ref h_this_order, .ref h_this_nears, .int partingSet_, .int partingWeight_, .int at_, .int isWell_, .ref h_this_told, .int toldMany_])), (h_this_s, .inl (cI, 103, .inl s_'))] A) ([.ref h0, .int p1] : List Value).toArray s 0 0 A) (F0 m 11 ls []) := by
    intro k10 hk11 n12
    induction n12 with
    | zero => intro x1 a2 H locs ls h; cases h
    | succ n12 ih11 =>
      intro x1 a2 H locs ls h hw hl
      rw [f_X6_drops_L11] at h
      refine lv_iload_n hx hb dX6_drops_11 rfl (lv_at hl 3 rfl) ?_
      refine lv_iload_n hx hb dX6_drops_12 rfl (lv_at hl 2 rfl) ?_
      refine lv_icmp_gt (tgt := 74) hx hb dX6_drops_13 (by decide) (fun c1 => ?_) (fun c1 => ?_)
      · replace h := ip c1 h
        exact hk11 a2 _ _ _ h hw (lv_sub hl [0, 1, 2] rfl)
      · replace h := ig c1 h
        refine lv_iload_n hx hb dX6_drops_16 rfl (lv_at hl 1 rfl) ?_
        refine lv_istore (lv' := [(4, .int p1), (0, .ref h0), (1, .int p1), (2, .int ((s_ 0) - (1 : Int32))), (3, .int x1)]) hx hb dX6_drops_17 hl (by decide) rfl (fun ls hl => ?_)
        have E54 : ∀ (a9 : Nat → Int32) (H : Heap) (locs : List Loc) (ls : Array Slot), f_X6_drops_E54 x1 s_ (f_X6_drops_L11 N s_ p1 k10 n12) a9 = some s_' → Wd D A s.heap [(h0, .inr (6, [.int thrown_, .ref h_this_s, .ref h_this_saved, .int savedMany_, .ref h_this_snapshot, .int hasSnapshot_, .ref h_this_text, .int length_, .ref h_this_lumps, .int lumpMany_, .ref h_this_order, .ref h_this_nears, .int partingSet_, .int partingWeight_, .int at_, .int isWell_, .ref h_this_told, .int toldMany_])), (h_this_s, .inl (cI, 103, .inl a9))] H locs → lv_has ls 5 [(0, .ref h0), (1, .int p1), (2, .int ((s_ 0) - (1 : Int32))), (3, .int x1)] → W p l e rmX6_drops s m ([.ref h0, .int p1] : List Value).toArray below meth c H locs 0 0 (MQ below (Qv D [(h0, .inr (6, [.int thrown_, .ref h_this_s, .ref h_this_saved, .int savedMany_, .ref h_this_snapshot, .int hasSnapshot_, .ref h_this_text, .int length_, .ref h_this_lumps, .int lumpMany_, .ref h_this_order, .ref h_this_nears, .int partingSet_, .int partingWeight_, .int at_, .int isWell_, .ref h_this_told, .int toldMany_])), (h_this_s, .inl (cI, 103, .inl s_'))] A) ([.ref h0, .int p1] : List Value).toArray s 0 0 A) (F0 m 54 ls []) := by
          intro a9 H locs ls h hw hl
          unfold f_X6_drops_E54 at h
          refine lv_aload_n hx hb dX6_drops_54 rfl (lv_at hl 0 rfl) ?_
          refine fg_X6_7 X hw 0 rfl rfl dX6_drops_55 ?_
          refine lv_iconst (v := 3) hx hb dX6_drops_58 (by decide) ?_
          refine lv_bipush (v := 10) hx hb dX6_drops_59 (by decide) ?_
          refine lv_iload_n hx hb dX6_drops_61 rfl (lv_at hl 3 rfl) ?_
          refine lv_imul hx hb dX6_drops_62 ?_
          refine lv_iadd hx hb dX6_drops_63 ?_
          refine lv_iload_n hx hb dX6_drops_64 rfl (lv_at hl 2 rfl) ?_
          refine lv_iadd hx hb dX6_drops_65 ?_
          refine lv_iconst (v := 0) hx hb dX6_drops_66 (by decide) ?_
          obtain ⟨b1, h⟩ := chk_inv h
          refine r_iast X hw 1 rfl b1 rfl dX6_drops_67 (fun H locs hw => ?_)
          have hw : Wd D A s.heap [(h0, .inr (6, [.int thrown_, .ref h_this_s, .ref h_this_saved, .int savedMany_, .ref h_this_snapshot, .int hasSnapshot_, .ref h_this_text, .int length_, .ref h_this_lumps, .int lumpMany_, .ref h_this_order, .ref h_this_nears, .int partingSet_, .int partingWeight_, .int at_, .int isWell_, .ref h_this_told, .int toldMany_])), (h_this_s, .inl (cI, 103, .inl (upd a9 ((((3 : Int32) + ((10 : Int32) * x1)) + ((s_ 0) - (1 : Int32)))).toNatClampNeg (0 : Int32))))] H locs := hw
          refine lv_iinc (v := (x1 + (1 : Int32))) (lv' := [(3, .int (x1 + (1 : Int32))), (0, .ref h0), (1, .int p1), (2, .int ((s_ 0) - (1 : Int32)))]) hx hb dX6_drops_68 hl (k := 3) rfl rfl (by decide) rfl (fun ls hl => ?_)
          refine lv_goto (tgt := 11) hx hb dX6_drops_71 (by decide) ?_
          exact ih11 (x1 + (1 : Int32)) (upd a9 ((((3 : Int32) + ((10 : Int32) * x1)) + ((s_ 0) - (1 : Int32)))).toNatClampNeg (0 : Int32)) _ _ _ h hw (lv_sub hl [1, 2, 3, 0] rfl)
        have L19 : ∀ (k6 : (Nat → Int32) → Option ((Nat → Int32))), (∀ (a9 : Nat → Int32) (H : Heap) (locs : List Loc) (ls : Array Slot), k6 a9 = some s_' → Wd D A s.heap [(h0, .inr (6, [.int thrown_, .ref h_this_s, .ref h_this_saved, .int savedMany_, .ref h_this_snapshot, .int hasSnapshot_, .ref h_this_text, .int length_, .ref h_this_lumps, .int lumpMany_, .ref h_this_order, .ref h_this_nears, .int partingSet_, .int partingWeight_, .int at_, .int isWell_, .ref h_this_told, .int toldMany_])), (h_this_s, .inl (cI, 103, .inl a9))] H locs → lv_has ls 5 [(0, .ref h0), (1, .int p1), (2, .int ((s_ 0) - (1 : Int32))), (3, .int x1)] → W p l e rmX6_drops s m ([.ref h0, .int p1] : List Value).toArray below meth c H locs 0 0 (MQ below (Qv D [(h0, .inr (6, [.int thrown_, .ref h_this_s, .ref h_this_saved, .int savedMany_, .ref h_this_snapshot, .int hasSnapshot_, .ref h_this_text, .int length_, .ref h_this_lumps, .int lumpMany_, .ref h_this_order, .ref h_this_nears, .int partingSet_, .int partingWeight_, .int at_, .int isWell_, .ref h_this_told, .int toldMany_])), (h_this_s, .inl (cI, 103, .inl s_'))] A) ([.ref h0, .int p1] : List Value).toArray s 0 0 A) (F0 m 54 ls [])) → ∀ (n8 : Nat), ∀ (x3 : Int32) (a4 : Nat → Int32) (H : Heap) (locs : List Loc) (ls : Array Slot), f_X6_drops_L19 s_ x1 k6 n8 x3 a4 = some s_' → Wd D A s.heap [(h0, .inr (6, [.int thrown_, .ref h_this_s, .ref h_this_saved, .int savedMany_, .ref h_this_snapshot, .int hasSnapshot_, .ref h_this_text, .int length_, .ref h_this_lumps, .int lumpMany_, .ref h_this_order, .ref h_this_nears, .int partingSet_, .int partingWeight_, .int at_, .int isWell_, .ref h_this_told, .int toldMany_])), (h_this_s, .inl (cI, 103, .inl a4))] H locs → lv_has ls 5 [(0, .ref h0), (1, .int p1), (2, .int ((s_ 0) - (1 : Int32))), (3, .int x1), (4, .int x3)] → W p l e rmX6_drops s m ([.ref h0, .int p1] : List Value).toArray below meth c H locs 0 0 (MQ below (Qv D [(h0, .inr (6, [.int thrown_, .ref h_this_s, .ref h_this_saved, .int savedMany_, .ref h_this_snapshot, .int hasSnapshot_, .ref h_this_text, .int length_, .ref h_this_lumps, .int lumpMany_, .ref h_this_order, .ref h_this_nears, .int partingSet_, .int partingWeight_, .int at_, .int isWell_, .ref h_this_told, .int toldMany_])), (h_this_s, .inl (cI, 103, .inl s_'))] A) ([.ref h0, .int p1] : List Value).toArray s 0 0 A) (F0 m 19 ls []) := by
          intro k6 hk19 n8
          induction n8 with
          | zero => intro x3 a4 H locs ls h; cases h
          | succ n8 ih19 =>
            intro x3 a4 H locs ls h hw hl
            rw [f_X6_drops_L19] at h
            refine lv_iload hx hb dX6_drops_19 (lv_at hl 4 rfl) ?_
            refine lv_iload_n hx hb dX6_drops_21 rfl (lv_at hl 2 rfl) ?_
            refine lv_icmp_ge (tgt := 54) hx hb dX6_drops_22 (by decide) (fun c1 => ?_) (fun c1 => ?_)
            · replace h := ip c1 h
              exact hk19 a4 _ _ _ h hw (lv_sub hl [0, 1, 2, 3] rfl)
            · replace h := ig c1 h
              refine lv_aload_n hx hb dX6_drops_25 rfl (lv_at hl 0 rfl) ?_
              refine fg_X6_7 X hw 0 rfl rfl dX6_drops_26 ?_
              refine lv_iconst (v := 3) hx hb dX6_drops_29 (by decide) ?_
              refine lv_bipush (v := 10) hx hb dX6_drops_30 (by decide) ?_
              refine lv_iload_n hx hb dX6_drops_32 rfl (lv_at hl 3 rfl) ?_
              refine lv_imul hx hb dX6_drops_33 ?_
              refine lv_iadd hx hb dX6_drops_34 ?_
              refine lv_iload hx hb dX6_drops_35 (lv_at hl 4 rfl) ?_
              refine lv_iadd hx hb dX6_drops_37 ?_
              refine lv_aload_n hx hb dX6_drops_38 rfl (lv_at hl 0 rfl) ?_
              refine lv_iload_n hx hb dX6_drops_39 rfl (lv_at hl 3 rfl) ?_
              refine lv_iload hx hb dX6_drops_40 (lv_at hl 4 rfl) ?_
              refine lv_iconst (v := 1) hx hb dX6_drops_42 (by decide) ?_
              refine lv_iadd hx hb dX6_drops_43 ?_
              obtain ⟨r5, hc, h⟩ := bd1_inv h
              refine r_cVi X hw (As := [.int x1, .int (x3 + (1 : Int32))]) (rest := [.int (((3 : Int32) + ((10 : Int32) * x1)) + x3), .ref h_this_s]) (wr := []) (ws' := [(h0, .inr (6, [.int thrown_, .ref h_this_s, .ref h_this_saved, .int savedMany_, .ref h_this_snapshot, .int hasSnapshot_, .ref h_this_text, .int length_, .ref h_this_lumps, .int lumpMany_, .ref h_this_order, .ref h_this_nears, .int partingSet_, .int partingWeight_, .int at_, .int isWell_, .ref h_this_told, .int toldMany_])), (h_this_s, .inl (cI, 103, .inl a4))]) (c_X6_tied l D cI cC cO h0 h_this_s h_this_saved h_this_snapshot h_this_text h_this_lumps h_this_order h_this_nears h_this_told x1 (x3 + (1 : Int32)) thrown_ savedMany_ hasSnapshot_ length_ lumpMany_ partingSet_ partingWeight_ at_ isWell_ toldMany_ a4 r5 hc) (cs_X6_45 X (by decide)) [0, 1] [] [0, 1] rfl rfl rfl rfl (by decide) rfl rfl 0 rfl rfl rfl rfl hl.1 rfl (Nat.le_of_ble_eq_true rfl) dX6_drops_44 ⟨Nat.zero_le _, Nat.zero_le _⟩ (fun H locs hw => ?_)
              obtain ⟨b1, h⟩ := chk_inv h
              refine r_iast X hw 1 rfl b1 rfl dX6_drops_47 (fun H locs hw => ?_)
              have hw : Wd D A s.heap [(h0, .inr (6, [.int thrown_, .ref h_this_s, .ref h_this_saved, .int savedMany_, .ref h_this_snapshot, .int hasSnapshot_, .ref h_this_text, .int length_, .ref h_this_lumps, .int lumpMany_, .ref h_this_order, .ref h_this_nears, .int partingSet_, .int partingWeight_, .int at_, .int isWell_, .ref h_this_told, .int toldMany_])), (h_this_s, .inl (cI, 103, .inl (upd a4 ((((3 : Int32) + ((10 : Int32) * x1)) + x3)).toNatClampNeg r5)))] H locs := hw
              refine lv_iinc (v := (x3 + (1 : Int32))) (lv' := [(4, .int (x3 + (1 : Int32))), (0, .ref h0), (1, .int p1), (2, .int ((s_ 0) - (1 : Int32))), (3, .int x1)]) hx hb dX6_drops_48 hl (k := 4) rfl rfl (by decide) rfl (fun ls hl => ?_)
              refine lv_goto (tgt := 19) hx hb dX6_drops_51 (by decide) ?_
              exact ih19 (x3 + (1 : Int32)) (upd a4 ((((3 : Int32) + ((10 : Int32) * x1)) + x3)).toNatClampNeg r5) _ _ _ h hw (lv_sub hl [1, 2, 3, 4, 0] rfl)
        exact L19 (fun a9 => f_X6_drops_E54 x1 s_ (f_X6_drops_L11 N s_ p1 k10 n12) a9) (fun a9 H locs ls h hw hl => E54 a9 H locs ls h hw hl) N p1 a2 _ _ _ h hw (lv_sub hl [1, 2, 3, 4, 0] rfl)
  exact L11 (fun a13 => f_X6_drops_E74 N s_ p1 a13) (fun a13 H locs ls h hw hl => E74 a13 H locs ls h hw hl) N (0 : Int32) s_ _ _ _ h hw (lv_sub hl [2, 3, 1, 0] rfl)
def rmX6_remove : Room := { frames := 2, cells := 0, slots := 0, locals := 46 }
section
variable {p : Program} {l : Launch} {e : Env} {R : Room} {s : State} {m : MethodId} {args : Array Value} {below : List Frame} {meth : Method} {c : Code} {H : Heap} {locs : List Loc} {cells slots : Nat} {Q : State → Prop}
variable {cc : ByteArray} {pc nL : Nat} {ls : Array Slot} {rest : List Value} {D : va_G} {cI cC cO : ClassId} {A : Nat → Prop} {ws : va_W} {H0 : Heap}
theorem cs_X6_108 (X : Ctx p m c cc nL s args RX6 D cI cC cO) (hR : rmX6_isPlace.frames + 1 ≤ R.frames ∧ 8 + (2 + 11) + rmX6_isPlace.locals ≤ R.locals) : CallW R s args RX6 RX6 108 yX6_isPlace cX6_isPlace 2 (some .boolean) (Wy yX6_isPlace cX6_isPlace 2 (some .boolean)) rmX6_isPlace 0 0 1 := cwV 1 X.1.2.2.2.2 (gi_V tw_615 tw_617 sw_yX6_isPlace tw_7 tw_618) rfl rfl rfl (by decide +kernel) hR
theorem cs_X6_111 (X : Ctx p m c cc nL s args RX6 D cI cC cO) (hR : rmX6_drops.frames + 1 ≤ R.frames ∧ 8 + (5 + 11) + rmX6_drops.locals ≤ R.locals) : CallW R s args RX6 RX6 111 yX6_drops cX6_drops 5 none (Wy yX6_drops cX6_drops 5 none) rmX6_drops 0 0 1 := cwV 1 X.1.2.2.2.2 (gi_V tw_622 tw_624 sw_yX6_drops tw_7 tw_625) rfl rfl rfl (by decide +kernel) hR
end
set_option maxHeartbeats 4000000 in
set_option maxRecDepth 100000 in
theorem c_X6_remove (l : Launch) (D : va_G) (cI cC cO : ClassId) (N : Nat) (h0 h_this_s h_this_saved h_this_snapshot h_this_text h_this_lumps h_this_order h_this_nears h_this_told : Nat) (p1 thrown_ savedMany_ hasSnapshot_ length_ lumpMany_ partingSet_ partingWeight_ at_ isWell_ toldMany_ : Int32) (s_ saved_ : Nat → Int32) (r_ : Int32) (thrown_' : Int32) (savedMany_' : Int32) (s_' : Nat → Int32) (saved_' : Nat → Int32) (h : f_X6_remove N p1 savedMany_ s_ saved_ = some (r_, thrown_', savedMany_', s_', saved_')) : CI l yX6_remove (Wy yX6_remove cX6_remove 2 (some .int)) rmX6_remove D cI cC cO [.ref h0, .int p1] [(h0, .inr (6, [.int thrown_, .ref h_this_s, .ref h_this_saved, .int savedMany_, .ref h_this_snapshot, .int hasSnapshot_, .ref h_this_text, .int length_, .ref h_this_lumps, .int lumpMany_, .ref h_this_order, .ref h_this_nears, .int partingSet_, .int partingWeight_, .int at_, .int isWell_, .ref h_this_told, .int toldMany_])), (h_this_s, .inl (cI, 103, .inl s_)), (h_this_saved, .inl (cI, 412, .inl saved_))] r_ [(h0, .inr (6, [.int thrown_', .ref h_this_s, .ref h_this_saved, .int savedMany_', .ref h_this_snapshot, .int hasSnapshot_, .ref h_this_text, .int length_, .ref h_this_lumps, .int lumpMany_, .ref h_this_order, .ref h_this_nears, .int partingSet_, .int partingWeight_, .int at_, .int isWell_, .ref h_this_told, .int toldMany_])), (h_this_s, .inl (cI, 103, .inl s_')), (h_this_saved, .inl (cI, 412, .inl saved_'))] := by
  refine enter_i RX6 (by decide) rfl (Nat.le_of_ble_eq_true rfl) ?_
  intro p e s m below meth c A X hr hlk hw ls hl
  have hx := X.1.1
  have hb := X.1.2.1
  have hl : lv_has ls 2 [(0, .ref h0), (1, .int p1)] := hl
  unfold f_X6_remove at h
  refine lv_aload_n hx hb dX6_remove_0 rfl (lv_at hl 0 rfl) ?_
  refine lv_iconst (v := 0) hx hb dX6_remove_1 (by decide) ?_
  refine fp_X6_34 X hw 0 rfl rfl dX6_remove_2 (fun H locs hw => ?_)
  have hw : Wd D A s.heap [(h0, .inr (6, [.int (0 : Int32), .ref h_this_s, .ref h_this_saved, .int savedMany_, .ref h_this_snapshot, .int hasSnapshot_, .ref h_this_text, .int length_, .ref h_this_lumps, .int lumpMany_, .ref h_this_order, .ref h_this_nears, .int partingSet_, .int partingWeight_, .int at_, .int isWell_, .ref h_this_told, .int toldMany_])), (h_this_s, .inl (cI, 103, .inl s_)), (h_this_saved, .inl (cI, 412, .inl saved_))] H locs := hw
  refine lv_aload_n hx hb dX6_remove_5 rfl (lv_at hl 0 rfl) ?_
  refine lv_iload_n hx hb dX6_remove_6 rfl (lv_at hl 1 rfl) ?_
  obtain ⟨r1, hc, h⟩ := bd1_inv h
  refine r_cVi X hw (As := [.int p1]) (rest := []) (wr := [(h_this_saved, .inl (cI, 412, .inl saved_))]) (ws' := [(h0, .inr (6, [.int (0 : Int32), .ref h_this_s, .ref h_this_saved, .int savedMany_, .ref h_this_snapshot, .int hasSnapshot_, .ref h_this_text, .int length_, .ref h_this_lumps, .int lumpMany_, .ref h_this_order, .ref h_this_nears, .int partingSet_, .int partingWeight_, .int at_, .int isWell_, .ref h_this_told, .int toldMany_])), (h_this_s, .inl (cI, 103, .inl s_)), (h_this_saved, .inl (cI, 412, .inl saved_))]) (c_X6_isPlace l D cI cC cO h0 h_this_s h_this_saved h_this_snapshot h_this_text h_this_lumps h_this_order h_this_nears h_this_told p1 (0 : Int32) savedMany_ hasSnapshot_ length_ lumpMany_ partingSet_ partingWeight_ at_ isWell_ toldMany_ s_ r1 hc) (cs_X6_108 X (by decide)) [0, 1] [2] [1, 2, 0] rfl rfl rfl rfl (by decide) rfl rfl 0 rfl rfl rfl rfl hl.1 rfl (Nat.le_of_ble_eq_true rfl) dX6_remove_7 ⟨Nat.zero_le _, Nat.zero_le _⟩ (fun H locs hw => ?_)
  refine lv_if_ne (tgt := 15) hx hb dX6_remove_10 (by decide) (fun c1 => ?_) (fun c1 => ?_)
  · replace h := ig c1 h
    refine lv_aload_n hx hb dX6_remove_15 rfl (lv_at hl 0 rfl) ?_
    refine fg_X6_7 X hw 0 rfl rfl dX6_remove_16 ?_
    refine lv_iconst (v := 0) hx hb dX6_remove_19 (by decide) ?_
    refine r_iald X hw 1 rfl (v := (s_ 0)) (vp_lit (by decide)) rfl dX6_remove_20 ?_
    refine lv_iconst (v := 2) hx hb dX6_remove_21 (by decide) ?_
    refine lv_icmp_ne (tgt := 28) hx hb dX6_remove_22 (by decide) (fun c1 => ?_) (fun c1 => ?_)
    · replace h := ig c1 h
      refine lv_aload_n hx hb dX6_remove_28 rfl (lv_at hl 0 rfl) ?_
      obtain ⟨x2, a3, hc, h⟩ := bd2_inv h
      refine r_cVv X hw (As := []) (rest := []) (wr := []) (ws' := [(h0, .inr (6, [.int (0 : Int32), .ref h_this_s, .ref h_this_saved, .int x2, .ref h_this_snapshot, .int hasSnapshot_, .ref h_this_text, .int length_, .ref h_this_lumps, .int lumpMany_, .ref h_this_order, .ref h_this_nears, .int partingSet_, .int partingWeight_, .int at_, .int isWell_, .ref h_this_told, .int toldMany_])), (h_this_s, .inl (cI, 103, .inl s_)), (h_this_saved, .inl (cI, 412, .inl a3))]) (c_X6_records l D cI cC cO N h0 h_this_s h_this_saved h_this_snapshot h_this_text h_this_lumps h_this_order h_this_nears h_this_told (0 : Int32) savedMany_ hasSnapshot_ length_ lumpMany_ partingSet_ partingWeight_ at_ isWell_ toldMany_ s_ saved_ x2 a3 hc) (cs_X6_105 X (by decide)) [0, 1, 2] [] [0, 1, 2] rfl rfl rfl rfl (by decide) rfl rfl 0 rfl rfl rfl rfl hl.1 rfl (Nat.le_of_ble_eq_true rfl) dX6_remove_29 ⟨Nat.zero_le _, Nat.zero_le _⟩ (fun H locs hw => ?_)
      refine lv_aload_n hx hb dX6_remove_32 rfl (lv_at hl 0 rfl) ?_
      refine lv_iload_n hx hb dX6_remove_33 rfl (lv_at hl 1 rfl) ?_
      obtain ⟨a4, hc, h⟩ := bd1_inv h
      refine r_cVv X hw (As := [.int p1]) (rest := []) (wr := [(h_this_saved, .inl (cI, 412, .inl a3))]) (ws' := [(h0, .inr (6, [.int (0 : Int32), .ref h_this_s, .ref h_this_saved, .int x2, .ref h_this_snapshot, .int hasSnapshot_, .ref h_this_text, .int length_, .ref h_this_lumps, .int lumpMany_, .ref h_this_order, .ref h_this_nears, .int partingSet_, .int partingWeight_, .int at_, .int isWell_, .ref h_this_told, .int toldMany_])), (h_this_s, .inl (cI, 103, .inl a4)), (h_this_saved, .inl (cI, 412, .inl a3))]) (c_X6_drops l D cI cC cO N h0 h_this_s h_this_saved h_this_snapshot h_this_text h_this_lumps h_this_order h_this_nears h_this_told p1 (0 : Int32) x2 hasSnapshot_ length_ lumpMany_ partingSet_ partingWeight_ at_ isWell_ toldMany_ s_ a4 hc) (cs_X6_111 X (by decide)) [0, 1] [2] [1, 2, 0] rfl rfl rfl rfl (by decide) rfl rfl 0 rfl rfl rfl rfl hl.1 rfl (Nat.le_of_ble_eq_true rfl) dX6_remove_34 ⟨Nat.zero_le _, Nat.zero_le _⟩ (fun H locs hw => ?_)
      refine lv_aload_n hx hb dX6_remove_37 rfl (lv_at hl 0 rfl) ?_
      refine fg_X6_7 X hw 0 rfl rfl dX6_remove_38 ?_
      refine lv_iconst (v := 1) hx hb dX6_remove_41 (by decide) ?_
      refine lv_aload_n hx hb dX6_remove_42 rfl (lv_at hl 0 rfl) ?_
      refine fg_X6_7 X hw 0 rfl rfl dX6_remove_43 ?_
      refine lv_iconst (v := 1) hx hb dX6_remove_46 (by decide) ?_
      refine r_iald X hw 1 rfl (v := (a4 1)) (vp_lit (by decide)) rfl dX6_remove_47 ?_
      refine lv_iload_n hx hb dX6_remove_48 rfl (lv_at hl 1 rfl) ?_
      have J83 : ∀ (x5 : Int32) (H : Heap) (locs : List Loc) (ls : Array Slot), f_X6_remove_J83 a4 x2 a3 x5 = some (r_, thrown_', savedMany_', s_', saved_') → Wd D A s.heap [(h0, .inr (6, [.int (0 : Int32), .ref h_this_s, .ref h_this_saved, .int x2, .ref h_this_snapshot, .int hasSnapshot_, .ref h_this_text, .int length_, .ref h_this_lumps, .int lumpMany_, .ref h_this_order, .ref h_this_nears, .int partingSet_, .int partingWeight_, .int at_, .int isWell_, .ref h_this_told, .int toldMany_])), (h_this_s, .inl (cI, 103, .inl a4)), (h_this_saved, .inl (cI, 412, .inl a3))] H locs → lv_has ls 2 [(0, .ref h0)] → W p l e rmX6_remove s m ([.ref h0, .int p1] : List Value).toArray below meth c H locs 0 0 (MQ below (Qi D r_ [(h0, .inr (6, [.int thrown_', .ref h_this_s, .ref h_this_saved, .int savedMany_', .ref h_this_snapshot, .int hasSnapshot_, .ref h_this_text, .int length_, .ref h_this_lumps, .int lumpMany_, .ref h_this_order, .ref h_this_nears, .int partingSet_, .int partingWeight_, .int at_, .int isWell_, .ref h_this_told, .int toldMany_])), (h_this_s, .inl (cI, 103, .inl s_')), (h_this_saved, .inl (cI, 412, .inl saved_'))] A) ([.ref h0, .int p1] : List Value).toArray s 0 0 A) (F0 m 83 ls [.int x5, .int (1 : Int32), .ref h_this_s]) := by
        intro x5 H locs ls h hw hl
        unfold f_X6_remove_J83 at h
        refine r_iast X hw 1 rfl (vp_lit (by decide)) rfl dX6_remove_83 (fun H locs hw => ?_)
        have hw : Wd D A s.heap [(h0, .inr (6, [.int (0 : Int32), .ref h_this_s, .ref h_this_saved, .int x2, .ref h_this_snapshot, .int hasSnapshot_, .ref h_this_text, .int length_, .ref h_this_lumps, .int lumpMany_, .ref h_this_order, .ref h_this_nears, .int partingSet_, .int partingWeight_, .int at_, .int isWell_, .ref h_this_told, .int toldMany_])), (h_this_s, .inl (cI, 103, .inl (upd a4 1 x5))), (h_this_saved, .inl (cI, 412, .inl a3))] H locs := hw
        refine lv_aload_n hx hb dX6_remove_84 rfl (lv_at hl 0 rfl) ?_
        refine fg_X6_7 X hw 0 rfl rfl dX6_remove_85 ?_
        refine lv_iconst (v := 0) hx hb dX6_remove_88 (by decide) ?_
        refine r_iald X hw 1 rfl (v := ((upd a4 1 x5) 0)) (vp_lit (by decide)) rfl dX6_remove_89 ?_
        obtain ⟨rfl, rfl, rfl, rfl, rfl⟩ := oi5 h
        exact r_ret X hw hr hlk dX6_remove_90
      refine lv_icmp_ne (tgt := 56) hx hb dX6_remove_49 (by decide) (fun c1 => ?_) (fun c1 => ?_)
      · replace h := ig c1 h
        refine lv_aload_n hx hb dX6_remove_56 rfl (lv_at hl 0 rfl) ?_
        refine fg_X6_7 X hw 0 rfl rfl dX6_remove_57 ?_
        refine lv_iconst (v := 1) hx hb dX6_remove_60 (by decide) ?_
        refine r_iald X hw 1 rfl (v := (a4 1)) (vp_lit (by decide)) rfl dX6_remove_61 ?_
        refine lv_iload_n hx hb dX6_remove_62 rfl (lv_at hl 1 rfl) ?_
        refine lv_icmp_le (tgt := 77) hx hb dX6_remove_63 (by decide) (fun c1 => ?_) (fun c1 => ?_)
        · replace h := ip c1 h
          refine lv_aload_n hx hb dX6_remove_77 rfl (lv_at hl 0 rfl) ?_
          refine fg_X6_7 X hw 0 rfl rfl dX6_remove_78 ?_
          refine lv_iconst (v := 1) hx hb dX6_remove_81 (by decide) ?_
          refine r_iald X hw 1 rfl (v := (a4 1)) (vp_lit (by decide)) rfl dX6_remove_82 ?_
          exact J83 (a4 1) _ _ _ h hw (lv_sub hl [0] rfl)
        · replace h := ig c1 h
          refine lv_aload_n hx hb dX6_remove_66 rfl (lv_at hl 0 rfl) ?_
          refine fg_X6_7 X hw 0 rfl rfl dX6_remove_67 ?_
          refine lv_iconst (v := 1) hx hb dX6_remove_70 (by decide) ?_
          refine r_iald X hw 1 rfl (v := (a4 1)) (vp_lit (by decide)) rfl dX6_remove_71 ?_
          refine lv_iconst (v := 1) hx hb dX6_remove_72 (by decide) ?_
          refine lv_isub hx hb dX6_remove_73 ?_
          refine lv_goto (tgt := 83) hx hb dX6_remove_74 (by decide) ?_
          exact J83 ((a4 1) - (1 : Int32)) _ _ _ h hw (lv_sub hl [0] rfl)
      · replace h := ip c1 h
        refine lv_iconst (v := 0) hx hb dX6_remove_52 (by decide) ?_
        refine lv_goto (tgt := 83) hx hb dX6_remove_53 (by decide) ?_
        exact J83 (0 : Int32) _ _ _ h hw (lv_sub hl [0] rfl)
    · replace h := ip c1 h
      refine lv_bipush (v := -4) hx hb dX6_remove_25 (by decide) ?_
      obtain ⟨rfl, rfl, rfl, rfl, rfl⟩ := oi5 h
      exact r_ret X hw hr hlk dX6_remove_27
  · replace h := ip c1 h
    refine lv_iconst (v := -1) hx hb dX6_remove_13 (by decide) ?_
    obtain ⟨rfl, rfl, rfl, rfl, rfl⟩ := oi5 h
    exact r_ret X hw hr hlk dX6_remove_14
def rmX6_join : Room := { frames := 2, cells := 0, slots := 0, locals := 46 }
section
variable {p : Program} {l : Launch} {e : Env} {R : Room} {s : State} {m : MethodId} {args : Array Value} {below : List Frame} {meth : Method} {c : Code} {H : Heap} {locs : List Loc} {cells slots : Nat} {Q : State → Prop}
variable {cc : ByteArray} {pc nL : Nat} {ls : Array Slot} {rest : List Value} {D : va_G} {cI cC cO : ClassId} {A : Nat → Prop} {ws : va_W} {H0 : Heap}
theorem cs_X6_114 (X : Ctx p m c cc nL s args RX6 D cI cC cO) (hR : rmX6_ties.frames + 1 ≤ R.frames ∧ 8 + (4 + 11) + rmX6_ties.locals ≤ R.locals) : CallW R s args RX6 RX6 114 yX6_ties cX6_ties 4 none (Wy yX6_ties cX6_ties 4 none) rmX6_ties 0 0 3 := cwV 3 X.1.2.2.2.2 (gi_V tw_634 tw_636 sw_yX6_ties tw_7 tw_637) rfl rfl rfl (by decide +kernel) hR
end
set_option maxHeartbeats 4000000 in
set_option maxRecDepth 100000 in
theorem c_X6_join (l : Launch) (D : va_G) (cI cC cO : ClassId) (N : Nat) (h0 h_this_s h_this_saved h_this_snapshot h_this_text h_this_lumps h_this_order h_this_nears h_this_told : Nat) (p1 p2 thrown_ savedMany_ hasSnapshot_ length_ lumpMany_ partingSet_ partingWeight_ at_ isWell_ toldMany_ : Int32) (s_ saved_ : Nat → Int32) (r_ : Int32) (thrown_' : Int32) (savedMany_' : Int32) (s_' : Nat → Int32) (saved_' : Nat → Int32) (h : f_X6_join N p1 p2 savedMany_ s_ saved_ = some (r_, thrown_', savedMany_', s_', saved_')) : CI l yX6_join (Wy yX6_join cX6_join 7 (some .int)) rmX6_join D cI cC cO [.ref h0, .int p1, .int p2] [(h0, .inr (6, [.int thrown_, .ref h_this_s, .ref h_this_saved, .int savedMany_, .ref h_this_snapshot, .int hasSnapshot_, .ref h_this_text, .int length_, .ref h_this_lumps, .int lumpMany_, .ref h_this_order, .ref h_this_nears, .int partingSet_, .int partingWeight_, .int at_, .int isWell_, .ref h_this_told, .int toldMany_])), (h_this_s, .inl (cI, 103, .inl s_)), (h_this_saved, .inl (cI, 412, .inl saved_))] r_ [(h0, .inr (6, [.int thrown_', .ref h_this_s, .ref h_this_saved, .int savedMany_', .ref h_this_snapshot, .int hasSnapshot_, .ref h_this_text, .int length_, .ref h_this_lumps, .int lumpMany_, .ref h_this_order, .ref h_this_nears, .int partingSet_, .int partingWeight_, .int at_, .int isWell_, .ref h_this_told, .int toldMany_])), (h_this_s, .inl (cI, 103, .inl s_')), (h_this_saved, .inl (cI, 412, .inl saved_'))] := by
  refine enter_i RX6 (by decide) rfl (Nat.le_of_ble_eq_true rfl) ?_
  intro p e s m below meth c A X hr hlk hw ls hl
  have hx := X.1.1
  have hb := X.1.2.1
  have hl : lv_has ls 7 [(0, .ref h0), (1, .int p1), (2, .int p2)] := hl
  unfold f_X6_join at h
  refine lv_aload_n hx hb dX6_join_0 rfl (lv_at hl 0 rfl) ?_
  refine lv_iconst (v := 0) hx hb dX6_join_1 (by decide) ?_
  refine fp_X6_34 X hw 0 rfl rfl dX6_join_2 (fun H locs hw => ?_)
  have hw : Wd D A s.heap [(h0, .inr (6, [.int (0 : Int32), .ref h_this_s, .ref h_this_saved, .int savedMany_, .ref h_this_snapshot, .int hasSnapshot_, .ref h_this_text, .int length_, .ref h_this_lumps, .int lumpMany_, .ref h_this_order, .ref h_this_nears, .int partingSet_, .int partingWeight_, .int at_, .int isWell_, .ref h_this_told, .int toldMany_])), (h_this_s, .inl (cI, 103, .inl s_)), (h_this_saved, .inl (cI, 412, .inl saved_))] H locs := hw
  refine lv_aload_n hx hb dX6_join_5 rfl (lv_at hl 0 rfl) ?_
  refine lv_iload_n hx hb dX6_join_6 rfl (lv_at hl 1 rfl) ?_
  obtain ⟨r1, hc, h⟩ := bd1_inv h
  refine r_cVi X hw (As := [.int p1]) (rest := []) (wr := [(h_this_saved, .inl (cI, 412, .inl saved_))]) (ws' := [(h0, .inr (6, [.int (0 : Int32), .ref h_this_s, .ref h_this_saved, .int savedMany_, .ref h_this_snapshot, .int hasSnapshot_, .ref h_this_text, .int length_, .ref h_this_lumps, .int lumpMany_, .ref h_this_order, .ref h_this_nears, .int partingSet_, .int partingWeight_, .int at_, .int isWell_, .ref h_this_told, .int toldMany_])), (h_this_s, .inl (cI, 103, .inl s_)), (h_this_saved, .inl (cI, 412, .inl saved_))]) (c_X6_isPlace l D cI cC cO h0 h_this_s h_this_saved h_this_snapshot h_this_text h_this_lumps h_this_order h_this_nears h_this_told p1 (0 : Int32) savedMany_ hasSnapshot_ length_ lumpMany_ partingSet_ partingWeight_ at_ isWell_ toldMany_ s_ r1 hc) (cs_X6_108 X (by decide)) [0, 1] [2] [1, 2, 0] rfl rfl rfl rfl (by decide) rfl rfl 0 rfl rfl rfl rfl hl.1 rfl (Nat.le_of_ble_eq_true rfl) dX6_join_7 ⟨Nat.zero_le _, Nat.zero_le _⟩ (fun H locs hw => ?_)
  refine lv_if_eq (tgt := 21) hx hb dX6_join_10 (by decide) (fun c1 => ?_) (fun c1 => ?_)
  · replace h := ip c1 h
    refine lv_iconst (v := -1) hx hb dX6_join_21 (by decide) ?_
    obtain ⟨rfl, rfl, rfl, rfl, rfl⟩ := oi5 h
    exact r_ret X hw hr hlk dX6_join_22
  · replace h := ig c1 h
    refine lv_aload_n hx hb dX6_join_13 rfl (lv_at hl 0 rfl) ?_
    refine lv_iload_n hx hb dX6_join_14 rfl (lv_at hl 2 rfl) ?_
    obtain ⟨r2, hc, h⟩ := bd1_inv h
    refine r_cVi X hw (As := [.int p2]) (rest := []) (wr := [(h_this_saved, .inl (cI, 412, .inl saved_))]) (ws' := [(h0, .inr (6, [.int (0 : Int32), .ref h_this_s, .ref h_this_saved, .int savedMany_, .ref h_this_snapshot, .int hasSnapshot_, .ref h_this_text, .int length_, .ref h_this_lumps, .int lumpMany_, .ref h_this_order, .ref h_this_nears, .int partingSet_, .int partingWeight_, .int at_, .int isWell_, .ref h_this_told, .int toldMany_])), (h_this_s, .inl (cI, 103, .inl s_)), (h_this_saved, .inl (cI, 412, .inl saved_))]) (c_X6_isPlace l D cI cC cO h0 h_this_s h_this_saved h_this_snapshot h_this_text h_this_lumps h_this_order h_this_nears h_this_told p2 (0 : Int32) savedMany_ hasSnapshot_ length_ lumpMany_ partingSet_ partingWeight_ at_ isWell_ toldMany_ s_ r2 hc) (cs_X6_108 X (by decide)) [0, 1] [2] [1, 2, 0] rfl rfl rfl rfl (by decide) rfl rfl 0 rfl rfl rfl rfl hl.1 rfl (Nat.le_of_ble_eq_true rfl) dX6_join_15 ⟨Nat.zero_le _, Nat.zero_le _⟩ (fun H locs hw => ?_)
    refine lv_if_ne (tgt := 23) hx hb dX6_join_18 (by decide) (fun c1 => ?_) (fun c1 => ?_)
    · replace h := ig c1 h
      refine lv_iload_n hx hb dX6_join_23 rfl (lv_at hl 1 rfl) ?_
      refine lv_iload_n hx hb dX6_join_24 rfl (lv_at hl 2 rfl) ?_
      refine lv_icmp_ne (tgt := 31) hx hb dX6_join_25 (by decide) (fun c1 => ?_) (fun c1 => ?_)
      · replace h := ig c1 h
        refine lv_aload_n hx hb dX6_join_31 rfl (lv_at hl 0 rfl) ?_
        refine fg_X6_7 X hw 0 rfl rfl dX6_join_32 ?_
        refine lv_iconst (v := 0) hx hb dX6_join_35 (by decide) ?_
        refine r_iald X hw 1 rfl (v := (s_ 0)) (vp_lit (by decide)) rfl dX6_join_36 ?_
        refine lv_iconst (v := 2) hx hb dX6_join_37 (by decide) ?_
        refine lv_icmp_ne (tgt := 44) hx hb dX6_join_38 (by decide) (fun c1 => ?_) (fun c1 => ?_)
        · replace h := ig c1 h
          refine lv_aload_n hx hb dX6_join_44 rfl (lv_at hl 0 rfl) ?_
          obtain ⟨x3, a4, hc, h⟩ := bd2_inv h
          refine r_cVv X hw (As := []) (rest := []) (wr := []) (ws' := [(h0, .inr (6, [.int (0 : Int32), .ref h_this_s, .ref h_this_saved, .int x3, .ref h_this_snapshot, .int hasSnapshot_, .ref h_this_text, .int length_, .ref h_this_lumps, .int lumpMany_, .ref h_this_order, .ref h_this_nears, .int partingSet_, .int partingWeight_, .int at_, .int isWell_, .ref h_this_told, .int toldMany_])), (h_this_s, .inl (cI, 103, .inl s_)), (h_this_saved, .inl (cI, 412, .inl a4))]) (c_X6_records l D cI cC cO N h0 h_this_s h_this_saved h_this_snapshot h_this_text h_this_lumps h_this_order h_this_nears h_this_told (0 : Int32) savedMany_ hasSnapshot_ length_ lumpMany_ partingSet_ partingWeight_ at_ isWell_ toldMany_ s_ saved_ x3 a4 hc) (cs_X6_105 X (by decide)) [0, 1, 2] [] [0, 1, 2] rfl rfl rfl rfl (by decide) rfl rfl 0 rfl rfl rfl rfl hl.1 rfl (Nat.le_of_ble_eq_true rfl) dX6_join_45 ⟨Nat.zero_le _, Nat.zero_le _⟩ (fun H locs hw => ?_)
          refine lv_iload_n hx hb dX6_join_48 rfl (lv_at hl 1 rfl) ?_
          refine lv_iload_n hx hb dX6_join_49 rfl (lv_at hl 2 rfl) ?_
          have J58 : ∀ (x5 : Int32) (H : Heap) (locs : List Loc) (ls : Array Slot), f_X6_join_J58 N p1 p2 x3 a4 s_ x5 = some (r_, thrown_', savedMany_', s_', saved_') → Wd D A s.heap [(h0, .inr (6, [.int (0 : Int32), .ref h_this_s, .ref h_this_saved, .int x3, .ref h_this_snapshot, .int hasSnapshot_, .ref h_this_text, .int length_, .ref h_this_lumps, .int lumpMany_, .ref h_this_order, .ref h_this_nears, .int partingSet_, .int partingWeight_, .int at_, .int isWell_, .ref h_this_told, .int toldMany_])), (h_this_s, .inl (cI, 103, .inl s_)), (h_this_saved, .inl (cI, 412, .inl a4))] H locs → lv_has ls 7 [(0, .ref h0), (1, .int p1), (2, .int p2)] → W p l e rmX6_join s m ([.ref h0, .int p1, .int p2] : List Value).toArray below meth c H locs 0 0 (MQ below (Qi D r_ [(h0, .inr (6, [.int thrown_', .ref h_this_s, .ref h_this_saved, .int savedMany_', .ref h_this_snapshot, .int hasSnapshot_, .ref h_this_text, .int length_, .ref h_this_lumps, .int lumpMany_, .ref h_this_order, .ref h_this_nears, .int partingSet_, .int partingWeight_, .int at_, .int isWell_, .ref h_this_told, .int toldMany_])), (h_this_s, .inl (cI, 103, .inl s_')), (h_this_saved, .inl (cI, 412, .inl saved_'))] A) ([.ref h0, .int p1, .int p2] : List Value).toArray s 0 0 A) (F0 m 58 ls [.int x5]) := by
            intro x5 H locs ls h hw hl
            unfold f_X6_join_J58 at h
            refine lv_istore_n (lv' := [(3, .int x5), (0, .ref h0), (1, .int p1), (2, .int p2)]) hx hb dX6_join_58 rfl hl (by decide) rfl (fun ls hl => ?_)
            refine lv_iload_n hx hb dX6_join_59 rfl (lv_at hl 2 rfl) ?_
            refine lv_iload_n hx hb dX6_join_60 rfl (lv_at hl 3 rfl) ?_
            refine lv_iadd hx hb dX6_join_61 ?_
            refine lv_iload_n hx hb dX6_join_62 rfl (lv_at hl 0 rfl) ?_
            refine lv_isub hx hb dX6_join_63 ?_
            refine lv_istore (lv' := [(4, .int ((p1 + p2) - x5)), (3, .int x5), (0, .ref h0), (1, .int p1), (2, .int p2)]) hx hb dX6_join_64 hl (by decide) rfl (fun ls hl => ?_)
            refine lv_iconst (v := 0) hx hb dX6_join_66 (by decide) ?_
            refine lv_istore (lv' := [(5, .int (0 : Int32)), (4, .int ((p1 + p2) - x5)), (3, .int x5), (0, .ref h0), (1, .int p1), (2, .int p2)]) hx hb dX6_join_67 hl (by decide) rfl (fun ls hl => ?_)
            have E138 : ∀ (a16 : Nat → Int32) (H : Heap) (locs : List Loc) (ls : Array Slot), f_X6_join_E138 N p1 p2 x5 x3 a4 a16 = some (r_, thrown_', savedMany_', s_', saved_') → Wd D A s.heap [(h0, .inr (6, [.int (0 : Int32), .ref h_this_s, .ref h_this_saved, .int x3, .ref h_this_snapshot, .int hasSnapshot_, .ref h_this_text, .int length_, .ref h_this_lumps, .int lumpMany_, .ref h_this_order, .ref h_this_nears, .int partingSet_, .int partingWeight_, .int at_, .int isWell_, .ref h_this_told, .int toldMany_])), (h_this_s, .inl (cI, 103, .inl a16)), (h_this_saved, .inl (cI, 412, .inl a4))] H locs → lv_has ls 7 [(0, .ref h0), (3, .int x5), (4, .int ((p1 + p2) - x5))] → W p l e rmX6_join s m ([.ref h0, .int p1, .int p2] : List Value).toArray below meth c H locs 0 0 (MQ below (Qi D r_ [(h0, .inr (6, [.int thrown_', .ref h_this_s, .ref h_this_saved, .int savedMany_', .ref h_this_snapshot, .int hasSnapshot_, .ref h_this_text, .int length_, .ref h_this_lumps, .int lumpMany_, .ref h_this_order, .ref h_this_nears, .int partingSet_, .int partingWeight_, .int at_, .int isWell_, .ref h_this_told, .int toldMany_])), (h_this_s, .inl (cI, 103, .inl s_')), (h_this_saved, .inl (cI, 412, .inl saved_'))] A) ([.ref h0, .int p1, .int p2] : List Value).toArray s 0 0 A) (F0 m 138 ls []) := by
              intro a16 H locs ls h hw hl
              unfold f_X6_join_E138 at h
              refine lv_aload_n hx hb dX6_join_138 rfl (lv_at hl 0 rfl) ?_
              refine lv_iload hx hb dX6_join_139 (lv_at hl 2 rfl) ?_
              obtain ⟨a17, hc, h⟩ := bd1_inv h
              refine r_cVv X hw (As := [.int ((p1 + p2) - x5)]) (rest := []) (wr := [(h_this_saved, .inl (cI, 412, .inl a4))]) (ws' := [(h0, .inr (6, [.int (0 : Int32), .ref h_this_s, .ref h_this_saved, .int x3, .ref h_this_snapshot, .int hasSnapshot_, .ref h_this_text, .int length_, .ref h_this_lumps, .int lumpMany_, .ref h_this_order, .ref h_this_nears, .int partingSet_, .int partingWeight_, .int at_, .int isWell_, .ref h_this_told, .int toldMany_])), (h_this_s, .inl (cI, 103, .inl a17)), (h_this_saved, .inl (cI, 412, .inl a4))]) (c_X6_drops l D cI cC cO N h0 h_this_s h_this_saved h_this_snapshot h_this_text h_this_lumps h_this_order h_this_nears h_this_told ((p1 + p2) - x5) (0 : Int32) x3 hasSnapshot_ length_ lumpMany_ partingSet_ partingWeight_ at_ isWell_ toldMany_ a16 a17 hc) (cs_X6_111 X (by decide)) [0, 1] [2] [1, 2, 0] rfl rfl rfl rfl (by decide) rfl rfl 0 rfl rfl rfl rfl hl.1 rfl (Nat.le_of_ble_eq_true rfl) dX6_join_141 ⟨Nat.zero_le _, Nat.zero_le _⟩ (fun H locs hw => ?_)
              refine lv_aload_n hx hb dX6_join_144 rfl (lv_at hl 0 rfl) ?_
              refine fg_X6_7 X hw 0 rfl rfl dX6_join_145 ?_
              refine lv_iconst (v := 1) hx hb dX6_join_148 (by decide) ?_
              refine lv_aload_n hx hb dX6_join_149 rfl (lv_at hl 0 rfl) ?_
              refine fg_X6_7 X hw 0 rfl rfl dX6_join_150 ?_
              refine lv_iconst (v := 1) hx hb dX6_join_153 (by decide) ?_
              refine r_iald X hw 1 rfl (v := (a17 1)) (vp_lit (by decide)) rfl dX6_join_154 ?_
              refine lv_iload hx hb dX6_join_155 (lv_at hl 2 rfl) ?_
              have J192 : ∀ (x18 : Int32) (H : Heap) (locs : List Loc) (ls : Array Slot), f_X6_join_J192 a17 x3 a4 x18 = some (r_, thrown_', savedMany_', s_', saved_') → Wd D A s.heap [(h0, .inr (6, [.int (0 : Int32), .ref h_this_s, .ref h_this_saved, .int x3, .ref h_this_snapshot, .int hasSnapshot_, .ref h_this_text, .int length_, .ref h_this_lumps, .int lumpMany_, .ref h_this_order, .ref h_this_nears, .int partingSet_, .int partingWeight_, .int at_, .int isWell_, .ref h_this_told, .int toldMany_])), (h_this_s, .inl (cI, 103, .inl a17)), (h_this_saved, .inl (cI, 412, .inl a4))] H locs → lv_has ls 7 [(0, .ref h0)] → W p l e rmX6_join s m ([.ref h0, .int p1, .int p2] : List Value).toArray below meth c H locs 0 0 (MQ below (Qi D r_ [(h0, .inr (6, [.int thrown_', .ref h_this_s, .ref h_this_saved, .int savedMany_', .ref h_this_snapshot, .int hasSnapshot_, .ref h_this_text, .int length_, .ref h_this_lumps, .int lumpMany_, .ref h_this_order, .ref h_this_nears, .int partingSet_, .int partingWeight_, .int at_, .int isWell_, .ref h_this_told, .int toldMany_])), (h_this_s, .inl (cI, 103, .inl s_')), (h_this_saved, .inl (cI, 412, .inl saved_'))] A) ([.ref h0, .int p1, .int p2] : List Value).toArray s 0 0 A) (F0 m 192 ls [.int x18, .int (1 : Int32), .ref h_this_s]) := by
                intro x18 H locs ls h hw hl
                unfold f_X6_join_J192 at h
                refine r_iast X hw 1 rfl (vp_lit (by decide)) rfl dX6_join_192 (fun H locs hw => ?_)
                have hw : Wd D A s.heap [(h0, .inr (6, [.int (0 : Int32), .ref h_this_s, .ref h_this_saved, .int x3, .ref h_this_snapshot, .int hasSnapshot_, .ref h_this_text, .int length_, .ref h_this_lumps, .int lumpMany_, .ref h_this_order, .ref h_this_nears, .int partingSet_, .int partingWeight_, .int at_, .int isWell_, .ref h_this_told, .int toldMany_])), (h_this_s, .inl (cI, 103, .inl (upd a17 1 x18))), (h_this_saved, .inl (cI, 412, .inl a4))] H locs := hw
                refine lv_aload_n hx hb dX6_join_193 rfl (lv_at hl 0 rfl) ?_
                refine fg_X6_7 X hw 0 rfl rfl dX6_join_194 ?_
                refine lv_iconst (v := 0) hx hb dX6_join_197 (by decide) ?_
                refine r_iald X hw 1 rfl (v := ((upd a17 1 x18) 0)) (vp_lit (by decide)) rfl dX6_join_198 ?_
                obtain ⟨rfl, rfl, rfl, rfl, rfl⟩ := oi5 h
                exact r_ret X hw hr hlk dX6_join_199
              refine lv_icmp_ne (tgt := 164) hx hb dX6_join_157 (by decide) (fun c1 => ?_) (fun c1 => ?_)
              · replace h := ig c1 h
                refine lv_aload_n hx hb dX6_join_164 rfl (lv_at hl 0 rfl) ?_
                refine fg_X6_7 X hw 0 rfl rfl dX6_join_165 ?_
                refine lv_iconst (v := 1) hx hb dX6_join_168 (by decide) ?_
                refine r_iald X hw 1 rfl (v := (a17 1)) (vp_lit (by decide)) rfl dX6_join_169 ?_
                refine lv_iload hx hb dX6_join_170 (lv_at hl 2 rfl) ?_
                refine lv_icmp_le (tgt := 186) hx hb dX6_join_172 (by decide) (fun c1 => ?_) (fun c1 => ?_)
                · replace h := ip c1 h
                  refine lv_aload_n hx hb dX6_join_186 rfl (lv_at hl 0 rfl) ?_
                  refine fg_X6_7 X hw 0 rfl rfl dX6_join_187 ?_
                  refine lv_iconst (v := 1) hx hb dX6_join_190 (by decide) ?_
                  refine r_iald X hw 1 rfl (v := (a17 1)) (vp_lit (by decide)) rfl dX6_join_191 ?_
                  exact J192 (a17 1) _ _ _ h hw (lv_sub hl [0] rfl)
                · replace h := ig c1 h
                  refine lv_aload_n hx hb dX6_join_175 rfl (lv_at hl 0 rfl) ?_
                  refine fg_X6_7 X hw 0 rfl rfl dX6_join_176 ?_
                  refine lv_iconst (v := 1) hx hb dX6_join_179 (by decide) ?_
                  refine r_iald X hw 1 rfl (v := (a17 1)) (vp_lit (by decide)) rfl dX6_join_180 ?_
                  refine lv_iconst (v := 1) hx hb dX6_join_181 (by decide) ?_
                  refine lv_isub hx hb dX6_join_182 ?_
                  refine lv_goto (tgt := 192) hx hb dX6_join_183 (by decide) ?_
                  exact J192 ((a17 1) - (1 : Int32)) _ _ _ h hw (lv_sub hl [0] rfl)
              · replace h := ip c1 h
                refine lv_iload_n hx hb dX6_join_160 rfl (lv_at hl 1 rfl) ?_
                refine lv_goto (tgt := 192) hx hb dX6_join_161 (by decide) ?_
                exact J192 x5 _ _ _ h hw (lv_sub hl [0] rfl)
            have L69 : ∀ (k13 : (Nat → Int32) → Option (Int32 × Int32 × Int32 × (Nat → Int32) × (Nat → Int32))), (∀ (a16 : Nat → Int32) (H : Heap) (locs : List Loc) (ls : Array Slot), k13 a16 = some (r_, thrown_', savedMany_', s_', saved_') → Wd D A s.heap [(h0, .inr (6, [.int (0 : Int32), .ref h_this_s, .ref h_this_saved, .int x3, .ref h_this_snapshot, .int hasSnapshot_, .ref h_this_text, .int length_, .ref h_this_lumps, .int lumpMany_, .ref h_this_order, .ref h_this_nears, .int partingSet_, .int partingWeight_, .int at_, .int isWell_, .ref h_this_told, .int toldMany_])), (h_this_s, .inl (cI, 103, .inl a16)), (h_this_saved, .inl (cI, 412, .inl a4))] H locs → lv_has ls 7 [(0, .ref h0), (3, .int x5), (4, .int ((p1 + p2) - x5))] → W p l e rmX6_join s m ([.ref h0, .int p1, .int p2] : List Value).toArray below meth c H locs 0 0 (MQ below (Qi D r_ [(h0, .inr (6, [.int thrown_', .ref h_this_s, .ref h_this_saved, .int savedMany_', .ref h_this_snapshot, .int hasSnapshot_, .ref h_this_text, .int length_, .ref h_this_lumps, .int lumpMany_, .ref h_this_order, .ref h_this_nears, .int partingSet_, .int partingWeight_, .int at_, .int isWell_, .ref h_this_told, .int toldMany_])), (h_this_s, .inl (cI, 103, .inl s_')), (h_this_saved, .inl (cI, 412, .inl saved_'))] A) ([.ref h0, .int p1, .int p2] : List Value).toArray s 0 0 A) (F0 m 138 ls [])) → ∀ (n15 : Nat), ∀ (x6 : Int32) (a7 : Nat → Int32) (H : Heap) (locs : List Loc) (ls : Array Slot), f_X6_join_L69 x5 p1 p2 k13 n15 x6 a7 = some (r_, thrown_', savedMany_', s_', saved_') → Wd D A s.heap [(h0, .inr (6, [.int (0 : Int32), .ref h_this_s, .ref h_this_saved, .int x3, .ref h_this_snapshot, .int hasSnapshot_, .ref h_this_text, .int length_, .ref h_this_lumps, .int lumpMany_, .ref h_this_order, .ref h_this_nears, .int partingSet_, .int partingWeight_, .int at_, .int isWell_, .ref h_this_told, .int toldMany_])), (h_this_s, .inl (cI, 103, .inl a7)), (h_this_saved, .inl (cI, 412, .inl a4))] H locs → lv_has ls 7 [(0, .ref h0), (3, .int x5), (4, .int ((p1 + p2) - x5)), (5, .int x6)] → W p l e rmX6_join s m ([.ref h0, .int p1, .int p2] : List Value).toArray below meth c H locs 0 0 (MQ below (Qi D r_ [(h0, .inr (6, [.int thrown_', .ref h_this_s, .ref h_this_saved, .int savedMany_', .ref h_this_snapshot, .int hasSnapshot_, .ref h_this_text, .int length_, .ref h_this_lumps, .int lumpMany_, .ref h_this_order, .ref h_this_nears, .int partingSet_, .int partingWeight_, .int at_, .int isWell_, .ref h_this_told, .int toldMany_])), (h_this_s, .inl (cI, 103, .inl s_')), (h_this_saved, .inl (cI, 412, .inl saved_'))] A) ([.ref h0, .int p1, .int p2] : List Value).toArray s 0 0 A) (F0 m 69 ls []) := by
              intro k13 hk69 n15
              induction n15 with
              | zero => intro x6 a7 H locs ls h; cases h
              | succ n15 ih69 =>
                intro x6 a7 H locs ls h hw hl
                rw [f_X6_join_L69] at h
                refine lv_iload hx hb dX6_join_69 (lv_at hl 3 rfl) ?_
                refine lv_aload_n hx hb dX6_join_71 rfl (lv_at hl 0 rfl) ?_
                refine fg_X6_7 X hw 0 rfl rfl dX6_join_72 ?_
                refine lv_iconst (v := 0) hx hb dX6_join_75 (by decide) ?_
                refine r_iald X hw 1 rfl (v := (a7 0)) (vp_lit (by decide)) rfl dX6_join_76 ?_
                refine lv_icmp_ge (tgt := 138) hx hb dX6_join_77 (by decide) (fun c1 => ?_) (fun c1 => ?_)
                · replace h := ip c1 h
                  exact hk69 a7 _ _ _ h hw (lv_sub hl [0, 1, 2] rfl)
                · replace h := ig c1 h
                  refine lv_iload hx hb dX6_join_80 (lv_at hl 3 rfl) ?_
                  refine lv_iload_n hx hb dX6_join_82 rfl (lv_at hl 1 rfl) ?_
                  have J132 : ∀ (a12 : Nat → Int32) (H : Heap) (locs : List Loc) (ls : Array Slot), f_X6_join_J132 (f_X6_join_L69 x5 p1 p2 k13 n15) x6 a12 = some (r_, thrown_', savedMany_', s_', saved_') → Wd D A s.heap [(h0, .inr (6, [.int (0 : Int32), .ref h_this_s, .ref h_this_saved, .int x3, .ref h_this_snapshot, .int hasSnapshot_, .ref h_this_text, .int length_, .ref h_this_lumps, .int lumpMany_, .ref h_this_order, .ref h_this_nears, .int partingSet_, .int partingWeight_, .int at_, .int isWell_, .ref h_this_told, .int toldMany_])), (h_this_s, .inl (cI, 103, .inl a12)), (h_this_saved, .inl (cI, 412, .inl a4))] H locs → lv_has ls 7 [(0, .ref h0), (3, .int x5), (4, .int ((p1 + p2) - x5)), (5, .int x6)] → W p l e rmX6_join s m ([.ref h0, .int p1, .int p2] : List Value).toArray below meth c H locs 0 0 (MQ below (Qi D r_ [(h0, .inr (6, [.int thrown_', .ref h_this_s, .ref h_this_saved, .int savedMany_', .ref h_this_snapshot, .int hasSnapshot_, .ref h_this_text, .int length_, .ref h_this_lumps, .int lumpMany_, .ref h_this_order, .ref h_this_nears, .int partingSet_, .int partingWeight_, .int at_, .int isWell_, .ref h_this_told, .int toldMany_])), (h_this_s, .inl (cI, 103, .inl s_')), (h_this_saved, .inl (cI, 412, .inl saved_'))] A) ([.ref h0, .int p1, .int p2] : List Value).toArray s 0 0 A) (F0 m 132 ls []) := by
                    intro a12 H locs ls h hw hl
                    unfold f_X6_join_J132 at h
                    refine lv_iinc (v := (x6 + (1 : Int32))) (lv' := [(5, .int (x6 + (1 : Int32))), (0, .ref h0), (3, .int x5), (4, .int ((p1 + p2) - x5))]) hx hb dX6_join_132 hl (k := 3) rfl rfl (by decide) rfl (fun ls hl => ?_)
                    refine lv_goto (tgt := 69) hx hb dX6_join_135 (by decide) ?_
                    exact ih69 (x6 + (1 : Int32)) a12 _ _ _ h hw (lv_sub hl [1, 2, 3, 0] rfl)
                  refine lv_icmp_eq (tgt := 132) hx hb dX6_join_83 (by decide) (fun c1 => ?_) (fun c1 => ?_)
                  · replace h := ip c1 h
                    exact J132 a7 _ _ _ h hw (lv_sub hl [0, 1, 2, 3] rfl)
                  · replace h := ig c1 h
                    refine lv_iload hx hb dX6_join_86 (lv_at hl 3 rfl) ?_
                    refine lv_iload hx hb dX6_join_88 (lv_at hl 2 rfl) ?_
                    refine lv_icmp_eq (tgt := 132) hx hb dX6_join_90 (by decide) (fun c1 => ?_) (fun c1 => ?_)
                    · replace h := ip c1 h
                      exact J132 a7 _ _ _ h hw (lv_sub hl [0, 1, 2, 3] rfl)
                    · replace h := ig c1 h
                      refine lv_aload_n hx hb dX6_join_93 rfl (lv_at hl 0 rfl) ?_
                      refine lv_iload_n hx hb dX6_join_94 rfl (lv_at hl 1 rfl) ?_
                      refine lv_iload hx hb dX6_join_95 (lv_at hl 3 rfl) ?_
                      obtain ⟨r8, hc, h⟩ := bd1_inv h
                      refine r_cVi X hw (As := [.int x5, .int x6]) (rest := []) (wr := [(h_this_saved, .inl (cI, 412, .inl a4))]) (ws' := [(h0, .inr (6, [.int (0 : Int32), .ref h_this_s, .ref h_this_saved, .int x3, .ref h_this_snapshot, .int hasSnapshot_, .ref h_this_text, .int length_, .ref h_this_lumps, .int lumpMany_, .ref h_this_order, .ref h_this_nears, .int partingSet_, .int partingWeight_, .int at_, .int isWell_, .ref h_this_told, .int toldMany_])), (h_this_s, .inl (cI, 103, .inl a7)), (h_this_saved, .inl (cI, 412, .inl a4))]) (c_X6_tied l D cI cC cO h0 h_this_s h_this_saved h_this_snapshot h_this_text h_this_lumps h_this_order h_this_nears h_this_told x5 x6 (0 : Int32) x3 hasSnapshot_ length_ lumpMany_ partingSet_ partingWeight_ at_ isWell_ toldMany_ a7 r8 hc) (cs_X6_45 X (by decide)) [0, 1] [2] [1, 2, 0] rfl rfl rfl rfl (by decide) rfl rfl 0 rfl rfl rfl rfl hl.1 rfl (Nat.le_of_ble_eq_true rfl) dX6_join_97 ⟨Nat.zero_le _, Nat.zero_le _⟩ (fun H locs hw => ?_)
                      refine lv_aload_n hx hb dX6_join_100 rfl (lv_at hl 0 rfl) ?_
                      refine lv_iload hx hb dX6_join_101 (lv_at hl 2 rfl) ?_
                      refine lv_iload hx hb dX6_join_103 (lv_at hl 3 rfl) ?_
                      obtain ⟨r9, hc, h⟩ := bd1_inv h
                      refine r_cVi X hw (As := [.int ((p1 + p2) - x5), .int x6]) (rest := [.int r8]) (wr := [(h_this_saved, .inl (cI, 412, .inl a4))]) (ws' := [(h0, .inr (6, [.int (0 : Int32), .ref h_this_s, .ref h_this_saved, .int x3, .ref h_this_snapshot, .int hasSnapshot_, .ref h_this_text, .int length_, .ref h_this_lumps, .int lumpMany_, .ref h_this_order, .ref h_this_nears, .int partingSet_, .int partingWeight_, .int at_, .int isWell_, .ref h_this_told, .int toldMany_])), (h_this_s, .inl (cI, 103, .inl a7)), (h_this_saved, .inl (cI, 412, .inl a4))]) (c_X6_tied l D cI cC cO h0 h_this_s h_this_saved h_this_snapshot h_this_text h_this_lumps h_this_order h_this_nears h_this_told ((p1 + p2) - x5) x6 (0 : Int32) x3 hasSnapshot_ length_ lumpMany_ partingSet_ partingWeight_ at_ isWell_ toldMany_ a7 r9 hc) (cs_X6_45 X (by decide)) [0, 1] [2] [1, 2, 0] rfl rfl rfl rfl (by decide) rfl rfl 0 rfl rfl rfl rfl hl.1 rfl (Nat.le_of_ble_eq_true rfl) dX6_join_105 ⟨Nat.zero_le _, Nat.zero_le _⟩ (fun H locs hw => ?_)
                      refine lv_iadd hx hb dX6_join_108 ?_
                      refine lv_istore (lv' := [(6, .int (r8 + r9)), (0, .ref h0), (3, .int x5), (4, .int ((p1 + p2) - x5)), (5, .int x6)]) hx hb dX6_join_109 hl (by decide) rfl (fun ls hl => ?_)
                      refine lv_aload_n hx hb dX6_join_111 rfl (lv_at hl 1 rfl) ?_
                      refine lv_iload_n hx hb dX6_join_112 rfl (lv_at hl 2 rfl) ?_
                      refine lv_iload hx hb dX6_join_113 (lv_at hl 4 rfl) ?_
                      refine lv_iload hx hb dX6_join_115 (lv_at hl 0 rfl) ?_
                      refine lv_bipush (v := 99) hx hb dX6_join_117 (by decide) ?_
                      have J129 : ∀ (x10 : Int32) (H : Heap) (locs : List Loc) (ls : Array Slot), f_X6_join_J129 x5 x6 a7 (f_X6_join_L69 x5 p1 p2 k13 n15) x10 = some (r_, thrown_', savedMany_', s_', saved_') → Wd D A s.heap [(h0, .inr (6, [.int (0 : Int32), .ref h_this_s, .ref h_this_saved, .int x3, .ref h_this_snapshot, .int hasSnapshot_, .ref h_this_text, .int length_, .ref h_this_lumps, .int lumpMany_, .ref h_this_order, .ref h_this_nears, .int partingSet_, .int partingWeight_, .int at_, .int isWell_, .ref h_this_told, .int toldMany_])), (h_this_s, .inl (cI, 103, .inl a7)), (h_this_saved, .inl (cI, 412, .inl a4))] H locs → lv_has ls 7 [(0, .ref h0), (3, .int x5), (4, .int ((p1 + p2) - x5)), (5, .int x6)] → W p l e rmX6_join s m ([.ref h0, .int p1, .int p2] : List Value).toArray below meth c H locs 0 0 (MQ below (Qi D r_ [(h0, .inr (6, [.int thrown_', .ref h_this_s, .ref h_this_saved, .int savedMany_', .ref h_this_snapshot, .int hasSnapshot_, .ref h_this_text, .int length_, .ref h_this_lumps, .int lumpMany_, .ref h_this_order, .ref h_this_nears, .int partingSet_, .int partingWeight_, .int at_, .int isWell_, .ref h_this_told, .int toldMany_])), (h_this_s, .inl (cI, 103, .inl s_')), (h_this_saved, .inl (cI, 412, .inl saved_'))] A) ([.ref h0, .int p1, .int p2] : List Value).toArray s 0 0 A) (F0 m 129 ls [.int x10, .int x6, .int x5, .ref h0]) := by
                        intro x10 H locs ls h hw hl
                        unfold f_X6_join_J129 at h
                        obtain ⟨a11, hc, h⟩ := bd1_inv h
                        refine r_cVv X hw (As := [.int x5, .int x6, .int x10]) (rest := []) (wr := [(h_this_saved, .inl (cI, 412, .inl a4))]) (ws' := [(h0, .inr (6, [.int (0 : Int32), .ref h_this_s, .ref h_this_saved, .int x3, .ref h_this_snapshot, .int hasSnapshot_, .ref h_this_text, .int length_, .ref h_this_lumps, .int lumpMany_, .ref h_this_order, .ref h_this_nears, .int partingSet_, .int partingWeight_, .int at_, .int isWell_, .ref h_this_told, .int toldMany_])), (h_this_s, .inl (cI, 103, .inl a11)), (h_this_saved, .inl (cI, 412, .inl a4))]) (c_X6_ties l D cI cC cO h0 h_this_s h_this_saved h_this_snapshot h_this_text h_this_lumps h_this_order h_this_nears h_this_told x5 x6 x10 (0 : Int32) x3 hasSnapshot_ length_ lumpMany_ partingSet_ partingWeight_ at_ isWell_ toldMany_ a7 a11 hc) (cs_X6_114 X (by decide)) [0, 1] [2] [1, 2, 0] rfl rfl rfl rfl (by decide) rfl rfl 0 rfl rfl rfl rfl hl.1 rfl (Nat.le_of_ble_eq_true rfl) dX6_join_129 ⟨Nat.zero_le _, Nat.zero_le _⟩ (fun H locs hw => ?_)
                        exact J132 a11 _ _ _ h hw (lv_sub hl [0, 1, 2, 3] rfl)
                      refine lv_icmp_le (tgt := 127) hx hb dX6_join_119 (by decide) (fun c1 => ?_) (fun c1 => ?_)
                      · replace h := ip c1 h
                        refine lv_iload hx hb dX6_join_127 (lv_at hl 0 rfl) ?_
                        exact J129 (r8 + r9) _ _ _ h hw (lv_sub hl [1, 2, 3, 4] rfl)
                      · replace h := ig c1 h
                        refine lv_bipush (v := 99) hx hb dX6_join_122 (by decide) ?_
                        refine lv_goto (tgt := 129) hx hb dX6_join_124 (by decide) ?_
                        exact J129 (99 : Int32) _ _ _ h hw (lv_sub hl [1, 2, 3, 4] rfl)
            exact L69 (fun a16 => f_X6_join_E138 N p1 p2 x5 x3 a4 a16) (fun a16 H locs ls h hw hl => E138 a16 H locs ls h hw hl) N (0 : Int32) s_ _ _ _ h hw (lv_sub hl [3, 2, 1, 0] rfl)
          refine lv_icmp_ge (tgt := 57) hx hb dX6_join_50 (by decide) (fun c1 => ?_) (fun c1 => ?_)
          · replace h := ip c1 h
            refine lv_iload_n hx hb dX6_join_57 rfl (lv_at hl 2 rfl) ?_
            exact J58 p2 _ _ _ h hw (lv_sub hl [0, 1, 2] rfl)
          · replace h := ig c1 h
            refine lv_iload_n hx hb dX6_join_53 rfl (lv_at hl 1 rfl) ?_
            refine lv_goto (tgt := 58) hx hb dX6_join_54 (by decide) ?_
            exact J58 p1 _ _ _ h hw (lv_sub hl [0, 1, 2] rfl)
        · replace h := ip c1 h
          refine lv_bipush (v := -4) hx hb dX6_join_41 (by decide) ?_
          obtain ⟨rfl, rfl, rfl, rfl, rfl⟩ := oi5 h
          exact r_ret X hw hr hlk dX6_join_43
      · replace h := ip c1 h
        refine lv_bipush (v := -2) hx hb dX6_join_28 (by decide) ?_
        obtain ⟨rfl, rfl, rfl, rfl, rfl⟩ := oi5 h
        exact r_ret X hw hr hlk dX6_join_30
    · replace h := ip c1 h
      refine lv_iconst (v := -1) hx hb dX6_join_21 (by decide) ?_
      obtain ⟨rfl, rfl, rfl, rfl, rfl⟩ := oi5 h
      exact r_ret X hw hr hlk dX6_join_22
def rmX6_refusesPair : Room := { frames := 2, cells := 0, slots := 0, locals := 43 }
set_option maxHeartbeats 4000000 in
set_option maxRecDepth 100000 in
theorem c_X6_refusesPair (l : Launch) (D : va_G) (cI cC cO : ClassId) (h0 h_this_s h_this_saved h_this_snapshot h_this_text h_this_lumps h_this_order h_this_nears h_this_told : Nat) (p1 p2 p3 thrown_ savedMany_ hasSnapshot_ length_ lumpMany_ partingSet_ partingWeight_ at_ isWell_ toldMany_ : Int32) (s_ : Nat → Int32) (r_ : Int32) (h : f_X6_refusesPair p1 p2 p3 s_ = some r_) : CI l yX6_refusesPair (Wy yX6_refusesPair cX6_refusesPair 4 (some .int)) rmX6_refusesPair D cI cC cO [.ref h0, .int p1, .int p2, .int p3] [(h0, .inr (6, [.int thrown_, .ref h_this_s, .ref h_this_saved, .int savedMany_, .ref h_this_snapshot, .int hasSnapshot_, .ref h_this_text, .int length_, .ref h_this_lumps, .int lumpMany_, .ref h_this_order, .ref h_this_nears, .int partingSet_, .int partingWeight_, .int at_, .int isWell_, .ref h_this_told, .int toldMany_])), (h_this_s, .inl (cI, 103, .inl s_))] r_ [(h0, .inr (6, [.int thrown_, .ref h_this_s, .ref h_this_saved, .int savedMany_, .ref h_this_snapshot, .int hasSnapshot_, .ref h_this_text, .int length_, .ref h_this_lumps, .int lumpMany_, .ref h_this_order, .ref h_this_nears, .int partingSet_, .int partingWeight_, .int at_, .int isWell_, .ref h_this_told, .int toldMany_])), (h_this_s, .inl (cI, 103, .inl s_))] := by
  refine enter_i RX6 (by decide) rfl (Nat.le_of_ble_eq_true rfl) ?_
  intro p e s m below meth c A X hr hlk hw ls hl
  have hx := X.1.1
  have hb := X.1.2.1
  have hl : lv_has ls 4 [(0, .ref h0), (1, .int p1), (2, .int p2), (3, .int p3)] := hl
  unfold f_X6_refusesPair at h
  refine lv_aload_n hx hb dX6_refusesPair_0 rfl (lv_at hl 0 rfl) ?_
  refine lv_iload_n hx hb dX6_refusesPair_1 rfl (lv_at hl 1 rfl) ?_
  obtain ⟨r1, hc, h⟩ := bd1_inv h
  refine r_cVi X hw (As := [.int p1]) (rest := []) (wr := []) (ws' := [(h0, .inr (6, [.int thrown_, .ref h_this_s, .ref h_this_saved, .int savedMany_, .ref h_this_snapshot, .int hasSnapshot_, .ref h_this_text, .int length_, .ref h_this_lumps, .int lumpMany_, .ref h_this_order, .ref h_this_nears, .int partingSet_, .int partingWeight_, .int at_, .int isWell_, .ref h_this_told, .int toldMany_])), (h_this_s, .inl (cI, 103, .inl s_))]) (c_X6_isPlace l D cI cC cO h0 h_this_s h_this_saved h_this_snapshot h_this_text h_this_lumps h_this_order h_this_nears h_this_told p1 thrown_ savedMany_ hasSnapshot_ length_ lumpMany_ partingSet_ partingWeight_ at_ isWell_ toldMany_ s_ r1 hc) (cs_X6_108 X (by decide)) [0, 1] [] [0, 1] rfl rfl rfl rfl (by decide) rfl rfl 0 rfl rfl rfl rfl hl.1 rfl (Nat.le_of_ble_eq_true rfl) dX6_refusesPair_2 ⟨Nat.zero_le _, Nat.zero_le _⟩ (fun H locs hw => ?_)
  refine lv_if_eq (tgt := 16) hx hb dX6_refusesPair_5 (by decide) (fun c1 => ?_) (fun c1 => ?_)
  · replace h := ip c1 h
    refine lv_iconst (v := -1) hx hb dX6_refusesPair_16 (by decide) ?_
    obtain rfl := oi1 h
    exact r_ret X hw hr hlk dX6_refusesPair_17
  · replace h := ig c1 h
    refine lv_aload_n hx hb dX6_refusesPair_8 rfl (lv_at hl 0 rfl) ?_
    refine lv_iload_n hx hb dX6_refusesPair_9 rfl (lv_at hl 2 rfl) ?_
    obtain ⟨r2, hc, h⟩ := bd1_inv h
    refine r_cVi X hw (As := [.int p2]) (rest := []) (wr := []) (ws' := [(h0, .inr (6, [.int thrown_, .ref h_this_s, .ref h_this_saved, .int savedMany_, .ref h_this_snapshot, .int hasSnapshot_, .ref h_this_text, .int length_, .ref h_this_lumps, .int lumpMany_, .ref h_this_order, .ref h_this_nears, .int partingSet_, .int partingWeight_, .int at_, .int isWell_, .ref h_this_told, .int toldMany_])), (h_this_s, .inl (cI, 103, .inl s_))]) (c_X6_isPlace l D cI cC cO h0 h_this_s h_this_saved h_this_snapshot h_this_text h_this_lumps h_this_order h_this_nears h_this_told p2 thrown_ savedMany_ hasSnapshot_ length_ lumpMany_ partingSet_ partingWeight_ at_ isWell_ toldMany_ s_ r2 hc) (cs_X6_108 X (by decide)) [0, 1] [] [0, 1] rfl rfl rfl rfl (by decide) rfl rfl 0 rfl rfl rfl rfl hl.1 rfl (Nat.le_of_ble_eq_true rfl) dX6_refusesPair_10 ⟨Nat.zero_le _, Nat.zero_le _⟩ (fun H locs hw => ?_)
    refine lv_if_ne (tgt := 18) hx hb dX6_refusesPair_13 (by decide) (fun c1 => ?_) (fun c1 => ?_)
    · replace h := ig c1 h
      refine lv_iload_n hx hb dX6_refusesPair_18 rfl (lv_at hl 1 rfl) ?_
      refine lv_iload_n hx hb dX6_refusesPair_19 rfl (lv_at hl 2 rfl) ?_
      refine lv_icmp_eq (tgt := 37) hx hb dX6_refusesPair_20 (by decide) (fun c1 => ?_) (fun c1 => ?_)
      · replace h := ip c1 h
        refine lv_bipush (v := -2) hx hb dX6_refusesPair_37 (by decide) ?_
        obtain rfl := oi1 h
        exact r_ret X hw hr hlk dX6_refusesPair_39
      · replace h := ig c1 h
        refine lv_iload_n hx hb dX6_refusesPair_23 rfl (lv_at hl 3 rfl) ?_
        refine lv_iconst (v := 0) hx hb dX6_refusesPair_24 (by decide) ?_
        refine lv_bipush (v := 99) hx hb dX6_refusesPair_25 (by decide) ?_
        obtain ⟨r3, hc, h⟩ := bd1_inv h
        refine r_cSi X hw (As := [.int p3, .int (0 : Int32), .int (99 : Int32)]) (rest := []) (c_X6_in l D cI cC cO p3 (0 : Int32) (99 : Int32) r3 hc) (cs_X6_38 X (by decide)) rfl hl.1 rfl (Nat.le_of_ble_eq_true rfl) dX6_refusesPair_27 ⟨Nat.zero_le _, Nat.zero_le _⟩ (fun H locs hw => ?_)
        refine lv_if_eq (tgt := 37) hx hb dX6_refusesPair_30 (by decide) (fun c1 => ?_) (fun c1 => ?_)
        · replace h := ip c1 h
          refine lv_bipush (v := -2) hx hb dX6_refusesPair_37 (by decide) ?_
          obtain rfl := oi1 h
          exact r_ret X hw hr hlk dX6_refusesPair_39
        · replace h := ig c1 h
          refine lv_iconst (v := 0) hx hb dX6_refusesPair_33 (by decide) ?_
          refine lv_goto (tgt := 39) hx hb dX6_refusesPair_34 (by decide) ?_
          obtain rfl := oi1 h
          exact r_ret X hw hr hlk dX6_refusesPair_39
    · replace h := ip c1 h
      refine lv_iconst (v := -1) hx hb dX6_refusesPair_16 (by decide) ?_
      obtain rfl := oi1 h
      exact r_ret X hw hr hlk dX6_refusesPair_17
def rmX6_tie : Room := { frames := 3, cells := 0, slots := 0, locals := 66 }
section
variable {p : Program} {l : Launch} {e : Env} {R : Room} {s : State} {m : MethodId} {args : Array Value} {below : List Frame} {meth : Method} {c : Code} {H : Heap} {locs : List Loc} {cells slots : Nat} {Q : State → Prop}
variable {cc : ByteArray} {pc nL : Nat} {ls : Array Slot} {rest : List Value} {D : va_G} {cI cC cO : ClassId} {A : Nat → Prop} {ws : va_W} {H0 : Heap}
theorem cs_X6_118 (X : Ctx p m c cc nL s args RX6 D cI cC cO) (hR : rmX6_refusesPair.frames + 1 ≤ R.frames ∧ 8 + (4 + 11) + rmX6_refusesPair.locals ≤ R.locals) : CallW R s args RX6 RX6 118 yX6_refusesPair cX6_refusesPair 4 (some .int) (Wy yX6_refusesPair cX6_refusesPair 4 (some .int)) rmX6_refusesPair 0 0 3 := cwV 3 X.1.2.2.2.2 (gi_V tw_642 tw_644 sw_yX6_refusesPair tw_7 tw_645) rfl rfl rfl (by decide +kernel) hR
end
set_option maxHeartbeats 4000000 in
set_option maxRecDepth 100000 in
theorem c_X6_tie (l : Launch) (D : va_G) (cI cC cO : ClassId) (N : Nat) (h0 h_this_s h_this_saved h_this_snapshot h_this_text h_this_lumps h_this_order h_this_nears h_this_told : Nat) (p1 p2 p3 thrown_ savedMany_ hasSnapshot_ length_ lumpMany_ partingSet_ partingWeight_ at_ isWell_ toldMany_ : Int32) (s_ saved_ : Nat → Int32) (r_ : Int32) (thrown_' : Int32) (savedMany_' : Int32) (s_' : Nat → Int32) (saved_' : Nat → Int32) (h : f_X6_tie N p1 p2 p3 savedMany_ s_ saved_ = some (r_, thrown_', savedMany_', s_', saved_')) : CI l yX6_tie (Wy yX6_tie cX6_tie 6 (some .int)) rmX6_tie D cI cC cO [.ref h0, .int p1, .int p2, .int p3] [(h0, .inr (6, [.int thrown_, .ref h_this_s, .ref h_this_saved, .int savedMany_, .ref h_this_snapshot, .int hasSnapshot_, .ref h_this_text, .int length_, .ref h_this_lumps, .int lumpMany_, .ref h_this_order, .ref h_this_nears, .int partingSet_, .int partingWeight_, .int at_, .int isWell_, .ref h_this_told, .int toldMany_])), (h_this_s, .inl (cI, 103, .inl s_)), (h_this_saved, .inl (cI, 412, .inl saved_))] r_ [(h0, .inr (6, [.int thrown_', .ref h_this_s, .ref h_this_saved, .int savedMany_', .ref h_this_snapshot, .int hasSnapshot_, .ref h_this_text, .int length_, .ref h_this_lumps, .int lumpMany_, .ref h_this_order, .ref h_this_nears, .int partingSet_, .int partingWeight_, .int at_, .int isWell_, .ref h_this_told, .int toldMany_])), (h_this_s, .inl (cI, 103, .inl s_')), (h_this_saved, .inl (cI, 412, .inl saved_'))] := by
  refine enter_i RX6 (by decide) rfl (Nat.le_of_ble_eq_true rfl) ?_
  intro p e s m below meth c A X hr hlk hw ls hl
  have hx := X.1.1
  have hb := X.1.2.1
  have hl : lv_has ls 6 [(0, .ref h0), (1, .int p1), (2, .int p2), (3, .int p3)] := hl
  unfold f_X6_tie at h
  refine lv_aload_n hx hb dX6_tie_0 rfl (lv_at hl 0 rfl) ?_
  refine lv_iconst (v := 0) hx hb dX6_tie_1 (by decide) ?_
  refine fp_X6_34 X hw 0 rfl rfl dX6_tie_2 (fun H locs hw => ?_)
  have hw : Wd D A s.heap [(h0, .inr (6, [.int (0 : Int32), .ref h_this_s, .ref h_this_saved, .int savedMany_, .ref h_this_snapshot, .int hasSnapshot_, .ref h_this_text, .int length_, .ref h_this_lumps, .int lumpMany_, .ref h_this_order, .ref h_this_nears, .int partingSet_, .int partingWeight_, .int at_, .int isWell_, .ref h_this_told, .int toldMany_])), (h_this_s, .inl (cI, 103, .inl s_)), (h_this_saved, .inl (cI, 412, .inl saved_))] H locs := hw
  refine lv_aload_n hx hb dX6_tie_5 rfl (lv_at hl 0 rfl) ?_
  refine lv_iload_n hx hb dX6_tie_6 rfl (lv_at hl 1 rfl) ?_
  refine lv_iload_n hx hb dX6_tie_7 rfl (lv_at hl 2 rfl) ?_
  refine lv_iload_n hx hb dX6_tie_8 rfl (lv_at hl 3 rfl) ?_
  obtain ⟨r1, hc, h⟩ := bd1_inv h
  refine r_cVi X hw (As := [.int p1, .int p2, .int p3]) (rest := []) (wr := [(h_this_saved, .inl (cI, 412, .inl saved_))]) (ws' := [(h0, .inr (6, [.int (0 : Int32), .ref h_this_s, .ref h_this_saved, .int savedMany_, .ref h_this_snapshot, .int hasSnapshot_, .ref h_this_text, .int length_, .ref h_this_lumps, .int lumpMany_, .ref h_this_order, .ref h_this_nears, .int partingSet_, .int partingWeight_, .int at_, .int isWell_, .ref h_this_told, .int toldMany_])), (h_this_s, .inl (cI, 103, .inl s_)), (h_this_saved, .inl (cI, 412, .inl saved_))]) (c_X6_refusesPair l D cI cC cO h0 h_this_s h_this_saved h_this_snapshot h_this_text h_this_lumps h_this_order h_this_nears h_this_told p1 p2 p3 (0 : Int32) savedMany_ hasSnapshot_ length_ lumpMany_ partingSet_ partingWeight_ at_ isWell_ toldMany_ s_ r1 hc) (cs_X6_118 X (by decide)) [0, 1] [2] [1, 2, 0] rfl rfl rfl rfl (by decide) rfl rfl 0 rfl rfl rfl rfl hl.1 rfl (Nat.le_of_ble_eq_true rfl) dX6_tie_9 ⟨Nat.zero_le _, Nat.zero_le _⟩ (fun H locs hw => ?_)
  refine lv_istore (lv' := [(4, .int r1), (0, .ref h0), (1, .int p1), (2, .int p2), (3, .int p3)]) hx hb dX6_tie_12 hl (by decide) rfl (fun ls hl => ?_)
  refine lv_iload hx hb dX6_tie_14 (lv_at hl 0 rfl) ?_
  refine lv_if_eq (tgt := 22) hx hb dX6_tie_16 (by decide) (fun c1 => ?_) (fun c1 => ?_)
  · replace h := ip c1 h
    refine lv_aload_n hx hb dX6_tie_22 rfl (lv_at hl 1 rfl) ?_
    refine lv_iload_n hx hb dX6_tie_23 rfl (lv_at hl 2 rfl) ?_
    refine lv_iload_n hx hb dX6_tie_24 rfl (lv_at hl 3 rfl) ?_
    obtain ⟨r2, hc, h⟩ := bd1_inv h
    refine r_cVi X hw (As := [.int p1, .int p2]) (rest := []) (wr := [(h_this_saved, .inl (cI, 412, .inl saved_))]) (ws' := [(h0, .inr (6, [.int (0 : Int32), .ref h_this_s, .ref h_this_saved, .int savedMany_, .ref h_this_snapshot, .int hasSnapshot_, .ref h_this_text, .int length_, .ref h_this_lumps, .int lumpMany_, .ref h_this_order, .ref h_this_nears, .int partingSet_, .int partingWeight_, .int at_, .int isWell_, .ref h_this_told, .int toldMany_])), (h_this_s, .inl (cI, 103, .inl s_)), (h_this_saved, .inl (cI, 412, .inl saved_))]) (c_X6_tied l D cI cC cO h0 h_this_s h_this_saved h_this_snapshot h_this_text h_this_lumps h_this_order h_this_nears h_this_told p1 p2 (0 : Int32) savedMany_ hasSnapshot_ length_ lumpMany_ partingSet_ partingWeight_ at_ isWell_ toldMany_ s_ r2 hc) (cs_X6_45 X (by decide)) [0, 1] [2] [1, 2, 0] rfl rfl rfl rfl (by decide) rfl rfl 0 rfl rfl rfl rfl hl.1 rfl (Nat.le_of_ble_eq_true rfl) dX6_tie_25 ⟨Nat.zero_le _, Nat.zero_le _⟩ (fun H locs hw => ?_)
    refine lv_istore (lv' := [(5, .int r2), (4, .int r1), (0, .ref h0), (1, .int p1), (2, .int p2), (3, .int p3)]) hx hb dX6_tie_28 hl (by decide) rfl (fun ls hl => ?_)
    refine lv_iload hx hb dX6_tie_30 (lv_at hl 0 rfl) ?_
    refine lv_iload_n hx hb dX6_tie_32 rfl (lv_at hl 5 rfl) ?_
    refine lv_icmp_ne (tgt := 39) hx hb dX6_tie_33 (by decide) (fun c1 => ?_) (fun c1 => ?_)
    · replace h := ig c1 h
      refine lv_aload_n hx hb dX6_tie_39 rfl (lv_at hl 2 rfl) ?_
      obtain ⟨x3, a4, hc, h⟩ := bd2_inv h
      refine r_cVv X hw (As := []) (rest := []) (wr := []) (ws' := [(h0, .inr (6, [.int (0 : Int32), .ref h_this_s, .ref h_this_saved, .int x3, .ref h_this_snapshot, .int hasSnapshot_, .ref h_this_text, .int length_, .ref h_this_lumps, .int lumpMany_, .ref h_this_order, .ref h_this_nears, .int partingSet_, .int partingWeight_, .int at_, .int isWell_, .ref h_this_told, .int toldMany_])), (h_this_s, .inl (cI, 103, .inl s_)), (h_this_saved, .inl (cI, 412, .inl a4))]) (c_X6_records l D cI cC cO N h0 h_this_s h_this_saved h_this_snapshot h_this_text h_this_lumps h_this_order h_this_nears h_this_told (0 : Int32) savedMany_ hasSnapshot_ length_ lumpMany_ partingSet_ partingWeight_ at_ isWell_ toldMany_ s_ saved_ x3 a4 hc) (cs_X6_105 X (by decide)) [0, 1, 2] [] [0, 1, 2] rfl rfl rfl rfl (by decide) rfl rfl 0 rfl rfl rfl rfl hl.1 rfl (Nat.le_of_ble_eq_true rfl) dX6_tie_40 ⟨Nat.zero_le _, Nat.zero_le _⟩ (fun H locs hw => ?_)
      refine lv_aload_n hx hb dX6_tie_43 rfl (lv_at hl 2 rfl) ?_
      refine lv_iload_n hx hb dX6_tie_44 rfl (lv_at hl 3 rfl) ?_
      refine lv_iload_n hx hb dX6_tie_45 rfl (lv_at hl 4 rfl) ?_
      refine lv_iload_n hx hb dX6_tie_46 rfl (lv_at hl 5 rfl) ?_
      obtain ⟨a5, hc, h⟩ := bd1_inv h
      refine r_cVv X hw (As := [.int p1, .int p2, .int p3]) (rest := []) (wr := [(h_this_saved, .inl (cI, 412, .inl a4))]) (ws' := [(h0, .inr (6, [.int (0 : Int32), .ref h_this_s, .ref h_this_saved, .int x3, .ref h_this_snapshot, .int hasSnapshot_, .ref h_this_text, .int length_, .ref h_this_lumps, .int lumpMany_, .ref h_this_order, .ref h_this_nears, .int partingSet_, .int partingWeight_, .int at_, .int isWell_, .ref h_this_told, .int toldMany_])), (h_this_s, .inl (cI, 103, .inl a5)), (h_this_saved, .inl (cI, 412, .inl a4))]) (c_X6_ties l D cI cC cO h0 h_this_s h_this_saved h_this_snapshot h_this_text h_this_lumps h_this_order h_this_nears h_this_told p1 p2 p3 (0 : Int32) x3 hasSnapshot_ length_ lumpMany_ partingSet_ partingWeight_ at_ isWell_ toldMany_ s_ a5 hc) (cs_X6_114 X (by decide)) [0, 1] [2] [1, 2, 0] rfl rfl rfl rfl (by decide) rfl rfl 0 rfl rfl rfl rfl hl.1 rfl (Nat.le_of_ble_eq_true rfl) dX6_tie_47 ⟨Nat.zero_le _, Nat.zero_le _⟩ (fun H locs hw => ?_)
      refine lv_iload hx hb dX6_tie_50 (lv_at hl 0 rfl) ?_
      obtain ⟨rfl, rfl, rfl, rfl, rfl⟩ := oi5 h
      exact r_ret X hw hr hlk dX6_tie_52
    · replace h := ip c1 h
      refine lv_bipush (v := -5) hx hb dX6_tie_36 (by decide) ?_
      obtain ⟨rfl, rfl, rfl, rfl, rfl⟩ := oi5 h
      exact r_ret X hw hr hlk dX6_tie_38
  · replace h := ig c1 h
    refine lv_iload hx hb dX6_tie_19 (lv_at hl 0 rfl) ?_
    obtain ⟨rfl, rfl, rfl, rfl, rfl⟩ := oi5 h
    exact r_ret X hw hr hlk dX6_tie_21
def rmX6_set : Room := { frames := 2, cells := 0, slots := 0, locals := 43 }
set_option maxHeartbeats 4000000 in
set_option maxRecDepth 100000 in
theorem c_X6_set (l : Launch) (D : va_G) (cI cC cO : ClassId) (N : Nat) (h0 h_this_s h_this_saved h_this_snapshot h_this_text h_this_lumps h_this_order h_this_nears h_this_told : Nat) (p1 p2 thrown_ savedMany_ hasSnapshot_ length_ lumpMany_ partingSet_ partingWeight_ at_ isWell_ toldMany_ : Int32) (s_ saved_ : Nat → Int32) (r_ : Int32) (thrown_' : Int32) (savedMany_' : Int32) (s_' : Nat → Int32) (saved_' : Nat → Int32) (h : f_X6_set N p1 p2 savedMany_ s_ saved_ = some (r_, thrown_', savedMany_', s_', saved_')) : CI l yX6_set (Wy yX6_set cX6_set 5 (some .int)) rmX6_set D cI cC cO [.ref h0, .int p1, .int p2] [(h0, .inr (6, [.int thrown_, .ref h_this_s, .ref h_this_saved, .int savedMany_, .ref h_this_snapshot, .int hasSnapshot_, .ref h_this_text, .int length_, .ref h_this_lumps, .int lumpMany_, .ref h_this_order, .ref h_this_nears, .int partingSet_, .int partingWeight_, .int at_, .int isWell_, .ref h_this_told, .int toldMany_])), (h_this_s, .inl (cI, 103, .inl s_)), (h_this_saved, .inl (cI, 412, .inl saved_))] r_ [(h0, .inr (6, [.int thrown_', .ref h_this_s, .ref h_this_saved, .int savedMany_', .ref h_this_snapshot, .int hasSnapshot_, .ref h_this_text, .int length_, .ref h_this_lumps, .int lumpMany_, .ref h_this_order, .ref h_this_nears, .int partingSet_, .int partingWeight_, .int at_, .int isWell_, .ref h_this_told, .int toldMany_])), (h_this_s, .inl (cI, 103, .inl s_')), (h_this_saved, .inl (cI, 412, .inl saved_'))] := by
  refine enter_i RX6 (by decide) rfl (Nat.le_of_ble_eq_true rfl) ?_
  intro p e s m below meth c A X hr hlk hw ls hl
  have hx := X.1.1
  have hb := X.1.2.1
  have hl : lv_has ls 5 [(0, .ref h0), (1, .int p1), (2, .int p2)] := hl
  unfold f_X6_set at h
  refine lv_aload_n hx hb dX6_set_0 rfl (lv_at hl 0 rfl) ?_
  refine lv_iconst (v := 0) hx hb dX6_set_1 (by decide) ?_
  refine fp_X6_34 X hw 0 rfl rfl dX6_set_2 (fun H locs hw => ?_)
  have hw : Wd D A s.heap [(h0, .inr (6, [.int (0 : Int32), .ref h_this_s, .ref h_this_saved, .int savedMany_, .ref h_this_snapshot, .int hasSnapshot_, .ref h_this_text, .int length_, .ref h_this_lumps, .int lumpMany_, .ref h_this_order, .ref h_this_nears, .int partingSet_, .int partingWeight_, .int at_, .int isWell_, .ref h_this_told, .int toldMany_])), (h_this_s, .inl (cI, 103, .inl s_)), (h_this_saved, .inl (cI, 412, .inl saved_))] H locs := hw
  refine lv_iload_n hx hb dX6_set_5 rfl (lv_at hl 1 rfl) ?_
  have J36 : ∀ (x3 : Int32) (H : Heap) (locs : List Loc) (ls : Array Slot), f_X6_set_J36 N savedMany_ s_ saved_ p1 p2 x3 = some (r_, thrown_', savedMany_', s_', saved_') → Wd D A s.heap [(h0, .inr (6, [.int (0 : Int32), .ref h_this_s, .ref h_this_saved, .int savedMany_, .ref h_this_snapshot, .int hasSnapshot_, .ref h_this_text, .int length_, .ref h_this_lumps, .int lumpMany_, .ref h_this_order, .ref h_this_nears, .int partingSet_, .int partingWeight_, .int at_, .int isWell_, .ref h_this_told, .int toldMany_])), (h_this_s, .inl (cI, 103, .inl s_)), (h_this_saved, .inl (cI, 412, .inl saved_))] H locs → lv_has ls 5 [(0, .ref h0), (1, .int p1), (2, .int p2)] → W p l e rmX6_set s m ([.ref h0, .int p1, .int p2] : List Value).toArray below meth c H locs 0 0 (MQ below (Qi D r_ [(h0, .inr (6, [.int thrown_', .ref h_this_s, .ref h_this_saved, .int savedMany_', .ref h_this_snapshot, .int hasSnapshot_, .ref h_this_text, .int length_, .ref h_this_lumps, .int lumpMany_, .ref h_this_order, .ref h_this_nears, .int partingSet_, .int partingWeight_, .int at_, .int isWell_, .ref h_this_told, .int toldMany_])), (h_this_s, .inl (cI, 103, .inl s_')), (h_this_saved, .inl (cI, 412, .inl saved_'))] A) ([.ref h0, .int p1, .int p2] : List Value).toArray s 0 0 A) (F0 m 36 ls [.int x3]) := by
    intro x3 H locs ls h hw hl
    unfold f_X6_set_J36 at h
    refine lv_istore_n (lv' := [(3, .int x3), (0, .ref h0), (1, .int p1), (2, .int p2)]) hx hb dX6_set_36 rfl hl (by decide) rfl (fun ls hl => ?_)
    refine lv_iload_n hx hb dX6_set_37 rfl (lv_at hl 0 rfl) ?_
    refine lv_if_ne (tgt := 44) hx hb dX6_set_38 (by decide) (fun c1 => ?_) (fun c1 => ?_)
    · replace h := ig c1 h
      refine lv_aload_n hx hb dX6_set_44 rfl (lv_at hl 1 rfl) ?_
      refine fg_X6_7 X hw 0 rfl rfl dX6_set_45 ?_
      refine lv_iconst (v := 1) hx hb dX6_set_48 (by decide) ?_
      refine lv_iload_n hx hb dX6_set_49 rfl (lv_at hl 2 rfl) ?_
      refine lv_iadd hx hb dX6_set_50 ?_
      obtain ⟨b1, h⟩ := chk_inv h
      refine r_iald X hw 1 rfl b1 rfl dX6_set_51 ?_
      refine lv_istore (lv' := [(4, .int (s_ (((1 : Int32) + p1)).toNatClampNeg)), (3, .int x3), (0, .ref h0), (1, .int p1), (2, .int p2)]) hx hb dX6_set_52 hl (by decide) rfl (fun ls hl => ?_)
      refine lv_iload hx hb dX6_set_54 (lv_at hl 0 rfl) ?_
      refine lv_iload_n hx hb dX6_set_56 rfl (lv_at hl 4 rfl) ?_
      refine lv_icmp_ne (tgt := 63) hx hb dX6_set_57 (by decide) (fun c1 => ?_) (fun c1 => ?_)
      · replace h := ig c1 h
        refine lv_aload_n hx hb dX6_set_63 rfl (lv_at hl 2 rfl) ?_
        obtain ⟨x4, a5, hc, h⟩ := bd2_inv h
        refine r_cVv X hw (As := []) (rest := []) (wr := []) (ws' := [(h0, .inr (6, [.int (0 : Int32), .ref h_this_s, .ref h_this_saved, .int x4, .ref h_this_snapshot, .int hasSnapshot_, .ref h_this_text, .int length_, .ref h_this_lumps, .int lumpMany_, .ref h_this_order, .ref h_this_nears, .int partingSet_, .int partingWeight_, .int at_, .int isWell_, .ref h_this_told, .int toldMany_])), (h_this_s, .inl (cI, 103, .inl s_)), (h_this_saved, .inl (cI, 412, .inl a5))]) (c_X6_records l D cI cC cO N h0 h_this_s h_this_saved h_this_snapshot h_this_text h_this_lumps h_this_order h_this_nears h_this_told (0 : Int32) savedMany_ hasSnapshot_ length_ lumpMany_ partingSet_ partingWeight_ at_ isWell_ toldMany_ s_ saved_ x4 a5 hc) (cs_X6_105 X (by decide)) [0, 1, 2] [] [0, 1, 2] rfl rfl rfl rfl (by decide) rfl rfl 0 rfl rfl rfl rfl hl.1 rfl (Nat.le_of_ble_eq_true rfl) dX6_set_64 ⟨Nat.zero_le _, Nat.zero_le _⟩ (fun H locs hw => ?_)
        refine lv_aload_n hx hb dX6_set_67 rfl (lv_at hl 2 rfl) ?_
        refine fg_X6_7 X hw 0 rfl rfl dX6_set_68 ?_
        refine lv_iconst (v := 1) hx hb dX6_set_71 (by decide) ?_
        refine lv_iload_n hx hb dX6_set_72 rfl (lv_at hl 3 rfl) ?_
        refine lv_iadd hx hb dX6_set_73 ?_
        refine lv_iload_n hx hb dX6_set_74 rfl (lv_at hl 4 rfl) ?_
        obtain ⟨b1, h⟩ := chk_inv h
        refine r_iast X hw 1 rfl b1 rfl dX6_set_75 (fun H locs hw => ?_)
        have hw : Wd D A s.heap [(h0, .inr (6, [.int (0 : Int32), .ref h_this_s, .ref h_this_saved, .int x4, .ref h_this_snapshot, .int hasSnapshot_, .ref h_this_text, .int length_, .ref h_this_lumps, .int lumpMany_, .ref h_this_order, .ref h_this_nears, .int partingSet_, .int partingWeight_, .int at_, .int isWell_, .ref h_this_told, .int toldMany_])), (h_this_s, .inl (cI, 103, .inl (upd s_ (((1 : Int32) + p1)).toNatClampNeg p2))), (h_this_saved, .inl (cI, 412, .inl a5))] H locs := hw
        refine lv_iload hx hb dX6_set_76 (lv_at hl 0 rfl) ?_
        obtain ⟨rfl, rfl, rfl, rfl, rfl⟩ := oi5 h
        exact r_ret X hw hr hlk dX6_set_78
      · replace h := ip c1 h
        refine lv_bipush (v := -5) hx hb dX6_set_60 (by decide) ?_
        obtain ⟨rfl, rfl, rfl, rfl, rfl⟩ := oi5 h
        exact r_ret X hw hr hlk dX6_set_62
    · replace h := ip c1 h
      refine lv_bipush (v := -2) hx hb dX6_set_41 (by decide) ?_
      obtain ⟨rfl, rfl, rfl, rfl, rfl⟩ := oi5 h
      exact r_ret X hw hr hlk dX6_set_43
  refine lv_if_ne (tgt := 17) hx hb dX6_set_6 (by decide) (fun c1 => ?_) (fun c1 => ?_)
  · replace h := ig c1 h
    refine lv_iload_n hx hb dX6_set_17 rfl (lv_at hl 1 rfl) ?_
    refine lv_iconst (v := 1) hx hb dX6_set_18 (by decide) ?_
    refine lv_icmp_ne (tgt := 35) hx hb dX6_set_19 (by decide) (fun c1 => ?_) (fun c1 => ?_)
    · replace h := ig c1 h
      refine lv_iconst (v := 0) hx hb dX6_set_35 (by decide) ?_
      exact J36 (0 : Int32) _ _ _ h hw (lv_sub hl [0, 1, 2] rfl)
    · replace h := ip c1 h
      refine lv_iload_n hx hb dX6_set_22 rfl (lv_at hl 2 rfl) ?_
      refine lv_iconst (v := 1) hx hb dX6_set_23 (by decide) ?_
      refine lv_iconst (v := 5) hx hb dX6_set_24 (by decide) ?_
      obtain ⟨r1, hc, h⟩ := bd1_inv h
      refine r_cSi X hw (As := [.int p2, .int (1 : Int32), .int (5 : Int32)]) (rest := []) (c_X6_in l D cI cC cO p2 (1 : Int32) (5 : Int32) r1 hc) (cs_X6_38 X (by decide)) rfl hl.1 rfl (Nat.le_of_ble_eq_true rfl) dX6_set_25 ⟨Nat.zero_le _, Nat.zero_le _⟩ (fun H locs hw => ?_)
      refine lv_if_eq (tgt := 35) hx hb dX6_set_28 (by decide) (fun c1 => ?_) (fun c1 => ?_)
      · replace h := ip c1 h
        refine lv_iconst (v := 0) hx hb dX6_set_35 (by decide) ?_
        exact J36 (0 : Int32) _ _ _ h hw (lv_sub hl [0, 1, 2] rfl)
      · replace h := ig c1 h
        refine lv_iconst (v := 1) hx hb dX6_set_31 (by decide) ?_
        refine lv_goto (tgt := 36) hx hb dX6_set_32 (by decide) ?_
        exact J36 (1 : Int32) _ _ _ h hw (lv_sub hl [0, 1, 2] rfl)
  · replace h := ip c1 h
    refine lv_aload_n hx hb dX6_set_9 rfl (lv_at hl 0 rfl) ?_
    refine lv_iload_n hx hb dX6_set_10 rfl (lv_at hl 2 rfl) ?_
    obtain ⟨r2, hc, h⟩ := bd1_inv h
    refine r_cVi X hw (As := [.int p2]) (rest := []) (wr := [(h_this_saved, .inl (cI, 412, .inl saved_))]) (ws' := [(h0, .inr (6, [.int (0 : Int32), .ref h_this_s, .ref h_this_saved, .int savedMany_, .ref h_this_snapshot, .int hasSnapshot_, .ref h_this_text, .int length_, .ref h_this_lumps, .int lumpMany_, .ref h_this_order, .ref h_this_nears, .int partingSet_, .int partingWeight_, .int at_, .int isWell_, .ref h_this_told, .int toldMany_])), (h_this_s, .inl (cI, 103, .inl s_)), (h_this_saved, .inl (cI, 412, .inl saved_))]) (c_X6_isPlace l D cI cC cO h0 h_this_s h_this_saved h_this_snapshot h_this_text h_this_lumps h_this_order h_this_nears h_this_told p2 (0 : Int32) savedMany_ hasSnapshot_ length_ lumpMany_ partingSet_ partingWeight_ at_ isWell_ toldMany_ s_ r2 hc) (cs_X6_108 X (by decide)) [0, 1] [2] [1, 2, 0] rfl rfl rfl rfl (by decide) rfl rfl 0 rfl rfl rfl rfl hl.1 rfl (Nat.le_of_ble_eq_true rfl) dX6_set_11 ⟨Nat.zero_le _, Nat.zero_le _⟩ (fun H locs hw => ?_)
    refine lv_goto (tgt := 36) hx hb dX6_set_14 (by decide) ?_
    exact J36 r2 _ _ _ h hw (lv_sub hl [0, 1, 2] rfl)
def rmX6_strengthen : Room := { frames := 7, cells := 0, slots := 0, locals := 161 }
section
variable {p : Program} {l : Launch} {e : Env} {R : Room} {s : State} {m : MethodId} {args : Array Value} {below : List Frame} {meth : Method} {c : Code} {H : Heap} {locs : List Loc} {cells slots : Nat} {Q : State → Prop}
variable {cc : ByteArray} {pc nL : Nat} {ls : Array Slot} {rest : List Value} {D : va_G} {cI cC cO : ClassId} {A : Nat → Prop} {ws : va_W} {H0 : Heap}
theorem cs_X6_122 (X : Ctx p m c cc nL s args RX6 D cI cC cO) (hR : rmX6_leastByPhases.frames + 1 ≤ R.frames ∧ 8 + (1 + 11) + rmX6_leastByPhases.locals ≤ R.locals) : CallW R s args RX6 RX6 122 yX6_leastByPhases cX6_leastByPhases 1 (some .int) (Wy yX6_leastByPhases cX6_leastByPhases 1 (some .int)) rmX6_leastByPhases 0 0 0 := cwV 0 X.1.2.2.2.2 (gi_V tw_654 tw_656 sw_yX6_leastByPhases tw_7 tw_657) rfl rfl rfl (by decide +kernel) hR
end
set_option maxHeartbeats 4000000 in
set_option maxRecDepth 100000 in
theorem c_X6_strengthen (l : Launch) (D : va_G) (cI cC cO : ClassId) (N : Nat) (h0 h_this_s h_this_saved h_this_snapshot h_this_text h_this_lumps h_this_order h_this_nears h_this_told : Nat) (thrown_ savedMany_ hasSnapshot_ length_ lumpMany_ partingSet_ partingWeight_ at_ isWell_ toldMany_ : Int32) (s_ saved_ lumps_ order_ nears_ : Nat → Int32) (r_ : Int32) (thrown_' : Int32) (savedMany_' : Int32) (lumpMany_' : Int32) (partingSet_' : Int32) (partingWeight_' : Int32) (s_' : Nat → Int32) (saved_' : Nat → Int32) (lumps_' : Nat → Int32) (order_' : Nat → Int32) (nears_' : Nat → Int32) (h : f_X6_strengthen N savedMany_ s_ saved_ lumps_ order_ nears_ = some (r_, thrown_', savedMany_', lumpMany_', partingSet_', partingWeight_', s_', saved_', lumps_', order_', nears_')) : CI l yX6_strengthen (Wy yX6_strengthen cX6_strengthen 5 (some .int)) rmX6_strengthen D cI cC cO [.ref h0] [(h0, .inr (6, [.int thrown_, .ref h_this_s, .ref h_this_saved, .int savedMany_, .ref h_this_snapshot, .int hasSnapshot_, .ref h_this_text, .int length_, .ref h_this_lumps, .int lumpMany_, .ref h_this_order, .ref h_this_nears, .int partingSet_, .int partingWeight_, .int at_, .int isWell_, .ref h_this_told, .int toldMany_])), (h_this_s, .inl (cI, 103, .inl s_)), (h_this_saved, .inl (cI, 412, .inl saved_)), (h_this_lumps, .inl (cI, 10, .inl lumps_)), (h_this_order, .inl (cI, 10, .inl order_)), (h_this_nears, .inl (cI, 10, .inl nears_))] r_ [(h0, .inr (6, [.int thrown_', .ref h_this_s, .ref h_this_saved, .int savedMany_', .ref h_this_snapshot, .int hasSnapshot_, .ref h_this_text, .int length_, .ref h_this_lumps, .int lumpMany_', .ref h_this_order, .ref h_this_nears, .int partingSet_', .int partingWeight_', .int at_, .int isWell_, .ref h_this_told, .int toldMany_])), (h_this_s, .inl (cI, 103, .inl s_')), (h_this_saved, .inl (cI, 412, .inl saved_')), (h_this_lumps, .inl (cI, 10, .inl lumps_')), (h_this_order, .inl (cI, 10, .inl order_')), (h_this_nears, .inl (cI, 10, .inl nears_'))] := by
  refine enter_i RX6 (by decide) rfl (Nat.le_of_ble_eq_true rfl) ?_
  intro p e s m below meth c A X hr hlk hw ls hl
  have hx := X.1.1
  have hb := X.1.2.1
  have hl : lv_has ls 5 [(0, .ref h0)] := hl
  unfold f_X6_strengthen at h
  refine lv_aload_n hx hb dX6_strengthen_0 rfl (lv_at hl 0 rfl) ?_
  refine lv_iconst (v := 0) hx hb dX6_strengthen_1 (by decide) ?_
  refine fp_X6_34 X hw 0 rfl rfl dX6_strengthen_2 (fun H locs hw => ?_)
  have hw : Wd D A s.heap [(h0, .inr (6, [.int (0 : Int32), .ref h_this_s, .ref h_this_saved, .int savedMany_, .ref h_this_snapshot, .int hasSnapshot_, .ref h_this_text, .int length_, .ref h_this_lumps, .int lumpMany_, .ref h_this_order, .ref h_this_nears, .int partingSet_, .int partingWeight_, .int at_, .int isWell_, .ref h_this_told, .int toldMany_])), (h_this_s, .inl (cI, 103, .inl s_)), (h_this_saved, .inl (cI, 412, .inl saved_)), (h_this_lumps, .inl (cI, 10, .inl lumps_)), (h_this_order, .inl (cI, 10, .inl order_)), (h_this_nears, .inl (cI, 10, .inl nears_))] H locs := hw
  refine lv_aload_n hx hb dX6_strengthen_5 rfl (lv_at hl 0 rfl) ?_
  obtain ⟨r1, x2, x3, x4, a5, a6, a7, hc, h⟩ := bd7_inv h
  refine r_cVi X hw (As := []) (rest := []) (wr := [(h_this_saved, .inl (cI, 412, .inl saved_))]) (ws' := [(h0, .inr (6, [.int (0 : Int32), .ref h_this_s, .ref h_this_saved, .int savedMany_, .ref h_this_snapshot, .int hasSnapshot_, .ref h_this_text, .int length_, .ref h_this_lumps, .int x2, .ref h_this_order, .ref h_this_nears, .int x3, .int x4, .int at_, .int isWell_, .ref h_this_told, .int toldMany_])), (h_this_s, .inl (cI, 103, .inl s_)), (h_this_saved, .inl (cI, 412, .inl saved_)), (h_this_lumps, .inl (cI, 10, .inl a5)), (h_this_order, .inl (cI, 10, .inl a6)), (h_this_nears, .inl (cI, 10, .inl a7))]) (c_X6_leastByPhases l D cI cC cO N h0 h_this_s h_this_saved h_this_snapshot h_this_text h_this_lumps h_this_order h_this_nears h_this_told (0 : Int32) savedMany_ hasSnapshot_ length_ lumpMany_ partingSet_ partingWeight_ at_ isWell_ toldMany_ s_ lumps_ order_ nears_ r1 x2 x3 x4 a5 a6 a7 hc) (cs_X6_122 X (by decide)) [0, 1, 3, 4, 5] [2] [1, 2, 0, 3, 4, 5] rfl rfl rfl rfl (by decide) rfl rfl 0 rfl rfl rfl rfl hl.1 rfl (Nat.le_of_ble_eq_true rfl) dX6_strengthen_6 ⟨Nat.zero_le _, Nat.zero_le _⟩ (fun H locs hw => ?_)
  refine lv_istore_n (lv' := [(1, .int r1), (0, .ref h0)]) hx hb dX6_strengthen_9 rfl hl (by decide) rfl (fun ls hl => ?_)
  refine lv_iconst (v := 0) hx hb dX6_strengthen_10 (by decide) ?_
  refine lv_istore_n (lv' := [(2, .int (0 : Int32)), (1, .int r1), (0, .ref h0)]) hx hb dX6_strengthen_11 rfl hl (by decide) rfl (fun ls hl => ?_)
  have E113 : ∀ (H : Heap) (locs : List Loc) (ls : Array Slot), f_X6_strengthen_E113 savedMany_ x2 x3 x4 s_ saved_ a5 a6 a7 = some (r_, thrown_', savedMany_', lumpMany_', partingSet_', partingWeight_', s_', saved_', lumps_', order_', nears_') → Wd D A s.heap [(h0, .inr (6, [.int (0 : Int32), .ref h_this_s, .ref h_this_saved, .int savedMany_, .ref h_this_snapshot, .int hasSnapshot_, .ref h_this_text, .int length_, .ref h_this_lumps, .int x2, .ref h_this_order, .ref h_this_nears, .int x3, .int x4, .int at_, .int isWell_, .ref h_this_told, .int toldMany_])), (h_this_s, .inl (cI, 103, .inl s_)), (h_this_saved, .inl (cI, 412, .inl saved_)), (h_this_lumps, .inl (cI, 10, .inl a5)), (h_this_order, .inl (cI, 10, .inl a6)), (h_this_nears, .inl (cI, 10, .inl a7))] H locs → lv_has ls 5 [] → W p l e rmX6_strengthen s m ([.ref h0] : List Value).toArray below meth c H locs 0 0 (MQ below (Qi D r_ [(h0, .inr (6, [.int thrown_', .ref h_this_s, .ref h_this_saved, .int savedMany_', .ref h_this_snapshot, .int hasSnapshot_, .ref h_this_text, .int length_, .ref h_this_lumps, .int lumpMany_', .ref h_this_order, .ref h_this_nears, .int partingSet_', .int partingWeight_', .int at_, .int isWell_, .ref h_this_told, .int toldMany_])), (h_this_s, .inl (cI, 103, .inl s_')), (h_this_saved, .inl (cI, 412, .inl saved_')), (h_this_lumps, .inl (cI, 10, .inl lumps_')), (h_this_order, .inl (cI, 10, .inl order_')), (h_this_nears, .inl (cI, 10, .inl nears_'))] A) ([.ref h0] : List Value).toArray s 0 0 A) (F0 m 113 ls []) := by
    intro H locs ls h hw hl
    unfold f_X6_strengthen_E113 at h
    refine lv_bipush (v := -4) hx hb dX6_strengthen_113 (by decide) ?_
    obtain ⟨rfl, rfl, rfl, rfl, rfl, rfl, rfl, rfl, rfl, rfl, rfl⟩ := oi11 h
    exact r_ret X hw hr hlk dX6_strengthen_115
  have L12 : ∀ (k20 : Option (Int32 × Int32 × Int32 × Int32 × Int32 × Int32 × (Nat → Int32) × (Nat → Int32) × (Nat → Int32) × (Nat → Int32) × (Nat → Int32))), (∀ (H : Heap) (locs : List Loc) (ls : Array Slot), k20 = some (r_, thrown_', savedMany_', lumpMany_', partingSet_', partingWeight_', s_', saved_', lumps_', order_', nears_') → Wd D A s.heap [(h0, .inr (6, [.int (0 : Int32), .ref h_this_s, .ref h_this_saved, .int savedMany_, .ref h_this_snapshot, .int hasSnapshot_, .ref h_this_text, .int length_, .ref h_this_lumps, .int x2, .ref h_this_order, .ref h_this_nears, .int x3, .int x4, .int at_, .int isWell_, .ref h_this_told, .int toldMany_])), (h_this_s, .inl (cI, 103, .inl s_)), (h_this_saved, .inl (cI, 412, .inl saved_)), (h_this_lumps, .inl (cI, 10, .inl a5)), (h_this_order, .inl (cI, 10, .inl a6)), (h_this_nears, .inl (cI, 10, .inl a7))] H locs → lv_has ls 5 [] → W p l e rmX6_strengthen s m ([.ref h0] : List Value).toArray below meth c H locs 0 0 (MQ below (Qi D r_ [(h0, .inr (6, [.int thrown_', .ref h_this_s, .ref h_this_saved, .int savedMany_', .ref h_this_snapshot, .int hasSnapshot_, .ref h_this_text, .int length_, .ref h_this_lumps, .int lumpMany_', .ref h_this_order, .ref h_this_nears, .int partingSet_', .int partingWeight_', .int at_, .int isWell_, .ref h_this_told, .int toldMany_])), (h_this_s, .inl (cI, 103, .inl s_')), (h_this_saved, .inl (cI, 412, .inl saved_')), (h_this_lumps, .inl (cI, 10, .inl lumps_')), (h_this_order, .inl (cI, 10, .inl order_')), (h_this_nears, .inl (cI, 10, .inl nears_'))] A) ([.ref h0] : List Value).toArray s 0 0 A) (F0 m 113 ls [])) → ∀ (n22 : Nat), ∀ (x8 : Int32) (H : Heap) (locs : List Loc) (ls : Array Slot), f_X6_strengthen_L12 N s_ r1 savedMany_ saved_ x2 x3 x4 a5 a6 a7 k20 n22 x8 = some (r_, thrown_', savedMany_', lumpMany_', partingSet_', partingWeight_', s_', saved_', lumps_', order_', nears_') → Wd D A s.heap [(h0, .inr (6, [.int (0 : Int32), .ref h_this_s, .ref h_this_saved, .int savedMany_, .ref h_this_snapshot, .int hasSnapshot_, .ref h_this_text, .int length_, .ref h_this_lumps, .int x2, .ref h_this_order, .ref h_this_nears, .int x3, .int x4, .int at_, .int isWell_, .ref h_this_told, .int toldMany_])), (h_this_s, .inl (cI, 103, .inl s_)), (h_this_saved, .inl (cI, 412, .inl saved_)), (h_this_lumps, .inl (cI, 10, .inl a5)), (h_this_order, .inl (cI, 10, .inl a6)), (h_this_nears, .inl (cI, 10, .inl a7))] H locs → lv_has ls 5 [(0, .ref h0), (1, .int r1), (2, .int x8)] → W p l e rmX6_strengthen s m ([.ref h0] : List Value).toArray below meth c H locs 0 0 (MQ below (Qi D r_ [(h0, .inr (6, [.int thrown_', .ref h_this_s, .ref h_this_saved, .int savedMany_', .ref h_this_snapshot, .int hasSnapshot_, .ref h_this_text, .int length_, .ref h_this_lumps, .int lumpMany_', .ref h_this_order, .ref h_this_nears, .int partingSet_', .int partingWeight_', .int at_, .int isWell_, .ref h_this_told, .int toldMany_])), (h_this_s, .inl (cI, 103, .inl s_')), (h_this_saved, .inl (cI, 412, .inl saved_')), (h_this_lumps, .inl (cI, 10, .inl lumps_')), (h_this_order, .inl (cI, 10, .inl order_')), (h_this_nears, .inl (cI, 10, .inl nears_'))] A) ([.ref h0] : List Value).toArray s 0 0 A) (F0 m 12 ls []) := by
    intro k20 hk12 n22
    induction n22 with
    | zero => intro x8 H locs ls h; cases h
    | succ n22 ih12 =>
      intro x8 H locs ls h hw hl
      rw [f_X6_strengthen_L12] at h
      refine lv_iload_n hx hb dX6_strengthen_12 rfl (lv_at hl 2 rfl) ?_
      refine lv_aload_n hx hb dX6_strengthen_13 rfl (lv_at hl 0 rfl) ?_
      refine fg_X6_7 X hw 0 rfl rfl dX6_strengthen_14 ?_
      refine lv_iconst (v := 0) hx hb dX6_strengthen_17 (by decide) ?_
      refine r_iald X hw 1 rfl (v := (s_ 0)) (vp_lit (by decide)) rfl dX6_strengthen_18 ?_
      refine lv_icmp_ge (tgt := 113) hx hb dX6_strengthen_19 (by decide) (fun c1 => ?_) (fun c1 => ?_)
      · replace h := ip c1 h
        exact hk12 _ _ _ h hw (lv_sub hl [] rfl)
      · replace h := ig c1 h
        refine lv_iload_n hx hb dX6_strengthen_22 rfl (lv_at hl 2 rfl) ?_
        refine lv_iconst (v := 1) hx hb dX6_strengthen_23 (by decide) ?_
        refine lv_iadd hx hb dX6_strengthen_24 ?_
        refine lv_istore_n (lv' := [(3, .int (x8 + (1 : Int32))), (0, .ref h0), (1, .int r1), (2, .int x8)]) hx hb dX6_strengthen_25 rfl hl (by decide) rfl (fun ls hl => ?_)
        have E107 : ∀ (H : Heap) (locs : List Loc) (ls : Array Slot), f_X6_strengthen_E107 (f_X6_strengthen_L12 N s_ r1 savedMany_ saved_ x2 x3 x4 a5 a6 a7 k20 n22) x8 = some (r_, thrown_', savedMany_', lumpMany_', partingSet_', partingWeight_', s_', saved_', lumps_', order_', nears_') → Wd D A s.heap [(h0, .inr (6, [.int (0 : Int32), .ref h_this_s, .ref h_this_saved, .int savedMany_, .ref h_this_snapshot, .int hasSnapshot_, .ref h_this_text, .int length_, .ref h_this_lumps, .int x2, .ref h_this_order, .ref h_this_nears, .int x3, .int x4, .int at_, .int isWell_, .ref h_this_told, .int toldMany_])), (h_this_s, .inl (cI, 103, .inl s_)), (h_this_saved, .inl (cI, 412, .inl saved_)), (h_this_lumps, .inl (cI, 10, .inl a5)), (h_this_order, .inl (cI, 10, .inl a6)), (h_this_nears, .inl (cI, 10, .inl a7))] H locs → lv_has ls 5 [(0, .ref h0), (1, .int r1), (2, .int x8)] → W p l e rmX6_strengthen s m ([.ref h0] : List Value).toArray below meth c H locs 0 0 (MQ below (Qi D r_ [(h0, .inr (6, [.int thrown_', .ref h_this_s, .ref h_this_saved, .int savedMany_', .ref h_this_snapshot, .int hasSnapshot_, .ref h_this_text, .int length_, .ref h_this_lumps, .int lumpMany_', .ref h_this_order, .ref h_this_nears, .int partingSet_', .int partingWeight_', .int at_, .int isWell_, .ref h_this_told, .int toldMany_])), (h_this_s, .inl (cI, 103, .inl s_')), (h_this_saved, .inl (cI, 412, .inl saved_')), (h_this_lumps, .inl (cI, 10, .inl lumps_')), (h_this_order, .inl (cI, 10, .inl order_')), (h_this_nears, .inl (cI, 10, .inl nears_'))] A) ([.ref h0] : List Value).toArray s 0 0 A) (F0 m 107 ls []) := by
          intro H locs ls h hw hl
          unfold f_X6_strengthen_E107 at h
          refine lv_iinc (v := (x8 + (1 : Int32))) (lv' := [(2, .int (x8 + (1 : Int32))), (0, .ref h0), (1, .int r1)]) hx hb dX6_strengthen_107 hl (k := 2) rfl rfl (by decide) rfl (fun ls hl => ?_)
          refine lv_goto (tgt := 12) hx hb dX6_strengthen_110 (by decide) ?_
          exact ih12 (x8 + (1 : Int32)) _ _ _ h hw (lv_sub hl [1, 2, 0] rfl)
        have L26 : ∀ (k17 : Option (Int32 × Int32 × Int32 × Int32 × Int32 × Int32 × (Nat → Int32) × (Nat → Int32) × (Nat → Int32) × (Nat → Int32) × (Nat → Int32))), (∀ (H : Heap) (locs : List Loc) (ls : Array Slot), k17 = some (r_, thrown_', savedMany_', lumpMany_', partingSet_', partingWeight_', s_', saved_', lumps_', order_', nears_') → Wd D A s.heap [(h0, .inr (6, [.int (0 : Int32), .ref h_this_s, .ref h_this_saved, .int savedMany_, .ref h_this_snapshot, .int hasSnapshot_, .ref h_this_text, .int length_, .ref h_this_lumps, .int x2, .ref h_this_order, .ref h_this_nears, .int x3, .int x4, .int at_, .int isWell_, .ref h_this_told, .int toldMany_])), (h_this_s, .inl (cI, 103, .inl s_)), (h_this_saved, .inl (cI, 412, .inl saved_)), (h_this_lumps, .inl (cI, 10, .inl a5)), (h_this_order, .inl (cI, 10, .inl a6)), (h_this_nears, .inl (cI, 10, .inl a7))] H locs → lv_has ls 5 [(0, .ref h0), (1, .int r1), (2, .int x8)] → W p l e rmX6_strengthen s m ([.ref h0] : List Value).toArray below meth c H locs 0 0 (MQ below (Qi D r_ [(h0, .inr (6, [.int thrown_', .ref h_this_s, .ref h_this_saved, .int savedMany_', .ref h_this_snapshot, .int hasSnapshot_, .ref h_this_text, .int length_, .ref h_this_lumps, .int lumpMany_', .ref h_this_order, .ref h_this_nears, .int partingSet_', .int partingWeight_', .int at_, .int isWell_, .ref h_this_told, .int toldMany_])), (h_this_s, .inl (cI, 103, .inl s_')), (h_this_saved, .inl (cI, 412, .inl saved_')), (h_this_lumps, .inl (cI, 10, .inl lumps_')), (h_this_order, .inl (cI, 10, .inl order_')), (h_this_nears, .inl (cI, 10, .inl nears_'))] A) ([.ref h0] : List Value).toArray s 0 0 A) (F0 m 107 ls [])) → ∀ (n19 : Nat), ∀ (x9 : Int32) (H : Heap) (locs : List Loc) (ls : Array Slot), f_X6_strengthen_L26 N s_ r1 x8 savedMany_ saved_ x2 x3 x4 a5 a6 a7 k17 n19 x9 = some (r_, thrown_', savedMany_', lumpMany_', partingSet_', partingWeight_', s_', saved_', lumps_', order_', nears_') → Wd D A s.heap [(h0, .inr (6, [.int (0 : Int32), .ref h_this_s, .ref h_this_saved, .int savedMany_, .ref h_this_snapshot, .int hasSnapshot_, .ref h_this_text, .int length_, .ref h_this_lumps, .int x2, .ref h_this_order, .ref h_this_nears, .int x3, .int x4, .int at_, .int isWell_, .ref h_this_told, .int toldMany_])), (h_this_s, .inl (cI, 103, .inl s_)), (h_this_saved, .inl (cI, 412, .inl saved_)), (h_this_lumps, .inl (cI, 10, .inl a5)), (h_this_order, .inl (cI, 10, .inl a6)), (h_this_nears, .inl (cI, 10, .inl a7))] H locs → lv_has ls 5 [(0, .ref h0), (1, .int r1), (2, .int x8), (3, .int x9)] → W p l e rmX6_strengthen s m ([.ref h0] : List Value).toArray below meth c H locs 0 0 (MQ below (Qi D r_ [(h0, .inr (6, [.int thrown_', .ref h_this_s, .ref h_this_saved, .int savedMany_', .ref h_this_snapshot, .int hasSnapshot_, .ref h_this_text, .int length_, .ref h_this_lumps, .int lumpMany_', .ref h_this_order, .ref h_this_nears, .int partingSet_', .int partingWeight_', .int at_, .int isWell_, .ref h_this_told, .int toldMany_])), (h_this_s, .inl (cI, 103, .inl s_')), (h_this_saved, .inl (cI, 412, .inl saved_')), (h_this_lumps, .inl (cI, 10, .inl lumps_')), (h_this_order, .inl (cI, 10, .inl order_')), (h_this_nears, .inl (cI, 10, .inl nears_'))] A) ([.ref h0] : List Value).toArray s 0 0 A) (F0 m 26 ls []) := by
          intro k17 hk26 n19
          induction n19 with
          | zero => intro x9 H locs ls h; cases h
          | succ n19 ih26 =>
            intro x9 H locs ls h hw hl
            rw [f_X6_strengthen_L26] at h
            refine lv_iload_n hx hb dX6_strengthen_26 rfl (lv_at hl 3 rfl) ?_
            refine lv_aload_n hx hb dX6_strengthen_27 rfl (lv_at hl 0 rfl) ?_
            refine fg_X6_7 X hw 0 rfl rfl dX6_strengthen_28 ?_
            refine lv_iconst (v := 0) hx hb dX6_strengthen_31 (by decide) ?_
            refine r_iald X hw 1 rfl (v := (s_ 0)) (vp_lit (by decide)) rfl dX6_strengthen_32 ?_
            refine lv_icmp_ge (tgt := 107) hx hb dX6_strengthen_33 (by decide) (fun c1 => ?_) (fun c1 => ?_)
            · replace h := ip c1 h
              exact hk26 _ _ _ h hw (lv_sub hl [0, 1, 2] rfl)
            · replace h := ig c1 h
              refine lv_iload_n hx hb dX6_strengthen_36 rfl (lv_at hl 1 rfl) ?_
              refine lv_iload_n hx hb dX6_strengthen_37 rfl (lv_at hl 2 rfl) ?_
              refine lv_ishr hx hb dX6_strengthen_38 ?_
              refine lv_iconst (v := 1) hx hb dX6_strengthen_39 (by decide) ?_
              refine lv_iand hx hb dX6_strengthen_40 ?_
              refine lv_iload_n hx hb dX6_strengthen_41 rfl (lv_at hl 1 rfl) ?_
              refine lv_iload_n hx hb dX6_strengthen_42 rfl (lv_at hl 3 rfl) ?_
              refine lv_ishr hx hb dX6_strengthen_43 ?_
              refine lv_iconst (v := 1) hx hb dX6_strengthen_44 (by decide) ?_
              refine lv_iand hx hb dX6_strengthen_45 ?_
              have J54 : ∀ (x10 : Int32) (H : Heap) (locs : List Loc) (ls : Array Slot), f_X6_strengthen_J54 N (f_X6_strengthen_L26 N s_ r1 x8 savedMany_ saved_ x2 x3 x4 a5 a6 a7 k17 n19) x9 x8 s_ savedMany_ saved_ x2 x3 x4 a5 a6 a7 x10 = some (r_, thrown_', savedMany_', lumpMany_', partingSet_', partingWeight_', s_', saved_', lumps_', order_', nears_') → Wd D A s.heap [(h0, .inr (6, [.int (0 : Int32), .ref h_this_s, .ref h_this_saved, .int savedMany_, .ref h_this_snapshot, .int hasSnapshot_, .ref h_this_text, .int length_, .ref h_this_lumps, .int x2, .ref h_this_order, .ref h_this_nears, .int x3, .int x4, .int at_, .int isWell_, .ref h_this_told, .int toldMany_])), (h_this_s, .inl (cI, 103, .inl s_)), (h_this_saved, .inl (cI, 412, .inl saved_)), (h_this_lumps, .inl (cI, 10, .inl a5)), (h_this_order, .inl (cI, 10, .inl a6)), (h_this_nears, .inl (cI, 10, .inl a7))] H locs → lv_has ls 5 [(0, .ref h0), (1, .int r1), (2, .int x8), (3, .int x9)] → W p l e rmX6_strengthen s m ([.ref h0] : List Value).toArray below meth c H locs 0 0 (MQ below (Qi D r_ [(h0, .inr (6, [.int thrown_', .ref h_this_s, .ref h_this_saved, .int savedMany_', .ref h_this_snapshot, .int hasSnapshot_, .ref h_this_text, .int length_, .ref h_this_lumps, .int lumpMany_', .ref h_this_order, .ref h_this_nears, .int partingSet_', .int partingWeight_', .int at_, .int isWell_, .ref h_this_told, .int toldMany_])), (h_this_s, .inl (cI, 103, .inl s_')), (h_this_saved, .inl (cI, 412, .inl saved_')), (h_this_lumps, .inl (cI, 10, .inl lumps_')), (h_this_order, .inl (cI, 10, .inl order_')), (h_this_nears, .inl (cI, 10, .inl nears_'))] A) ([.ref h0] : List Value).toArray s 0 0 A) (F0 m 54 ls [.int x10]) := by
                intro x10 H locs ls h hw hl
                unfold f_X6_strengthen_J54 at h
                refine lv_istore (lv' := [(4, .int x10), (0, .ref h0), (1, .int r1), (2, .int x8), (3, .int x9)]) hx hb dX6_strengthen_54 hl (by decide) rfl (fun ls hl => ?_)
                refine lv_iload hx hb dX6_strengthen_56 (lv_at hl 0 rfl) ?_
                refine lv_if_eq (tgt := 101) hx hb dX6_strengthen_58 (by decide) (fun c1 => ?_) (fun c1 => ?_)
                · replace h := ip c1 h
                  refine lv_iinc (v := (x9 + (1 : Int32))) (lv' := [(3, .int (x9 + (1 : Int32))), (4, .int x10), (0, .ref h0), (1, .int r1), (2, .int x8)]) hx hb dX6_strengthen_101 hl (k := 4) rfl rfl (by decide) rfl (fun ls hl => ?_)
                  refine lv_goto (tgt := 26) hx hb dX6_strengthen_104 (by decide) ?_
                  exact ih26 (x9 + (1 : Int32)) _ _ _ h hw (lv_sub hl [2, 3, 4, 0] rfl)
                · replace h := ig c1 h
                  refine lv_aload_n hx hb dX6_strengthen_61 rfl (lv_at hl 1 rfl) ?_
                  refine lv_iload_n hx hb dX6_strengthen_62 rfl (lv_at hl 3 rfl) ?_
                  refine lv_iload_n hx hb dX6_strengthen_63 rfl (lv_at hl 4 rfl) ?_
                  obtain ⟨r11, hc, h⟩ := bd1_inv h
                  refine r_cVi X hw (As := [.int x8, .int x9]) (rest := []) (wr := [(h_this_saved, .inl (cI, 412, .inl saved_)), (h_this_lumps, .inl (cI, 10, .inl a5)), (h_this_order, .inl (cI, 10, .inl a6)), (h_this_nears, .inl (cI, 10, .inl a7))]) (ws' := [(h0, .inr (6, [.int (0 : Int32), .ref h_this_s, .ref h_this_saved, .int savedMany_, .ref h_this_snapshot, .int hasSnapshot_, .ref h_this_text, .int length_, .ref h_this_lumps, .int x2, .ref h_this_order, .ref h_this_nears, .int x3, .int x4, .int at_, .int isWell_, .ref h_this_told, .int toldMany_])), (h_this_s, .inl (cI, 103, .inl s_)), (h_this_saved, .inl (cI, 412, .inl saved_)), (h_this_lumps, .inl (cI, 10, .inl a5)), (h_this_order, .inl (cI, 10, .inl a6)), (h_this_nears, .inl (cI, 10, .inl a7))]) (c_X6_tied l D cI cC cO h0 h_this_s h_this_saved h_this_snapshot h_this_text h_this_lumps h_this_order h_this_nears h_this_told x8 x9 (0 : Int32) savedMany_ hasSnapshot_ length_ x2 x3 x4 at_ isWell_ toldMany_ s_ r11 hc) (cs_X6_45 X (by decide)) [0, 1] [2, 3, 4, 5] [4, 5, 0, 1, 2, 3] rfl rfl rfl rfl (by decide) rfl rfl 0 rfl rfl rfl rfl hl.1 rfl (Nat.le_of_ble_eq_true rfl) dX6_strengthen_64 ⟨Nat.zero_le _, Nat.zero_le _⟩ (fun H locs hw => ?_)
                  refine lv_iconst (v := 1) hx hb dX6_strengthen_67 (by decide) ?_
                  refine lv_bipush (v := 98) hx hb dX6_strengthen_68 (by decide) ?_
                  obtain ⟨r12, hc, h⟩ := bd1_inv h
                  refine r_cSi X hw (As := [.int r11, .int (1 : Int32), .int (98 : Int32)]) (rest := []) (c_X6_in l D cI cC cO r11 (1 : Int32) (98 : Int32) r12 hc) (cs_X6_38 X (by decide)) rfl hl.1 rfl (Nat.le_of_ble_eq_true rfl) dX6_strengthen_70 ⟨Nat.zero_le _, Nat.zero_le _⟩ (fun H locs hw => ?_)
                  refine lv_if_eq (tgt := 101) hx hb dX6_strengthen_73 (by decide) (fun c1 => ?_) (fun c1 => ?_)
                  · replace h := ip c1 h
                    refine lv_iinc (v := (x9 + (1 : Int32))) (lv' := [(3, .int (x9 + (1 : Int32))), (4, .int x10), (0, .ref h0), (1, .int r1), (2, .int x8)]) hx hb dX6_strengthen_101 hl (k := 4) rfl rfl (by decide) rfl (fun ls hl => ?_)
                    refine lv_goto (tgt := 26) hx hb dX6_strengthen_104 (by decide) ?_
                    exact ih26 (x9 + (1 : Int32)) _ _ _ h hw (lv_sub hl [2, 3, 4, 0] rfl)
                  · replace h := ig c1 h
                    refine lv_aload_n hx hb dX6_strengthen_76 rfl (lv_at hl 1 rfl) ?_
                    obtain ⟨x13, a14, hc, h⟩ := bd2_inv h
                    refine r_cVv X hw (As := []) (rest := []) (wr := [(h_this_lumps, .inl (cI, 10, .inl a5)), (h_this_order, .inl (cI, 10, .inl a6)), (h_this_nears, .inl (cI, 10, .inl a7))]) (ws' := [(h0, .inr (6, [.int (0 : Int32), .ref h_this_s, .ref h_this_saved, .int x13, .ref h_this_snapshot, .int hasSnapshot_, .ref h_this_text, .int length_, .ref h_this_lumps, .int x2, .ref h_this_order, .ref h_this_nears, .int x3, .int x4, .int at_, .int isWell_, .ref h_this_told, .int toldMany_])), (h_this_s, .inl (cI, 103, .inl s_)), (h_this_saved, .inl (cI, 412, .inl a14)), (h_this_lumps, .inl (cI, 10, .inl a5)), (h_this_order, .inl (cI, 10, .inl a6)), (h_this_nears, .inl (cI, 10, .inl a7))]) (c_X6_records l D cI cC cO N h0 h_this_s h_this_saved h_this_snapshot h_this_text h_this_lumps h_this_order h_this_nears h_this_told (0 : Int32) savedMany_ hasSnapshot_ length_ x2 x3 x4 at_ isWell_ toldMany_ s_ saved_ x13 a14 hc) (cs_X6_105 X (by decide)) [0, 1, 2] [3, 4, 5] [3, 4, 5, 0, 1, 2] rfl rfl rfl rfl (by decide) rfl rfl 0 rfl rfl rfl rfl hl.1 rfl (Nat.le_of_ble_eq_true rfl) dX6_strengthen_77 ⟨Nat.zero_le _, Nat.zero_le _⟩ (fun H locs hw => ?_)
                    refine lv_aload_n hx hb dX6_strengthen_80 rfl (lv_at hl 1 rfl) ?_
                    refine lv_iload_n hx hb dX6_strengthen_81 rfl (lv_at hl 3 rfl) ?_
                    refine lv_iload_n hx hb dX6_strengthen_82 rfl (lv_at hl 4 rfl) ?_
                    refine lv_aload_n hx hb dX6_strengthen_83 rfl (lv_at hl 1 rfl) ?_
                    refine lv_iload_n hx hb dX6_strengthen_84 rfl (lv_at hl 3 rfl) ?_
                    refine lv_iload_n hx hb dX6_strengthen_85 rfl (lv_at hl 4 rfl) ?_
                    obtain ⟨r15, hc, h⟩ := bd1_inv h
                    refine r_cVi X hw (As := [.int x8, .int x9]) (rest := [.int x9, .int x8, .ref h0]) (wr := [(h_this_saved, .inl (cI, 412, .inl a14)), (h_this_lumps, .inl (cI, 10, .inl a5)), (h_this_order, .inl (cI, 10, .inl a6)), (h_this_nears, .inl (cI, 10, .inl a7))]) (ws' := [(h0, .inr (6, [.int (0 : Int32), .ref h_this_s, .ref h_this_saved, .int x13, .ref h_this_snapshot, .int hasSnapshot_, .ref h_this_text, .int length_, .ref h_this_lumps, .int x2, .ref h_this_order, .ref h_this_nears, .int x3, .int x4, .int at_, .int isWell_, .ref h_this_told, .int toldMany_])), (h_this_s, .inl (cI, 103, .inl s_)), (h_this_saved, .inl (cI, 412, .inl a14)), (h_this_lumps, .inl (cI, 10, .inl a5)), (h_this_order, .inl (cI, 10, .inl a6)), (h_this_nears, .inl (cI, 10, .inl a7))]) (c_X6_tied l D cI cC cO h0 h_this_s h_this_saved h_this_snapshot h_this_text h_this_lumps h_this_order h_this_nears h_this_told x8 x9 (0 : Int32) x13 hasSnapshot_ length_ x2 x3 x4 at_ isWell_ toldMany_ s_ r15 hc) (cs_X6_45 X (by decide)) [0, 1] [2, 3, 4, 5] [4, 5, 0, 1, 2, 3] rfl rfl rfl rfl (by decide) rfl rfl 0 rfl rfl rfl rfl hl.1 rfl (Nat.le_of_ble_eq_true rfl) dX6_strengthen_86 ⟨Nat.zero_le _, Nat.zero_le _⟩ (fun H locs hw => ?_)
                    refine lv_iconst (v := 1) hx hb dX6_strengthen_89 (by decide) ?_
                    refine lv_iadd hx hb dX6_strengthen_90 ?_
                    obtain ⟨a16, hc, h⟩ := bd1_inv h
                    refine r_cVv X hw (As := [.int x8, .int x9, .int (r15 + (1 : Int32))]) (rest := []) (wr := [(h_this_saved, .inl (cI, 412, .inl a14)), (h_this_lumps, .inl (cI, 10, .inl a5)), (h_this_order, .inl (cI, 10, .inl a6)), (h_this_nears, .inl (cI, 10, .inl a7))]) (ws' := [(h0, .inr (6, [.int (0 : Int32), .ref h_this_s, .ref h_this_saved, .int x13, .ref h_this_snapshot, .int hasSnapshot_, .ref h_this_text, .int length_, .ref h_this_lumps, .int x2, .ref h_this_order, .ref h_this_nears, .int x3, .int x4, .int at_, .int isWell_, .ref h_this_told, .int toldMany_])), (h_this_s, .inl (cI, 103, .inl a16)), (h_this_saved, .inl (cI, 412, .inl a14)), (h_this_lumps, .inl (cI, 10, .inl a5)), (h_this_order, .inl (cI, 10, .inl a6)), (h_this_nears, .inl (cI, 10, .inl a7))]) (c_X6_ties l D cI cC cO h0 h_this_s h_this_saved h_this_snapshot h_this_text h_this_lumps h_this_order h_this_nears h_this_told x8 x9 (r15 + (1 : Int32)) (0 : Int32) x13 hasSnapshot_ length_ x2 x3 x4 at_ isWell_ toldMany_ s_ a16 hc) (cs_X6_114 X (by decide)) [0, 1] [2, 3, 4, 5] [4, 5, 0, 1, 2, 3] rfl rfl rfl rfl (by decide) rfl rfl 0 rfl rfl rfl rfl hl.1 rfl (Nat.le_of_ble_eq_true rfl) dX6_strengthen_91 ⟨Nat.zero_le _, Nat.zero_le _⟩ (fun H locs hw => ?_)
                    refine lv_bipush (v := 10) hx hb dX6_strengthen_94 (by decide) ?_
                    refine lv_iload_n hx hb dX6_strengthen_96 rfl (lv_at hl 3 rfl) ?_
                    refine lv_imul hx hb dX6_strengthen_97 ?_
                    refine lv_iload_n hx hb dX6_strengthen_98 rfl (lv_at hl 4 rfl) ?_
                    refine lv_iadd hx hb dX6_strengthen_99 ?_
                    obtain ⟨rfl, rfl, rfl, rfl, rfl, rfl, rfl, rfl, rfl, rfl, rfl⟩ := oi11 h
                    exact r_ret X hw hr hlk dX6_strengthen_100
              refine lv_icmp_eq (tgt := 53) hx hb dX6_strengthen_46 (by decide) (fun c1 => ?_) (fun c1 => ?_)
              · replace h := ip c1 h
                refine lv_iconst (v := 0) hx hb dX6_strengthen_53 (by decide) ?_
                exact J54 (0 : Int32) _ _ _ h hw (lv_sub hl [0, 1, 2, 3] rfl)
              · replace h := ig c1 h
                refine lv_iconst (v := 1) hx hb dX6_strengthen_49 (by decide) ?_
                refine lv_goto (tgt := 54) hx hb dX6_strengthen_50 (by decide) ?_
                exact J54 (1 : Int32) _ _ _ h hw (lv_sub hl [0, 1, 2, 3] rfl)
        exact L26 (f_X6_strengthen_E107 (f_X6_strengthen_L12 N s_ r1 savedMany_ saved_ x2 x3 x4 a5 a6 a7 k20 n22) x8) (fun H locs ls h hw hl => E107 H locs ls h hw hl) N (x8 + (1 : Int32)) _ _ _ h hw (lv_sub hl [1, 2, 3, 0] rfl)
  exact L12 (f_X6_strengthen_E113 savedMany_ x2 x3 x4 s_ saved_ a5 a6 a7) (fun H locs ls h hw hl => E113 H locs ls h hw hl) N (0 : Int32) _ _ _ h hw (lv_sub hl [2, 1, 0] rfl)
def rmX6_letter : Room := { frames := 0, cells := 0, slots := 0, locals := 0 }
set_option maxHeartbeats 4000000 in
set_option maxRecDepth 100000 in
theorem c_X6_letter (l : Launch) (D : va_G) (cI cC cO : ClassId) (h0 h_this_s h_this_saved h_this_snapshot h_this_text h_this_lumps h_this_order h_this_nears h_this_told : Nat) (thrown_ savedMany_ hasSnapshot_ length_ lumpMany_ partingSet_ partingWeight_ at_ isWell_ toldMany_ : Int32) (text_ : Nat → Int32) (r_ : Int32) (h : f_X6_letter length_ at_ text_ = some r_) : CI l yX6_letter (Wy yX6_letter cX6_letter 1 (some .int)) rmX6_letter D cI cC cO [.ref h0] [(h0, .inr (6, [.int thrown_, .ref h_this_s, .ref h_this_saved, .int savedMany_, .ref h_this_snapshot, .int hasSnapshot_, .ref h_this_text, .int length_, .ref h_this_lumps, .int lumpMany_, .ref h_this_order, .ref h_this_nears, .int partingSet_, .int partingWeight_, .int at_, .int isWell_, .ref h_this_told, .int toldMany_])), (h_this_text, .inl (cI, 60, .inl text_))] r_ [(h0, .inr (6, [.int thrown_, .ref h_this_s, .ref h_this_saved, .int savedMany_, .ref h_this_snapshot, .int hasSnapshot_, .ref h_this_text, .int length_, .ref h_this_lumps, .int lumpMany_, .ref h_this_order, .ref h_this_nears, .int partingSet_, .int partingWeight_, .int at_, .int isWell_, .ref h_this_told, .int toldMany_])), (h_this_text, .inl (cI, 60, .inl text_))] := by
  refine enter_i RX6 (by decide) rfl (Nat.le_of_ble_eq_true rfl) ?_
  intro p e s m below meth c A X hr hlk hw ls hl
  have hx := X.1.1
  have hb := X.1.2.1
  have hl : lv_has ls 1 [(0, .ref h0)] := hl
  unfold f_X6_letter at h
  refine lv_aload_n hx hb dX6_letter_0 rfl (lv_at hl 0 rfl) ?_
  refine fg_X6_125 X hw 0 rfl rfl dX6_letter_1 ?_
  refine lv_aload_n hx hb dX6_letter_4 rfl (lv_at hl 0 rfl) ?_
  refine fg_X6_128 X hw 0 rfl rfl dX6_letter_5 ?_
  refine lv_icmp_ge (tgt := 23) hx hb dX6_letter_8 (by decide) (fun c1 => ?_) (fun c1 => ?_)
  · replace h := ip c1 h
    refine lv_iconst (v := 0) hx hb dX6_letter_23 (by decide) ?_
    obtain rfl := oi1 h
    exact r_ret X hw hr hlk dX6_letter_24
  · replace h := ig c1 h
    refine lv_aload_n hx hb dX6_letter_11 rfl (lv_at hl 0 rfl) ?_
    refine fg_X6_19 X hw 0 rfl rfl dX6_letter_12 ?_
    refine lv_aload_n hx hb dX6_letter_15 rfl (lv_at hl 0 rfl) ?_
    refine fg_X6_125 X hw 0 rfl rfl dX6_letter_16 ?_
    obtain ⟨b1, h⟩ := chk_inv h
    refine r_iald X hw 1 rfl b1 rfl dX6_letter_19 ?_
    refine lv_goto (tgt := 24) hx hb dX6_letter_20 (by decide) ?_
    obtain rfl := oi1 h
    exact r_ret X hw hr hlk dX6_letter_24
def rmX6_wants : Room := { frames := 1, cells := 0, slots := 0, locals := 22 }
section
variable {p : Program} {l : Launch} {e : Env} {R : Room} {s : State} {m : MethodId} {args : Array Value} {below : List Frame} {meth : Method} {c : Code} {H : Heap} {locs : List Loc} {cells slots : Nat} {Q : State → Prop}
variable {cc : ByteArray} {pc nL : Nat} {ls : Array Slot} {rest : List Value} {D : va_G} {cI cC cO : ClassId} {A : Nat → Prop} {ws : va_W} {H0 : Heap}
theorem cs_X6_135 (X : Ctx p m c cc nL s args RX6 D cI cC cO) (hR : rmX6_letter.frames + 1 ≤ R.frames ∧ 8 + (1 + 11) + rmX6_letter.locals ≤ R.locals) : CallW R s args RX6 RX6 135 yX6_letter cX6_letter 1 (some .int) (Wy yX6_letter cX6_letter 1 (some .int)) rmX6_letter 0 0 0 := cwV 0 X.1.2.2.2.2 (gi_V tw_705 tw_707 sw_yX6_letter tw_7 tw_708) rfl rfl rfl (by decide +kernel) hR
end
set_option maxHeartbeats 4000000 in
set_option maxRecDepth 100000 in
theorem c_X6_wants (l : Launch) (D : va_G) (cI cC cO : ClassId) (h0 h_this_s h_this_saved h_this_snapshot h_this_text h_this_lumps h_this_order h_this_nears h_this_told : Nat) (p1 p2 thrown_ savedMany_ hasSnapshot_ length_ lumpMany_ partingSet_ partingWeight_ at_ isWell_ toldMany_ : Int32) (text_ : Nat → Int32) (r_ : Int32) (at_' : Int32) (isWell_' : Int32) (h : f_X6_wants p1 p2 length_ at_ isWell_ text_ = some (r_, at_', isWell_')) : CI l yX6_wants (Wy yX6_wants cX6_wants 4 (some .int)) rmX6_wants D cI cC cO [.ref h0, .int p1, .int p2] [(h0, .inr (6, [.int thrown_, .ref h_this_s, .ref h_this_saved, .int savedMany_, .ref h_this_snapshot, .int hasSnapshot_, .ref h_this_text, .int length_, .ref h_this_lumps, .int lumpMany_, .ref h_this_order, .ref h_this_nears, .int partingSet_, .int partingWeight_, .int at_, .int isWell_, .ref h_this_told, .int toldMany_])), (h_this_text, .inl (cI, 60, .inl text_))] r_ [(h0, .inr (6, [.int thrown_, .ref h_this_s, .ref h_this_saved, .int savedMany_, .ref h_this_snapshot, .int hasSnapshot_, .ref h_this_text, .int length_, .ref h_this_lumps, .int lumpMany_, .ref h_this_order, .ref h_this_nears, .int partingSet_, .int partingWeight_, .int at_', .int isWell_', .ref h_this_told, .int toldMany_])), (h_this_text, .inl (cI, 60, .inl text_))] := by
  refine enter_i RX6 (by decide) rfl (Nat.le_of_ble_eq_true rfl) ?_
  intro p e s m below meth c A X hr hlk hw ls hl
  have hx := X.1.1
  have hb := X.1.2.1
  have hl : lv_has ls 4 [(0, .ref h0), (1, .int p1), (2, .int p2)] := hl
  unfold f_X6_wants at h
  refine lv_aload_n hx hb dX6_wants_0 rfl (lv_at hl 0 rfl) ?_
  refine lv_aload_n hx hb dX6_wants_1 rfl (lv_at hl 0 rfl) ?_
  refine fg_X6_131 X hw 0 rfl rfl dX6_wants_2 ?_
  have J25 : ∀ (x3 : Int32) (H : Heap) (locs : List Loc) (ls : Array Slot), f_X6_wants_J25 length_ at_ text_ p1 x3 = some (r_, at_', isWell_') → Wd D A s.heap [(h0, .inr (6, [.int thrown_, .ref h_this_s, .ref h_this_saved, .int savedMany_, .ref h_this_snapshot, .int hasSnapshot_, .ref h_this_text, .int length_, .ref h_this_lumps, .int lumpMany_, .ref h_this_order, .ref h_this_nears, .int partingSet_, .int partingWeight_, .int at_, .int isWell_, .ref h_this_told, .int toldMany_])), (h_this_text, .inl (cI, 60, .inl text_))] H locs → lv_has ls 4 [(0, .ref h0), (1, .int p1)] → W p l e rmX6_wants s m ([.ref h0, .int p1, .int p2] : List Value).toArray below meth c H locs 0 0 (MQ below (Qi D r_ [(h0, .inr (6, [.int thrown_, .ref h_this_s, .ref h_this_saved, .int savedMany_, .ref h_this_snapshot, .int hasSnapshot_, .ref h_this_text, .int length_, .ref h_this_lumps, .int lumpMany_, .ref h_this_order, .ref h_this_nears, .int partingSet_, .int partingWeight_, .int at_', .int isWell_', .ref h_this_told, .int toldMany_])), (h_this_text, .inl (cI, 60, .inl text_))] A) ([.ref h0, .int p1, .int p2] : List Value).toArray s 0 0 A) (F0 m 25 ls [.int x3, .ref h0]) := by
    intro x3 H locs ls h hw hl
    unfold f_X6_wants_J25 at h
    obtain ⟨b1, h⟩ := chkB_inv h
    refine fp_X6_131 X hw 0 rfl rfl b1 dX6_wants_25 (fun H locs hw => ?_)
    have hw : Wd D A s.heap [(h0, .inr (6, [.int thrown_, .ref h_this_s, .ref h_this_saved, .int savedMany_, .ref h_this_snapshot, .int hasSnapshot_, .ref h_this_text, .int length_, .ref h_this_lumps, .int lumpMany_, .ref h_this_order, .ref h_this_nears, .int partingSet_, .int partingWeight_, .int at_, .int x3, .ref h_this_told, .int toldMany_])), (h_this_text, .inl (cI, 60, .inl text_))] H locs := hw
    refine lv_aload_n hx hb dX6_wants_28 rfl (lv_at hl 0 rfl) ?_
    obtain ⟨r4, hc, h⟩ := bd1_inv h
    refine r_cVi X hw (As := []) (rest := []) (wr := []) (ws' := [(h0, .inr (6, [.int thrown_, .ref h_this_s, .ref h_this_saved, .int savedMany_, .ref h_this_snapshot, .int hasSnapshot_, .ref h_this_text, .int length_, .ref h_this_lumps, .int lumpMany_, .ref h_this_order, .ref h_this_nears, .int partingSet_, .int partingWeight_, .int at_, .int x3, .ref h_this_told, .int toldMany_])), (h_this_text, .inl (cI, 60, .inl text_))]) (c_X6_letter l D cI cC cO h0 h_this_s h_this_saved h_this_snapshot h_this_text h_this_lumps h_this_order h_this_nears h_this_told thrown_ savedMany_ hasSnapshot_ length_ lumpMany_ partingSet_ partingWeight_ at_ x3 toldMany_ text_ r4 hc) (cs_X6_135 X (by decide)) [0, 1] [] [0, 1] rfl rfl rfl rfl (by decide) rfl rfl 0 rfl rfl rfl rfl hl.1 rfl (Nat.le_of_ble_eq_true rfl) dX6_wants_29 ⟨Nat.zero_le _, Nat.zero_le _⟩ (fun H locs hw => ?_)
    refine lv_iload_n hx hb dX6_wants_32 rfl (lv_at hl 1 rfl) ?_
    refine lv_isub hx hb dX6_wants_33 ?_
    refine lv_istore_n (lv' := [(3, .int (r4 - p1)), (0, .ref h0), (1, .int p1)]) hx hb dX6_wants_34 rfl hl (by decide) rfl (fun ls hl => ?_)
    refine lv_aload_n hx hb dX6_wants_35 rfl (lv_at hl 1 rfl) ?_
    refine lv_dup hx hb dX6_wants_36 rfl ?_
    refine fg_X6_125 X hw 0 rfl rfl dX6_wants_37 ?_
    refine lv_aload_n hx hb dX6_wants_40 rfl (lv_at hl 1 rfl) ?_
    refine fg_X6_131 X hw 0 rfl rfl dX6_wants_41 ?_
    have J52 : ∀ (x5 : Int32) (H : Heap) (locs : List Loc) (ls : Array Slot), f_X6_wants_J52 r4 p1 at_ x3 x5 = some (r_, at_', isWell_') → Wd D A s.heap [(h0, .inr (6, [.int thrown_, .ref h_this_s, .ref h_this_saved, .int savedMany_, .ref h_this_snapshot, .int hasSnapshot_, .ref h_this_text, .int length_, .ref h_this_lumps, .int lumpMany_, .ref h_this_order, .ref h_this_nears, .int partingSet_, .int partingWeight_, .int at_, .int x3, .ref h_this_told, .int toldMany_])), (h_this_text, .inl (cI, 60, .inl text_))] H locs → lv_has ls 4 [(3, .int (r4 - p1))] → W p l e rmX6_wants s m ([.ref h0, .int p1, .int p2] : List Value).toArray below meth c H locs 0 0 (MQ below (Qi D r_ [(h0, .inr (6, [.int thrown_, .ref h_this_s, .ref h_this_saved, .int savedMany_, .ref h_this_snapshot, .int hasSnapshot_, .ref h_this_text, .int length_, .ref h_this_lumps, .int lumpMany_, .ref h_this_order, .ref h_this_nears, .int partingSet_, .int partingWeight_, .int at_', .int isWell_', .ref h_this_told, .int toldMany_])), (h_this_text, .inl (cI, 60, .inl text_))] A) ([.ref h0, .int p1, .int p2] : List Value).toArray s 0 0 A) (F0 m 52 ls [.int x5, .int at_, .ref h0]) := by
      intro x5 H locs ls h hw hl
      unfold f_X6_wants_J52 at h
      refine lv_iadd hx hb dX6_wants_52 ?_
      refine fp_X6_125 X hw 0 rfl rfl dX6_wants_53 (fun H locs hw => ?_)
      have hw : Wd D A s.heap [(h0, .inr (6, [.int thrown_, .ref h_this_s, .ref h_this_saved, .int savedMany_, .ref h_this_snapshot, .int hasSnapshot_, .ref h_this_text, .int length_, .ref h_this_lumps, .int lumpMany_, .ref h_this_order, .ref h_this_nears, .int partingSet_, .int partingWeight_, .int (at_ + x5), .int x3, .ref h_this_told, .int toldMany_])), (h_this_text, .inl (cI, 60, .inl text_))] H locs := hw
      refine lv_iload_n hx hb dX6_wants_56 rfl (lv_at hl 0 rfl) ?_
      obtain ⟨rfl, rfl, rfl⟩ := oi3 h
      exact r_ret X hw hr hlk dX6_wants_57
    refine lv_if_eq (tgt := 51) hx hb dX6_wants_44 (by decide) (fun c1 => ?_) (fun c1 => ?_)
    · replace h := ip c1 h
      refine lv_iconst (v := 0) hx hb dX6_wants_51 (by decide) ?_
      exact J52 (0 : Int32) _ _ _ h hw (lv_sub hl [0] rfl)
    · replace h := ig c1 h
      refine lv_iconst (v := 1) hx hb dX6_wants_47 (by decide) ?_
      refine lv_goto (tgt := 52) hx hb dX6_wants_48 (by decide) ?_
      exact J52 (1 : Int32) _ _ _ h hw (lv_sub hl [0] rfl)
  refine lv_if_eq (tgt := 24) hx hb dX6_wants_5 (by decide) (fun c1 => ?_) (fun c1 => ?_)
  · replace h := ip c1 h
    refine lv_iconst (v := 0) hx hb dX6_wants_24 (by decide) ?_
    exact J25 (0 : Int32) _ _ _ h hw (lv_sub hl [0, 1] rfl)
  · replace h := ig c1 h
    refine lv_aload_n hx hb dX6_wants_8 rfl (lv_at hl 0 rfl) ?_
    obtain ⟨r1, hc, h⟩ := bd1_inv h
    refine r_cVi X hw (As := []) (rest := [.ref h0]) (wr := []) (ws' := [(h0, .inr (6, [.int thrown_, .ref h_this_s, .ref h_this_saved, .int savedMany_, .ref h_this_snapshot, .int hasSnapshot_, .ref h_this_text, .int length_, .ref h_this_lumps, .int lumpMany_, .ref h_this_order, .ref h_this_nears, .int partingSet_, .int partingWeight_, .int at_, .int isWell_, .ref h_this_told, .int toldMany_])), (h_this_text, .inl (cI, 60, .inl text_))]) (c_X6_letter l D cI cC cO h0 h_this_s h_this_saved h_this_snapshot h_this_text h_this_lumps h_this_order h_this_nears h_this_told thrown_ savedMany_ hasSnapshot_ length_ lumpMany_ partingSet_ partingWeight_ at_ isWell_ toldMany_ text_ r1 hc) (cs_X6_135 X (by decide)) [0, 1] [] [0, 1] rfl rfl rfl rfl (by decide) rfl rfl 0 rfl rfl rfl rfl hl.1 rfl (Nat.le_of_ble_eq_true rfl) dX6_wants_9 ⟨Nat.zero_le _, Nat.zero_le _⟩ (fun H locs hw => ?_)
    refine lv_iload_n hx hb dX6_wants_12 rfl (lv_at hl 1 rfl) ?_
    refine lv_iload_n hx hb dX6_wants_13 rfl (lv_at hl 2 rfl) ?_
    obtain ⟨r2, hc, h⟩ := bd1_inv h
    refine r_cSi X hw (As := [.int r1, .int p1, .int p2]) (rest := [.ref h0]) (c_X6_in l D cI cC cO r1 p1 p2 r2 hc) (cs_X6_38 X (by decide)) rfl hl.1 rfl (Nat.le_of_ble_eq_true rfl) dX6_wants_14 ⟨Nat.zero_le _, Nat.zero_le _⟩ (fun H locs hw => ?_)
    refine lv_if_eq (tgt := 24) hx hb dX6_wants_17 (by decide) (fun c1 => ?_) (fun c1 => ?_)
    · replace h := ip c1 h
      refine lv_iconst (v := 0) hx hb dX6_wants_24 (by decide) ?_
      exact J25 (0 : Int32) _ _ _ h hw (lv_sub hl [0, 1] rfl)
    · replace h := ig c1 h
      refine lv_iconst (v := 1) hx hb dX6_wants_20 (by decide) ?_
      refine lv_goto (tgt := 25) hx hb dX6_wants_21 (by decide) ?_
      exact J25 (1 : Int32) _ _ _ h hw (lv_sub hl [0, 1] rfl)
def rmX6_readsTie : Room := { frames := 2, cells := 0, slots := 0, locals := 45 }
section
variable {p : Program} {l : Launch} {e : Env} {R : Room} {s : State} {m : MethodId} {args : Array Value} {below : List Frame} {meth : Method} {c : Code} {H : Heap} {locs : List Loc} {cells slots : Nat} {Q : State → Prop}
variable {cc : ByteArray} {pc nL : Nat} {ls : Array Slot} {rest : List Value} {D : va_G} {cI cC cO : ClassId} {A : Nat → Prop} {ws : va_W} {H0 : Heap}
theorem cs_X6_138 (X : Ctx p m c cc nL s args RX6 D cI cC cO) (hR : rmX6_wants.frames + 1 ≤ R.frames ∧ 8 + (4 + 11) + rmX6_wants.locals ≤ R.locals) : CallW R s args RX6 RX6 138 yX6_wants cX6_wants 4 (some .int) (Wy yX6_wants cX6_wants 4 (some .int)) rmX6_wants 0 0 2 := cwV 2 X.1.2.2.2.2 (gi_V tw_701 tw_703 sw_yX6_wants tw_7 tw_704) rfl rfl rfl (by decide +kernel) hR
end
set_option maxHeartbeats 4000000 in
set_option maxRecDepth 100000 in
theorem c_X6_readsTie (l : Launch) (D : va_G) (cI cC cO : ClassId) (h0 h_this_s h_this_saved h_this_snapshot h_this_text h_this_lumps h_this_order h_this_nears h_this_told : Nat) (thrown_ savedMany_ hasSnapshot_ length_ lumpMany_ partingSet_ partingWeight_ at_ isWell_ toldMany_ : Int32) (text_ told_ : Nat → Int32) (at_' : Int32) (isWell_' : Int32) (toldMany_' : Int32) (told_' : Nat → Int32) (h : f_X6_readsTie length_ at_ isWell_ toldMany_ text_ told_ = some (at_', isWell_', toldMany_', told_')) : CV l yX6_readsTie (Wy yX6_readsTie cX6_readsTie 4 none) rmX6_readsTie D cI cC cO [.ref h0] [(h0, .inr (6, [.int thrown_, .ref h_this_s, .ref h_this_saved, .int savedMany_, .ref h_this_snapshot, .int hasSnapshot_, .ref h_this_text, .int length_, .ref h_this_lumps, .int lumpMany_, .ref h_this_order, .ref h_this_nears, .int partingSet_, .int partingWeight_, .int at_, .int isWell_, .ref h_this_told, .int toldMany_])), (h_this_text, .inl (cI, 60, .inl text_)), (h_this_told, .inl (cI, 96, .inl told_))] [(h0, .inr (6, [.int thrown_, .ref h_this_s, .ref h_this_saved, .int savedMany_, .ref h_this_snapshot, .int hasSnapshot_, .ref h_this_text, .int length_, .ref h_this_lumps, .int lumpMany_, .ref h_this_order, .ref h_this_nears, .int partingSet_, .int partingWeight_, .int at_', .int isWell_', .ref h_this_told, .int toldMany_'])), (h_this_text, .inl (cI, 60, .inl text_)), (h_this_told, .inl (cI, 96, .inl told_'))] := by
  refine enter_v RX6 (by decide) rfl (Nat.le_of_ble_eq_true rfl) ?_
  intro p e s m below meth c A X hr hlk hw ls hl
  have hx := X.1.1
  have hb := X.1.2.1
  have hl : lv_has ls 4 [(0, .ref h0)] := hl
  unfold f_X6_readsTie at h
  refine lv_aload_n hx hb dX6_readsTie_0 rfl (lv_at hl 0 rfl) ?_
  refine lv_bipush (v := 97) hx hb dX6_readsTie_1 (by decide) ?_
  refine lv_bipush (v := 105) hx hb dX6_readsTie_3 (by decide) ?_
  obtain ⟨r1, x2, x3, hc, h⟩ := bd3_inv h
  refine r_cVi X hw (As := [.int (97 : Int32), .int (105 : Int32)]) (rest := []) (wr := [(h_this_told, .inl (cI, 96, .inl told_))]) (ws' := [(h0, .inr (6, [.int thrown_, .ref h_this_s, .ref h_this_saved, .int savedMany_, .ref h_this_snapshot, .int hasSnapshot_, .ref h_this_text, .int length_, .ref h_this_lumps, .int lumpMany_, .ref h_this_order, .ref h_this_nears, .int partingSet_, .int partingWeight_, .int x2, .int x3, .ref h_this_told, .int toldMany_])), (h_this_text, .inl (cI, 60, .inl text_)), (h_this_told, .inl (cI, 96, .inl told_))]) (c_X6_wants l D cI cC cO h0 h_this_s h_this_saved h_this_snapshot h_this_text h_this_lumps h_this_order h_this_nears h_this_told (97 : Int32) (105 : Int32) thrown_ savedMany_ hasSnapshot_ length_ lumpMany_ partingSet_ partingWeight_ at_ isWell_ toldMany_ text_ r1 x2 x3 hc) (cs_X6_138 X (by decide)) [0, 1] [2] [1, 2, 0] rfl rfl rfl rfl (by decide) rfl rfl 0 rfl rfl rfl rfl hl.1 rfl (Nat.le_of_ble_eq_true rfl) dX6_readsTie_5 ⟨Nat.zero_le _, Nat.zero_le _⟩ (fun H locs hw => ?_)
  refine lv_istore_n (lv' := [(1, .int r1), (0, .ref h0)]) hx hb dX6_readsTie_8 rfl hl (by decide) rfl (fun ls hl => ?_)
  refine lv_aload_n hx hb dX6_readsTie_9 rfl (lv_at hl 1 rfl) ?_
  refine lv_bipush (v := 97) hx hb dX6_readsTie_10 (by decide) ?_
  refine lv_iload_n hx hb dX6_readsTie_12 rfl (lv_at hl 0 rfl) ?_
  refine lv_iadd hx hb dX6_readsTie_13 ?_
  refine lv_iconst (v := 1) hx hb dX6_readsTie_14 (by decide) ?_
  refine lv_iadd hx hb dX6_readsTie_15 ?_
  refine lv_bipush (v := 106) hx hb dX6_readsTie_16 (by decide) ?_
  obtain ⟨r4, x5, x6, hc, h⟩ := bd3_inv h
  refine r_cVi X hw (As := [.int (((97 : Int32) + r1) + (1 : Int32)), .int (106 : Int32)]) (rest := []) (wr := [(h_this_told, .inl (cI, 96, .inl told_))]) (ws' := [(h0, .inr (6, [.int thrown_, .ref h_this_s, .ref h_this_saved, .int savedMany_, .ref h_this_snapshot, .int hasSnapshot_, .ref h_this_text, .int length_, .ref h_this_lumps, .int lumpMany_, .ref h_this_order, .ref h_this_nears, .int partingSet_, .int partingWeight_, .int x5, .int x6, .ref h_this_told, .int toldMany_])), (h_this_text, .inl (cI, 60, .inl text_)), (h_this_told, .inl (cI, 96, .inl told_))]) (c_X6_wants l D cI cC cO h0 h_this_s h_this_saved h_this_snapshot h_this_text h_this_lumps h_this_order h_this_nears h_this_told (((97 : Int32) + r1) + (1 : Int32)) (106 : Int32) thrown_ savedMany_ hasSnapshot_ length_ lumpMany_ partingSet_ partingWeight_ x2 x3 toldMany_ text_ r4 x5 x6 hc) (cs_X6_138 X (by decide)) [0, 1] [2] [1, 2, 0] rfl rfl rfl rfl (by decide) rfl rfl 0 rfl rfl rfl rfl hl.1 rfl (Nat.le_of_ble_eq_true rfl) dX6_readsTie_18 ⟨Nat.zero_le _, Nat.zero_le _⟩ (fun H locs hw => ?_)
  refine lv_iload_n hx hb dX6_readsTie_21 rfl (lv_at hl 0 rfl) ?_
  refine lv_iadd hx hb dX6_readsTie_22 ?_
  refine lv_iconst (v := 1) hx hb dX6_readsTie_23 (by decide) ?_
  refine lv_iadd hx hb dX6_readsTie_24 ?_
  refine lv_istore_n (lv' := [(2, .int ((r4 + r1) + (1 : Int32))), (1, .int r1), (0, .ref h0)]) hx hb dX6_readsTie_25 rfl hl (by decide) rfl (fun ls hl => ?_)
  refine lv_aload_n hx hb dX6_readsTie_26 rfl (lv_at hl 2 rfl) ?_
  refine lv_bipush (v := 48) hx hb dX6_readsTie_27 (by decide) ?_
  refine lv_bipush (v := 57) hx hb dX6_readsTie_29 (by decide) ?_
  obtain ⟨r7, x8, x9, hc, h⟩ := bd3_inv h
  refine r_cVi X hw (As := [.int (48 : Int32), .int (57 : Int32)]) (rest := []) (wr := [(h_this_told, .inl (cI, 96, .inl told_))]) (ws' := [(h0, .inr (6, [.int thrown_, .ref h_this_s, .ref h_this_saved, .int savedMany_, .ref h_this_snapshot, .int hasSnapshot_, .ref h_this_text, .int length_, .ref h_this_lumps, .int lumpMany_, .ref h_this_order, .ref h_this_nears, .int partingSet_, .int partingWeight_, .int x8, .int x9, .ref h_this_told, .int toldMany_])), (h_this_text, .inl (cI, 60, .inl text_)), (h_this_told, .inl (cI, 96, .inl told_))]) (c_X6_wants l D cI cC cO h0 h_this_s h_this_saved h_this_snapshot h_this_text h_this_lumps h_this_order h_this_nears h_this_told (48 : Int32) (57 : Int32) thrown_ savedMany_ hasSnapshot_ length_ lumpMany_ partingSet_ partingWeight_ x5 x6 toldMany_ text_ r7 x8 x9 hc) (cs_X6_138 X (by decide)) [0, 1] [2] [1, 2, 0] rfl rfl rfl rfl (by decide) rfl rfl 0 rfl rfl rfl rfl hl.1 rfl (Nat.le_of_ble_eq_true rfl) dX6_readsTie_31 ⟨Nat.zero_le _, Nat.zero_le _⟩ (fun H locs hw => ?_)
  refine lv_istore_n (lv' := [(3, .int r7), (2, .int ((r4 + r1) + (1 : Int32))), (1, .int r1), (0, .ref h0)]) hx hb dX6_readsTie_34 rfl hl (by decide) rfl (fun ls hl => ?_)
  refine lv_aload_n hx hb dX6_readsTie_35 rfl (lv_at hl 3 rfl) ?_
  refine fg_X6_131 X hw 0 rfl rfl dX6_readsTie_36 ?_
  have J83 : ∀ (x13 x14 : Int32) (H : Heap) (locs : List Loc) (ls : Array Slot), f_X6_readsTie_J83 x9 toldMany_ told_ r1 r4 x13 x14 = some (at_', isWell_', toldMany_', told_') → Wd D A s.heap [(h0, .inr (6, [.int thrown_, .ref h_this_s, .ref h_this_saved, .int savedMany_, .ref h_this_snapshot, .int hasSnapshot_, .ref h_this_text, .int length_, .ref h_this_lumps, .int lumpMany_, .ref h_this_order, .ref h_this_nears, .int partingSet_, .int partingWeight_, .int x14, .int x9, .ref h_this_told, .int toldMany_])), (h_this_text, .inl (cI, 60, .inl text_)), (h_this_told, .inl (cI, 96, .inl told_))] H locs → lv_has ls 4 [(0, .ref h0), (1, .int r1), (2, .int ((r4 + r1) + (1 : Int32))), (3, .int x13)] → W p l e rmX6_readsTie s m ([.ref h0] : List Value).toArray below meth c H locs 0 0 (MQ below (Qv D [(h0, .inr (6, [.int thrown_, .ref h_this_s, .ref h_this_saved, .int savedMany_, .ref h_this_snapshot, .int hasSnapshot_, .ref h_this_text, .int length_, .ref h_this_lumps, .int lumpMany_, .ref h_this_order, .ref h_this_nears, .int partingSet_, .int partingWeight_, .int at_', .int isWell_', .ref h_this_told, .int toldMany_'])), (h_this_text, .inl (cI, 60, .inl text_)), (h_this_told, .inl (cI, 96, .inl told_'))] A) ([.ref h0] : List Value).toArray s 0 0 A) (F0 m 83 ls []) := by
    intro x13 x14 H locs ls h hw hl
    unfold f_X6_readsTie_J83 at h
    refine lv_aload_n hx hb dX6_readsTie_83 rfl (lv_at hl 0 rfl) ?_
    refine fg_X6_131 X hw 0 rfl rfl dX6_readsTie_84 ?_
    refine lv_if_eq (tgt := 140) hx hb dX6_readsTie_87 (by decide) (fun c1 => ?_) (fun c1 => ?_)
    · replace h := ip c1 h
      obtain ⟨rfl, rfl, rfl, rfl⟩ := oi4 h
      exact r_retv X hw hr hlk dX6_readsTie_140
    · replace h := ig c1 h
      refine lv_aload_n hx hb dX6_readsTie_90 rfl (lv_at hl 0 rfl) ?_
      refine fg_X6_31 X hw 0 rfl rfl dX6_readsTie_91 ?_
      refine lv_iconst (v := 3) hx hb dX6_readsTie_94 (by decide) ?_
      refine lv_aload_n hx hb dX6_readsTie_95 rfl (lv_at hl 0 rfl) ?_
      refine fg_X6_141 X hw 0 rfl rfl dX6_readsTie_96 ?_
      refine lv_imul hx hb dX6_readsTie_99 ?_
      refine lv_iload_n hx hb dX6_readsTie_100 rfl (lv_at hl 1 rfl) ?_
      obtain ⟨b1, h⟩ := chk_inv h
      refine r_iast X hw 2 rfl b1 rfl dX6_readsTie_101 (fun H locs hw => ?_)
      have hw : Wd D A s.heap [(h0, .inr (6, [.int thrown_, .ref h_this_s, .ref h_this_saved, .int savedMany_, .ref h_this_snapshot, .int hasSnapshot_, .ref h_this_text, .int length_, .ref h_this_lumps, .int lumpMany_, .ref h_this_order, .ref h_this_nears, .int partingSet_, .int partingWeight_, .int x14, .int x9, .ref h_this_told, .int toldMany_])), (h_this_text, .inl (cI, 60, .inl text_)), (h_this_told, .inl (cI, 96, .inl (upd told_ (((3 : Int32) * toldMany_)).toNatClampNeg r1)))] H locs := hw
      refine lv_aload_n hx hb dX6_readsTie_102 rfl (lv_at hl 0 rfl) ?_
      refine fg_X6_31 X hw 0 rfl rfl dX6_readsTie_103 ?_
      refine lv_iconst (v := 3) hx hb dX6_readsTie_106 (by decide) ?_
      refine lv_aload_n hx hb dX6_readsTie_107 rfl (lv_at hl 0 rfl) ?_
      refine fg_X6_141 X hw 0 rfl rfl dX6_readsTie_108 ?_
      refine lv_imul hx hb dX6_readsTie_111 ?_
      refine lv_iconst (v := 1) hx hb dX6_readsTie_112 (by decide) ?_
      refine lv_iadd hx hb dX6_readsTie_113 ?_
      refine lv_iload_n hx hb dX6_readsTie_114 rfl (lv_at hl 2 rfl) ?_
      obtain ⟨b1, h⟩ := chk_inv h
      refine r_iast X hw 2 rfl b1 rfl dX6_readsTie_115 (fun H locs hw => ?_)
      have hw : Wd D A s.heap [(h0, .inr (6, [.int thrown_, .ref h_this_s, .ref h_this_saved, .int savedMany_, .ref h_this_snapshot, .int hasSnapshot_, .ref h_this_text, .int length_, .ref h_this_lumps, .int lumpMany_, .ref h_this_order, .ref h_this_nears, .int partingSet_, .int partingWeight_, .int x14, .int x9, .ref h_this_told, .int toldMany_])), (h_this_text, .inl (cI, 60, .inl text_)), (h_this_told, .inl (cI, 96, .inl (upd (upd told_ (((3 : Int32) * toldMany_)).toNatClampNeg r1) ((((3 : Int32) * toldMany_) + (1 : Int32))).toNatClampNeg ((r4 + r1) + (1 : Int32)))))] H locs := hw
      refine lv_aload_n hx hb dX6_readsTie_116 rfl (lv_at hl 0 rfl) ?_
      refine fg_X6_31 X hw 0 rfl rfl dX6_readsTie_117 ?_
      refine lv_iconst (v := 3) hx hb dX6_readsTie_120 (by decide) ?_
      refine lv_aload_n hx hb dX6_readsTie_121 rfl (lv_at hl 0 rfl) ?_
      refine fg_X6_141 X hw 0 rfl rfl dX6_readsTie_122 ?_
      refine lv_imul hx hb dX6_readsTie_125 ?_
      refine lv_iconst (v := 2) hx hb dX6_readsTie_126 (by decide) ?_
      refine lv_iadd hx hb dX6_readsTie_127 ?_
      refine lv_iload_n hx hb dX6_readsTie_128 rfl (lv_at hl 3 rfl) ?_
      obtain ⟨b1, h⟩ := chk_inv h
      refine r_iast X hw 2 rfl b1 rfl dX6_readsTie_129 (fun H locs hw => ?_)
      have hw : Wd D A s.heap [(h0, .inr (6, [.int thrown_, .ref h_this_s, .ref h_this_saved, .int savedMany_, .ref h_this_snapshot, .int hasSnapshot_, .ref h_this_text, .int length_, .ref h_this_lumps, .int lumpMany_, .ref h_this_order, .ref h_this_nears, .int partingSet_, .int partingWeight_, .int x14, .int x9, .ref h_this_told, .int toldMany_])), (h_this_text, .inl (cI, 60, .inl text_)), (h_this_told, .inl (cI, 96, .inl (upd (upd (upd told_ (((3 : Int32) * toldMany_)).toNatClampNeg r1) ((((3 : Int32) * toldMany_) + (1 : Int32))).toNatClampNeg ((r4 + r1) + (1 : Int32))) ((((3 : Int32) * toldMany_) + (2 : Int32))).toNatClampNeg x13)))] H locs := hw
      refine lv_aload_n hx hb dX6_readsTie_130 rfl (lv_at hl 0 rfl) ?_
      refine lv_dup hx hb dX6_readsTie_131 rfl ?_
      refine fg_X6_141 X hw 0 rfl rfl dX6_readsTie_132 ?_
      refine lv_iconst (v := 1) hx hb dX6_readsTie_135 (by decide) ?_
      refine lv_iadd hx hb dX6_readsTie_136 ?_
      refine fp_X6_141 X hw 0 rfl rfl dX6_readsTie_137 (fun H locs hw => ?_)
      have hw : Wd D A s.heap [(h0, .inr (6, [.int thrown_, .ref h_this_s, .ref h_this_saved, .int savedMany_, .ref h_this_snapshot, .int hasSnapshot_, .ref h_this_text, .int length_, .ref h_this_lumps, .int lumpMany_, .ref h_this_order, .ref h_this_nears, .int partingSet_, .int partingWeight_, .int x14, .int x9, .ref h_this_told, .int (toldMany_ + (1 : Int32))])), (h_this_text, .inl (cI, 60, .inl text_)), (h_this_told, .inl (cI, 96, .inl (upd (upd (upd told_ (((3 : Int32) * toldMany_)).toNatClampNeg r1) ((((3 : Int32) * toldMany_) + (1 : Int32))).toNatClampNeg ((r4 + r1) + (1 : Int32))) ((((3 : Int32) * toldMany_) + (2 : Int32))).toNatClampNeg x13)))] H locs := hw
      obtain ⟨rfl, rfl, rfl, rfl⟩ := oi4 h
      exact r_retv X hw hr hlk dX6_readsTie_140
  refine lv_if_eq (tgt := 83) hx hb dX6_readsTie_39 (by decide) (fun c1 => ?_) (fun c1 => ?_)
  · replace h := ip c1 h
    exact J83 r7 x8 _ _ _ h hw (lv_sub hl [3, 2, 1, 0] rfl)
  · replace h := ig c1 h
    refine lv_iload_n hx hb dX6_readsTie_42 rfl (lv_at hl 0 rfl) ?_
    refine lv_if_le (tgt := 83) hx hb dX6_readsTie_43 (by decide) (fun c1 => ?_) (fun c1 => ?_)
    · replace h := ip c1 h
      exact J83 r7 x8 _ _ _ h hw (lv_sub hl [3, 2, 1, 0] rfl)
    · replace h := ig c1 h
      refine lv_aload_n hx hb dX6_readsTie_46 rfl (lv_at hl 3 rfl) ?_
      obtain ⟨r10, hc, h⟩ := bd1_inv h
      refine r_cVi X hw (As := []) (rest := []) (wr := [(h_this_told, .inl (cI, 96, .inl told_))]) (ws' := [(h0, .inr (6, [.int thrown_, .ref h_this_s, .ref h_this_saved, .int savedMany_, .ref h_this_snapshot, .int hasSnapshot_, .ref h_this_text, .int length_, .ref h_this_lumps, .int lumpMany_, .ref h_this_order, .ref h_this_nears, .int partingSet_, .int partingWeight_, .int x8, .int x9, .ref h_this_told, .int toldMany_])), (h_this_text, .inl (cI, 60, .inl text_)), (h_this_told, .inl (cI, 96, .inl told_))]) (c_X6_letter l D cI cC cO h0 h_this_s h_this_saved h_this_snapshot h_this_text h_this_lumps h_this_order h_this_nears h_this_told thrown_ savedMany_ hasSnapshot_ length_ lumpMany_ partingSet_ partingWeight_ x8 x9 toldMany_ text_ r10 hc) (cs_X6_135 X (by decide)) [0, 1] [2] [1, 2, 0] rfl rfl rfl rfl (by decide) rfl rfl 0 rfl rfl rfl rfl hl.1 rfl (Nat.le_of_ble_eq_true rfl) dX6_readsTie_47 ⟨Nat.zero_le _, Nat.zero_le _⟩ (fun H locs hw => ?_)
      refine lv_bipush (v := 48) hx hb dX6_readsTie_50 (by decide) ?_
      refine lv_bipush (v := 57) hx hb dX6_readsTie_52 (by decide) ?_
      obtain ⟨r11, hc, h⟩ := bd1_inv h
      refine r_cSi X hw (As := [.int r10, .int (48 : Int32), .int (57 : Int32)]) (rest := []) (c_X6_in l D cI cC cO r10 (48 : Int32) (57 : Int32) r11 hc) (cs_X6_38 X (by decide)) rfl hl.1 rfl (Nat.le_of_ble_eq_true rfl) dX6_readsTie_54 ⟨Nat.zero_le _, Nat.zero_le _⟩ (fun H locs hw => ?_)
      refine lv_if_eq (tgt := 83) hx hb dX6_readsTie_57 (by decide) (fun c1 => ?_) (fun c1 => ?_)
      · replace h := ip c1 h
        exact J83 r7 x8 _ _ _ h hw (lv_sub hl [3, 2, 1, 0] rfl)
      · replace h := ig c1 h
        refine lv_bipush (v := 10) hx hb dX6_readsTie_60 (by decide) ?_
        refine lv_iload_n hx hb dX6_readsTie_62 rfl (lv_at hl 0 rfl) ?_
        refine lv_imul hx hb dX6_readsTie_63 ?_
        refine lv_aload_n hx hb dX6_readsTie_64 rfl (lv_at hl 3 rfl) ?_
        obtain ⟨r12, hc, h⟩ := bd1_inv h
        refine r_cVi X hw (As := []) (rest := [.int ((10 : Int32) * r7)]) (wr := [(h_this_told, .inl (cI, 96, .inl told_))]) (ws' := [(h0, .inr (6, [.int thrown_, .ref h_this_s, .ref h_this_saved, .int savedMany_, .ref h_this_snapshot, .int hasSnapshot_, .ref h_this_text, .int length_, .ref h_this_lumps, .int lumpMany_, .ref h_this_order, .ref h_this_nears, .int partingSet_, .int partingWeight_, .int x8, .int x9, .ref h_this_told, .int toldMany_])), (h_this_text, .inl (cI, 60, .inl text_)), (h_this_told, .inl (cI, 96, .inl told_))]) (c_X6_letter l D cI cC cO h0 h_this_s h_this_saved h_this_snapshot h_this_text h_this_lumps h_this_order h_this_nears h_this_told thrown_ savedMany_ hasSnapshot_ length_ lumpMany_ partingSet_ partingWeight_ x8 x9 toldMany_ text_ r12 hc) (cs_X6_135 X (by decide)) [0, 1] [2] [1, 2, 0] rfl rfl rfl rfl (by decide) rfl rfl 0 rfl rfl rfl rfl hl.1 rfl (Nat.le_of_ble_eq_true rfl) dX6_readsTie_65 ⟨Nat.zero_le _, Nat.zero_le _⟩ (fun H locs hw => ?_)
        refine lv_iadd hx hb dX6_readsTie_68 ?_
        refine lv_bipush (v := 48) hx hb dX6_readsTie_69 (by decide) ?_
        refine lv_isub hx hb dX6_readsTie_71 ?_
        refine lv_istore_n (lv' := [(3, .int ((((10 : Int32) * r7) + r12) - (48 : Int32))), (2, .int ((r4 + r1) + (1 : Int32))), (1, .int r1), (0, .ref h0)]) hx hb dX6_readsTie_72 rfl hl (by decide) rfl (fun ls hl => ?_)
        refine lv_aload_n hx hb dX6_readsTie_73 rfl (lv_at hl 3 rfl) ?_
        refine lv_dup hx hb dX6_readsTie_74 rfl ?_
        refine fg_X6_125 X hw 0 rfl rfl dX6_readsTie_75 ?_
        refine lv_iconst (v := 1) hx hb dX6_readsTie_78 (by decide) ?_
        refine lv_iadd hx hb dX6_readsTie_79 ?_
        refine fp_X6_125 X hw 0 rfl rfl dX6_readsTie_80 (fun H locs hw => ?_)
        have hw : Wd D A s.heap [(h0, .inr (6, [.int thrown_, .ref h_this_s, .ref h_this_saved, .int savedMany_, .ref h_this_snapshot, .int hasSnapshot_, .ref h_this_text, .int length_, .ref h_this_lumps, .int lumpMany_, .ref h_this_order, .ref h_this_nears, .int partingSet_, .int partingWeight_, .int (x8 + (1 : Int32)), .int x9, .ref h_this_told, .int toldMany_])), (h_this_text, .inl (cI, 60, .inl text_)), (h_this_told, .inl (cI, 96, .inl told_))] H locs := hw
        exact J83 ((((10 : Int32) * r7) + r12) - (48 : Int32)) (x8 + (1 : Int32)) _ _ _ h hw (lv_sub hl [3, 2, 1, 0] rfl)
def rmX6_reads : Room := { frames := 3, cells := 0, slots := 0, locals := 68 }
section
variable {p : Program} {l : Launch} {e : Env} {R : Room} {s : State} {m : MethodId} {args : Array Value} {below : List Frame} {meth : Method} {c : Code} {H : Heap} {locs : List Loc} {cells slots : Nat} {Q : State → Prop}
variable {cc : ByteArray} {pc nL : Nat} {ls : Array Slot} {rest : List Value} {D : va_G} {cI cC cO : ClassId} {A : Nat → Prop} {ws : va_W} {H0 : Heap}
theorem cs_X6_144 (X : Ctx p m c cc nL s args RX6 D cI cC cO) (hR : rmX6_readsTie.frames + 1 ≤ R.frames ∧ 8 + (4 + 11) + rmX6_readsTie.locals ≤ R.locals) : CallW R s args RX6 RX6 144 yX6_readsTie cX6_readsTie 4 none (Wy yX6_readsTie cX6_readsTie 4 none) rmX6_readsTie 0 0 0 := cwV 0 X.1.2.2.2.2 (gi_V tw_697 tw_699 sw_yX6_readsTie tw_7 tw_700) rfl rfl rfl (by decide +kernel) hR
end
set_option maxHeartbeats 4000000 in
set_option maxRecDepth 100000 in
theorem c_X6_reads (l : Launch) (D : va_G) (cI cC cO : ClassId) (N : Nat) (h0 h_this_s h_this_saved h_this_snapshot h_this_text h_this_lumps h_this_order h_this_nears h_this_told : Nat) (thrown_ savedMany_ hasSnapshot_ length_ lumpMany_ partingSet_ partingWeight_ at_ isWell_ toldMany_ : Int32) (text_ told_ : Nat → Int32) (r_ : Int32) (at_' : Int32) (isWell_' : Int32) (toldMany_' : Int32) (told_' : Nat → Int32) (h : f_X6_reads N length_ text_ told_ = some (r_, at_', isWell_', toldMany_', told_')) : CI l yX6_reads (Wy yX6_reads cX6_reads 1 (some .int)) rmX6_reads D cI cC cO [.ref h0] [(h0, .inr (6, [.int thrown_, .ref h_this_s, .ref h_this_saved, .int savedMany_, .ref h_this_snapshot, .int hasSnapshot_, .ref h_this_text, .int length_, .ref h_this_lumps, .int lumpMany_, .ref h_this_order, .ref h_this_nears, .int partingSet_, .int partingWeight_, .int at_, .int isWell_, .ref h_this_told, .int toldMany_])), (h_this_text, .inl (cI, 60, .inl text_)), (h_this_told, .inl (cI, 96, .inl told_))] r_ [(h0, .inr (6, [.int thrown_, .ref h_this_s, .ref h_this_saved, .int savedMany_, .ref h_this_snapshot, .int hasSnapshot_, .ref h_this_text, .int length_, .ref h_this_lumps, .int lumpMany_, .ref h_this_order, .ref h_this_nears, .int partingSet_, .int partingWeight_, .int at_', .int isWell_', .ref h_this_told, .int toldMany_'])), (h_this_text, .inl (cI, 60, .inl text_)), (h_this_told, .inl (cI, 96, .inl told_'))] := by
  refine enter_i RX6 (by decide) rfl (Nat.le_of_ble_eq_true rfl) ?_
  intro p e s m below meth c A X hr hlk hw ls hl
  have hx := X.1.1
  have hb := X.1.2.1
  have hl : lv_has ls 1 [(0, .ref h0)] := hl
  unfold f_X6_reads at h
  refine lv_aload_n hx hb dX6_reads_0 rfl (lv_at hl 0 rfl) ?_
  refine lv_iconst (v := 0) hx hb dX6_reads_1 (by decide) ?_
  refine fp_X6_125 X hw 0 rfl rfl dX6_reads_2 (fun H locs hw => ?_)
  have hw : Wd D A s.heap [(h0, .inr (6, [.int thrown_, .ref h_this_s, .ref h_this_saved, .int savedMany_, .ref h_this_snapshot, .int hasSnapshot_, .ref h_this_text, .int length_, .ref h_this_lumps, .int lumpMany_, .ref h_this_order, .ref h_this_nears, .int partingSet_, .int partingWeight_, .int (0 : Int32), .int isWell_, .ref h_this_told, .int toldMany_])), (h_this_text, .inl (cI, 60, .inl text_)), (h_this_told, .inl (cI, 96, .inl told_))] H locs := hw
  refine lv_aload_n hx hb dX6_reads_5 rfl (lv_at hl 0 rfl) ?_
  refine lv_iconst (v := 1) hx hb dX6_reads_6 (by decide) ?_
  refine fp_X6_131 X hw 0 rfl rfl (by decide) dX6_reads_7 (fun H locs hw => ?_)
  have hw : Wd D A s.heap [(h0, .inr (6, [.int thrown_, .ref h_this_s, .ref h_this_saved, .int savedMany_, .ref h_this_snapshot, .int hasSnapshot_, .ref h_this_text, .int length_, .ref h_this_lumps, .int lumpMany_, .ref h_this_order, .ref h_this_nears, .int partingSet_, .int partingWeight_, .int (0 : Int32), .int (1 : Int32), .ref h_this_told, .int toldMany_])), (h_this_text, .inl (cI, 60, .inl text_)), (h_this_told, .inl (cI, 96, .inl told_))] H locs := hw
  refine lv_aload_n hx hb dX6_reads_10 rfl (lv_at hl 0 rfl) ?_
  refine lv_iconst (v := 0) hx hb dX6_reads_11 (by decide) ?_
  refine fp_X6_141 X hw 0 rfl rfl dX6_reads_12 (fun H locs hw => ?_)
  have hw : Wd D A s.heap [(h0, .inr (6, [.int thrown_, .ref h_this_s, .ref h_this_saved, .int savedMany_, .ref h_this_snapshot, .int hasSnapshot_, .ref h_this_text, .int length_, .ref h_this_lumps, .int lumpMany_, .ref h_this_order, .ref h_this_nears, .int partingSet_, .int partingWeight_, .int (0 : Int32), .int (1 : Int32), .ref h_this_told, .int (0 : Int32)])), (h_this_text, .inl (cI, 60, .inl text_)), (h_this_told, .inl (cI, 96, .inl told_))] H locs := hw
  refine lv_aload_n hx hb dX6_reads_15 rfl (lv_at hl 0 rfl) ?_
  obtain ⟨x1, x2, x3, a4, hc, h⟩ := bd4_inv h
  refine r_cVv X hw (As := []) (rest := []) (wr := []) (ws' := [(h0, .inr (6, [.int thrown_, .ref h_this_s, .ref h_this_saved, .int savedMany_, .ref h_this_snapshot, .int hasSnapshot_, .ref h_this_text, .int length_, .ref h_this_lumps, .int lumpMany_, .ref h_this_order, .ref h_this_nears, .int partingSet_, .int partingWeight_, .int x1, .int x2, .ref h_this_told, .int x3])), (h_this_text, .inl (cI, 60, .inl text_)), (h_this_told, .inl (cI, 96, .inl a4))]) (c_X6_readsTie l D cI cC cO h0 h_this_s h_this_saved h_this_snapshot h_this_text h_this_lumps h_this_order h_this_nears h_this_told thrown_ savedMany_ hasSnapshot_ length_ lumpMany_ partingSet_ partingWeight_ (0 : Int32) (1 : Int32) (0 : Int32) text_ told_ x1 x2 x3 a4 hc) (cs_X6_144 X (by decide)) [0, 1, 2] [] [0, 1, 2] rfl rfl rfl rfl (by decide) rfl rfl 0 rfl rfl rfl rfl hl.1 rfl (Nat.le_of_ble_eq_true rfl) dX6_reads_16 ⟨Nat.zero_le _, Nat.zero_le _⟩ (fun H locs hw => ?_)
  have E60 : ∀ (x19 x20 x21 : Int32) (a22 : Nat → Int32) (H : Heap) (locs : List Loc) (ls : Array Slot), f_X6_reads_E60 x19 x20 x21 a22 = some (r_, at_', isWell_', toldMany_', told_') → Wd D A s.heap [(h0, .inr (6, [.int thrown_, .ref h_this_s, .ref h_this_saved, .int savedMany_, .ref h_this_snapshot, .int hasSnapshot_, .ref h_this_text, .int length_, .ref h_this_lumps, .int lumpMany_, .ref h_this_order, .ref h_this_nears, .int partingSet_, .int partingWeight_, .int x19, .int x20, .ref h_this_told, .int x21])), (h_this_text, .inl (cI, 60, .inl text_)), (h_this_told, .inl (cI, 96, .inl a22))] H locs → lv_has ls 1 [(0, .ref h0)] → W p l e rmX6_reads s m ([.ref h0] : List Value).toArray below meth c H locs 0 0 (MQ below (Qi D r_ [(h0, .inr (6, [.int thrown_, .ref h_this_s, .ref h_this_saved, .int savedMany_, .ref h_this_snapshot, .int hasSnapshot_, .ref h_this_text, .int length_, .ref h_this_lumps, .int lumpMany_, .ref h_this_order, .ref h_this_nears, .int partingSet_, .int partingWeight_, .int at_', .int isWell_', .ref h_this_told, .int toldMany_'])), (h_this_text, .inl (cI, 60, .inl text_)), (h_this_told, .inl (cI, 96, .inl told_'))] A) ([.ref h0] : List Value).toArray s 0 0 A) (F0 m 60 ls []) := by
    intro x19 x20 x21 a22 H locs ls h hw hl
    unfold f_X6_reads_E60 at h
    refine lv_aload_n hx hb dX6_reads_60 rfl (lv_at hl 0 rfl) ?_
    refine fg_X6_131 X hw 0 rfl rfl dX6_reads_61 ?_
    refine lv_if_eq (tgt := 72) hx hb dX6_reads_64 (by decide) (fun c1 => ?_) (fun c1 => ?_)
    · replace h := ip c1 h
      refine lv_aload_n hx hb dX6_reads_72 rfl (lv_at hl 0 rfl) ?_
      refine fg_X6_125 X hw 0 rfl rfl dX6_reads_73 ?_
      obtain ⟨rfl, rfl, rfl, rfl, rfl⟩ := oi5 h
      exact r_ret X hw hr hlk dX6_reads_76
    · replace h := ig c1 h
      refine lv_bipush (v := -5) hx hb dX6_reads_67 (by decide) ?_
      refine lv_goto (tgt := 76) hx hb dX6_reads_69 (by decide) ?_
      obtain ⟨rfl, rfl, rfl, rfl, rfl⟩ := oi5 h
      exact r_ret X hw hr hlk dX6_reads_76
  have L19 : ∀ (k16 : Int32 → Int32 → Int32 → (Nat → Int32) → Option (Int32 × Int32 × Int32 × Int32 × (Nat → Int32))), (∀ (x19 x20 x21 : Int32) (a22 : Nat → Int32) (H : Heap) (locs : List Loc) (ls : Array Slot), k16 x19 x20 x21 a22 = some (r_, at_', isWell_', toldMany_', told_') → Wd D A s.heap [(h0, .inr (6, [.int thrown_, .ref h_this_s, .ref h_this_saved, .int savedMany_, .ref h_this_snapshot, .int hasSnapshot_, .ref h_this_text, .int length_, .ref h_this_lumps, .int lumpMany_, .ref h_this_order, .ref h_this_nears, .int partingSet_, .int partingWeight_, .int x19, .int x20, .ref h_this_told, .int x21])), (h_this_text, .inl (cI, 60, .inl text_)), (h_this_told, .inl (cI, 96, .inl a22))] H locs → lv_has ls 1 [(0, .ref h0)] → W p l e rmX6_reads s m ([.ref h0] : List Value).toArray below meth c H locs 0 0 (MQ below (Qi D r_ [(h0, .inr (6, [.int thrown_, .ref h_this_s, .ref h_this_saved, .int savedMany_, .ref h_this_snapshot, .int hasSnapshot_, .ref h_this_text, .int length_, .ref h_this_lumps, .int lumpMany_, .ref h_this_order, .ref h_this_nears, .int partingSet_, .int partingWeight_, .int at_', .int isWell_', .ref h_this_told, .int toldMany_'])), (h_this_text, .inl (cI, 60, .inl text_)), (h_this_told, .inl (cI, 96, .inl told_'))] A) ([.ref h0] : List Value).toArray s 0 0 A) (F0 m 60 ls [])) → ∀ (n18 : Nat), ∀ (x5 x6 x7 : Int32) (a8 : Nat → Int32) (H : Heap) (locs : List Loc) (ls : Array Slot), f_X6_reads_L19 length_ text_ k16 n18 x5 x6 x7 a8 = some (r_, at_', isWell_', toldMany_', told_') → Wd D A s.heap [(h0, .inr (6, [.int thrown_, .ref h_this_s, .ref h_this_saved, .int savedMany_, .ref h_this_snapshot, .int hasSnapshot_, .ref h_this_text, .int length_, .ref h_this_lumps, .int lumpMany_, .ref h_this_order, .ref h_this_nears, .int partingSet_, .int partingWeight_, .int x5, .int x6, .ref h_this_told, .int x7])), (h_this_text, .inl (cI, 60, .inl text_)), (h_this_told, .inl (cI, 96, .inl a8))] H locs → lv_has ls 1 [(0, .ref h0)] → W p l e rmX6_reads s m ([.ref h0] : List Value).toArray below meth c H locs 0 0 (MQ below (Qi D r_ [(h0, .inr (6, [.int thrown_, .ref h_this_s, .ref h_this_saved, .int savedMany_, .ref h_this_snapshot, .int hasSnapshot_, .ref h_this_text, .int length_, .ref h_this_lumps, .int lumpMany_, .ref h_this_order, .ref h_this_nears, .int partingSet_, .int partingWeight_, .int at_', .int isWell_', .ref h_this_told, .int toldMany_'])), (h_this_text, .inl (cI, 60, .inl text_)), (h_this_told, .inl (cI, 96, .inl told_'))] A) ([.ref h0] : List Value).toArray s 0 0 A) (F0 m 19 ls []) := by
    intro k16 hk19 n18
    induction n18 with
    | zero => intro x5 x6 x7 a8 H locs ls h; cases h
    | succ n18 ih19 =>
      intro x5 x6 x7 a8 H locs ls h hw hl
      rw [f_X6_reads_L19] at h
      refine lv_aload_n hx hb dX6_reads_19 rfl (lv_at hl 0 rfl) ?_
      refine fg_X6_131 X hw 0 rfl rfl dX6_reads_20 ?_
      refine lv_if_eq (tgt := 60) hx hb dX6_reads_23 (by decide) (fun c1 => ?_) (fun c1 => ?_)
      · replace h := ip c1 h
        exact hk19 x5 x6 x7 a8 _ _ _ h hw (lv_sub hl [0] rfl)
      · replace h := ig c1 h
        refine lv_aload_n hx hb dX6_reads_26 rfl (lv_at hl 0 rfl) ?_
        refine fg_X6_125 X hw 0 rfl rfl dX6_reads_27 ?_
        refine lv_aload_n hx hb dX6_reads_30 rfl (lv_at hl 0 rfl) ?_
        refine fg_X6_128 X hw 0 rfl rfl dX6_reads_31 ?_
        refine lv_icmp_ge (tgt := 60) hx hb dX6_reads_34 (by decide) (fun c1 => ?_) (fun c1 => ?_)
        · replace h := ip c1 h
          exact hk19 x5 x6 x7 a8 _ _ _ h hw (lv_sub hl [0] rfl)
        · replace h := ig c1 h
          refine lv_aload_n hx hb dX6_reads_37 rfl (lv_at hl 0 rfl) ?_
          refine lv_bipush (v := 44) hx hb dX6_reads_38 (by decide) ?_
          refine lv_bipush (v := 44) hx hb dX6_reads_40 (by decide) ?_
          obtain ⟨r9, x10, x11, hc, h⟩ := bd3_inv h
          refine r_cVi X hw (As := [.int (44 : Int32), .int (44 : Int32)]) (rest := []) (wr := [(h_this_told, .inl (cI, 96, .inl a8))]) (ws' := [(h0, .inr (6, [.int thrown_, .ref h_this_s, .ref h_this_saved, .int savedMany_, .ref h_this_snapshot, .int hasSnapshot_, .ref h_this_text, .int length_, .ref h_this_lumps, .int lumpMany_, .ref h_this_order, .ref h_this_nears, .int partingSet_, .int partingWeight_, .int x10, .int x11, .ref h_this_told, .int x7])), (h_this_text, .inl (cI, 60, .inl text_)), (h_this_told, .inl (cI, 96, .inl a8))]) (c_X6_wants l D cI cC cO h0 h_this_s h_this_saved h_this_snapshot h_this_text h_this_lumps h_this_order h_this_nears h_this_told (44 : Int32) (44 : Int32) thrown_ savedMany_ hasSnapshot_ length_ lumpMany_ partingSet_ partingWeight_ x5 x6 x7 text_ r9 x10 x11 hc) (cs_X6_138 X (by decide)) [0, 1] [2] [1, 2, 0] rfl rfl rfl rfl (by decide) rfl rfl 0 rfl rfl rfl rfl hl.1 rfl (Nat.le_of_ble_eq_true rfl) dX6_reads_42 ⟨Nat.zero_le _, Nat.zero_le _⟩ (fun H locs hw => ?_)
          refine lv_pop hx hb dX6_reads_45 rfl ?_
          refine lv_aload_n hx hb dX6_reads_46 rfl (lv_at hl 0 rfl) ?_
          refine fg_X6_131 X hw 0 rfl rfl dX6_reads_47 ?_
          refine lv_if_eq (tgt := 19) hx hb dX6_reads_50 (by decide) (fun c1 => ?_) (fun c1 => ?_)
          · replace h := ip c1 h
            exact ih19 x10 x11 x7 a8 _ _ _ h hw (lv_sub hl [0] rfl)
          · replace h := ig c1 h
            refine lv_aload_n hx hb dX6_reads_53 rfl (lv_at hl 0 rfl) ?_
            obtain ⟨x12, x13, x14, a15, hc, h⟩ := bd4_inv h
            refine r_cVv X hw (As := []) (rest := []) (wr := []) (ws' := [(h0, .inr (6, [.int thrown_, .ref h_this_s, .ref h_this_saved, .int savedMany_, .ref h_this_snapshot, .int hasSnapshot_, .ref h_this_text, .int length_, .ref h_this_lumps, .int lumpMany_, .ref h_this_order, .ref h_this_nears, .int partingSet_, .int partingWeight_, .int x12, .int x13, .ref h_this_told, .int x14])), (h_this_text, .inl (cI, 60, .inl text_)), (h_this_told, .inl (cI, 96, .inl a15))]) (c_X6_readsTie l D cI cC cO h0 h_this_s h_this_saved h_this_snapshot h_this_text h_this_lumps h_this_order h_this_nears h_this_told thrown_ savedMany_ hasSnapshot_ length_ lumpMany_ partingSet_ partingWeight_ x10 x11 x7 text_ a8 x12 x13 x14 a15 hc) (cs_X6_144 X (by decide)) [0, 1, 2] [] [0, 1, 2] rfl rfl rfl rfl (by decide) rfl rfl 0 rfl rfl rfl rfl hl.1 rfl (Nat.le_of_ble_eq_true rfl) dX6_reads_54 ⟨Nat.zero_le _, Nat.zero_le _⟩ (fun H locs hw => ?_)
            refine lv_goto (tgt := 19) hx hb dX6_reads_57 (by decide) ?_
            exact ih19 x12 x13 x14 a15 _ _ _ h hw (lv_sub hl [0] rfl)
  exact L19 (fun x19 x20 x21 a22 => f_X6_reads_E60 x19 x20 x21 a22) (fun x19 x20 x21 a22 H locs ls h hw hl => E60 x19 x20 x21 a22 H locs ls h hw hl) N x1 x2 x3 a4 _ _ _ h hw (lv_sub hl [0] rfl)
def rmX6_tieAll : Room := { frames := 4, cells := 0, slots := 0, locals := 88 }
section
variable {p : Program} {l : Launch} {e : Env} {R : Room} {s : State} {m : MethodId} {args : Array Value} {below : List Frame} {meth : Method} {c : Code} {H : Heap} {locs : List Loc} {cells slots : Nat} {Q : State → Prop}
variable {cc : ByteArray} {pc nL : Nat} {ls : Array Slot} {rest : List Value} {D : va_G} {cI cC cO : ClassId} {A : Nat → Prop} {ws : va_W} {H0 : Heap}
theorem cs_X6_147 (X : Ctx p m c cc nL s args RX6 D cI cC cO) (hR : rmX6_reads.frames + 1 ≤ R.frames ∧ 8 + (1 + 11) + rmX6_reads.locals ≤ R.locals) : CallW R s args RX6 RX6 147 yX6_reads cX6_reads 1 (some .int) (Wy yX6_reads cX6_reads 1 (some .int)) rmX6_reads 0 0 0 := cwV 0 X.1.2.2.2.2 (gi_V tw_693 tw_695 sw_yX6_reads tw_7 tw_696) rfl rfl rfl (by decide +kernel) hR
end
set_option maxHeartbeats 4000000 in
set_option maxRecDepth 100000 in
theorem c_X6_tieAll (l : Launch) (D : va_G) (cI cC cO : ClassId) (N : Nat) (h0 h_this_s h_this_saved h_this_snapshot h_this_text h_this_lumps h_this_order h_this_nears h_this_told : Nat) (thrown_ savedMany_ hasSnapshot_ length_ lumpMany_ partingSet_ partingWeight_ at_ isWell_ toldMany_ : Int32) (s_ saved_ text_ told_ : Nat → Int32) (r_ : Int32) (thrown_' : Int32) (savedMany_' : Int32) (at_' : Int32) (isWell_' : Int32) (toldMany_' : Int32) (s_' : Nat → Int32) (saved_' : Nat → Int32) (told_' : Nat → Int32) (h : f_X6_tieAll N savedMany_ length_ s_ saved_ text_ told_ = some (r_, thrown_', savedMany_', at_', isWell_', toldMany_', s_', saved_', told_')) : CI l yX6_tieAll (Wy yX6_tieAll cX6_tieAll 3 (some .int)) rmX6_tieAll D cI cC cO [.ref h0] [(h0, .inr (6, [.int thrown_, .ref h_this_s, .ref h_this_saved, .int savedMany_, .ref h_this_snapshot, .int hasSnapshot_, .ref h_this_text, .int length_, .ref h_this_lumps, .int lumpMany_, .ref h_this_order, .ref h_this_nears, .int partingSet_, .int partingWeight_, .int at_, .int isWell_, .ref h_this_told, .int toldMany_])), (h_this_s, .inl (cI, 103, .inl s_)), (h_this_saved, .inl (cI, 412, .inl saved_)), (h_this_text, .inl (cI, 60, .inl text_)), (h_this_told, .inl (cI, 96, .inl told_))] r_ [(h0, .inr (6, [.int thrown_', .ref h_this_s, .ref h_this_saved, .int savedMany_', .ref h_this_snapshot, .int hasSnapshot_, .ref h_this_text, .int length_, .ref h_this_lumps, .int lumpMany_, .ref h_this_order, .ref h_this_nears, .int partingSet_, .int partingWeight_, .int at_', .int isWell_', .ref h_this_told, .int toldMany_'])), (h_this_s, .inl (cI, 103, .inl s_')), (h_this_saved, .inl (cI, 412, .inl saved_')), (h_this_text, .inl (cI, 60, .inl text_)), (h_this_told, .inl (cI, 96, .inl told_'))] := by
  refine enter_i RX6 (by decide) rfl (Nat.le_of_ble_eq_true rfl) ?_
  intro p e s m below meth c A X hr hlk hw ls hl
  have hx := X.1.1
  have hb := X.1.2.1
  have hl : lv_has ls 3 [(0, .ref h0)] := hl
  unfold f_X6_tieAll at h
  refine lv_aload_n hx hb dX6_tieAll_0 rfl (lv_at hl 0 rfl) ?_
  refine lv_iconst (v := 0) hx hb dX6_tieAll_1 (by decide) ?_
  refine fp_X6_34 X hw 0 rfl rfl dX6_tieAll_2 (fun H locs hw => ?_)
  have hw : Wd D A s.heap [(h0, .inr (6, [.int (0 : Int32), .ref h_this_s, .ref h_this_saved, .int savedMany_, .ref h_this_snapshot, .int hasSnapshot_, .ref h_this_text, .int length_, .ref h_this_lumps, .int lumpMany_, .ref h_this_order, .ref h_this_nears, .int partingSet_, .int partingWeight_, .int at_, .int isWell_, .ref h_this_told, .int toldMany_])), (h_this_s, .inl (cI, 103, .inl s_)), (h_this_saved, .inl (cI, 412, .inl saved_)), (h_this_text, .inl (cI, 60, .inl text_)), (h_this_told, .inl (cI, 96, .inl told_))] H locs := hw
  refine lv_aload_n hx hb dX6_tieAll_5 rfl (lv_at hl 0 rfl) ?_
  obtain ⟨r1, x2, x3, x4, a5, hc, h⟩ := bd5_inv h
  refine r_cVi X hw (As := []) (rest := []) (wr := [(h_this_s, .inl (cI, 103, .inl s_)), (h_this_saved, .inl (cI, 412, .inl saved_))]) (ws' := [(h0, .inr (6, [.int (0 : Int32), .ref h_this_s, .ref h_this_saved, .int savedMany_, .ref h_this_snapshot, .int hasSnapshot_, .ref h_this_text, .int length_, .ref h_this_lumps, .int lumpMany_, .ref h_this_order, .ref h_this_nears, .int partingSet_, .int partingWeight_, .int x2, .int x3, .ref h_this_told, .int x4])), (h_this_s, .inl (cI, 103, .inl s_)), (h_this_saved, .inl (cI, 412, .inl saved_)), (h_this_text, .inl (cI, 60, .inl text_)), (h_this_told, .inl (cI, 96, .inl a5))]) (c_X6_reads l D cI cC cO N h0 h_this_s h_this_saved h_this_snapshot h_this_text h_this_lumps h_this_order h_this_nears h_this_told (0 : Int32) savedMany_ hasSnapshot_ length_ lumpMany_ partingSet_ partingWeight_ at_ isWell_ toldMany_ text_ told_ r1 x2 x3 x4 a5 hc) (cs_X6_147 X (by decide)) [0, 3, 4] [1, 2] [2, 0, 1, 3, 4] rfl rfl rfl rfl (by decide) rfl rfl 0 rfl rfl rfl rfl hl.1 rfl (Nat.le_of_ble_eq_true rfl) dX6_tieAll_6 ⟨Nat.zero_le _, Nat.zero_le _⟩ (fun H locs hw => ?_)
  refine lv_istore_n (lv' := [(1, .int r1), (0, .ref h0)]) hx hb dX6_tieAll_9 rfl hl (by decide) rfl (fun ls hl => ?_)
  refine lv_iload_n hx hb dX6_tieAll_10 rfl (lv_at hl 0 rfl) ?_
  refine lv_bipush (v := -5) hx hb dX6_tieAll_11 (by decide) ?_
  refine lv_icmp_eq (tgt := 21) hx hb dX6_tieAll_13 (by decide) (fun c1 => ?_) (fun c1 => ?_)
  · replace h := ip c1 h
    refine lv_iconst (v := 0) hx hb dX6_tieAll_21 (by decide) ?_
    refine lv_istore_n (lv' := [(2, .int (0 : Int32)), (1, .int r1), (0, .ref h0)]) hx hb dX6_tieAll_22 rfl hl (by decide) rfl (fun ls hl => ?_)
    have E56 : ∀ (H : Heap) (locs : List Loc) (ls : Array Slot), f_X6_tieAll_E56 N savedMany_ s_ saved_ x4 a5 x2 x3 = some (r_, thrown_', savedMany_', at_', isWell_', toldMany_', s_', saved_', told_') → Wd D A s.heap [(h0, .inr (6, [.int (0 : Int32), .ref h_this_s, .ref h_this_saved, .int savedMany_, .ref h_this_snapshot, .int hasSnapshot_, .ref h_this_text, .int length_, .ref h_this_lumps, .int lumpMany_, .ref h_this_order, .ref h_this_nears, .int partingSet_, .int partingWeight_, .int x2, .int x3, .ref h_this_told, .int x4])), (h_this_s, .inl (cI, 103, .inl s_)), (h_this_saved, .inl (cI, 412, .inl saved_)), (h_this_text, .inl (cI, 60, .inl text_)), (h_this_told, .inl (cI, 96, .inl a5))] H locs → lv_has ls 3 [(0, .ref h0)] → W p l e rmX6_tieAll s m ([.ref h0] : List Value).toArray below meth c H locs 0 0 (MQ below (Qi D r_ [(h0, .inr (6, [.int thrown_', .ref h_this_s, .ref h_this_saved, .int savedMany_', .ref h_this_snapshot, .int hasSnapshot_, .ref h_this_text, .int length_, .ref h_this_lumps, .int lumpMany_, .ref h_this_order, .ref h_this_nears, .int partingSet_, .int partingWeight_, .int at_', .int isWell_', .ref h_this_told, .int toldMany_'])), (h_this_s, .inl (cI, 103, .inl s_')), (h_this_saved, .inl (cI, 412, .inl saved_')), (h_this_text, .inl (cI, 60, .inl text_)), (h_this_told, .inl (cI, 96, .inl told_'))] A) ([.ref h0] : List Value).toArray s 0 0 A) (F0 m 56 ls []) := by
      intro H locs ls h hw hl
      unfold f_X6_tieAll_E56 at h
      refine lv_aload_n hx hb dX6_tieAll_56 rfl (lv_at hl 0 rfl) ?_
      obtain ⟨x11, a12, hc, h⟩ := bd2_inv h
      refine r_cVv X hw (As := []) (rest := []) (wr := [(h_this_text, .inl (cI, 60, .inl text_)), (h_this_told, .inl (cI, 96, .inl a5))]) (ws' := [(h0, .inr (6, [.int (0 : Int32), .ref h_this_s, .ref h_this_saved, .int x11, .ref h_this_snapshot, .int hasSnapshot_, .ref h_this_text, .int length_, .ref h_this_lumps, .int lumpMany_, .ref h_this_order, .ref h_this_nears, .int partingSet_, .int partingWeight_, .int x2, .int x3, .ref h_this_told, .int x4])), (h_this_s, .inl (cI, 103, .inl s_)), (h_this_saved, .inl (cI, 412, .inl a12)), (h_this_text, .inl (cI, 60, .inl text_)), (h_this_told, .inl (cI, 96, .inl a5))]) (c_X6_records l D cI cC cO N h0 h_this_s h_this_saved h_this_snapshot h_this_text h_this_lumps h_this_order h_this_nears h_this_told (0 : Int32) savedMany_ hasSnapshot_ length_ lumpMany_ partingSet_ partingWeight_ x2 x3 x4 s_ saved_ x11 a12 hc) (cs_X6_105 X (by decide)) [0, 1, 2] [3, 4] [2, 3, 4, 0, 1] rfl rfl rfl rfl (by decide) rfl rfl 0 rfl rfl rfl rfl hl.1 rfl (Nat.le_of_ble_eq_true rfl) dX6_tieAll_57 ⟨Nat.zero_le _, Nat.zero_le _⟩ (fun H locs hw => ?_)
      refine lv_iconst (v := 0) hx hb dX6_tieAll_60 (by decide) ?_
      refine lv_istore_n (lv' := [(2, .int (0 : Int32)), (0, .ref h0)]) hx hb dX6_tieAll_61 rfl hl (by decide) rfl (fun ls hl => ?_)
      have E108 : ∀ (a19 : Nat → Int32) (H : Heap) (locs : List Loc) (ls : Array Slot), f_X6_tieAll_E108 x4 x11 x2 x3 a12 a5 a19 = some (r_, thrown_', savedMany_', at_', isWell_', toldMany_', s_', saved_', told_') → Wd D A s.heap [(h0, .inr (6, [.int (0 : Int32), .ref h_this_s, .ref h_this_saved, .int x11, .ref h_this_snapshot, .int hasSnapshot_, .ref h_this_text, .int length_, .ref h_this_lumps, .int lumpMany_, .ref h_this_order, .ref h_this_nears, .int partingSet_, .int partingWeight_, .int x2, .int x3, .ref h_this_told, .int x4])), (h_this_s, .inl (cI, 103, .inl a19)), (h_this_saved, .inl (cI, 412, .inl a12)), (h_this_text, .inl (cI, 60, .inl text_)), (h_this_told, .inl (cI, 96, .inl a5))] H locs → lv_has ls 3 [(0, .ref h0)] → W p l e rmX6_tieAll s m ([.ref h0] : List Value).toArray below meth c H locs 0 0 (MQ below (Qi D r_ [(h0, .inr (6, [.int thrown_', .ref h_this_s, .ref h_this_saved, .int savedMany_', .ref h_this_snapshot, .int hasSnapshot_, .ref h_this_text, .int length_, .ref h_this_lumps, .int lumpMany_, .ref h_this_order, .ref h_this_nears, .int partingSet_, .int partingWeight_, .int at_', .int isWell_', .ref h_this_told, .int toldMany_'])), (h_this_s, .inl (cI, 103, .inl s_')), (h_this_saved, .inl (cI, 412, .inl saved_')), (h_this_text, .inl (cI, 60, .inl text_)), (h_this_told, .inl (cI, 96, .inl told_'))] A) ([.ref h0] : List Value).toArray s 0 0 A) (F0 m 108 ls []) := by
        intro a19 H locs ls h hw hl
        unfold f_X6_tieAll_E108 at h
        refine lv_aload_n hx hb dX6_tieAll_108 rfl (lv_at hl 0 rfl) ?_
        refine fg_X6_141 X hw 0 rfl rfl dX6_tieAll_109 ?_
        obtain ⟨rfl, rfl, rfl, rfl, rfl, rfl, rfl, rfl, rfl⟩ := oi9 h
        exact r_ret X hw hr hlk dX6_tieAll_112
      have L62 : ∀ (k16 : (Nat → Int32) → Option (Int32 × Int32 × Int32 × Int32 × Int32 × Int32 × (Nat → Int32) × (Nat → Int32) × (Nat → Int32))), (∀ (a19 : Nat → Int32) (H : Heap) (locs : List Loc) (ls : Array Slot), k16 a19 = some (r_, thrown_', savedMany_', at_', isWell_', toldMany_', s_', saved_', told_') → Wd D A s.heap [(h0, .inr (6, [.int (0 : Int32), .ref h_this_s, .ref h_this_saved, .int x11, .ref h_this_snapshot, .int hasSnapshot_, .ref h_this_text, .int length_, .ref h_this_lumps, .int lumpMany_, .ref h_this_order, .ref h_this_nears, .int partingSet_, .int partingWeight_, .int x2, .int x3, .ref h_this_told, .int x4])), (h_this_s, .inl (cI, 103, .inl a19)), (h_this_saved, .inl (cI, 412, .inl a12)), (h_this_text, .inl (cI, 60, .inl text_)), (h_this_told, .inl (cI, 96, .inl a5))] H locs → lv_has ls 3 [(0, .ref h0)] → W p l e rmX6_tieAll s m ([.ref h0] : List Value).toArray below meth c H locs 0 0 (MQ below (Qi D r_ [(h0, .inr (6, [.int thrown_', .ref h_this_s, .ref h_this_saved, .int savedMany_', .ref h_this_snapshot, .int hasSnapshot_, .ref h_this_text, .int length_, .ref h_this_lumps, .int lumpMany_, .ref h_this_order, .ref h_this_nears, .int partingSet_, .int partingWeight_, .int at_', .int isWell_', .ref h_this_told, .int toldMany_'])), (h_this_s, .inl (cI, 103, .inl s_')), (h_this_saved, .inl (cI, 412, .inl saved_')), (h_this_text, .inl (cI, 60, .inl text_)), (h_this_told, .inl (cI, 96, .inl told_'))] A) ([.ref h0] : List Value).toArray s 0 0 A) (F0 m 108 ls [])) → ∀ (n18 : Nat), ∀ (x13 : Int32) (a14 : Nat → Int32) (H : Heap) (locs : List Loc) (ls : Array Slot), f_X6_tieAll_L62 x4 a5 k16 n18 x13 a14 = some (r_, thrown_', savedMany_', at_', isWell_', toldMany_', s_', saved_', told_') → Wd D A s.heap [(h0, .inr (6, [.int (0 : Int32), .ref h_this_s, .ref h_this_saved, .int x11, .ref h_this_snapshot, .int hasSnapshot_, .ref h_this_text, .int length_, .ref h_this_lumps, .int lumpMany_, .ref h_this_order, .ref h_this_nears, .int partingSet_, .int partingWeight_, .int x2, .int x3, .ref h_this_told, .int x4])), (h_this_s, .inl (cI, 103, .inl a14)), (h_this_saved, .inl (cI, 412, .inl a12)), (h_this_text, .inl (cI, 60, .inl text_)), (h_this_told, .inl (cI, 96, .inl a5))] H locs → lv_has ls 3 [(0, .ref h0), (2, .int x13)] → W p l e rmX6_tieAll s m ([.ref h0] : List Value).toArray below meth c H locs 0 0 (MQ below (Qi D r_ [(h0, .inr (6, [.int thrown_', .ref h_this_s, .ref h_this_saved, .int savedMany_', .ref h_this_snapshot, .int hasSnapshot_, .ref h_this_text, .int length_, .ref h_this_lumps, .int lumpMany_, .ref h_this_order, .ref h_this_nears, .int partingSet_, .int partingWeight_, .int at_', .int isWell_', .ref h_this_told, .int toldMany_'])), (h_this_s, .inl (cI, 103, .inl s_')), (h_this_saved, .inl (cI, 412, .inl saved_')), (h_this_text, .inl (cI, 60, .inl text_)), (h_this_told, .inl (cI, 96, .inl told_'))] A) ([.ref h0] : List Value).toArray s 0 0 A) (F0 m 62 ls []) := by
        intro k16 hk62 n18
        induction n18 with
        | zero => intro x13 a14 H locs ls h; cases h
        | succ n18 ih62 =>
          intro x13 a14 H locs ls h hw hl
          rw [f_X6_tieAll_L62] at h
          refine lv_iload_n hx hb dX6_tieAll_62 rfl (lv_at hl 1 rfl) ?_
          refine lv_aload_n hx hb dX6_tieAll_63 rfl (lv_at hl 0 rfl) ?_
          refine fg_X6_141 X hw 0 rfl rfl dX6_tieAll_64 ?_
          refine lv_icmp_ge (tgt := 108) hx hb dX6_tieAll_67 (by decide) (fun c1 => ?_) (fun c1 => ?_)
          · replace h := ip c1 h
            exact hk62 a14 _ _ _ h hw (lv_sub hl [0] rfl)
          · replace h := ig c1 h
            refine lv_aload_n hx hb dX6_tieAll_70 rfl (lv_at hl 0 rfl) ?_
            refine lv_aload_n hx hb dX6_tieAll_71 rfl (lv_at hl 0 rfl) ?_
            refine fg_X6_31 X hw 0 rfl rfl dX6_tieAll_72 ?_
            refine lv_iconst (v := 3) hx hb dX6_tieAll_75 (by decide) ?_
            refine lv_iload_n hx hb dX6_tieAll_76 rfl (lv_at hl 1 rfl) ?_
            refine lv_imul hx hb dX6_tieAll_77 ?_
            obtain ⟨b1, h⟩ := chk_inv h
            refine r_iald X hw 4 rfl b1 rfl dX6_tieAll_78 ?_
            refine lv_aload_n hx hb dX6_tieAll_79 rfl (lv_at hl 0 rfl) ?_
            refine fg_X6_31 X hw 0 rfl rfl dX6_tieAll_80 ?_
            refine lv_iconst (v := 3) hx hb dX6_tieAll_83 (by decide) ?_
            refine lv_iload_n hx hb dX6_tieAll_84 rfl (lv_at hl 1 rfl) ?_
            refine lv_imul hx hb dX6_tieAll_85 ?_
            refine lv_iconst (v := 1) hx hb dX6_tieAll_86 (by decide) ?_
            refine lv_iadd hx hb dX6_tieAll_87 ?_
            obtain ⟨b1, h⟩ := chk_inv h
            refine r_iald X hw 4 rfl b1 rfl dX6_tieAll_88 ?_
            refine lv_aload_n hx hb dX6_tieAll_89 rfl (lv_at hl 0 rfl) ?_
            refine fg_X6_31 X hw 0 rfl rfl dX6_tieAll_90 ?_
            refine lv_iconst (v := 3) hx hb dX6_tieAll_93 (by decide) ?_
            refine lv_iload_n hx hb dX6_tieAll_94 rfl (lv_at hl 1 rfl) ?_
            refine lv_imul hx hb dX6_tieAll_95 ?_
            refine lv_iconst (v := 2) hx hb dX6_tieAll_96 (by decide) ?_
            refine lv_iadd hx hb dX6_tieAll_97 ?_
            obtain ⟨b1, h⟩ := chk_inv h
            refine r_iald X hw 4 rfl b1 rfl dX6_tieAll_98 ?_
            obtain ⟨a15, hc, h⟩ := bd1_inv h
            refine r_cVv X hw (As := [.int (a5 (((3 : Int32) * x13)).toNatClampNeg), .int (a5 ((((3 : Int32) * x13) + (1 : Int32))).toNatClampNeg), .int (a5 ((((3 : Int32) * x13) + (2 : Int32))).toNatClampNeg)]) (rest := []) (wr := [(h_this_saved, .inl (cI, 412, .inl a12)), (h_this_text, .inl (cI, 60, .inl text_)), (h_this_told, .inl (cI, 96, .inl a5))]) (ws' := [(h0, .inr (6, [.int (0 : Int32), .ref h_this_s, .ref h_this_saved, .int x11, .ref h_this_snapshot, .int hasSnapshot_, .ref h_this_text, .int length_, .ref h_this_lumps, .int lumpMany_, .ref h_this_order, .ref h_this_nears, .int partingSet_, .int partingWeight_, .int x2, .int x3, .ref h_this_told, .int x4])), (h_this_s, .inl (cI, 103, .inl a15)), (h_this_saved, .inl (cI, 412, .inl a12)), (h_this_text, .inl (cI, 60, .inl text_)), (h_this_told, .inl (cI, 96, .inl a5))]) (c_X6_ties l D cI cC cO h0 h_this_s h_this_saved h_this_snapshot h_this_text h_this_lumps h_this_order h_this_nears h_this_told (a5 (((3 : Int32) * x13)).toNatClampNeg) (a5 ((((3 : Int32) * x13) + (1 : Int32))).toNatClampNeg) (a5 ((((3 : Int32) * x13) + (2 : Int32))).toNatClampNeg) (0 : Int32) x11 hasSnapshot_ length_ lumpMany_ partingSet_ partingWeight_ x2 x3 x4 a14 a15 hc) (cs_X6_114 X (by decide)) [0, 1] [2, 3, 4] [3, 4, 0, 1, 2] rfl rfl rfl rfl (by decide) rfl rfl 0 rfl rfl rfl rfl hl.1 rfl (Nat.le_of_ble_eq_true rfl) dX6_tieAll_99 ⟨Nat.zero_le _, Nat.zero_le _⟩ (fun H locs hw => ?_)
            refine lv_iinc (v := (x13 + (1 : Int32))) (lv' := [(2, .int (x13 + (1 : Int32))), (0, .ref h0)]) hx hb dX6_tieAll_102 hl (k := 1) rfl rfl (by decide) rfl (fun ls hl => ?_)
            refine lv_goto (tgt := 62) hx hb dX6_tieAll_105 (by decide) ?_
            exact ih62 (x13 + (1 : Int32)) a15 _ _ _ h hw (lv_sub hl [1, 0] rfl)
      exact L62 (fun a19 => f_X6_tieAll_E108 x4 x11 x2 x3 a12 a5 a19) (fun a19 H locs ls h hw hl => E108 a19 H locs ls h hw hl) N (0 : Int32) s_ _ _ _ h hw (lv_sub hl [1, 0] rfl)
    have L23 : ∀ (k8 : Option (Int32 × Int32 × Int32 × Int32 × Int32 × Int32 × (Nat → Int32) × (Nat → Int32) × (Nat → Int32))), (∀ (H : Heap) (locs : List Loc) (ls : Array Slot), k8 = some (r_, thrown_', savedMany_', at_', isWell_', toldMany_', s_', saved_', told_') → Wd D A s.heap [(h0, .inr (6, [.int (0 : Int32), .ref h_this_s, .ref h_this_saved, .int savedMany_, .ref h_this_snapshot, .int hasSnapshot_, .ref h_this_text, .int length_, .ref h_this_lumps, .int lumpMany_, .ref h_this_order, .ref h_this_nears, .int partingSet_, .int partingWeight_, .int x2, .int x3, .ref h_this_told, .int x4])), (h_this_s, .inl (cI, 103, .inl s_)), (h_this_saved, .inl (cI, 412, .inl saved_)), (h_this_text, .inl (cI, 60, .inl text_)), (h_this_told, .inl (cI, 96, .inl a5))] H locs → lv_has ls 3 [(0, .ref h0)] → W p l e rmX6_tieAll s m ([.ref h0] : List Value).toArray below meth c H locs 0 0 (MQ below (Qi D r_ [(h0, .inr (6, [.int thrown_', .ref h_this_s, .ref h_this_saved, .int savedMany_', .ref h_this_snapshot, .int hasSnapshot_, .ref h_this_text, .int length_, .ref h_this_lumps, .int lumpMany_, .ref h_this_order, .ref h_this_nears, .int partingSet_, .int partingWeight_, .int at_', .int isWell_', .ref h_this_told, .int toldMany_'])), (h_this_s, .inl (cI, 103, .inl s_')), (h_this_saved, .inl (cI, 412, .inl saved_')), (h_this_text, .inl (cI, 60, .inl text_)), (h_this_told, .inl (cI, 96, .inl told_'))] A) ([.ref h0] : List Value).toArray s 0 0 A) (F0 m 56 ls [])) → ∀ (n10 : Nat), ∀ (x6 : Int32) (H : Heap) (locs : List Loc) (ls : Array Slot), f_X6_tieAll_L23 x4 a5 s_ savedMany_ x2 x3 saved_ k8 n10 x6 = some (r_, thrown_', savedMany_', at_', isWell_', toldMany_', s_', saved_', told_') → Wd D A s.heap [(h0, .inr (6, [.int (0 : Int32), .ref h_this_s, .ref h_this_saved, .int savedMany_, .ref h_this_snapshot, .int hasSnapshot_, .ref h_this_text, .int length_, .ref h_this_lumps, .int lumpMany_, .ref h_this_order, .ref h_this_nears, .int partingSet_, .int partingWeight_, .int x2, .int x3, .ref h_this_told, .int x4])), (h_this_s, .inl (cI, 103, .inl s_)), (h_this_saved, .inl (cI, 412, .inl saved_)), (h_this_text, .inl (cI, 60, .inl text_)), (h_this_told, .inl (cI, 96, .inl a5))] H locs → lv_has ls 3 [(0, .ref h0), (2, .int x6)] → W p l e rmX6_tieAll s m ([.ref h0] : List Value).toArray below meth c H locs 0 0 (MQ below (Qi D r_ [(h0, .inr (6, [.int thrown_', .ref h_this_s, .ref h_this_saved, .int savedMany_', .ref h_this_snapshot, .int hasSnapshot_, .ref h_this_text, .int length_, .ref h_this_lumps, .int lumpMany_, .ref h_this_order, .ref h_this_nears, .int partingSet_, .int partingWeight_, .int at_', .int isWell_', .ref h_this_told, .int toldMany_'])), (h_this_s, .inl (cI, 103, .inl s_')), (h_this_saved, .inl (cI, 412, .inl saved_')), (h_this_text, .inl (cI, 60, .inl text_)), (h_this_told, .inl (cI, 96, .inl told_'))] A) ([.ref h0] : List Value).toArray s 0 0 A) (F0 m 23 ls []) := by
      intro k8 hk23 n10
      induction n10 with
      | zero => intro x6 H locs ls h; cases h
      | succ n10 ih23 =>
        intro x6 H locs ls h hw hl
        rw [f_X6_tieAll_L23] at h
        refine lv_iload_n hx hb dX6_tieAll_23 rfl (lv_at hl 1 rfl) ?_
        refine lv_aload_n hx hb dX6_tieAll_24 rfl (lv_at hl 0 rfl) ?_
        refine fg_X6_141 X hw 0 rfl rfl dX6_tieAll_25 ?_
        refine lv_icmp_ge (tgt := 56) hx hb dX6_tieAll_28 (by decide) (fun c1 => ?_) (fun c1 => ?_)
        · replace h := ip c1 h
          exact hk23 _ _ _ h hw (lv_sub hl [0] rfl)
        · replace h := ig c1 h
          refine lv_aload_n hx hb dX6_tieAll_31 rfl (lv_at hl 0 rfl) ?_
          refine lv_aload_n hx hb dX6_tieAll_32 rfl (lv_at hl 0 rfl) ?_
          refine fg_X6_31 X hw 0 rfl rfl dX6_tieAll_33 ?_
          refine lv_iconst (v := 3) hx hb dX6_tieAll_36 (by decide) ?_
          refine lv_iload_n hx hb dX6_tieAll_37 rfl (lv_at hl 1 rfl) ?_
          refine lv_imul hx hb dX6_tieAll_38 ?_
          refine lv_iconst (v := 1) hx hb dX6_tieAll_39 (by decide) ?_
          refine lv_iadd hx hb dX6_tieAll_40 ?_
          obtain ⟨b1, h⟩ := chk_inv h
          refine r_iald X hw 4 rfl b1 rfl dX6_tieAll_41 ?_
          obtain ⟨r7, hc, h⟩ := bd1_inv h
          refine r_cVi X hw (As := [.int (a5 ((((3 : Int32) * x6) + (1 : Int32))).toNatClampNeg)]) (rest := []) (wr := [(h_this_saved, .inl (cI, 412, .inl saved_)), (h_this_text, .inl (cI, 60, .inl text_)), (h_this_told, .inl (cI, 96, .inl a5))]) (ws' := [(h0, .inr (6, [.int (0 : Int32), .ref h_this_s, .ref h_this_saved, .int savedMany_, .ref h_this_snapshot, .int hasSnapshot_, .ref h_this_text, .int length_, .ref h_this_lumps, .int lumpMany_, .ref h_this_order, .ref h_this_nears, .int partingSet_, .int partingWeight_, .int x2, .int x3, .ref h_this_told, .int x4])), (h_this_s, .inl (cI, 103, .inl s_)), (h_this_saved, .inl (cI, 412, .inl saved_)), (h_this_text, .inl (cI, 60, .inl text_)), (h_this_told, .inl (cI, 96, .inl a5))]) (c_X6_isPlace l D cI cC cO h0 h_this_s h_this_saved h_this_snapshot h_this_text h_this_lumps h_this_order h_this_nears h_this_told (a5 ((((3 : Int32) * x6) + (1 : Int32))).toNatClampNeg) (0 : Int32) savedMany_ hasSnapshot_ length_ lumpMany_ partingSet_ partingWeight_ x2 x3 x4 s_ r7 hc) (cs_X6_108 X (by decide)) [0, 1] [2, 3, 4] [3, 4, 0, 1, 2] rfl rfl rfl rfl (by decide) rfl rfl 0 rfl rfl rfl rfl hl.1 rfl (Nat.le_of_ble_eq_true rfl) dX6_tieAll_42 ⟨Nat.zero_le _, Nat.zero_le _⟩ (fun H locs hw => ?_)
          refine lv_if_ne (tgt := 50) hx hb dX6_tieAll_45 (by decide) (fun c1 => ?_) (fun c1 => ?_)
          · replace h := ig c1 h
            refine lv_iinc (v := (x6 + (1 : Int32))) (lv' := [(2, .int (x6 + (1 : Int32))), (0, .ref h0)]) hx hb dX6_tieAll_50 hl (k := 1) rfl rfl (by decide) rfl (fun ls hl => ?_)
            refine lv_goto (tgt := 23) hx hb dX6_tieAll_53 (by decide) ?_
            exact ih23 (x6 + (1 : Int32)) _ _ _ h hw (lv_sub hl [1, 0] rfl)
          · replace h := ip c1 h
            refine lv_iconst (v := -1) hx hb dX6_tieAll_48 (by decide) ?_
            obtain ⟨rfl, rfl, rfl, rfl, rfl, rfl, rfl, rfl, rfl⟩ := oi9 h
            exact r_ret X hw hr hlk dX6_tieAll_49
    exact L23 (f_X6_tieAll_E56 N savedMany_ s_ saved_ x4 a5 x2 x3) (fun H locs ls h hw hl => E56 H locs ls h hw hl) N (0 : Int32) _ _ _ h hw (lv_sub hl [2, 0] rfl)
  · replace h := ig c1 h
    refine lv_bipush (v := -100) hx hb dX6_tieAll_16 (by decide) ?_
    refine lv_iload_n hx hb dX6_tieAll_18 rfl (lv_at hl 0 rfl) ?_
    refine lv_isub hx hb dX6_tieAll_19 ?_
    obtain ⟨rfl, rfl, rfl, rfl, rfl, rfl, rfl, rfl, rfl⟩ := oi9 h
    exact r_ret X hw hr hlk dX6_tieAll_20
def rmX6_type : Room := { frames := 0, cells := 0, slots := 0, locals := 0 }
set_option maxHeartbeats 4000000 in
set_option maxRecDepth 100000 in
theorem c_X6_type (l : Launch) (D : va_G) (cI cC cO : ClassId) (h0 h_this_s h_this_saved h_this_snapshot h_this_text h_this_lumps h_this_order h_this_nears h_this_told : Nat) (p1 thrown_ savedMany_ hasSnapshot_ length_ lumpMany_ partingSet_ partingWeight_ at_ isWell_ toldMany_ : Int32) (text_ : Nat → Int32) (r_ : Int32) (thrown_' : Int32) (length_' : Int32) (text_' : Nat → Int32) (h : f_X6_type p1 length_ text_ = some (r_, thrown_', length_', text_')) : CI l yX6_type (Wy yX6_type cX6_type 2 (some .int)) rmX6_type D cI cC cO [.ref h0, .int p1] [(h0, .inr (6, [.int thrown_, .ref h_this_s, .ref h_this_saved, .int savedMany_, .ref h_this_snapshot, .int hasSnapshot_, .ref h_this_text, .int length_, .ref h_this_lumps, .int lumpMany_, .ref h_this_order, .ref h_this_nears, .int partingSet_, .int partingWeight_, .int at_, .int isWell_, .ref h_this_told, .int toldMany_])), (h_this_text, .inl (cI, 60, .inl text_))] r_ [(h0, .inr (6, [.int thrown_', .ref h_this_s, .ref h_this_saved, .int savedMany_, .ref h_this_snapshot, .int hasSnapshot_, .ref h_this_text, .int length_', .ref h_this_lumps, .int lumpMany_, .ref h_this_order, .ref h_this_nears, .int partingSet_, .int partingWeight_, .int at_, .int isWell_, .ref h_this_told, .int toldMany_])), (h_this_text, .inl (cI, 60, .inl text_'))] := by
  refine enter_i RX6 (by decide) rfl (Nat.le_of_ble_eq_true rfl) ?_
  intro p e s m below meth c A X hr hlk hw ls hl
  have hx := X.1.1
  have hb := X.1.2.1
  have hl : lv_has ls 2 [(0, .ref h0), (1, .int p1)] := hl
  unfold f_X6_type at h
  refine lv_aload_n hx hb dX6_type_0 rfl (lv_at hl 0 rfl) ?_
  refine lv_iconst (v := 0) hx hb dX6_type_1 (by decide) ?_
  refine fp_X6_34 X hw 0 rfl rfl dX6_type_2 (fun H locs hw => ?_)
  have hw : Wd D A s.heap [(h0, .inr (6, [.int (0 : Int32), .ref h_this_s, .ref h_this_saved, .int savedMany_, .ref h_this_snapshot, .int hasSnapshot_, .ref h_this_text, .int length_, .ref h_this_lumps, .int lumpMany_, .ref h_this_order, .ref h_this_nears, .int partingSet_, .int partingWeight_, .int at_, .int isWell_, .ref h_this_told, .int toldMany_])), (h_this_text, .inl (cI, 60, .inl text_))] H locs := hw
  refine lv_aload_n hx hb dX6_type_5 rfl (lv_at hl 0 rfl) ?_
  refine fg_X6_128 X hw 0 rfl rfl dX6_type_6 ?_
  refine lv_bipush (v := 60) hx hb dX6_type_9 (by decide) ?_
  refine lv_icmp_ne (tgt := 17) hx hb dX6_type_11 (by decide) (fun c1 => ?_) (fun c1 => ?_)
  · replace h := ig c1 h
    refine lv_aload_n hx hb dX6_type_17 rfl (lv_at hl 0 rfl) ?_
    refine fg_X6_19 X hw 0 rfl rfl dX6_type_18 ?_
    refine lv_aload_n hx hb dX6_type_21 rfl (lv_at hl 0 rfl) ?_
    refine fg_X6_128 X hw 0 rfl rfl dX6_type_22 ?_
    refine lv_iload_n hx hb dX6_type_25 rfl (lv_at hl 1 rfl) ?_
    obtain ⟨b1, h⟩ := chk_inv h
    refine r_iast X hw 1 rfl b1 rfl dX6_type_26 (fun H locs hw => ?_)
    have hw : Wd D A s.heap [(h0, .inr (6, [.int (0 : Int32), .ref h_this_s, .ref h_this_saved, .int savedMany_, .ref h_this_snapshot, .int hasSnapshot_, .ref h_this_text, .int length_, .ref h_this_lumps, .int lumpMany_, .ref h_this_order, .ref h_this_nears, .int partingSet_, .int partingWeight_, .int at_, .int isWell_, .ref h_this_told, .int toldMany_])), (h_this_text, .inl (cI, 60, .inl (upd text_ (length_).toNatClampNeg p1)))] H locs := hw
    refine lv_aload_n hx hb dX6_type_27 rfl (lv_at hl 0 rfl) ?_
    refine lv_dup hx hb dX6_type_28 rfl ?_
    refine fg_X6_128 X hw 0 rfl rfl dX6_type_29 ?_
    refine lv_iconst (v := 1) hx hb dX6_type_32 (by decide) ?_
    refine lv_iadd hx hb dX6_type_33 ?_
    refine fp_X6_128 X hw 0 rfl rfl dX6_type_34 (fun H locs hw => ?_)
    have hw : Wd D A s.heap [(h0, .inr (6, [.int (0 : Int32), .ref h_this_s, .ref h_this_saved, .int savedMany_, .ref h_this_snapshot, .int hasSnapshot_, .ref h_this_text, .int (length_ + (1 : Int32)), .ref h_this_lumps, .int lumpMany_, .ref h_this_order, .ref h_this_nears, .int partingSet_, .int partingWeight_, .int at_, .int isWell_, .ref h_this_told, .int toldMany_])), (h_this_text, .inl (cI, 60, .inl (upd text_ (length_).toNatClampNeg p1)))] H locs := hw
    refine lv_aload_n hx hb dX6_type_37 rfl (lv_at hl 0 rfl) ?_
    refine fg_X6_128 X hw 0 rfl rfl dX6_type_38 ?_
    obtain ⟨rfl, rfl, rfl, rfl⟩ := oi4 h
    exact r_ret X hw hr hlk dX6_type_41
  · replace h := ip c1 h
    refine lv_bipush (v := -3) hx hb dX6_type_14 (by decide) ?_
    obtain ⟨rfl, rfl, rfl, rfl⟩ := oi4 h
    exact r_ret X hw hr hlk dX6_type_16
def rmX6_clearText : Room := { frames := 0, cells := 0, slots := 0, locals := 0 }
set_option maxHeartbeats 4000000 in
set_option maxRecDepth 100000 in
theorem c_X6_clearText (l : Launch) (D : va_G) (cI cC cO : ClassId) (h0 h_this_s h_this_saved h_this_snapshot h_this_text h_this_lumps h_this_order h_this_nears h_this_told : Nat) (thrown_ savedMany_ hasSnapshot_ length_ lumpMany_ partingSet_ partingWeight_ at_ isWell_ toldMany_ : Int32) (r_ : Int32) (thrown_' : Int32) (length_' : Int32) (h : f_X6_clearText length_ = some (r_, thrown_', length_')) : CI l yX6_clearText (Wy yX6_clearText cX6_clearText 2 (some .int)) rmX6_clearText D cI cC cO [.ref h0] [(h0, .inr (6, [.int thrown_, .ref h_this_s, .ref h_this_saved, .int savedMany_, .ref h_this_snapshot, .int hasSnapshot_, .ref h_this_text, .int length_, .ref h_this_lumps, .int lumpMany_, .ref h_this_order, .ref h_this_nears, .int partingSet_, .int partingWeight_, .int at_, .int isWell_, .ref h_this_told, .int toldMany_]))] r_ [(h0, .inr (6, [.int thrown_', .ref h_this_s, .ref h_this_saved, .int savedMany_, .ref h_this_snapshot, .int hasSnapshot_, .ref h_this_text, .int length_', .ref h_this_lumps, .int lumpMany_, .ref h_this_order, .ref h_this_nears, .int partingSet_, .int partingWeight_, .int at_, .int isWell_, .ref h_this_told, .int toldMany_]))] := by
  refine enter_i RX6 (by decide) rfl (Nat.le_of_ble_eq_true rfl) ?_
  intro p e s m below meth c A X hr hlk hw ls hl
  have hx := X.1.1
  have hb := X.1.2.1
  have hl : lv_has ls 2 [(0, .ref h0)] := hl
  unfold f_X6_clearText at h
  refine lv_aload_n hx hb dX6_clearText_0 rfl (lv_at hl 0 rfl) ?_
  refine lv_iconst (v := 0) hx hb dX6_clearText_1 (by decide) ?_
  refine fp_X6_34 X hw 0 rfl rfl dX6_clearText_2 (fun H locs hw => ?_)
  have hw : Wd D A s.heap [(h0, .inr (6, [.int (0 : Int32), .ref h_this_s, .ref h_this_saved, .int savedMany_, .ref h_this_snapshot, .int hasSnapshot_, .ref h_this_text, .int length_, .ref h_this_lumps, .int lumpMany_, .ref h_this_order, .ref h_this_nears, .int partingSet_, .int partingWeight_, .int at_, .int isWell_, .ref h_this_told, .int toldMany_]))] H locs := hw
  refine lv_aload_n hx hb dX6_clearText_5 rfl (lv_at hl 0 rfl) ?_
  refine fg_X6_128 X hw 0 rfl rfl dX6_clearText_6 ?_
  refine lv_istore_n (lv' := [(1, .int length_), (0, .ref h0)]) hx hb dX6_clearText_9 rfl hl (by decide) rfl (fun ls hl => ?_)
  refine lv_aload_n hx hb dX6_clearText_10 rfl (lv_at hl 1 rfl) ?_
  refine lv_iconst (v := 0) hx hb dX6_clearText_11 (by decide) ?_
  refine fp_X6_128 X hw 0 rfl rfl dX6_clearText_12 (fun H locs hw => ?_)
  have hw : Wd D A s.heap [(h0, .inr (6, [.int (0 : Int32), .ref h_this_s, .ref h_this_saved, .int savedMany_, .ref h_this_snapshot, .int hasSnapshot_, .ref h_this_text, .int (0 : Int32), .ref h_this_lumps, .int lumpMany_, .ref h_this_order, .ref h_this_nears, .int partingSet_, .int partingWeight_, .int at_, .int isWell_, .ref h_this_told, .int toldMany_]))] H locs := hw
  refine lv_iload_n hx hb dX6_clearText_15 rfl (lv_at hl 0 rfl) ?_
  obtain ⟨rfl, rfl, rfl⟩ := oi3 h
  exact r_ret X hw hr hlk dX6_clearText_16
def rmX6_undo : Room := { frames := 0, cells := 0, slots := 0, locals := 0 }
set_option maxHeartbeats 4000000 in
set_option maxRecDepth 100000 in
theorem c_X6_undo (l : Launch) (D : va_G) (cI cC cO : ClassId) (N : Nat) (h0 h_this_s h_this_saved h_this_snapshot h_this_text h_this_lumps h_this_order h_this_nears h_this_told : Nat) (thrown_ savedMany_ hasSnapshot_ length_ lumpMany_ partingSet_ partingWeight_ at_ isWell_ toldMany_ : Int32) (s_ saved_ : Nat → Int32) (r_ : Int32) (thrown_' : Int32) (savedMany_' : Int32) (s_' : Nat → Int32) (h : f_X6_undo N savedMany_ s_ saved_ = some (r_, thrown_', savedMany_', s_')) : CI l yX6_undo (Wy yX6_undo cX6_undo 2 (some .int)) rmX6_undo D cI cC cO [.ref h0] [(h0, .inr (6, [.int thrown_, .ref h_this_s, .ref h_this_saved, .int savedMany_, .ref h_this_snapshot, .int hasSnapshot_, .ref h_this_text, .int length_, .ref h_this_lumps, .int lumpMany_, .ref h_this_order, .ref h_this_nears, .int partingSet_, .int partingWeight_, .int at_, .int isWell_, .ref h_this_told, .int toldMany_])), (h_this_s, .inl (cI, 103, .inl s_)), (h_this_saved, .inl (cI, 412, .inl saved_))] r_ [(h0, .inr (6, [.int thrown_', .ref h_this_s, .ref h_this_saved, .int savedMany_', .ref h_this_snapshot, .int hasSnapshot_, .ref h_this_text, .int length_, .ref h_this_lumps, .int lumpMany_, .ref h_this_order, .ref h_this_nears, .int partingSet_, .int partingWeight_, .int at_, .int isWell_, .ref h_this_told, .int toldMany_])), (h_this_s, .inl (cI, 103, .inl s_')), (h_this_saved, .inl (cI, 412, .inl saved_))] := by
  refine enter_i RX6 (by decide) rfl (Nat.le_of_ble_eq_true rfl) ?_
  intro p e s m below meth c A X hr hlk hw ls hl
  have hx := X.1.1
  have hb := X.1.2.1
  have hl : lv_has ls 2 [(0, .ref h0)] := hl
  unfold f_X6_undo at h
  refine lv_aload_n hx hb dX6_undo_0 rfl (lv_at hl 0 rfl) ?_
  refine lv_iconst (v := 0) hx hb dX6_undo_1 (by decide) ?_
  refine fp_X6_34 X hw 0 rfl rfl dX6_undo_2 (fun H locs hw => ?_)
  have hw : Wd D A s.heap [(h0, .inr (6, [.int (0 : Int32), .ref h_this_s, .ref h_this_saved, .int savedMany_, .ref h_this_snapshot, .int hasSnapshot_, .ref h_this_text, .int length_, .ref h_this_lumps, .int lumpMany_, .ref h_this_order, .ref h_this_nears, .int partingSet_, .int partingWeight_, .int at_, .int isWell_, .ref h_this_told, .int toldMany_])), (h_this_s, .inl (cI, 103, .inl s_)), (h_this_saved, .inl (cI, 412, .inl saved_))] H locs := hw
  refine lv_aload_n hx hb dX6_undo_5 rfl (lv_at hl 0 rfl) ?_
  refine fg_X6_42 X hw 0 rfl rfl dX6_undo_6 ?_
  refine lv_if_ne (tgt := 15) hx hb dX6_undo_9 (by decide) (fun c1 => ?_) (fun c1 => ?_)
  · replace h := ig c1 h
    refine lv_aload_n hx hb dX6_undo_15 rfl (lv_at hl 0 rfl) ?_
    refine lv_dup hx hb dX6_undo_16 rfl ?_
    refine fg_X6_42 X hw 0 rfl rfl dX6_undo_17 ?_
    refine lv_iconst (v := 1) hx hb dX6_undo_20 (by decide) ?_
    refine lv_isub hx hb dX6_undo_21 ?_
    refine fp_X6_42 X hw 0 rfl rfl dX6_undo_22 (fun H locs hw => ?_)
    have hw : Wd D A s.heap [(h0, .inr (6, [.int (0 : Int32), .ref h_this_s, .ref h_this_saved, .int (savedMany_ - (1 : Int32)), .ref h_this_snapshot, .int hasSnapshot_, .ref h_this_text, .int length_, .ref h_this_lumps, .int lumpMany_, .ref h_this_order, .ref h_this_nears, .int partingSet_, .int partingWeight_, .int at_, .int isWell_, .ref h_this_told, .int toldMany_])), (h_this_s, .inl (cI, 103, .inl s_)), (h_this_saved, .inl (cI, 412, .inl saved_))] H locs := hw
    refine lv_iconst (v := 0) hx hb dX6_undo_25 (by decide) ?_
    refine lv_istore_n (lv' := [(1, .int (0 : Int32)), (0, .ref h0)]) hx hb dX6_undo_26 rfl hl (by decide) rfl (fun ls hl => ?_)
    have E59 : ∀ (a6 : Nat → Int32) (H : Heap) (locs : List Loc) (ls : Array Slot), f_X6_undo_E59 savedMany_ a6 = some (r_, thrown_', savedMany_', s_') → Wd D A s.heap [(h0, .inr (6, [.int (0 : Int32), .ref h_this_s, .ref h_this_saved, .int (savedMany_ - (1 : Int32)), .ref h_this_snapshot, .int hasSnapshot_, .ref h_this_text, .int length_, .ref h_this_lumps, .int lumpMany_, .ref h_this_order, .ref h_this_nears, .int partingSet_, .int partingWeight_, .int at_, .int isWell_, .ref h_this_told, .int toldMany_])), (h_this_s, .inl (cI, 103, .inl a6)), (h_this_saved, .inl (cI, 412, .inl saved_))] H locs → lv_has ls 2 [(0, .ref h0)] → W p l e rmX6_undo s m ([.ref h0] : List Value).toArray below meth c H locs 0 0 (MQ below (Qi D r_ [(h0, .inr (6, [.int thrown_', .ref h_this_s, .ref h_this_saved, .int savedMany_', .ref h_this_snapshot, .int hasSnapshot_, .ref h_this_text, .int length_, .ref h_this_lumps, .int lumpMany_, .ref h_this_order, .ref h_this_nears, .int partingSet_, .int partingWeight_, .int at_, .int isWell_, .ref h_this_told, .int toldMany_])), (h_this_s, .inl (cI, 103, .inl s_')), (h_this_saved, .inl (cI, 412, .inl saved_))] A) ([.ref h0] : List Value).toArray s 0 0 A) (F0 m 59 ls []) := by
      intro a6 H locs ls h hw hl
      unfold f_X6_undo_E59 at h
      refine lv_aload_n hx hb dX6_undo_59 rfl (lv_at hl 0 rfl) ?_
      refine fg_X6_42 X hw 0 rfl rfl dX6_undo_60 ?_
      obtain ⟨rfl, rfl, rfl, rfl⟩ := oi4 h
      exact r_ret X hw hr hlk dX6_undo_63
    have L27 : ∀ (k3 : (Nat → Int32) → Option (Int32 × Int32 × Int32 × (Nat → Int32))), (∀ (a6 : Nat → Int32) (H : Heap) (locs : List Loc) (ls : Array Slot), k3 a6 = some (r_, thrown_', savedMany_', s_') → Wd D A s.heap [(h0, .inr (6, [.int (0 : Int32), .ref h_this_s, .ref h_this_saved, .int (savedMany_ - (1 : Int32)), .ref h_this_snapshot, .int hasSnapshot_, .ref h_this_text, .int length_, .ref h_this_lumps, .int lumpMany_, .ref h_this_order, .ref h_this_nears, .int partingSet_, .int partingWeight_, .int at_, .int isWell_, .ref h_this_told, .int toldMany_])), (h_this_s, .inl (cI, 103, .inl a6)), (h_this_saved, .inl (cI, 412, .inl saved_))] H locs → lv_has ls 2 [(0, .ref h0)] → W p l e rmX6_undo s m ([.ref h0] : List Value).toArray below meth c H locs 0 0 (MQ below (Qi D r_ [(h0, .inr (6, [.int thrown_', .ref h_this_s, .ref h_this_saved, .int savedMany_', .ref h_this_snapshot, .int hasSnapshot_, .ref h_this_text, .int length_, .ref h_this_lumps, .int lumpMany_, .ref h_this_order, .ref h_this_nears, .int partingSet_, .int partingWeight_, .int at_, .int isWell_, .ref h_this_told, .int toldMany_])), (h_this_s, .inl (cI, 103, .inl s_')), (h_this_saved, .inl (cI, 412, .inl saved_))] A) ([.ref h0] : List Value).toArray s 0 0 A) (F0 m 59 ls [])) → ∀ (n5 : Nat), ∀ (x1 : Int32) (a2 : Nat → Int32) (H : Heap) (locs : List Loc) (ls : Array Slot), f_X6_undo_L27 savedMany_ saved_ k3 n5 x1 a2 = some (r_, thrown_', savedMany_', s_') → Wd D A s.heap [(h0, .inr (6, [.int (0 : Int32), .ref h_this_s, .ref h_this_saved, .int (savedMany_ - (1 : Int32)), .ref h_this_snapshot, .int hasSnapshot_, .ref h_this_text, .int length_, .ref h_this_lumps, .int lumpMany_, .ref h_this_order, .ref h_this_nears, .int partingSet_, .int partingWeight_, .int at_, .int isWell_, .ref h_this_told, .int toldMany_])), (h_this_s, .inl (cI, 103, .inl a2)), (h_this_saved, .inl (cI, 412, .inl saved_))] H locs → lv_has ls 2 [(0, .ref h0), (1, .int x1)] → W p l e rmX6_undo s m ([.ref h0] : List Value).toArray below meth c H locs 0 0 (MQ below (Qi D r_ [(h0, .inr (6, [.int thrown_', .ref h_this_s, .ref h_this_saved, .int savedMany_', .ref h_this_snapshot, .int hasSnapshot_, .ref h_this_text, .int length_, .ref h_this_lumps, .int lumpMany_, .ref h_this_order, .ref h_this_nears, .int partingSet_, .int partingWeight_, .int at_, .int isWell_, .ref h_this_told, .int toldMany_])), (h_this_s, .inl (cI, 103, .inl s_')), (h_this_saved, .inl (cI, 412, .inl saved_))] A) ([.ref h0] : List Value).toArray s 0 0 A) (F0 m 27 ls []) := by
      intro k3 hk27 n5
      induction n5 with
      | zero => intro x1 a2 H locs ls h; cases h
      | succ n5 ih27 =>
        intro x1 a2 H locs ls h hw hl
        rw [f_X6_undo_L27] at h
        refine lv_iload_n hx hb dX6_undo_27 rfl (lv_at hl 1 rfl) ?_
        refine lv_bipush (v := 103) hx hb dX6_undo_28 (by decide) ?_
        refine lv_icmp_ge (tgt := 59) hx hb dX6_undo_30 (by decide) (fun c1 => ?_) (fun c1 => ?_)
        · replace h := ip c1 h
          exact hk27 a2 _ _ _ h hw (lv_sub hl [0] rfl)
        · replace h := ig c1 h
          refine lv_aload_n hx hb dX6_undo_33 rfl (lv_at hl 0 rfl) ?_
          refine fg_X6_7 X hw 0 rfl rfl dX6_undo_34 ?_
          refine lv_iload_n hx hb dX6_undo_37 rfl (lv_at hl 1 rfl) ?_
          refine lv_aload_n hx hb dX6_undo_38 rfl (lv_at hl 0 rfl) ?_
          refine fg_X6_13 X hw 0 rfl rfl dX6_undo_39 ?_
          refine lv_bipush (v := 103) hx hb dX6_undo_42 (by decide) ?_
          refine lv_aload_n hx hb dX6_undo_44 rfl (lv_at hl 0 rfl) ?_
          refine fg_X6_42 X hw 0 rfl rfl dX6_undo_45 ?_
          refine lv_imul hx hb dX6_undo_48 ?_
          refine lv_iload_n hx hb dX6_undo_49 rfl (lv_at hl 1 rfl) ?_
          refine lv_iadd hx hb dX6_undo_50 ?_
          obtain ⟨b1, h⟩ := chk_inv h
          refine r_iald X hw 2 rfl b1 rfl dX6_undo_51 ?_
          obtain ⟨b1, h⟩ := chk_inv h
          refine r_iast X hw 1 rfl b1 rfl dX6_undo_52 (fun H locs hw => ?_)
          have hw : Wd D A s.heap [(h0, .inr (6, [.int (0 : Int32), .ref h_this_s, .ref h_this_saved, .int (savedMany_ - (1 : Int32)), .ref h_this_snapshot, .int hasSnapshot_, .ref h_this_text, .int length_, .ref h_this_lumps, .int lumpMany_, .ref h_this_order, .ref h_this_nears, .int partingSet_, .int partingWeight_, .int at_, .int isWell_, .ref h_this_told, .int toldMany_])), (h_this_s, .inl (cI, 103, .inl (upd a2 (x1).toNatClampNeg (saved_ ((((103 : Int32) * (savedMany_ - (1 : Int32))) + x1)).toNatClampNeg)))), (h_this_saved, .inl (cI, 412, .inl saved_))] H locs := hw
          refine lv_iinc (v := (x1 + (1 : Int32))) (lv' := [(1, .int (x1 + (1 : Int32))), (0, .ref h0)]) hx hb dX6_undo_53 hl (k := 1) rfl rfl (by decide) rfl (fun ls hl => ?_)
          refine lv_goto (tgt := 27) hx hb dX6_undo_56 (by decide) ?_
          exact ih27 (x1 + (1 : Int32)) (upd a2 (x1).toNatClampNeg (saved_ ((((103 : Int32) * (savedMany_ - (1 : Int32))) + x1)).toNatClampNeg)) _ _ _ h hw (lv_sub hl [1, 0] rfl)
    exact L27 (fun a6 => f_X6_undo_E59 savedMany_ a6) (fun a6 H locs ls h hw hl => E59 a6 H locs ls h hw hl) N (0 : Int32) s_ _ _ _ h hw (lv_sub hl [1, 0] rfl)
  · replace h := ip c1 h
    refine lv_bipush (v := -5) hx hb dX6_undo_12 (by decide) ?_
    obtain ⟨rfl, rfl, rfl, rfl⟩ := oi4 h
    exact r_ret X hw hr hlk dX6_undo_14
def rmX6_keep : Room := { frames := 0, cells := 0, slots := 0, locals := 0 }
set_option maxHeartbeats 4000000 in
set_option maxRecDepth 100000 in
theorem c_X6_keep (l : Launch) (D : va_G) (cI cC cO : ClassId) (N : Nat) (h0 h_this_s h_this_saved h_this_snapshot h_this_text h_this_lumps h_this_order h_this_nears h_this_told : Nat) (thrown_ savedMany_ hasSnapshot_ length_ lumpMany_ partingSet_ partingWeight_ at_ isWell_ toldMany_ : Int32) (s_ snapshot_ : Nat → Int32) (r_ : Int32) (thrown_' : Int32) (hasSnapshot_' : Int32) (snapshot_' : Nat → Int32) (h : f_X6_keep N s_ snapshot_ = some (r_, thrown_', hasSnapshot_', snapshot_')) : CI l yX6_keep (Wy yX6_keep cX6_keep 2 (some .int)) rmX6_keep D cI cC cO [.ref h0] [(h0, .inr (6, [.int thrown_, .ref h_this_s, .ref h_this_saved, .int savedMany_, .ref h_this_snapshot, .int hasSnapshot_, .ref h_this_text, .int length_, .ref h_this_lumps, .int lumpMany_, .ref h_this_order, .ref h_this_nears, .int partingSet_, .int partingWeight_, .int at_, .int isWell_, .ref h_this_told, .int toldMany_])), (h_this_s, .inl (cI, 103, .inl s_)), (h_this_snapshot, .inl (cI, 103, .inl snapshot_))] r_ [(h0, .inr (6, [.int thrown_', .ref h_this_s, .ref h_this_saved, .int savedMany_, .ref h_this_snapshot, .int hasSnapshot_', .ref h_this_text, .int length_, .ref h_this_lumps, .int lumpMany_, .ref h_this_order, .ref h_this_nears, .int partingSet_, .int partingWeight_, .int at_, .int isWell_, .ref h_this_told, .int toldMany_])), (h_this_s, .inl (cI, 103, .inl s_)), (h_this_snapshot, .inl (cI, 103, .inl snapshot_'))] := by
  refine enter_i RX6 (by decide) rfl (Nat.le_of_ble_eq_true rfl) ?_
  intro p e s m below meth c A X hr hlk hw ls hl
  have hx := X.1.1
  have hb := X.1.2.1
  have hl : lv_has ls 2 [(0, .ref h0)] := hl
  unfold f_X6_keep at h
  refine lv_aload_n hx hb dX6_keep_0 rfl (lv_at hl 0 rfl) ?_
  refine lv_iconst (v := 0) hx hb dX6_keep_1 (by decide) ?_
  refine fp_X6_34 X hw 0 rfl rfl dX6_keep_2 (fun H locs hw => ?_)
  have hw : Wd D A s.heap [(h0, .inr (6, [.int (0 : Int32), .ref h_this_s, .ref h_this_saved, .int savedMany_, .ref h_this_snapshot, .int hasSnapshot_, .ref h_this_text, .int length_, .ref h_this_lumps, .int lumpMany_, .ref h_this_order, .ref h_this_nears, .int partingSet_, .int partingWeight_, .int at_, .int isWell_, .ref h_this_told, .int toldMany_])), (h_this_s, .inl (cI, 103, .inl s_)), (h_this_snapshot, .inl (cI, 103, .inl snapshot_))] H locs := hw
  refine lv_iconst (v := 0) hx hb dX6_keep_5 (by decide) ?_
  refine lv_istore_n (lv' := [(1, .int (0 : Int32)), (0, .ref h0)]) hx hb dX6_keep_6 rfl hl (by decide) rfl (fun ls hl => ?_)
  have E31 : ∀ (a6 : Nat → Int32) (H : Heap) (locs : List Loc) (ls : Array Slot), f_X6_keep_E31 s_ a6 = some (r_, thrown_', hasSnapshot_', snapshot_') → Wd D A s.heap [(h0, .inr (6, [.int (0 : Int32), .ref h_this_s, .ref h_this_saved, .int savedMany_, .ref h_this_snapshot, .int hasSnapshot_, .ref h_this_text, .int length_, .ref h_this_lumps, .int lumpMany_, .ref h_this_order, .ref h_this_nears, .int partingSet_, .int partingWeight_, .int at_, .int isWell_, .ref h_this_told, .int toldMany_])), (h_this_s, .inl (cI, 103, .inl s_)), (h_this_snapshot, .inl (cI, 103, .inl a6))] H locs → lv_has ls 2 [(0, .ref h0)] → W p l e rmX6_keep s m ([.ref h0] : List Value).toArray below meth c H locs 0 0 (MQ below (Qi D r_ [(h0, .inr (6, [.int thrown_', .ref h_this_s, .ref h_this_saved, .int savedMany_, .ref h_this_snapshot, .int hasSnapshot_', .ref h_this_text, .int length_, .ref h_this_lumps, .int lumpMany_, .ref h_this_order, .ref h_this_nears, .int partingSet_, .int partingWeight_, .int at_, .int isWell_, .ref h_this_told, .int toldMany_])), (h_this_s, .inl (cI, 103, .inl s_)), (h_this_snapshot, .inl (cI, 103, .inl snapshot_'))] A) ([.ref h0] : List Value).toArray s 0 0 A) (F0 m 31 ls []) := by
    intro a6 H locs ls h hw hl
    unfold f_X6_keep_E31 at h
    refine lv_aload_n hx hb dX6_keep_31 rfl (lv_at hl 0 rfl) ?_
    refine lv_iconst (v := 1) hx hb dX6_keep_32 (by decide) ?_
    refine fp_X6_150 X hw 0 rfl rfl (by decide) dX6_keep_33 (fun H locs hw => ?_)
    have hw : Wd D A s.heap [(h0, .inr (6, [.int (0 : Int32), .ref h_this_s, .ref h_this_saved, .int savedMany_, .ref h_this_snapshot, .int (1 : Int32), .ref h_this_text, .int length_, .ref h_this_lumps, .int lumpMany_, .ref h_this_order, .ref h_this_nears, .int partingSet_, .int partingWeight_, .int at_, .int isWell_, .ref h_this_told, .int toldMany_])), (h_this_s, .inl (cI, 103, .inl s_)), (h_this_snapshot, .inl (cI, 103, .inl a6))] H locs := hw
    refine lv_aload_n hx hb dX6_keep_36 rfl (lv_at hl 0 rfl) ?_
    refine fg_X6_7 X hw 0 rfl rfl dX6_keep_37 ?_
    refine lv_iconst (v := 0) hx hb dX6_keep_40 (by decide) ?_
    refine r_iald X hw 1 rfl (v := (s_ 0)) (vp_lit (by decide)) rfl dX6_keep_41 ?_
    obtain ⟨rfl, rfl, rfl, rfl⟩ := oi4 h
    exact r_ret X hw hr hlk dX6_keep_42
  have L7 : ∀ (k3 : (Nat → Int32) → Option (Int32 × Int32 × Int32 × (Nat → Int32))), (∀ (a6 : Nat → Int32) (H : Heap) (locs : List Loc) (ls : Array Slot), k3 a6 = some (r_, thrown_', hasSnapshot_', snapshot_') → Wd D A s.heap [(h0, .inr (6, [.int (0 : Int32), .ref h_this_s, .ref h_this_saved, .int savedMany_, .ref h_this_snapshot, .int hasSnapshot_, .ref h_this_text, .int length_, .ref h_this_lumps, .int lumpMany_, .ref h_this_order, .ref h_this_nears, .int partingSet_, .int partingWeight_, .int at_, .int isWell_, .ref h_this_told, .int toldMany_])), (h_this_s, .inl (cI, 103, .inl s_)), (h_this_snapshot, .inl (cI, 103, .inl a6))] H locs → lv_has ls 2 [(0, .ref h0)] → W p l e rmX6_keep s m ([.ref h0] : List Value).toArray below meth c H locs 0 0 (MQ below (Qi D r_ [(h0, .inr (6, [.int thrown_', .ref h_this_s, .ref h_this_saved, .int savedMany_, .ref h_this_snapshot, .int hasSnapshot_', .ref h_this_text, .int length_, .ref h_this_lumps, .int lumpMany_, .ref h_this_order, .ref h_this_nears, .int partingSet_, .int partingWeight_, .int at_, .int isWell_, .ref h_this_told, .int toldMany_])), (h_this_s, .inl (cI, 103, .inl s_)), (h_this_snapshot, .inl (cI, 103, .inl snapshot_'))] A) ([.ref h0] : List Value).toArray s 0 0 A) (F0 m 31 ls [])) → ∀ (n5 : Nat), ∀ (x1 : Int32) (a2 : Nat → Int32) (H : Heap) (locs : List Loc) (ls : Array Slot), f_X6_keep_L7 s_ k3 n5 x1 a2 = some (r_, thrown_', hasSnapshot_', snapshot_') → Wd D A s.heap [(h0, .inr (6, [.int (0 : Int32), .ref h_this_s, .ref h_this_saved, .int savedMany_, .ref h_this_snapshot, .int hasSnapshot_, .ref h_this_text, .int length_, .ref h_this_lumps, .int lumpMany_, .ref h_this_order, .ref h_this_nears, .int partingSet_, .int partingWeight_, .int at_, .int isWell_, .ref h_this_told, .int toldMany_])), (h_this_s, .inl (cI, 103, .inl s_)), (h_this_snapshot, .inl (cI, 103, .inl a2))] H locs → lv_has ls 2 [(0, .ref h0), (1, .int x1)] → W p l e rmX6_keep s m ([.ref h0] : List Value).toArray below meth c H locs 0 0 (MQ below (Qi D r_ [(h0, .inr (6, [.int thrown_', .ref h_this_s, .ref h_this_saved, .int savedMany_, .ref h_this_snapshot, .int hasSnapshot_', .ref h_this_text, .int length_, .ref h_this_lumps, .int lumpMany_, .ref h_this_order, .ref h_this_nears, .int partingSet_, .int partingWeight_, .int at_, .int isWell_, .ref h_this_told, .int toldMany_])), (h_this_s, .inl (cI, 103, .inl s_)), (h_this_snapshot, .inl (cI, 103, .inl snapshot_'))] A) ([.ref h0] : List Value).toArray s 0 0 A) (F0 m 7 ls []) := by
    intro k3 hk7 n5
    induction n5 with
    | zero => intro x1 a2 H locs ls h; cases h
    | succ n5 ih7 =>
      intro x1 a2 H locs ls h hw hl
      rw [f_X6_keep_L7] at h
      refine lv_iload_n hx hb dX6_keep_7 rfl (lv_at hl 1 rfl) ?_
      refine lv_bipush (v := 103) hx hb dX6_keep_8 (by decide) ?_
      refine lv_icmp_ge (tgt := 31) hx hb dX6_keep_10 (by decide) (fun c1 => ?_) (fun c1 => ?_)
      · replace h := ip c1 h
        exact hk7 a2 _ _ _ h hw (lv_sub hl [0] rfl)
      · replace h := ig c1 h
        refine lv_aload_n hx hb dX6_keep_13 rfl (lv_at hl 0 rfl) ?_
        refine fg_X6_16 X hw 0 rfl rfl dX6_keep_14 ?_
        refine lv_iload_n hx hb dX6_keep_17 rfl (lv_at hl 1 rfl) ?_
        refine lv_aload_n hx hb dX6_keep_18 rfl (lv_at hl 0 rfl) ?_
        refine fg_X6_7 X hw 0 rfl rfl dX6_keep_19 ?_
        refine lv_iload_n hx hb dX6_keep_22 rfl (lv_at hl 1 rfl) ?_
        obtain ⟨b1, h⟩ := chk_inv h
        refine r_iald X hw 1 rfl b1 rfl dX6_keep_23 ?_
        obtain ⟨b1, h⟩ := chk_inv h
        refine r_iast X hw 2 rfl b1 rfl dX6_keep_24 (fun H locs hw => ?_)
        have hw : Wd D A s.heap [(h0, .inr (6, [.int (0 : Int32), .ref h_this_s, .ref h_this_saved, .int savedMany_, .ref h_this_snapshot, .int hasSnapshot_, .ref h_this_text, .int length_, .ref h_this_lumps, .int lumpMany_, .ref h_this_order, .ref h_this_nears, .int partingSet_, .int partingWeight_, .int at_, .int isWell_, .ref h_this_told, .int toldMany_])), (h_this_s, .inl (cI, 103, .inl s_)), (h_this_snapshot, .inl (cI, 103, .inl (upd a2 (x1).toNatClampNeg (s_ (x1).toNatClampNeg))))] H locs := hw
        refine lv_iinc (v := (x1 + (1 : Int32))) (lv' := [(1, .int (x1 + (1 : Int32))), (0, .ref h0)]) hx hb dX6_keep_25 hl (k := 1) rfl rfl (by decide) rfl (fun ls hl => ?_)
        refine lv_goto (tgt := 7) hx hb dX6_keep_28 (by decide) ?_
        exact ih7 (x1 + (1 : Int32)) (upd a2 (x1).toNatClampNeg (s_ (x1).toNatClampNeg)) _ _ _ h hw (lv_sub hl [1, 0] rfl)
  exact L7 (fun a6 => f_X6_keep_E31 s_ a6) (fun a6 H locs ls h hw hl => E31 a6 H locs ls h hw hl) N (0 : Int32) snapshot_ _ _ _ h hw (lv_sub hl [1, 0] rfl)
def rmX6_restore : Room := { frames := 1, cells := 0, slots := 0, locals := 21 }
set_option maxHeartbeats 4000000 in
set_option maxRecDepth 100000 in
theorem c_X6_restore (l : Launch) (D : va_G) (cI cC cO : ClassId) (N : Nat) (h0 h_this_s h_this_saved h_this_snapshot h_this_text h_this_lumps h_this_order h_this_nears h_this_told : Nat) (thrown_ savedMany_ hasSnapshot_ length_ lumpMany_ partingSet_ partingWeight_ at_ isWell_ toldMany_ : Int32) (s_ saved_ snapshot_ : Nat → Int32) (r_ : Int32) (thrown_' : Int32) (savedMany_' : Int32) (s_' : Nat → Int32) (saved_' : Nat → Int32) (h : f_X6_restore N savedMany_ hasSnapshot_ s_ saved_ snapshot_ = some (r_, thrown_', savedMany_', s_', saved_')) : CI l yX6_restore (Wy yX6_restore cX6_restore 2 (some .int)) rmX6_restore D cI cC cO [.ref h0] [(h0, .inr (6, [.int thrown_, .ref h_this_s, .ref h_this_saved, .int savedMany_, .ref h_this_snapshot, .int hasSnapshot_, .ref h_this_text, .int length_, .ref h_this_lumps, .int lumpMany_, .ref h_this_order, .ref h_this_nears, .int partingSet_, .int partingWeight_, .int at_, .int isWell_, .ref h_this_told, .int toldMany_])), (h_this_s, .inl (cI, 103, .inl s_)), (h_this_saved, .inl (cI, 412, .inl saved_)), (h_this_snapshot, .inl (cI, 103, .inl snapshot_))] r_ [(h0, .inr (6, [.int thrown_', .ref h_this_s, .ref h_this_saved, .int savedMany_', .ref h_this_snapshot, .int hasSnapshot_, .ref h_this_text, .int length_, .ref h_this_lumps, .int lumpMany_, .ref h_this_order, .ref h_this_nears, .int partingSet_, .int partingWeight_, .int at_, .int isWell_, .ref h_this_told, .int toldMany_])), (h_this_s, .inl (cI, 103, .inl s_')), (h_this_saved, .inl (cI, 412, .inl saved_')), (h_this_snapshot, .inl (cI, 103, .inl snapshot_))] := by
  refine enter_i RX6 (by decide) rfl (Nat.le_of_ble_eq_true rfl) ?_
  intro p e s m below meth c A X hr hlk hw ls hl
  have hx := X.1.1
  have hb := X.1.2.1
  have hl : lv_has ls 2 [(0, .ref h0)] := hl
  unfold f_X6_restore at h
  refine lv_aload_n hx hb dX6_restore_0 rfl (lv_at hl 0 rfl) ?_
  refine lv_iconst (v := 0) hx hb dX6_restore_1 (by decide) ?_
  refine fp_X6_34 X hw 0 rfl rfl dX6_restore_2 (fun H locs hw => ?_)
  have hw : Wd D A s.heap [(h0, .inr (6, [.int (0 : Int32), .ref h_this_s, .ref h_this_saved, .int savedMany_, .ref h_this_snapshot, .int hasSnapshot_, .ref h_this_text, .int length_, .ref h_this_lumps, .int lumpMany_, .ref h_this_order, .ref h_this_nears, .int partingSet_, .int partingWeight_, .int at_, .int isWell_, .ref h_this_told, .int toldMany_])), (h_this_s, .inl (cI, 103, .inl s_)), (h_this_saved, .inl (cI, 412, .inl saved_)), (h_this_snapshot, .inl (cI, 103, .inl snapshot_))] H locs := hw
  refine lv_aload_n hx hb dX6_restore_5 rfl (lv_at hl 0 rfl) ?_
  refine fg_X6_150 X hw 0 rfl rfl dX6_restore_6 ?_
  refine lv_if_ne (tgt := 15) hx hb dX6_restore_9 (by decide) (fun c1 => ?_) (fun c1 => ?_)
  · replace h := ig c1 h
    refine lv_aload_n hx hb dX6_restore_15 rfl (lv_at hl 0 rfl) ?_
    obtain ⟨x1, a2, hc, h⟩ := bd2_inv h
    refine r_cVv X hw (As := []) (rest := []) (wr := [(h_this_snapshot, .inl (cI, 103, .inl snapshot_))]) (ws' := [(h0, .inr (6, [.int (0 : Int32), .ref h_this_s, .ref h_this_saved, .int x1, .ref h_this_snapshot, .int hasSnapshot_, .ref h_this_text, .int length_, .ref h_this_lumps, .int lumpMany_, .ref h_this_order, .ref h_this_nears, .int partingSet_, .int partingWeight_, .int at_, .int isWell_, .ref h_this_told, .int toldMany_])), (h_this_s, .inl (cI, 103, .inl s_)), (h_this_saved, .inl (cI, 412, .inl a2)), (h_this_snapshot, .inl (cI, 103, .inl snapshot_))]) (c_X6_records l D cI cC cO N h0 h_this_s h_this_saved h_this_snapshot h_this_text h_this_lumps h_this_order h_this_nears h_this_told (0 : Int32) savedMany_ hasSnapshot_ length_ lumpMany_ partingSet_ partingWeight_ at_ isWell_ toldMany_ s_ saved_ x1 a2 hc) (cs_X6_105 X (by decide)) [0, 1, 2] [3] [1, 2, 3, 0] rfl rfl rfl rfl (by decide) rfl rfl 0 rfl rfl rfl rfl hl.1 rfl (Nat.le_of_ble_eq_true rfl) dX6_restore_16 ⟨Nat.zero_le _, Nat.zero_le _⟩ (fun H locs hw => ?_)
    refine lv_iconst (v := 0) hx hb dX6_restore_19 (by decide) ?_
    refine lv_istore_n (lv' := [(1, .int (0 : Int32)), (0, .ref h0)]) hx hb dX6_restore_20 rfl hl (by decide) rfl (fun ls hl => ?_)
    have E45 : ∀ (a8 : Nat → Int32) (H : Heap) (locs : List Loc) (ls : Array Slot), f_X6_restore_E45 x1 a2 a8 = some (r_, thrown_', savedMany_', s_', saved_') → Wd D A s.heap [(h0, .inr (6, [.int (0 : Int32), .ref h_this_s, .ref h_this_saved, .int x1, .ref h_this_snapshot, .int hasSnapshot_, .ref h_this_text, .int length_, .ref h_this_lumps, .int lumpMany_, .ref h_this_order, .ref h_this_nears, .int partingSet_, .int partingWeight_, .int at_, .int isWell_, .ref h_this_told, .int toldMany_])), (h_this_s, .inl (cI, 103, .inl a8)), (h_this_saved, .inl (cI, 412, .inl a2)), (h_this_snapshot, .inl (cI, 103, .inl snapshot_))] H locs → lv_has ls 2 [(0, .ref h0)] → W p l e rmX6_restore s m ([.ref h0] : List Value).toArray below meth c H locs 0 0 (MQ below (Qi D r_ [(h0, .inr (6, [.int thrown_', .ref h_this_s, .ref h_this_saved, .int savedMany_', .ref h_this_snapshot, .int hasSnapshot_, .ref h_this_text, .int length_, .ref h_this_lumps, .int lumpMany_, .ref h_this_order, .ref h_this_nears, .int partingSet_, .int partingWeight_, .int at_, .int isWell_, .ref h_this_told, .int toldMany_])), (h_this_s, .inl (cI, 103, .inl s_')), (h_this_saved, .inl (cI, 412, .inl saved_')), (h_this_snapshot, .inl (cI, 103, .inl snapshot_))] A) ([.ref h0] : List Value).toArray s 0 0 A) (F0 m 45 ls []) := by
      intro a8 H locs ls h hw hl
      unfold f_X6_restore_E45 at h
      refine lv_aload_n hx hb dX6_restore_45 rfl (lv_at hl 0 rfl) ?_
      refine fg_X6_7 X hw 0 rfl rfl dX6_restore_46 ?_
      refine lv_iconst (v := 0) hx hb dX6_restore_49 (by decide) ?_
      refine r_iald X hw 1 rfl (v := (a8 0)) (vp_lit (by decide)) rfl dX6_restore_50 ?_
      obtain ⟨rfl, rfl, rfl, rfl, rfl⟩ := oi5 h
      exact r_ret X hw hr hlk dX6_restore_51
    have L21 : ∀ (k5 : (Nat → Int32) → Option (Int32 × Int32 × Int32 × (Nat → Int32) × (Nat → Int32))), (∀ (a8 : Nat → Int32) (H : Heap) (locs : List Loc) (ls : Array Slot), k5 a8 = some (r_, thrown_', savedMany_', s_', saved_') → Wd D A s.heap [(h0, .inr (6, [.int (0 : Int32), .ref h_this_s, .ref h_this_saved, .int x1, .ref h_this_snapshot, .int hasSnapshot_, .ref h_this_text, .int length_, .ref h_this_lumps, .int lumpMany_, .ref h_this_order, .ref h_this_nears, .int partingSet_, .int partingWeight_, .int at_, .int isWell_, .ref h_this_told, .int toldMany_])), (h_this_s, .inl (cI, 103, .inl a8)), (h_this_saved, .inl (cI, 412, .inl a2)), (h_this_snapshot, .inl (cI, 103, .inl snapshot_))] H locs → lv_has ls 2 [(0, .ref h0)] → W p l e rmX6_restore s m ([.ref h0] : List Value).toArray below meth c H locs 0 0 (MQ below (Qi D r_ [(h0, .inr (6, [.int thrown_', .ref h_this_s, .ref h_this_saved, .int savedMany_', .ref h_this_snapshot, .int hasSnapshot_, .ref h_this_text, .int length_, .ref h_this_lumps, .int lumpMany_, .ref h_this_order, .ref h_this_nears, .int partingSet_, .int partingWeight_, .int at_, .int isWell_, .ref h_this_told, .int toldMany_])), (h_this_s, .inl (cI, 103, .inl s_')), (h_this_saved, .inl (cI, 412, .inl saved_')), (h_this_snapshot, .inl (cI, 103, .inl snapshot_))] A) ([.ref h0] : List Value).toArray s 0 0 A) (F0 m 45 ls [])) → ∀ (n7 : Nat), ∀ (x3 : Int32) (a4 : Nat → Int32) (H : Heap) (locs : List Loc) (ls : Array Slot), f_X6_restore_L21 snapshot_ k5 n7 x3 a4 = some (r_, thrown_', savedMany_', s_', saved_') → Wd D A s.heap [(h0, .inr (6, [.int (0 : Int32), .ref h_this_s, .ref h_this_saved, .int x1, .ref h_this_snapshot, .int hasSnapshot_, .ref h_this_text, .int length_, .ref h_this_lumps, .int lumpMany_, .ref h_this_order, .ref h_this_nears, .int partingSet_, .int partingWeight_, .int at_, .int isWell_, .ref h_this_told, .int toldMany_])), (h_this_s, .inl (cI, 103, .inl a4)), (h_this_saved, .inl (cI, 412, .inl a2)), (h_this_snapshot, .inl (cI, 103, .inl snapshot_))] H locs → lv_has ls 2 [(0, .ref h0), (1, .int x3)] → W p l e rmX6_restore s m ([.ref h0] : List Value).toArray below meth c H locs 0 0 (MQ below (Qi D r_ [(h0, .inr (6, [.int thrown_', .ref h_this_s, .ref h_this_saved, .int savedMany_', .ref h_this_snapshot, .int hasSnapshot_, .ref h_this_text, .int length_, .ref h_this_lumps, .int lumpMany_, .ref h_this_order, .ref h_this_nears, .int partingSet_, .int partingWeight_, .int at_, .int isWell_, .ref h_this_told, .int toldMany_])), (h_this_s, .inl (cI, 103, .inl s_')), (h_this_saved, .inl (cI, 412, .inl saved_')), (h_this_snapshot, .inl (cI, 103, .inl snapshot_))] A) ([.ref h0] : List Value).toArray s 0 0 A) (F0 m 21 ls []) := by
      intro k5 hk21 n7
      induction n7 with
      | zero => intro x3 a4 H locs ls h; cases h
      | succ n7 ih21 =>
        intro x3 a4 H locs ls h hw hl
        rw [f_X6_restore_L21] at h
        refine lv_iload_n hx hb dX6_restore_21 rfl (lv_at hl 1 rfl) ?_
        refine lv_bipush (v := 103) hx hb dX6_restore_22 (by decide) ?_
        refine lv_icmp_ge (tgt := 45) hx hb dX6_restore_24 (by decide) (fun c1 => ?_) (fun c1 => ?_)
        · replace h := ip c1 h
          exact hk21 a4 _ _ _ h hw (lv_sub hl [0] rfl)
        · replace h := ig c1 h
          refine lv_aload_n hx hb dX6_restore_27 rfl (lv_at hl 0 rfl) ?_
          refine fg_X6_7 X hw 0 rfl rfl dX6_restore_28 ?_
          refine lv_iload_n hx hb dX6_restore_31 rfl (lv_at hl 1 rfl) ?_
          refine lv_aload_n hx hb dX6_restore_32 rfl (lv_at hl 0 rfl) ?_
          refine fg_X6_16 X hw 0 rfl rfl dX6_restore_33 ?_
          refine lv_iload_n hx hb dX6_restore_36 rfl (lv_at hl 1 rfl) ?_
          obtain ⟨b1, h⟩ := chk_inv h
          refine r_iald X hw 3 rfl b1 rfl dX6_restore_37 ?_
          obtain ⟨b1, h⟩ := chk_inv h
          refine r_iast X hw 1 rfl b1 rfl dX6_restore_38 (fun H locs hw => ?_)
          have hw : Wd D A s.heap [(h0, .inr (6, [.int (0 : Int32), .ref h_this_s, .ref h_this_saved, .int x1, .ref h_this_snapshot, .int hasSnapshot_, .ref h_this_text, .int length_, .ref h_this_lumps, .int lumpMany_, .ref h_this_order, .ref h_this_nears, .int partingSet_, .int partingWeight_, .int at_, .int isWell_, .ref h_this_told, .int toldMany_])), (h_this_s, .inl (cI, 103, .inl (upd a4 (x3).toNatClampNeg (snapshot_ (x3).toNatClampNeg)))), (h_this_saved, .inl (cI, 412, .inl a2)), (h_this_snapshot, .inl (cI, 103, .inl snapshot_))] H locs := hw
          refine lv_iinc (v := (x3 + (1 : Int32))) (lv' := [(1, .int (x3 + (1 : Int32))), (0, .ref h0)]) hx hb dX6_restore_39 hl (k := 1) rfl rfl (by decide) rfl (fun ls hl => ?_)
          refine lv_goto (tgt := 21) hx hb dX6_restore_42 (by decide) ?_
          exact ih21 (x3 + (1 : Int32)) (upd a4 (x3).toNatClampNeg (snapshot_ (x3).toNatClampNeg)) _ _ _ h hw (lv_sub hl [1, 0] rfl)
    exact L21 (fun a8 => f_X6_restore_E45 x1 a2 a8) (fun a8 H locs ls h hw hl => E45 a8 H locs ls h hw hl) N (0 : Int32) s_ _ _ _ h hw (lv_sub hl [1, 0] rfl)
  · replace h := ip c1 h
    refine lv_bipush (v := -5) hx hb dX6_restore_12 (by decide) ?_
    obtain ⟨rfl, rfl, rfl, rfl, rfl⟩ := oi5 h
    exact r_ret X hw hr hlk dX6_restore_14
def rmX6_weight : Room := { frames := 3, cells := 0, slots := 0, locals := 66 }
set_option maxHeartbeats 4000000 in
set_option maxRecDepth 100000 in
theorem c_X6_weight (l : Launch) (D : va_G) (cI cC cO : ClassId) (h0 h_this_s h_this_saved h_this_snapshot h_this_text h_this_lumps h_this_order h_this_nears h_this_told : Nat) (p1 p2 thrown_ savedMany_ hasSnapshot_ length_ lumpMany_ partingSet_ partingWeight_ at_ isWell_ toldMany_ : Int32) (s_ : Nat → Int32) (r_ : Int32) (thrown_' : Int32) (h : f_X6_weight p1 p2 s_ = some (r_, thrown_')) : CI l yX6_weight (Wy yX6_weight cX6_weight 4 (some .int)) rmX6_weight D cI cC cO [.ref h0, .int p1, .int p2] [(h0, .inr (6, [.int thrown_, .ref h_this_s, .ref h_this_saved, .int savedMany_, .ref h_this_snapshot, .int hasSnapshot_, .ref h_this_text, .int length_, .ref h_this_lumps, .int lumpMany_, .ref h_this_order, .ref h_this_nears, .int partingSet_, .int partingWeight_, .int at_, .int isWell_, .ref h_this_told, .int toldMany_])), (h_this_s, .inl (cI, 103, .inl s_))] r_ [(h0, .inr (6, [.int thrown_', .ref h_this_s, .ref h_this_saved, .int savedMany_, .ref h_this_snapshot, .int hasSnapshot_, .ref h_this_text, .int length_, .ref h_this_lumps, .int lumpMany_, .ref h_this_order, .ref h_this_nears, .int partingSet_, .int partingWeight_, .int at_, .int isWell_, .ref h_this_told, .int toldMany_])), (h_this_s, .inl (cI, 103, .inl s_))] := by
  refine enter_i RX6 (by decide) rfl (Nat.le_of_ble_eq_true rfl) ?_
  intro p e s m below meth c A X hr hlk hw ls hl
  have hx := X.1.1
  have hb := X.1.2.1
  have hl : lv_has ls 4 [(0, .ref h0), (1, .int p1), (2, .int p2)] := hl
  unfold f_X6_weight at h
  refine lv_aload_n hx hb dX6_weight_0 rfl (lv_at hl 0 rfl) ?_
  refine lv_iconst (v := 0) hx hb dX6_weight_1 (by decide) ?_
  refine fp_X6_34 X hw 0 rfl rfl dX6_weight_2 (fun H locs hw => ?_)
  have hw : Wd D A s.heap [(h0, .inr (6, [.int (0 : Int32), .ref h_this_s, .ref h_this_saved, .int savedMany_, .ref h_this_snapshot, .int hasSnapshot_, .ref h_this_text, .int length_, .ref h_this_lumps, .int lumpMany_, .ref h_this_order, .ref h_this_nears, .int partingSet_, .int partingWeight_, .int at_, .int isWell_, .ref h_this_told, .int toldMany_])), (h_this_s, .inl (cI, 103, .inl s_))] H locs := hw
  refine lv_aload_n hx hb dX6_weight_5 rfl (lv_at hl 0 rfl) ?_
  refine lv_iload_n hx hb dX6_weight_6 rfl (lv_at hl 1 rfl) ?_
  refine lv_iload_n hx hb dX6_weight_7 rfl (lv_at hl 2 rfl) ?_
  refine lv_iconst (v := 0) hx hb dX6_weight_8 (by decide) ?_
  obtain ⟨r1, hc, h⟩ := bd1_inv h
  refine r_cVi X hw (As := [.int p1, .int p2, .int (0 : Int32)]) (rest := []) (wr := []) (ws' := [(h0, .inr (6, [.int (0 : Int32), .ref h_this_s, .ref h_this_saved, .int savedMany_, .ref h_this_snapshot, .int hasSnapshot_, .ref h_this_text, .int length_, .ref h_this_lumps, .int lumpMany_, .ref h_this_order, .ref h_this_nears, .int partingSet_, .int partingWeight_, .int at_, .int isWell_, .ref h_this_told, .int toldMany_])), (h_this_s, .inl (cI, 103, .inl s_))]) (c_X6_refusesPair l D cI cC cO h0 h_this_s h_this_saved h_this_snapshot h_this_text h_this_lumps h_this_order h_this_nears h_this_told p1 p2 (0 : Int32) (0 : Int32) savedMany_ hasSnapshot_ length_ lumpMany_ partingSet_ partingWeight_ at_ isWell_ toldMany_ s_ r1 hc) (cs_X6_118 X (by decide)) [0, 1] [] [0, 1] rfl rfl rfl rfl (by decide) rfl rfl 0 rfl rfl rfl rfl hl.1 rfl (Nat.le_of_ble_eq_true rfl) dX6_weight_9 ⟨Nat.zero_le _, Nat.zero_le _⟩ (fun H locs hw => ?_)
  refine lv_istore_n (lv' := [(3, .int r1), (0, .ref h0), (1, .int p1), (2, .int p2)]) hx hb dX6_weight_12 rfl hl (by decide) rfl (fun ls hl => ?_)
  refine lv_iload_n hx hb dX6_weight_13 rfl (lv_at hl 0 rfl) ?_
  refine lv_if_eq (tgt := 21) hx hb dX6_weight_14 (by decide) (fun c1 => ?_) (fun c1 => ?_)
  · replace h := ip c1 h
    refine lv_aload_n hx hb dX6_weight_21 rfl (lv_at hl 1 rfl) ?_
    refine lv_iload_n hx hb dX6_weight_22 rfl (lv_at hl 2 rfl) ?_
    refine lv_iload_n hx hb dX6_weight_23 rfl (lv_at hl 3 rfl) ?_
    obtain ⟨r2, hc, h⟩ := bd1_inv h
    refine r_cVi X hw (As := [.int p1, .int p2]) (rest := []) (wr := []) (ws' := [(h0, .inr (6, [.int (0 : Int32), .ref h_this_s, .ref h_this_saved, .int savedMany_, .ref h_this_snapshot, .int hasSnapshot_, .ref h_this_text, .int length_, .ref h_this_lumps, .int lumpMany_, .ref h_this_order, .ref h_this_nears, .int partingSet_, .int partingWeight_, .int at_, .int isWell_, .ref h_this_told, .int toldMany_])), (h_this_s, .inl (cI, 103, .inl s_))]) (c_X6_tied l D cI cC cO h0 h_this_s h_this_saved h_this_snapshot h_this_text h_this_lumps h_this_order h_this_nears h_this_told p1 p2 (0 : Int32) savedMany_ hasSnapshot_ length_ lumpMany_ partingSet_ partingWeight_ at_ isWell_ toldMany_ s_ r2 hc) (cs_X6_45 X (by decide)) [0, 1] [] [0, 1] rfl rfl rfl rfl (by decide) rfl rfl 0 rfl rfl rfl rfl hl.1 rfl (Nat.le_of_ble_eq_true rfl) dX6_weight_24 ⟨Nat.zero_le _, Nat.zero_le _⟩ (fun H locs hw => ?_)
    obtain ⟨rfl, rfl⟩ := oi2 h
    exact r_ret X hw hr hlk dX6_weight_27
  · replace h := ig c1 h
    refine lv_iload_n hx hb dX6_weight_17 rfl (lv_at hl 0 rfl) ?_
    refine lv_goto (tgt := 27) hx hb dX6_weight_18 (by decide) ?_
    obtain ⟨rfl, rfl⟩ := oi2 h
    exact r_ret X hw hr hlk dX6_weight_27
def rmX6_tiedTo : Room := { frames := 1, cells := 0, slots := 0, locals := 22 }
set_option maxHeartbeats 4000000 in
set_option maxRecDepth 100000 in
theorem c_X6_tiedTo (l : Launch) (D : va_G) (cI cC cO : ClassId) (N : Nat) (h0 h_this_s h_this_saved h_this_snapshot h_this_text h_this_lumps h_this_order h_this_nears h_this_told : Nat) (p1 thrown_ savedMany_ hasSnapshot_ length_ lumpMany_ partingSet_ partingWeight_ at_ isWell_ toldMany_ : Int32) (s_ : Nat → Int32) (r_ : Int32) (h : f_X6_tiedTo N p1 s_ = some r_) : CI l yX6_tiedTo (Wy yX6_tiedTo cX6_tiedTo 4 (some .int)) rmX6_tiedTo D cI cC cO [.ref h0, .int p1] [(h0, .inr (6, [.int thrown_, .ref h_this_s, .ref h_this_saved, .int savedMany_, .ref h_this_snapshot, .int hasSnapshot_, .ref h_this_text, .int length_, .ref h_this_lumps, .int lumpMany_, .ref h_this_order, .ref h_this_nears, .int partingSet_, .int partingWeight_, .int at_, .int isWell_, .ref h_this_told, .int toldMany_])), (h_this_s, .inl (cI, 103, .inl s_))] r_ [(h0, .inr (6, [.int thrown_, .ref h_this_s, .ref h_this_saved, .int savedMany_, .ref h_this_snapshot, .int hasSnapshot_, .ref h_this_text, .int length_, .ref h_this_lumps, .int lumpMany_, .ref h_this_order, .ref h_this_nears, .int partingSet_, .int partingWeight_, .int at_, .int isWell_, .ref h_this_told, .int toldMany_])), (h_this_s, .inl (cI, 103, .inl s_))] := by
  refine enter_i RX6 (by decide) rfl (Nat.le_of_ble_eq_true rfl) ?_
  intro p e s m below meth c A X hr hlk hw ls hl
  have hx := X.1.1
  have hb := X.1.2.1
  have hl : lv_has ls 4 [(0, .ref h0), (1, .int p1)] := hl
  unfold f_X6_tiedTo at h
  refine lv_iconst (v := 0) hx hb dX6_tiedTo_0 (by decide) ?_
  refine lv_istore_n (lv' := [(2, .int (0 : Int32)), (0, .ref h0), (1, .int p1)]) hx hb dX6_tiedTo_1 rfl hl (by decide) rfl (fun ls hl => ?_)
  refine lv_iconst (v := 0) hx hb dX6_tiedTo_2 (by decide) ?_
  refine lv_istore_n (lv' := [(3, .int (0 : Int32)), (2, .int (0 : Int32)), (0, .ref h0), (1, .int p1)]) hx hb dX6_tiedTo_3 rfl hl (by decide) rfl (fun ls hl => ?_)
  have E39 : ∀ (x8 : Int32) (H : Heap) (locs : List Loc) (ls : Array Slot), f_X6_tiedTo_E39 x8 = some r_ → Wd D A s.heap [(h0, .inr (6, [.int thrown_, .ref h_this_s, .ref h_this_saved, .int savedMany_, .ref h_this_snapshot, .int hasSnapshot_, .ref h_this_text, .int length_, .ref h_this_lumps, .int lumpMany_, .ref h_this_order, .ref h_this_nears, .int partingSet_, .int partingWeight_, .int at_, .int isWell_, .ref h_this_told, .int toldMany_])), (h_this_s, .inl (cI, 103, .inl s_))] H locs → lv_has ls 4 [(2, .int x8)] → W p l e rmX6_tiedTo s m ([.ref h0, .int p1] : List Value).toArray below meth c H locs 0 0 (MQ below (Qi D r_ [(h0, .inr (6, [.int thrown_, .ref h_this_s, .ref h_this_saved, .int savedMany_, .ref h_this_snapshot, .int hasSnapshot_, .ref h_this_text, .int length_, .ref h_this_lumps, .int lumpMany_, .ref h_this_order, .ref h_this_nears, .int partingSet_, .int partingWeight_, .int at_, .int isWell_, .ref h_this_told, .int toldMany_])), (h_this_s, .inl (cI, 103, .inl s_))] A) ([.ref h0, .int p1] : List Value).toArray s 0 0 A) (F0 m 39 ls []) := by
    intro x8 H locs ls h hw hl
    unfold f_X6_tiedTo_E39 at h
    refine lv_iload_n hx hb dX6_tiedTo_39 rfl (lv_at hl 0 rfl) ?_
    obtain rfl := oi1 h
    exact r_ret X hw hr hlk dX6_tiedTo_40
  have L4 : ∀ (k5 : Int32 → Option (Int32)), (∀ (x8 : Int32) (H : Heap) (locs : List Loc) (ls : Array Slot), k5 x8 = some r_ → Wd D A s.heap [(h0, .inr (6, [.int thrown_, .ref h_this_s, .ref h_this_saved, .int savedMany_, .ref h_this_snapshot, .int hasSnapshot_, .ref h_this_text, .int length_, .ref h_this_lumps, .int lumpMany_, .ref h_this_order, .ref h_this_nears, .int partingSet_, .int partingWeight_, .int at_, .int isWell_, .ref h_this_told, .int toldMany_])), (h_this_s, .inl (cI, 103, .inl s_))] H locs → lv_has ls 4 [(2, .int x8)] → W p l e rmX6_tiedTo s m ([.ref h0, .int p1] : List Value).toArray below meth c H locs 0 0 (MQ below (Qi D r_ [(h0, .inr (6, [.int thrown_, .ref h_this_s, .ref h_this_saved, .int savedMany_, .ref h_this_snapshot, .int hasSnapshot_, .ref h_this_text, .int length_, .ref h_this_lumps, .int lumpMany_, .ref h_this_order, .ref h_this_nears, .int partingSet_, .int partingWeight_, .int at_, .int isWell_, .ref h_this_told, .int toldMany_])), (h_this_s, .inl (cI, 103, .inl s_))] A) ([.ref h0, .int p1] : List Value).toArray s 0 0 A) (F0 m 39 ls [])) → ∀ (n7 : Nat), ∀ (x1 x2 : Int32) (H : Heap) (locs : List Loc) (ls : Array Slot), f_X6_tiedTo_L4 s_ p1 k5 n7 x1 x2 = some r_ → Wd D A s.heap [(h0, .inr (6, [.int thrown_, .ref h_this_s, .ref h_this_saved, .int savedMany_, .ref h_this_snapshot, .int hasSnapshot_, .ref h_this_text, .int length_, .ref h_this_lumps, .int lumpMany_, .ref h_this_order, .ref h_this_nears, .int partingSet_, .int partingWeight_, .int at_, .int isWell_, .ref h_this_told, .int toldMany_])), (h_this_s, .inl (cI, 103, .inl s_))] H locs → lv_has ls 4 [(0, .ref h0), (1, .int p1), (2, .int x1), (3, .int x2)] → W p l e rmX6_tiedTo s m ([.ref h0, .int p1] : List Value).toArray below meth c H locs 0 0 (MQ below (Qi D r_ [(h0, .inr (6, [.int thrown_, .ref h_this_s, .ref h_this_saved, .int savedMany_, .ref h_this_snapshot, .int hasSnapshot_, .ref h_this_text, .int length_, .ref h_this_lumps, .int lumpMany_, .ref h_this_order, .ref h_this_nears, .int partingSet_, .int partingWeight_, .int at_, .int isWell_, .ref h_this_told, .int toldMany_])), (h_this_s, .inl (cI, 103, .inl s_))] A) ([.ref h0, .int p1] : List Value).toArray s 0 0 A) (F0 m 4 ls []) := by
    intro k5 hk4 n7
    induction n7 with
    | zero => intro x1 x2 H locs ls h; cases h
    | succ n7 ih4 =>
      intro x1 x2 H locs ls h hw hl
      rw [f_X6_tiedTo_L4] at h
      refine lv_iload_n hx hb dX6_tiedTo_4 rfl (lv_at hl 3 rfl) ?_
      refine lv_aload_n hx hb dX6_tiedTo_5 rfl (lv_at hl 0 rfl) ?_
      refine fg_X6_7 X hw 0 rfl rfl dX6_tiedTo_6 ?_
      refine lv_iconst (v := 0) hx hb dX6_tiedTo_9 (by decide) ?_
      refine r_iald X hw 1 rfl (v := (s_ 0)) (vp_lit (by decide)) rfl dX6_tiedTo_10 ?_
      refine lv_icmp_ge (tgt := 39) hx hb dX6_tiedTo_11 (by decide) (fun c1 => ?_) (fun c1 => ?_)
      · replace h := ip c1 h
        exact hk4 x1 _ _ _ h hw (lv_sub hl [2] rfl)
      · replace h := ig c1 h
        refine lv_iload_n hx hb dX6_tiedTo_14 rfl (lv_at hl 2 rfl) ?_
        refine lv_aload_n hx hb dX6_tiedTo_15 rfl (lv_at hl 0 rfl) ?_
        refine lv_iload_n hx hb dX6_tiedTo_16 rfl (lv_at hl 1 rfl) ?_
        refine lv_iload_n hx hb dX6_tiedTo_17 rfl (lv_at hl 3 rfl) ?_
        obtain ⟨r3, hc, h⟩ := bd1_inv h
        refine r_cVi X hw (As := [.int p1, .int x2]) (rest := [.int x1]) (wr := []) (ws' := [(h0, .inr (6, [.int thrown_, .ref h_this_s, .ref h_this_saved, .int savedMany_, .ref h_this_snapshot, .int hasSnapshot_, .ref h_this_text, .int length_, .ref h_this_lumps, .int lumpMany_, .ref h_this_order, .ref h_this_nears, .int partingSet_, .int partingWeight_, .int at_, .int isWell_, .ref h_this_told, .int toldMany_])), (h_this_s, .inl (cI, 103, .inl s_))]) (c_X6_tied l D cI cC cO h0 h_this_s h_this_saved h_this_snapshot h_this_text h_this_lumps h_this_order h_this_nears h_this_told p1 x2 thrown_ savedMany_ hasSnapshot_ length_ lumpMany_ partingSet_ partingWeight_ at_ isWell_ toldMany_ s_ r3 hc) (cs_X6_45 X (by decide)) [0, 1] [] [0, 1] rfl rfl rfl rfl (by decide) rfl rfl 0 rfl rfl rfl rfl hl.1 rfl (Nat.le_of_ble_eq_true rfl) dX6_tiedTo_18 ⟨Nat.zero_le _, Nat.zero_le _⟩ (fun H locs hw => ?_)
        have J31 : ∀ (x4 : Int32) (H : Heap) (locs : List Loc) (ls : Array Slot), f_X6_tiedTo_J31 (f_X6_tiedTo_L4 s_ p1 k5 n7) x1 x2 x4 = some r_ → Wd D A s.heap [(h0, .inr (6, [.int thrown_, .ref h_this_s, .ref h_this_saved, .int savedMany_, .ref h_this_snapshot, .int hasSnapshot_, .ref h_this_text, .int length_, .ref h_this_lumps, .int lumpMany_, .ref h_this_order, .ref h_this_nears, .int partingSet_, .int partingWeight_, .int at_, .int isWell_, .ref h_this_told, .int toldMany_])), (h_this_s, .inl (cI, 103, .inl s_))] H locs → lv_has ls 4 [(0, .ref h0), (1, .int p1), (3, .int x2)] → W p l e rmX6_tiedTo s m ([.ref h0, .int p1] : List Value).toArray below meth c H locs 0 0 (MQ below (Qi D r_ [(h0, .inr (6, [.int thrown_, .ref h_this_s, .ref h_this_saved, .int savedMany_, .ref h_this_snapshot, .int hasSnapshot_, .ref h_this_text, .int length_, .ref h_this_lumps, .int lumpMany_, .ref h_this_order, .ref h_this_nears, .int partingSet_, .int partingWeight_, .int at_, .int isWell_, .ref h_this_told, .int toldMany_])), (h_this_s, .inl (cI, 103, .inl s_))] A) ([.ref h0, .int p1] : List Value).toArray s 0 0 A) (F0 m 31 ls [.int x4, .int x1]) := by
          intro x4 H locs ls h hw hl
          unfold f_X6_tiedTo_J31 at h
          refine lv_ior hx hb dX6_tiedTo_31 ?_
          refine lv_istore_n (lv' := [(2, .int (x1 ||| x4)), (0, .ref h0), (1, .int p1), (3, .int x2)]) hx hb dX6_tiedTo_32 rfl hl (by decide) rfl (fun ls hl => ?_)
          refine lv_iinc (v := (x2 + (1 : Int32))) (lv' := [(3, .int (x2 + (1 : Int32))), (2, .int (x1 ||| x4)), (0, .ref h0), (1, .int p1)]) hx hb dX6_tiedTo_33 hl (k := 3) rfl rfl (by decide) rfl (fun ls hl => ?_)
          refine lv_goto (tgt := 4) hx hb dX6_tiedTo_36 (by decide) ?_
          exact ih4 (x1 ||| x4) (x2 + (1 : Int32)) _ _ _ h hw (lv_sub hl [2, 3, 1, 0] rfl)
        refine lv_if_le (tgt := 30) hx hb dX6_tiedTo_21 (by decide) (fun c1 => ?_) (fun c1 => ?_)
        · replace h := ip c1 h
          refine lv_iconst (v := 0) hx hb dX6_tiedTo_30 (by decide) ?_
          exact J31 (0 : Int32) _ _ _ h hw (lv_sub hl [0, 1, 3] rfl)
        · replace h := ig c1 h
          refine lv_iconst (v := 1) hx hb dX6_tiedTo_24 (by decide) ?_
          refine lv_iload_n hx hb dX6_tiedTo_25 rfl (lv_at hl 3 rfl) ?_
          refine lv_ishl hx hb dX6_tiedTo_26 ?_
          refine lv_goto (tgt := 31) hx hb dX6_tiedTo_27 (by decide) ?_
          exact J31 ((1 : Int32) <<< (x2 &&& (31 : Int32))) _ _ _ h hw (lv_sub hl [0, 1, 3] rfl)
  exact L4 (fun x8 => f_X6_tiedTo_E39 x8) (fun x8 H locs ls h hw hl => E39 x8 H locs ls h hw hl) N (0 : Int32) (0 : Int32) _ _ _ h hw (lv_sub hl [2, 3, 1, 0] rfl)
def rmX6_reached : Room := { frames := 2, cells := 0, slots := 0, locals := 45 }
section
variable {p : Program} {l : Launch} {e : Env} {R : Room} {s : State} {m : MethodId} {args : Array Value} {below : List Frame} {meth : Method} {c : Code} {H : Heap} {locs : List Loc} {cells slots : Nat} {Q : State → Prop}
variable {cc : ByteArray} {pc nL : Nat} {ls : Array Slot} {rest : List Value} {D : va_G} {cI cC cO : ClassId} {A : Nat → Prop} {ws : va_W} {H0 : Heap}
theorem cs_X6_153 (X : Ctx p m c cc nL s args RX6 D cI cC cO) (hR : rmX6_tiedTo.frames + 1 ≤ R.frames ∧ 8 + (4 + 11) + rmX6_tiedTo.locals ≤ R.locals) : CallW R s args RX6 RX6 153 yX6_tiedTo cX6_tiedTo 4 (some .int) (Wy yX6_tiedTo cX6_tiedTo 4 (some .int)) rmX6_tiedTo 0 0 1 := cwV 1 X.1.2.2.2.2 (gi_V tw_741 tw_743 sw_yX6_tiedTo tw_7 tw_744) rfl rfl rfl (by decide +kernel) hR
end
set_option maxHeartbeats 4000000 in
set_option maxRecDepth 100000 in
theorem c_X6_reached (l : Launch) (D : va_G) (cI cC cO : ClassId) (N : Nat) (h0 h_this_s h_this_saved h_this_snapshot h_this_text h_this_lumps h_this_order h_this_nears h_this_told : Nat) (p1 thrown_ savedMany_ hasSnapshot_ length_ lumpMany_ partingSet_ partingWeight_ at_ isWell_ toldMany_ : Int32) (s_ : Nat → Int32) (r_ : Int32) (h : f_X6_reached N p1 s_ = some r_) : CI l yX6_reached (Wy yX6_reached cX6_reached 5 (some .int)) rmX6_reached D cI cC cO [.ref h0, .int p1] [(h0, .inr (6, [.int thrown_, .ref h_this_s, .ref h_this_saved, .int savedMany_, .ref h_this_snapshot, .int hasSnapshot_, .ref h_this_text, .int length_, .ref h_this_lumps, .int lumpMany_, .ref h_this_order, .ref h_this_nears, .int partingSet_, .int partingWeight_, .int at_, .int isWell_, .ref h_this_told, .int toldMany_])), (h_this_s, .inl (cI, 103, .inl s_))] r_ [(h0, .inr (6, [.int thrown_, .ref h_this_s, .ref h_this_saved, .int savedMany_, .ref h_this_snapshot, .int hasSnapshot_, .ref h_this_text, .int length_, .ref h_this_lumps, .int lumpMany_, .ref h_this_order, .ref h_this_nears, .int partingSet_, .int partingWeight_, .int at_, .int isWell_, .ref h_this_told, .int toldMany_])), (h_this_s, .inl (cI, 103, .inl s_))] := by
  refine enter_i RX6 (by decide) rfl (Nat.le_of_ble_eq_true rfl) ?_
  intro p e s m below meth c A X hr hlk hw ls hl
  have hx := X.1.1
  have hb := X.1.2.1
  have hl : lv_has ls 5 [(0, .ref h0), (1, .int p1)] := hl
  unfold f_X6_reached at h
  refine lv_iconst (v := 1) hx hb dX6_reached_0 (by decide) ?_
  refine lv_iload_n hx hb dX6_reached_1 rfl (lv_at hl 1 rfl) ?_
  refine lv_ishl hx hb dX6_reached_2 ?_
  refine lv_istore_n (lv' := [(2, .int ((1 : Int32) <<< (p1 &&& (31 : Int32)))), (0, .ref h0), (1, .int p1)]) hx hb dX6_reached_3 rfl hl (by decide) rfl (fun ls hl => ?_)
  refine lv_iconst (v := 0) hx hb dX6_reached_4 (by decide) ?_
  refine lv_istore_n (lv' := [(3, .int (0 : Int32)), (2, .int ((1 : Int32) <<< (p1 &&& (31 : Int32)))), (0, .ref h0), (1, .int p1)]) hx hb dX6_reached_5 rfl hl (by decide) rfl (fun ls hl => ?_)
  have E65 : ∀ (x14 : Int32) (H : Heap) (locs : List Loc) (ls : Array Slot), f_X6_reached_E65 x14 = some r_ → Wd D A s.heap [(h0, .inr (6, [.int thrown_, .ref h_this_s, .ref h_this_saved, .int savedMany_, .ref h_this_snapshot, .int hasSnapshot_, .ref h_this_text, .int length_, .ref h_this_lumps, .int lumpMany_, .ref h_this_order, .ref h_this_nears, .int partingSet_, .int partingWeight_, .int at_, .int isWell_, .ref h_this_told, .int toldMany_])), (h_this_s, .inl (cI, 103, .inl s_))] H locs → lv_has ls 5 [(2, .int x14)] → W p l e rmX6_reached s m ([.ref h0, .int p1] : List Value).toArray below meth c H locs 0 0 (MQ below (Qi D r_ [(h0, .inr (6, [.int thrown_, .ref h_this_s, .ref h_this_saved, .int savedMany_, .ref h_this_snapshot, .int hasSnapshot_, .ref h_this_text, .int length_, .ref h_this_lumps, .int lumpMany_, .ref h_this_order, .ref h_this_nears, .int partingSet_, .int partingWeight_, .int at_, .int isWell_, .ref h_this_told, .int toldMany_])), (h_this_s, .inl (cI, 103, .inl s_))] A) ([.ref h0, .int p1] : List Value).toArray s 0 0 A) (F0 m 65 ls []) := by
    intro x14 H locs ls h hw hl
    unfold f_X6_reached_E65 at h
    refine lv_iload_n hx hb dX6_reached_65 rfl (lv_at hl 0 rfl) ?_
    obtain rfl := oi1 h
    exact r_ret X hw hr hlk dX6_reached_66
  have L6 : ∀ (k11 : Int32 → Option (Int32)), (∀ (x14 : Int32) (H : Heap) (locs : List Loc) (ls : Array Slot), k11 x14 = some r_ → Wd D A s.heap [(h0, .inr (6, [.int thrown_, .ref h_this_s, .ref h_this_saved, .int savedMany_, .ref h_this_snapshot, .int hasSnapshot_, .ref h_this_text, .int length_, .ref h_this_lumps, .int lumpMany_, .ref h_this_order, .ref h_this_nears, .int partingSet_, .int partingWeight_, .int at_, .int isWell_, .ref h_this_told, .int toldMany_])), (h_this_s, .inl (cI, 103, .inl s_))] H locs → lv_has ls 5 [(2, .int x14)] → W p l e rmX6_reached s m ([.ref h0, .int p1] : List Value).toArray below meth c H locs 0 0 (MQ below (Qi D r_ [(h0, .inr (6, [.int thrown_, .ref h_this_s, .ref h_this_saved, .int savedMany_, .ref h_this_snapshot, .int hasSnapshot_, .ref h_this_text, .int length_, .ref h_this_lumps, .int lumpMany_, .ref h_this_order, .ref h_this_nears, .int partingSet_, .int partingWeight_, .int at_, .int isWell_, .ref h_this_told, .int toldMany_])), (h_this_s, .inl (cI, 103, .inl s_))] A) ([.ref h0, .int p1] : List Value).toArray s 0 0 A) (F0 m 65 ls [])) → ∀ (n13 : Nat), ∀ (x1 x2 : Int32) (H : Heap) (locs : List Loc) (ls : Array Slot), f_X6_reached_L6 N s_ k11 n13 x1 x2 = some r_ → Wd D A s.heap [(h0, .inr (6, [.int thrown_, .ref h_this_s, .ref h_this_saved, .int savedMany_, .ref h_this_snapshot, .int hasSnapshot_, .ref h_this_text, .int length_, .ref h_this_lumps, .int lumpMany_, .ref h_this_order, .ref h_this_nears, .int partingSet_, .int partingWeight_, .int at_, .int isWell_, .ref h_this_told, .int toldMany_])), (h_this_s, .inl (cI, 103, .inl s_))] H locs → lv_has ls 5 [(0, .ref h0), (2, .int x1), (3, .int x2)] → W p l e rmX6_reached s m ([.ref h0, .int p1] : List Value).toArray below meth c H locs 0 0 (MQ below (Qi D r_ [(h0, .inr (6, [.int thrown_, .ref h_this_s, .ref h_this_saved, .int savedMany_, .ref h_this_snapshot, .int hasSnapshot_, .ref h_this_text, .int length_, .ref h_this_lumps, .int lumpMany_, .ref h_this_order, .ref h_this_nears, .int partingSet_, .int partingWeight_, .int at_, .int isWell_, .ref h_this_told, .int toldMany_])), (h_this_s, .inl (cI, 103, .inl s_))] A) ([.ref h0, .int p1] : List Value).toArray s 0 0 A) (F0 m 6 ls []) := by
    intro k11 hk6 n13
    induction n13 with
    | zero => intro x1 x2 H locs ls h; cases h
    | succ n13 ih6 =>
      intro x1 x2 H locs ls h hw hl
      rw [f_X6_reached_L6] at h
      refine lv_iload_n hx hb dX6_reached_6 rfl (lv_at hl 2 rfl) ?_
      refine lv_aload_n hx hb dX6_reached_7 rfl (lv_at hl 0 rfl) ?_
      refine fg_X6_7 X hw 0 rfl rfl dX6_reached_8 ?_
      refine lv_iconst (v := 0) hx hb dX6_reached_11 (by decide) ?_
      refine r_iald X hw 1 rfl (v := (s_ 0)) (vp_lit (by decide)) rfl dX6_reached_12 ?_
      refine lv_icmp_ge (tgt := 65) hx hb dX6_reached_13 (by decide) (fun c1 => ?_) (fun c1 => ?_)
      · replace h := ip c1 h
        exact hk6 x1 _ _ _ h hw (lv_sub hl [1] rfl)
      · replace h := ig c1 h
        refine lv_iconst (v := 0) hx hb dX6_reached_16 (by decide) ?_
        refine lv_istore (lv' := [(4, .int (0 : Int32)), (0, .ref h0), (2, .int x1), (3, .int x2)]) hx hb dX6_reached_17 hl (by decide) rfl (fun ls hl => ?_)
        have E59 : ∀ (x10 : Int32) (H : Heap) (locs : List Loc) (ls : Array Slot), f_X6_reached_E59 (f_X6_reached_L6 N s_ k11 n13) x2 x10 = some r_ → Wd D A s.heap [(h0, .inr (6, [.int thrown_, .ref h_this_s, .ref h_this_saved, .int savedMany_, .ref h_this_snapshot, .int hasSnapshot_, .ref h_this_text, .int length_, .ref h_this_lumps, .int lumpMany_, .ref h_this_order, .ref h_this_nears, .int partingSet_, .int partingWeight_, .int at_, .int isWell_, .ref h_this_told, .int toldMany_])), (h_this_s, .inl (cI, 103, .inl s_))] H locs → lv_has ls 5 [(0, .ref h0), (2, .int x10), (3, .int x2)] → W p l e rmX6_reached s m ([.ref h0, .int p1] : List Value).toArray below meth c H locs 0 0 (MQ below (Qi D r_ [(h0, .inr (6, [.int thrown_, .ref h_this_s, .ref h_this_saved, .int savedMany_, .ref h_this_snapshot, .int hasSnapshot_, .ref h_this_text, .int length_, .ref h_this_lumps, .int lumpMany_, .ref h_this_order, .ref h_this_nears, .int partingSet_, .int partingWeight_, .int at_, .int isWell_, .ref h_this_told, .int toldMany_])), (h_this_s, .inl (cI, 103, .inl s_))] A) ([.ref h0, .int p1] : List Value).toArray s 0 0 A) (F0 m 59 ls []) := by
          intro x10 H locs ls h hw hl
          unfold f_X6_reached_E59 at h
          refine lv_iinc (v := (x2 + (1 : Int32))) (lv' := [(3, .int (x2 + (1 : Int32))), (0, .ref h0), (2, .int x10)]) hx hb dX6_reached_59 hl (k := 2) rfl rfl (by decide) rfl (fun ls hl => ?_)
          refine lv_goto (tgt := 6) hx hb dX6_reached_62 (by decide) ?_
          exact ih6 x10 (x2 + (1 : Int32)) _ _ _ h hw (lv_sub hl [1, 2, 0] rfl)
        have L19 : ∀ (k7 : Int32 → Option (Int32)), (∀ (x10 : Int32) (H : Heap) (locs : List Loc) (ls : Array Slot), k7 x10 = some r_ → Wd D A s.heap [(h0, .inr (6, [.int thrown_, .ref h_this_s, .ref h_this_saved, .int savedMany_, .ref h_this_snapshot, .int hasSnapshot_, .ref h_this_text, .int length_, .ref h_this_lumps, .int lumpMany_, .ref h_this_order, .ref h_this_nears, .int partingSet_, .int partingWeight_, .int at_, .int isWell_, .ref h_this_told, .int toldMany_])), (h_this_s, .inl (cI, 103, .inl s_))] H locs → lv_has ls 5 [(0, .ref h0), (2, .int x10), (3, .int x2)] → W p l e rmX6_reached s m ([.ref h0, .int p1] : List Value).toArray below meth c H locs 0 0 (MQ below (Qi D r_ [(h0, .inr (6, [.int thrown_, .ref h_this_s, .ref h_this_saved, .int savedMany_, .ref h_this_snapshot, .int hasSnapshot_, .ref h_this_text, .int length_, .ref h_this_lumps, .int lumpMany_, .ref h_this_order, .ref h_this_nears, .int partingSet_, .int partingWeight_, .int at_, .int isWell_, .ref h_this_told, .int toldMany_])), (h_this_s, .inl (cI, 103, .inl s_))] A) ([.ref h0, .int p1] : List Value).toArray s 0 0 A) (F0 m 59 ls [])) → ∀ (n9 : Nat), ∀ (x3 x4 : Int32) (H : Heap) (locs : List Loc) (ls : Array Slot), f_X6_reached_L19 N s_ k7 n9 x3 x4 = some r_ → Wd D A s.heap [(h0, .inr (6, [.int thrown_, .ref h_this_s, .ref h_this_saved, .int savedMany_, .ref h_this_snapshot, .int hasSnapshot_, .ref h_this_text, .int length_, .ref h_this_lumps, .int lumpMany_, .ref h_this_order, .ref h_this_nears, .int partingSet_, .int partingWeight_, .int at_, .int isWell_, .ref h_this_told, .int toldMany_])), (h_this_s, .inl (cI, 103, .inl s_))] H locs → lv_has ls 5 [(0, .ref h0), (2, .int x3), (3, .int x2), (4, .int x4)] → W p l e rmX6_reached s m ([.ref h0, .int p1] : List Value).toArray below meth c H locs 0 0 (MQ below (Qi D r_ [(h0, .inr (6, [.int thrown_, .ref h_this_s, .ref h_this_saved, .int savedMany_, .ref h_this_snapshot, .int hasSnapshot_, .ref h_this_text, .int length_, .ref h_this_lumps, .int lumpMany_, .ref h_this_order, .ref h_this_nears, .int partingSet_, .int partingWeight_, .int at_, .int isWell_, .ref h_this_told, .int toldMany_])), (h_this_s, .inl (cI, 103, .inl s_))] A) ([.ref h0, .int p1] : List Value).toArray s 0 0 A) (F0 m 19 ls []) := by
          intro k7 hk19 n9
          induction n9 with
          | zero => intro x3 x4 H locs ls h; cases h
          | succ n9 ih19 =>
            intro x3 x4 H locs ls h hw hl
            rw [f_X6_reached_L19] at h
            refine lv_iload hx hb dX6_reached_19 (lv_at hl 3 rfl) ?_
            refine lv_aload_n hx hb dX6_reached_21 rfl (lv_at hl 0 rfl) ?_
            refine fg_X6_7 X hw 0 rfl rfl dX6_reached_22 ?_
            refine lv_iconst (v := 0) hx hb dX6_reached_25 (by decide) ?_
            refine r_iald X hw 1 rfl (v := (s_ 0)) (vp_lit (by decide)) rfl dX6_reached_26 ?_
            refine lv_icmp_ge (tgt := 59) hx hb dX6_reached_27 (by decide) (fun c1 => ?_) (fun c1 => ?_)
            · replace h := ip c1 h
              exact hk19 x3 _ _ _ h hw (lv_sub hl [0, 1, 2] rfl)
            · replace h := ig c1 h
              refine lv_iload_n hx hb dX6_reached_30 rfl (lv_at hl 1 rfl) ?_
              refine lv_iload_n hx hb dX6_reached_31 rfl (lv_at hl 1 rfl) ?_
              refine lv_iload hx hb dX6_reached_32 (lv_at hl 3 rfl) ?_
              refine lv_ishr hx hb dX6_reached_34 ?_
              refine lv_iconst (v := 1) hx hb dX6_reached_35 (by decide) ?_
              refine lv_iand hx hb dX6_reached_36 ?_
              refine lv_iconst (v := 1) hx hb dX6_reached_37 (by decide) ?_
              have J51 : ∀ (x6 : Int32) (H : Heap) (locs : List Loc) (ls : Array Slot), f_X6_reached_J51 (f_X6_reached_L19 N s_ k7 n9) x3 x4 x6 = some r_ → Wd D A s.heap [(h0, .inr (6, [.int thrown_, .ref h_this_s, .ref h_this_saved, .int savedMany_, .ref h_this_snapshot, .int hasSnapshot_, .ref h_this_text, .int length_, .ref h_this_lumps, .int lumpMany_, .ref h_this_order, .ref h_this_nears, .int partingSet_, .int partingWeight_, .int at_, .int isWell_, .ref h_this_told, .int toldMany_])), (h_this_s, .inl (cI, 103, .inl s_))] H locs → lv_has ls 5 [(0, .ref h0), (3, .int x2), (4, .int x4)] → W p l e rmX6_reached s m ([.ref h0, .int p1] : List Value).toArray below meth c H locs 0 0 (MQ below (Qi D r_ [(h0, .inr (6, [.int thrown_, .ref h_this_s, .ref h_this_saved, .int savedMany_, .ref h_this_snapshot, .int hasSnapshot_, .ref h_this_text, .int length_, .ref h_this_lumps, .int lumpMany_, .ref h_this_order, .ref h_this_nears, .int partingSet_, .int partingWeight_, .int at_, .int isWell_, .ref h_this_told, .int toldMany_])), (h_this_s, .inl (cI, 103, .inl s_))] A) ([.ref h0, .int p1] : List Value).toArray s 0 0 A) (F0 m 51 ls [.int x6, .int x3]) := by
                intro x6 H locs ls h hw hl
                unfold f_X6_reached_J51 at h
                refine lv_ior hx hb dX6_reached_51 ?_
                refine lv_istore_n (lv' := [(2, .int (x3 ||| x6)), (0, .ref h0), (3, .int x2), (4, .int x4)]) hx hb dX6_reached_52 rfl hl (by decide) rfl (fun ls hl => ?_)
                refine lv_iinc (v := (x4 + (1 : Int32))) (lv' := [(4, .int (x4 + (1 : Int32))), (2, .int (x3 ||| x6)), (0, .ref h0), (3, .int x2)]) hx hb dX6_reached_53 hl (k := 3) rfl rfl (by decide) rfl (fun ls hl => ?_)
                refine lv_goto (tgt := 19) hx hb dX6_reached_56 (by decide) ?_
                exact ih19 (x3 ||| x6) (x4 + (1 : Int32)) _ _ _ h hw (lv_sub hl [2, 1, 3, 0] rfl)
              refine lv_icmp_ne (tgt := 50) hx hb dX6_reached_38 (by decide) (fun c1 => ?_) (fun c1 => ?_)
              · replace h := ig c1 h
                refine lv_iconst (v := 0) hx hb dX6_reached_50 (by decide) ?_
                exact J51 (0 : Int32) _ _ _ h hw (lv_sub hl [0, 2, 3] rfl)
              · replace h := ip c1 h
                refine lv_aload_n hx hb dX6_reached_41 rfl (lv_at hl 0 rfl) ?_
                refine lv_iload hx hb dX6_reached_42 (lv_at hl 3 rfl) ?_
                obtain ⟨r5, hc, h⟩ := bd1_inv h
                refine r_cVi X hw (As := [.int x4]) (rest := [.int x3]) (wr := []) (ws' := [(h0, .inr (6, [.int thrown_, .ref h_this_s, .ref h_this_saved, .int savedMany_, .ref h_this_snapshot, .int hasSnapshot_, .ref h_this_text, .int length_, .ref h_this_lumps, .int lumpMany_, .ref h_this_order, .ref h_this_nears, .int partingSet_, .int partingWeight_, .int at_, .int isWell_, .ref h_this_told, .int toldMany_])), (h_this_s, .inl (cI, 103, .inl s_))]) (c_X6_tiedTo l D cI cC cO N h0 h_this_s h_this_saved h_this_snapshot h_this_text h_this_lumps h_this_order h_this_nears h_this_told x4 thrown_ savedMany_ hasSnapshot_ length_ lumpMany_ partingSet_ partingWeight_ at_ isWell_ toldMany_ s_ r5 hc) (cs_X6_153 X (by decide)) [0, 1] [] [0, 1] rfl rfl rfl rfl (by decide) rfl rfl 0 rfl rfl rfl rfl hl.1 rfl (Nat.le_of_ble_eq_true rfl) dX6_reached_44 ⟨Nat.zero_le _, Nat.zero_le _⟩ (fun H locs hw => ?_)
                refine lv_goto (tgt := 51) hx hb dX6_reached_47 (by decide) ?_
                exact J51 r5 _ _ _ h hw (lv_sub hl [0, 2, 3] rfl)
        exact L19 (fun x10 => f_X6_reached_E59 (f_X6_reached_L6 N s_ k11 n13) x2 x10) (fun x10 H locs ls h hw hl => E59 x10 H locs ls h hw hl) N x1 (0 : Int32) _ _ _ h hw (lv_sub hl [1, 2, 3, 0] rfl)
  exact L6 (fun x14 => f_X6_reached_E65 x14) (fun x14 H locs ls h hw hl => E65 x14 H locs ls h hw hl) N ((1 : Int32) <<< (p1 &&& (31 : Int32))) (0 : Int32) _ _ _ h hw (lv_sub hl [2, 1, 0] rfl)
def rmX6_rankOf : Room := { frames := 5, cells := 0, slots := 0, locals := 118 }
set_option maxHeartbeats 4000000 in
set_option maxRecDepth 100000 in
theorem c_X6_rankOf (l : Launch) (D : va_G) (cI cC cO : ClassId) (N : Nat) (h0 h_this_s h_this_saved h_this_snapshot h_this_text h_this_lumps h_this_order h_this_nears h_this_told : Nat) (p1 thrown_ savedMany_ hasSnapshot_ length_ lumpMany_ partingSet_ partingWeight_ at_ isWell_ toldMany_ : Int32) (s_ lumps_ order_ nears_ : Nat → Int32) (r_ : Int32) (lumpMany_' : Int32) (partingSet_' : Int32) (partingWeight_' : Int32) (lumps_' : Nat → Int32) (order_' : Nat → Int32) (nears_' : Nat → Int32) (h : f_X6_rankOf N p1 s_ lumps_ order_ nears_ = some (r_, lumpMany_', partingSet_', partingWeight_', lumps_', order_', nears_')) : CI l yX6_rankOf (Wy yX6_rankOf cX6_rankOf 3 (some .int)) rmX6_rankOf D cI cC cO [.ref h0, .int p1] [(h0, .inr (6, [.int thrown_, .ref h_this_s, .ref h_this_saved, .int savedMany_, .ref h_this_snapshot, .int hasSnapshot_, .ref h_this_text, .int length_, .ref h_this_lumps, .int lumpMany_, .ref h_this_order, .ref h_this_nears, .int partingSet_, .int partingWeight_, .int at_, .int isWell_, .ref h_this_told, .int toldMany_])), (h_this_s, .inl (cI, 103, .inl s_)), (h_this_lumps, .inl (cI, 10, .inl lumps_)), (h_this_order, .inl (cI, 10, .inl order_)), (h_this_nears, .inl (cI, 10, .inl nears_))] r_ [(h0, .inr (6, [.int thrown_, .ref h_this_s, .ref h_this_saved, .int savedMany_, .ref h_this_snapshot, .int hasSnapshot_, .ref h_this_text, .int length_, .ref h_this_lumps, .int lumpMany_', .ref h_this_order, .ref h_this_nears, .int partingSet_', .int partingWeight_', .int at_, .int isWell_, .ref h_this_told, .int toldMany_])), (h_this_s, .inl (cI, 103, .inl s_)), (h_this_lumps, .inl (cI, 10, .inl lumps_')), (h_this_order, .inl (cI, 10, .inl order_')), (h_this_nears, .inl (cI, 10, .inl nears_'))] := by
  refine enter_i RX6 (by decide) rfl (Nat.le_of_ble_eq_true rfl) ?_
  intro p e s m below meth c A X hr hlk hw ls hl
  have hx := X.1.1
  have hb := X.1.2.1
  have hl : lv_has ls 3 [(0, .ref h0), (1, .int p1)] := hl
  unfold f_X6_rankOf at h
  refine lv_aload_n hx hb dX6_rankOf_0 rfl (lv_at hl 0 rfl) ?_
  refine lv_iconst (v := 0) hx hb dX6_rankOf_1 (by decide) ?_
  obtain ⟨x1, x2, x3, a4, a5, a6, hc, h⟩ := bd6_inv h
  refine r_cVv X hw (As := [.int (0 : Int32)]) (rest := []) (wr := []) (ws' := [(h0, .inr (6, [.int thrown_, .ref h_this_s, .ref h_this_saved, .int savedMany_, .ref h_this_snapshot, .int hasSnapshot_, .ref h_this_text, .int length_, .ref h_this_lumps, .int x1, .ref h_this_order, .ref h_this_nears, .int x2, .int x3, .int at_, .int isWell_, .ref h_this_told, .int toldMany_])), (h_this_s, .inl (cI, 103, .inl s_)), (h_this_lumps, .inl (cI, 10, .inl a4)), (h_this_order, .inl (cI, 10, .inl a5)), (h_this_nears, .inl (cI, 10, .inl a6))]) (c_X6_laysPhase l D cI cC cO N h0 h_this_s h_this_saved h_this_snapshot h_this_text h_this_lumps h_this_order h_this_nears h_this_told (0 : Int32) thrown_ savedMany_ hasSnapshot_ length_ lumpMany_ partingSet_ partingWeight_ at_ isWell_ toldMany_ s_ lumps_ order_ nears_ x1 x2 x3 a4 a5 a6 hc) (cs_X6_98 X (by decide)) [0, 1, 2, 3, 4] [] [0, 1, 2, 3, 4] rfl rfl rfl rfl (by decide) rfl rfl 0 rfl rfl rfl rfl hl.1 rfl (Nat.le_of_ble_eq_true rfl) dX6_rankOf_2 ⟨Nat.zero_le _, Nat.zero_le _⟩ (fun H locs hw => ?_)
  refine lv_iconst (v := 0) hx hb dX6_rankOf_5 (by decide) ?_
  refine lv_istore_n (lv' := [(2, .int (0 : Int32)), (0, .ref h0), (1, .int p1)]) hx hb dX6_rankOf_6 rfl hl (by decide) rfl (fun ls hl => ?_)
  have E25 : ∀ (x11 : Int32) (H : Heap) (locs : List Loc) (ls : Array Slot), f_X6_rankOf_E25 x1 x2 x3 a4 a5 a6 x11 = some (r_, lumpMany_', partingSet_', partingWeight_', lumps_', order_', nears_') → Wd D A s.heap [(h0, .inr (6, [.int thrown_, .ref h_this_s, .ref h_this_saved, .int savedMany_, .ref h_this_snapshot, .int hasSnapshot_, .ref h_this_text, .int length_, .ref h_this_lumps, .int x1, .ref h_this_order, .ref h_this_nears, .int x2, .int x3, .int at_, .int isWell_, .ref h_this_told, .int toldMany_])), (h_this_s, .inl (cI, 103, .inl s_)), (h_this_lumps, .inl (cI, 10, .inl a4)), (h_this_order, .inl (cI, 10, .inl a5)), (h_this_nears, .inl (cI, 10, .inl a6))] H locs → lv_has ls 3 [(2, .int x11)] → W p l e rmX6_rankOf s m ([.ref h0, .int p1] : List Value).toArray below meth c H locs 0 0 (MQ below (Qi D r_ [(h0, .inr (6, [.int thrown_, .ref h_this_s, .ref h_this_saved, .int savedMany_, .ref h_this_snapshot, .int hasSnapshot_, .ref h_this_text, .int length_, .ref h_this_lumps, .int lumpMany_', .ref h_this_order, .ref h_this_nears, .int partingSet_', .int partingWeight_', .int at_, .int isWell_, .ref h_this_told, .int toldMany_])), (h_this_s, .inl (cI, 103, .inl s_)), (h_this_lumps, .inl (cI, 10, .inl lumps_')), (h_this_order, .inl (cI, 10, .inl order_')), (h_this_nears, .inl (cI, 10, .inl nears_'))] A) ([.ref h0, .int p1] : List Value).toArray s 0 0 A) (F0 m 25 ls []) := by
    intro x11 H locs ls h hw hl
    unfold f_X6_rankOf_E25 at h
    refine lv_iload_n hx hb dX6_rankOf_25 rfl (lv_at hl 0 rfl) ?_
    obtain ⟨rfl, rfl, rfl, rfl, rfl, rfl, rfl⟩ := oi7 h
    exact r_ret X hw hr hlk dX6_rankOf_26
  have L7 : ∀ (k8 : Int32 → Option (Int32 × Int32 × Int32 × Int32 × (Nat → Int32) × (Nat → Int32) × (Nat → Int32))), (∀ (x11 : Int32) (H : Heap) (locs : List Loc) (ls : Array Slot), k8 x11 = some (r_, lumpMany_', partingSet_', partingWeight_', lumps_', order_', nears_') → Wd D A s.heap [(h0, .inr (6, [.int thrown_, .ref h_this_s, .ref h_this_saved, .int savedMany_, .ref h_this_snapshot, .int hasSnapshot_, .ref h_this_text, .int length_, .ref h_this_lumps, .int x1, .ref h_this_order, .ref h_this_nears, .int x2, .int x3, .int at_, .int isWell_, .ref h_this_told, .int toldMany_])), (h_this_s, .inl (cI, 103, .inl s_)), (h_this_lumps, .inl (cI, 10, .inl a4)), (h_this_order, .inl (cI, 10, .inl a5)), (h_this_nears, .inl (cI, 10, .inl a6))] H locs → lv_has ls 3 [(2, .int x11)] → W p l e rmX6_rankOf s m ([.ref h0, .int p1] : List Value).toArray below meth c H locs 0 0 (MQ below (Qi D r_ [(h0, .inr (6, [.int thrown_, .ref h_this_s, .ref h_this_saved, .int savedMany_, .ref h_this_snapshot, .int hasSnapshot_, .ref h_this_text, .int length_, .ref h_this_lumps, .int lumpMany_', .ref h_this_order, .ref h_this_nears, .int partingSet_', .int partingWeight_', .int at_, .int isWell_, .ref h_this_told, .int toldMany_])), (h_this_s, .inl (cI, 103, .inl s_)), (h_this_lumps, .inl (cI, 10, .inl lumps_')), (h_this_order, .inl (cI, 10, .inl order_')), (h_this_nears, .inl (cI, 10, .inl nears_'))] A) ([.ref h0, .int p1] : List Value).toArray s 0 0 A) (F0 m 25 ls [])) → ∀ (n10 : Nat), ∀ (x7 : Int32) (H : Heap) (locs : List Loc) (ls : Array Slot), f_X6_rankOf_L7 a5 p1 k8 n10 x7 = some (r_, lumpMany_', partingSet_', partingWeight_', lumps_', order_', nears_') → Wd D A s.heap [(h0, .inr (6, [.int thrown_, .ref h_this_s, .ref h_this_saved, .int savedMany_, .ref h_this_snapshot, .int hasSnapshot_, .ref h_this_text, .int length_, .ref h_this_lumps, .int x1, .ref h_this_order, .ref h_this_nears, .int x2, .int x3, .int at_, .int isWell_, .ref h_this_told, .int toldMany_])), (h_this_s, .inl (cI, 103, .inl s_)), (h_this_lumps, .inl (cI, 10, .inl a4)), (h_this_order, .inl (cI, 10, .inl a5)), (h_this_nears, .inl (cI, 10, .inl a6))] H locs → lv_has ls 3 [(0, .ref h0), (1, .int p1), (2, .int x7)] → W p l e rmX6_rankOf s m ([.ref h0, .int p1] : List Value).toArray below meth c H locs 0 0 (MQ below (Qi D r_ [(h0, .inr (6, [.int thrown_, .ref h_this_s, .ref h_this_saved, .int savedMany_, .ref h_this_snapshot, .int hasSnapshot_, .ref h_this_text, .int length_, .ref h_this_lumps, .int lumpMany_', .ref h_this_order, .ref h_this_nears, .int partingSet_', .int partingWeight_', .int at_, .int isWell_, .ref h_this_told, .int toldMany_])), (h_this_s, .inl (cI, 103, .inl s_)), (h_this_lumps, .inl (cI, 10, .inl lumps_')), (h_this_order, .inl (cI, 10, .inl order_')), (h_this_nears, .inl (cI, 10, .inl nears_'))] A) ([.ref h0, .int p1] : List Value).toArray s 0 0 A) (F0 m 7 ls []) := by
    intro k8 hk7 n10
    induction n10 with
    | zero => intro x7 H locs ls h; cases h
    | succ n10 ih7 =>
      intro x7 H locs ls h hw hl
      rw [f_X6_rankOf_L7] at h
      refine lv_aload_n hx hb dX6_rankOf_7 rfl (lv_at hl 0 rfl) ?_
      refine fg_X6_25 X hw 0 rfl rfl dX6_rankOf_8 ?_
      refine lv_iload_n hx hb dX6_rankOf_11 rfl (lv_at hl 2 rfl) ?_
      obtain ⟨b1, h⟩ := chk_inv h
      refine r_iald X hw 3 rfl b1 rfl dX6_rankOf_12 ?_
      refine lv_iconst (v := 1) hx hb dX6_rankOf_13 (by decide) ?_
      refine lv_iload_n hx hb dX6_rankOf_14 rfl (lv_at hl 1 rfl) ?_
      refine lv_ishl hx hb dX6_rankOf_15 ?_
      refine lv_icmp_eq (tgt := 25) hx hb dX6_rankOf_16 (by decide) (fun c1 => ?_) (fun c1 => ?_)
      · replace h := ip c1 h
        exact hk7 x7 _ _ _ h hw (lv_sub hl [2] rfl)
      · replace h := ig c1 h
        refine lv_iinc (v := (x7 + (1 : Int32))) (lv' := [(2, .int (x7 + (1 : Int32))), (0, .ref h0), (1, .int p1)]) hx hb dX6_rankOf_19 hl (k := 2) rfl rfl (by decide) rfl (fun ls hl => ?_)
        refine lv_goto (tgt := 7) hx hb dX6_rankOf_22 (by decide) ?_
        exact ih7 (x7 + (1 : Int32)) _ _ _ h hw (lv_sub hl [1, 2, 0] rfl)
  exact L7 (fun x11 => f_X6_rankOf_E25 x1 x2 x3 a4 a5 a6 x11) (fun x11 H locs ls h hw hl => E25 x11 H locs ls h hw hl) N (0 : Int32) _ _ _ h hw (lv_sub hl [1, 2, 0] rfl)
def rmX6_place : Room := { frames := 7, cells := 0, slots := 0, locals := 161 }
section
variable {p : Program} {l : Launch} {e : Env} {R : Room} {s : State} {m : MethodId} {args : Array Value} {below : List Frame} {meth : Method} {c : Code} {H : Heap} {locs : List Loc} {cells slots : Nat} {Q : State → Prop}
variable {cc : ByteArray} {pc nL : Nat} {ls : Array Slot} {rest : List Value} {D : va_G} {cI cC cO : ClassId} {A : Nat → Prop} {ws : va_W} {H0 : Heap}
theorem cs_X6_156 (X : Ctx p m c cc nL s args RX6 D cI cC cO) (hR : rmX6_reached.frames + 1 ≤ R.frames ∧ 8 + (5 + 11) + rmX6_reached.locals ≤ R.locals) : CallW R s args RX6 RX6 156 yX6_reached cX6_reached 5 (some .int) (Wy yX6_reached cX6_reached 5 (some .int)) rmX6_reached 0 0 1 := cwV 1 X.1.2.2.2.2 (gi_V tw_745 tw_747 sw_yX6_reached tw_7 tw_748) rfl rfl rfl (by decide +kernel) hR
theorem cs_X6_159 (X : Ctx p m c cc nL s args RX6 D cI cC cO) (hR : rmX6_tightMany.frames + 1 ≤ R.frames ∧ 8 + (5 + 11) + rmX6_tightMany.locals ≤ R.locals) : CallW R s args RX6 RX6 159 yX6_tightMany cX6_tightMany 5 (some .int) (Wy yX6_tightMany cX6_tightMany 5 (some .int)) rmX6_tightMany 0 0 1 := cwV 1 X.1.2.2.2.2 (gi_V tw_749 tw_751 sw_yX6_tightMany tw_7 tw_752) rfl rfl rfl (by decide +kernel) hR
theorem cs_X6_162 (X : Ctx p m c cc nL s args RX6 D cI cC cO) (hR : rmX6_rankOf.frames + 1 ≤ R.frames ∧ 8 + (3 + 11) + rmX6_rankOf.locals ≤ R.locals) : CallW R s args RX6 RX6 162 yX6_rankOf cX6_rankOf 3 (some .int) (Wy yX6_rankOf cX6_rankOf 3 (some .int)) rmX6_rankOf 0 0 1 := cwV 1 X.1.2.2.2.2 (gi_V tw_765 tw_767 sw_yX6_rankOf tw_7 tw_768) rfl rfl rfl (by decide +kernel) hR
end
set_option maxHeartbeats 4000000 in
set_option maxRecDepth 100000 in
theorem c_X6_place (l : Launch) (D : va_G) (cI cC cO : ClassId) (N : Nat) (h0 h_this_s h_this_saved h_this_snapshot h_this_text h_this_lumps h_this_order h_this_nears h_this_told : Nat) (p1 p2 thrown_ savedMany_ hasSnapshot_ length_ lumpMany_ partingSet_ partingWeight_ at_ isWell_ toldMany_ : Int32) (s_ lumps_ order_ nears_ : Nat → Int32) (r_ : Int32) (thrown_' : Int32) (lumpMany_' : Int32) (partingSet_' : Int32) (partingWeight_' : Int32) (lumps_' : Nat → Int32) (order_' : Nat → Int32) (nears_' : Nat → Int32) (h : f_X6_place N p1 p2 lumpMany_ partingSet_ partingWeight_ s_ lumps_ order_ nears_ = some (r_, thrown_', lumpMany_', partingSet_', partingWeight_', lumps_', order_', nears_')) : CI l yX6_place (Wy yX6_place cX6_place 3 (some .int)) rmX6_place D cI cC cO [.ref h0, .int p1, .int p2] [(h0, .inr (6, [.int thrown_, .ref h_this_s, .ref h_this_saved, .int savedMany_, .ref h_this_snapshot, .int hasSnapshot_, .ref h_this_text, .int length_, .ref h_this_lumps, .int lumpMany_, .ref h_this_order, .ref h_this_nears, .int partingSet_, .int partingWeight_, .int at_, .int isWell_, .ref h_this_told, .int toldMany_])), (h_this_s, .inl (cI, 103, .inl s_)), (h_this_lumps, .inl (cI, 10, .inl lumps_)), (h_this_order, .inl (cI, 10, .inl order_)), (h_this_nears, .inl (cI, 10, .inl nears_))] r_ [(h0, .inr (6, [.int thrown_', .ref h_this_s, .ref h_this_saved, .int savedMany_, .ref h_this_snapshot, .int hasSnapshot_, .ref h_this_text, .int length_, .ref h_this_lumps, .int lumpMany_', .ref h_this_order, .ref h_this_nears, .int partingSet_', .int partingWeight_', .int at_, .int isWell_, .ref h_this_told, .int toldMany_])), (h_this_s, .inl (cI, 103, .inl s_)), (h_this_lumps, .inl (cI, 10, .inl lumps_')), (h_this_order, .inl (cI, 10, .inl order_')), (h_this_nears, .inl (cI, 10, .inl nears_'))] := by
  refine enter_i RX6 (by decide) rfl (Nat.le_of_ble_eq_true rfl) ?_
  intro p e s m below meth c A X hr hlk hw ls hl
  have hx := X.1.1
  have hb := X.1.2.1
  have hl : lv_has ls 3 [(0, .ref h0), (1, .int p1), (2, .int p2)] := hl
  unfold f_X6_place at h
  refine lv_aload_n hx hb dX6_place_0 rfl (lv_at hl 0 rfl) ?_
  refine lv_iconst (v := 0) hx hb dX6_place_1 (by decide) ?_
  refine fp_X6_34 X hw 0 rfl rfl dX6_place_2 (fun H locs hw => ?_)
  have hw : Wd D A s.heap [(h0, .inr (6, [.int (0 : Int32), .ref h_this_s, .ref h_this_saved, .int savedMany_, .ref h_this_snapshot, .int hasSnapshot_, .ref h_this_text, .int length_, .ref h_this_lumps, .int lumpMany_, .ref h_this_order, .ref h_this_nears, .int partingSet_, .int partingWeight_, .int at_, .int isWell_, .ref h_this_told, .int toldMany_])), (h_this_s, .inl (cI, 103, .inl s_)), (h_this_lumps, .inl (cI, 10, .inl lumps_)), (h_this_order, .inl (cI, 10, .inl order_)), (h_this_nears, .inl (cI, 10, .inl nears_))] H locs := hw
  refine lv_aload_n hx hb dX6_place_5 rfl (lv_at hl 0 rfl) ?_
  refine lv_iload_n hx hb dX6_place_6 rfl (lv_at hl 1 rfl) ?_
  obtain ⟨r1, hc, h⟩ := bd1_inv h
  refine r_cVi X hw (As := [.int p1]) (rest := []) (wr := [(h_this_lumps, .inl (cI, 10, .inl lumps_)), (h_this_order, .inl (cI, 10, .inl order_)), (h_this_nears, .inl (cI, 10, .inl nears_))]) (ws' := [(h0, .inr (6, [.int (0 : Int32), .ref h_this_s, .ref h_this_saved, .int savedMany_, .ref h_this_snapshot, .int hasSnapshot_, .ref h_this_text, .int length_, .ref h_this_lumps, .int lumpMany_, .ref h_this_order, .ref h_this_nears, .int partingSet_, .int partingWeight_, .int at_, .int isWell_, .ref h_this_told, .int toldMany_])), (h_this_s, .inl (cI, 103, .inl s_)), (h_this_lumps, .inl (cI, 10, .inl lumps_)), (h_this_order, .inl (cI, 10, .inl order_)), (h_this_nears, .inl (cI, 10, .inl nears_))]) (c_X6_isPlace l D cI cC cO h0 h_this_s h_this_saved h_this_snapshot h_this_text h_this_lumps h_this_order h_this_nears h_this_told p1 (0 : Int32) savedMany_ hasSnapshot_ length_ lumpMany_ partingSet_ partingWeight_ at_ isWell_ toldMany_ s_ r1 hc) (cs_X6_108 X (by decide)) [0, 1] [2, 3, 4] [3, 4, 0, 1, 2] rfl rfl rfl rfl (by decide) rfl rfl 0 rfl rfl rfl rfl hl.1 rfl (Nat.le_of_ble_eq_true rfl) dX6_place_7 ⟨Nat.zero_le _, Nat.zero_le _⟩ (fun H locs hw => ?_)
  refine lv_if_ne (tgt := 15) hx hb dX6_place_10 (by decide) (fun c1 => ?_) (fun c1 => ?_)
  · replace h := ig c1 h
    refine lv_iload_n hx hb dX6_place_15 rfl (lv_at hl 2 rfl) ?_
    by_cases c0 : p2 = (0 : Int32)
    · replace h := ip c0 h
      refine lv_tableIn hx hb dX6_place_16 (by rw [c0]; decide) (by rw [c0]; decide) (by rw [c0]; rfl) (tgt := 56) (by decide) ?_
      refine lv_aload_n hx hb dX6_place_56 rfl (lv_at hl 0 rfl) ?_
      refine lv_iconst (v := 1) hx hb dX6_place_57 (by decide) ?_
      refine lv_iload_n hx hb dX6_place_58 rfl (lv_at hl 1 rfl) ?_
      refine lv_ishl hx hb dX6_place_59 ?_
      obtain ⟨r2, hc, h⟩ := bd1_inv h
      refine r_cVi X hw (As := [.int ((1 : Int32) <<< (p1 &&& (31 : Int32)))]) (rest := []) (wr := [(h_this_lumps, .inl (cI, 10, .inl lumps_)), (h_this_order, .inl (cI, 10, .inl order_)), (h_this_nears, .inl (cI, 10, .inl nears_))]) (ws' := [(h0, .inr (6, [.int (0 : Int32), .ref h_this_s, .ref h_this_saved, .int savedMany_, .ref h_this_snapshot, .int hasSnapshot_, .ref h_this_text, .int length_, .ref h_this_lumps, .int lumpMany_, .ref h_this_order, .ref h_this_nears, .int partingSet_, .int partingWeight_, .int at_, .int isWell_, .ref h_this_told, .int toldMany_])), (h_this_s, .inl (cI, 103, .inl s_)), (h_this_lumps, .inl (cI, 10, .inl lumps_)), (h_this_order, .inl (cI, 10, .inl order_)), (h_this_nears, .inl (cI, 10, .inl nears_))]) (c_X6_weightOf l D cI cC cO N h0 h_this_s h_this_saved h_this_snapshot h_this_text h_this_lumps h_this_order h_this_nears h_this_told ((1 : Int32) <<< (p1 &&& (31 : Int32))) (0 : Int32) savedMany_ hasSnapshot_ length_ lumpMany_ partingSet_ partingWeight_ at_ isWell_ toldMany_ s_ r2 hc) (cs_X6_60 X (by decide)) [0, 1] [2, 3, 4] [3, 4, 0, 1, 2] rfl rfl rfl rfl (by decide) rfl rfl 0 rfl rfl rfl rfl hl.1 rfl (Nat.le_of_ble_eq_true rfl) dX6_place_60 ⟨Nat.zero_le _, Nat.zero_le _⟩ (fun H locs hw => ?_)
      obtain ⟨rfl, rfl, rfl, rfl, rfl, rfl, rfl, rfl⟩ := oi8 h
      exact r_ret X hw hr hlk dX6_place_63
    replace h := ig c0 h
    by_cases c1 : p2 = (1 : Int32)
    · replace h := ip c1 h
      refine lv_tableIn hx hb dX6_place_16 (by rw [c1]; decide) (by rw [c1]; decide) (by rw [c1]; rfl) (tgt := 64) (by decide) ?_
      refine lv_aload_n hx hb dX6_place_64 rfl (lv_at hl 0 rfl) ?_
      refine lv_iload_n hx hb dX6_place_65 rfl (lv_at hl 1 rfl) ?_
      obtain ⟨r3, hc, h⟩ := bd1_inv h
      refine r_cVi X hw (As := [.int p1]) (rest := []) (wr := [(h_this_lumps, .inl (cI, 10, .inl lumps_)), (h_this_order, .inl (cI, 10, .inl order_)), (h_this_nears, .inl (cI, 10, .inl nears_))]) (ws' := [(h0, .inr (6, [.int (0 : Int32), .ref h_this_s, .ref h_this_saved, .int savedMany_, .ref h_this_snapshot, .int hasSnapshot_, .ref h_this_text, .int length_, .ref h_this_lumps, .int lumpMany_, .ref h_this_order, .ref h_this_nears, .int partingSet_, .int partingWeight_, .int at_, .int isWell_, .ref h_this_told, .int toldMany_])), (h_this_s, .inl (cI, 103, .inl s_)), (h_this_lumps, .inl (cI, 10, .inl lumps_)), (h_this_order, .inl (cI, 10, .inl order_)), (h_this_nears, .inl (cI, 10, .inl nears_))]) (c_X6_tiedTo l D cI cC cO N h0 h_this_s h_this_saved h_this_snapshot h_this_text h_this_lumps h_this_order h_this_nears h_this_told p1 (0 : Int32) savedMany_ hasSnapshot_ length_ lumpMany_ partingSet_ partingWeight_ at_ isWell_ toldMany_ s_ r3 hc) (cs_X6_153 X (by decide)) [0, 1] [2, 3, 4] [3, 4, 0, 1, 2] rfl rfl rfl rfl (by decide) rfl rfl 0 rfl rfl rfl rfl hl.1 rfl (Nat.le_of_ble_eq_true rfl) dX6_place_66 ⟨Nat.zero_le _, Nat.zero_le _⟩ (fun H locs hw => ?_)
      obtain ⟨rfl, rfl, rfl, rfl, rfl, rfl, rfl, rfl⟩ := oi8 h
      exact r_ret X hw hr hlk dX6_place_69
    replace h := ig c1 h
    by_cases c2 : p2 = (2 : Int32)
    · replace h := ip c2 h
      refine lv_tableIn hx hb dX6_place_16 (by rw [c2]; decide) (by rw [c2]; decide) (by rw [c2]; rfl) (tgt := 70) (by decide) ?_
      refine lv_aload_n hx hb dX6_place_70 rfl (lv_at hl 0 rfl) ?_
      refine lv_iload_n hx hb dX6_place_71 rfl (lv_at hl 1 rfl) ?_
      obtain ⟨r4, hc, h⟩ := bd1_inv h
      refine r_cVi X hw (As := [.int p1]) (rest := []) (wr := [(h_this_lumps, .inl (cI, 10, .inl lumps_)), (h_this_order, .inl (cI, 10, .inl order_)), (h_this_nears, .inl (cI, 10, .inl nears_))]) (ws' := [(h0, .inr (6, [.int (0 : Int32), .ref h_this_s, .ref h_this_saved, .int savedMany_, .ref h_this_snapshot, .int hasSnapshot_, .ref h_this_text, .int length_, .ref h_this_lumps, .int lumpMany_, .ref h_this_order, .ref h_this_nears, .int partingSet_, .int partingWeight_, .int at_, .int isWell_, .ref h_this_told, .int toldMany_])), (h_this_s, .inl (cI, 103, .inl s_)), (h_this_lumps, .inl (cI, 10, .inl lumps_)), (h_this_order, .inl (cI, 10, .inl order_)), (h_this_nears, .inl (cI, 10, .inl nears_))]) (c_X6_reached l D cI cC cO N h0 h_this_s h_this_saved h_this_snapshot h_this_text h_this_lumps h_this_order h_this_nears h_this_told p1 (0 : Int32) savedMany_ hasSnapshot_ length_ lumpMany_ partingSet_ partingWeight_ at_ isWell_ toldMany_ s_ r4 hc) (cs_X6_156 X (by decide)) [0, 1] [2, 3, 4] [3, 4, 0, 1, 2] rfl rfl rfl rfl (by decide) rfl rfl 0 rfl rfl rfl rfl hl.1 rfl (Nat.le_of_ble_eq_true rfl) dX6_place_72 ⟨Nat.zero_le _, Nat.zero_le _⟩ (fun H locs hw => ?_)
      obtain ⟨rfl, rfl, rfl, rfl, rfl, rfl, rfl, rfl⟩ := oi8 h
      exact r_ret X hw hr hlk dX6_place_75
    replace h := ig c2 h
    by_cases c3 : p2 = (3 : Int32)
    · replace h := ip c3 h
      refine lv_tableIn hx hb dX6_place_16 (by rw [c3]; decide) (by rw [c3]; decide) (by rw [c3]; rfl) (tgt := 76) (by decide) ?_
      refine lv_aload_n hx hb dX6_place_76 rfl (lv_at hl 0 rfl) ?_
      refine lv_iload_n hx hb dX6_place_77 rfl (lv_at hl 1 rfl) ?_
      obtain ⟨r5, hc, h⟩ := bd1_inv h
      refine r_cVi X hw (As := [.int p1]) (rest := []) (wr := [(h_this_lumps, .inl (cI, 10, .inl lumps_)), (h_this_order, .inl (cI, 10, .inl order_)), (h_this_nears, .inl (cI, 10, .inl nears_))]) (ws' := [(h0, .inr (6, [.int (0 : Int32), .ref h_this_s, .ref h_this_saved, .int savedMany_, .ref h_this_snapshot, .int hasSnapshot_, .ref h_this_text, .int length_, .ref h_this_lumps, .int lumpMany_, .ref h_this_order, .ref h_this_nears, .int partingSet_, .int partingWeight_, .int at_, .int isWell_, .ref h_this_told, .int toldMany_])), (h_this_s, .inl (cI, 103, .inl s_)), (h_this_lumps, .inl (cI, 10, .inl lumps_)), (h_this_order, .inl (cI, 10, .inl order_)), (h_this_nears, .inl (cI, 10, .inl nears_))]) (c_X6_tightMany l D cI cC cO N h0 h_this_s h_this_saved h_this_snapshot h_this_text h_this_lumps h_this_order h_this_nears h_this_told p1 (0 : Int32) savedMany_ hasSnapshot_ length_ lumpMany_ partingSet_ partingWeight_ at_ isWell_ toldMany_ s_ r5 hc) (cs_X6_159 X (by decide)) [0, 1] [2, 3, 4] [3, 4, 0, 1, 2] rfl rfl rfl rfl (by decide) rfl rfl 0 rfl rfl rfl rfl hl.1 rfl (Nat.le_of_ble_eq_true rfl) dX6_place_78 ⟨Nat.zero_le _, Nat.zero_le _⟩ (fun H locs hw => ?_)
      obtain ⟨rfl, rfl, rfl, rfl, rfl, rfl, rfl, rfl⟩ := oi8 h
      exact r_ret X hw hr hlk dX6_place_81
    replace h := ig c3 h
    by_cases c4 : p2 = (4 : Int32)
    · replace h := ip c4 h
      refine lv_tableIn hx hb dX6_place_16 (by rw [c4]; decide) (by rw [c4]; decide) (by rw [c4]; rfl) (tgt := 82) (by decide) ?_
      refine lv_aload_n hx hb dX6_place_82 rfl (lv_at hl 0 rfl) ?_
      refine lv_iload_n hx hb dX6_place_83 rfl (lv_at hl 1 rfl) ?_
      obtain ⟨r6, x7, x8, x9, a10, a11, a12, hc, h⟩ := bd7_inv h
      refine r_cVi X hw (As := [.int p1]) (rest := []) (wr := []) (ws' := [(h0, .inr (6, [.int (0 : Int32), .ref h_this_s, .ref h_this_saved, .int savedMany_, .ref h_this_snapshot, .int hasSnapshot_, .ref h_this_text, .int length_, .ref h_this_lumps, .int x7, .ref h_this_order, .ref h_this_nears, .int x8, .int x9, .int at_, .int isWell_, .ref h_this_told, .int toldMany_])), (h_this_s, .inl (cI, 103, .inl s_)), (h_this_lumps, .inl (cI, 10, .inl a10)), (h_this_order, .inl (cI, 10, .inl a11)), (h_this_nears, .inl (cI, 10, .inl a12))]) (c_X6_rankOf l D cI cC cO N h0 h_this_s h_this_saved h_this_snapshot h_this_text h_this_lumps h_this_order h_this_nears h_this_told p1 (0 : Int32) savedMany_ hasSnapshot_ length_ lumpMany_ partingSet_ partingWeight_ at_ isWell_ toldMany_ s_ lumps_ order_ nears_ r6 x7 x8 x9 a10 a11 a12 hc) (cs_X6_162 X (by decide)) [0, 1, 2, 3, 4] [] [0, 1, 2, 3, 4] rfl rfl rfl rfl (by decide) rfl rfl 0 rfl rfl rfl rfl hl.1 rfl (Nat.le_of_ble_eq_true rfl) dX6_place_84 ⟨Nat.zero_le _, Nat.zero_le _⟩ (fun H locs hw => ?_)
      obtain ⟨rfl, rfl, rfl, rfl, rfl, rfl, rfl, rfl⟩ := oi8 h
      exact r_ret X hw hr hlk dX6_place_87
    replace h := ig c4 h
    by_cases c5 : p2 = (5 : Int32)
    · replace h := ip c5 h
      refine lv_tableIn hx hb dX6_place_16 (by rw [c5]; decide) (by rw [c5]; decide) (by rw [c5]; rfl) (tgt := 88) (by decide) ?_
      refine lv_aload_n hx hb dX6_place_88 rfl (lv_at hl 0 rfl) ?_
      refine fg_X6_28 X hw 0 rfl rfl dX6_place_89 ?_
      refine lv_aload_n hx hb dX6_place_92 rfl (lv_at hl 0 rfl) ?_
      refine lv_iload_n hx hb dX6_place_93 rfl (lv_at hl 1 rfl) ?_
      obtain ⟨r13, x14, x15, x16, a17, a18, a19, hc, h⟩ := bd7_inv h
      refine r_cVi X hw (As := [.int p1]) (rest := [.ref h_this_nears]) (wr := []) (ws' := [(h0, .inr (6, [.int (0 : Int32), .ref h_this_s, .ref h_this_saved, .int savedMany_, .ref h_this_snapshot, .int hasSnapshot_, .ref h_this_text, .int length_, .ref h_this_lumps, .int x14, .ref h_this_order, .ref h_this_nears, .int x15, .int x16, .int at_, .int isWell_, .ref h_this_told, .int toldMany_])), (h_this_s, .inl (cI, 103, .inl s_)), (h_this_lumps, .inl (cI, 10, .inl a17)), (h_this_order, .inl (cI, 10, .inl a18)), (h_this_nears, .inl (cI, 10, .inl a19))]) (c_X6_rankOf l D cI cC cO N h0 h_this_s h_this_saved h_this_snapshot h_this_text h_this_lumps h_this_order h_this_nears h_this_told p1 (0 : Int32) savedMany_ hasSnapshot_ length_ lumpMany_ partingSet_ partingWeight_ at_ isWell_ toldMany_ s_ lumps_ order_ nears_ r13 x14 x15 x16 a17 a18 a19 hc) (cs_X6_162 X (by decide)) [0, 1, 2, 3, 4] [] [0, 1, 2, 3, 4] rfl rfl rfl rfl (by decide) rfl rfl 0 rfl rfl rfl rfl hl.1 rfl (Nat.le_of_ble_eq_true rfl) dX6_place_94 ⟨Nat.zero_le _, Nat.zero_le _⟩ (fun H locs hw => ?_)
      obtain ⟨b1, h⟩ := chk_inv h
      refine r_iald X hw 4 rfl b1 rfl dX6_place_97 ?_
      obtain ⟨rfl, rfl, rfl, rfl, rfl, rfl, rfl, rfl⟩ := oi8 h
      exact r_ret X hw hr hlk dX6_place_98
    replace h := ig c5 h
    have e0 := lv_neT c0 (a := 0) (by decide)
    have e1 := lv_neT c1 (a := 1) (by decide)
    have e2 := lv_neT c2 (a := 2) (by decide)
    have e3 := lv_neT c3 (a := 3) (by decide)
    have e4 := lv_neT c4 (a := 4) (by decide)
    have e5 := lv_neT c5 (a := 5) (by decide)
    refine lv_tableOut hx hb dX6_place_16 (by omega) (tgt := 99) (by decide) ?_
    refine lv_bipush (v := -2) hx hb dX6_place_99 (by decide) ?_
    obtain ⟨rfl, rfl, rfl, rfl, rfl, rfl, rfl, rfl⟩ := oi8 h
    exact r_ret X hw hr hlk dX6_place_101
  · replace h := ip c1 h
    refine lv_iconst (v := -1) hx hb dX6_place_13 (by decide) ?_
    obtain ⟨rfl, rfl, rfl, rfl, rfl, rfl, rfl, rfl⟩ := oi8 h
    exact r_ret X hw hr hlk dX6_place_14
def rmX6_isPhase : Room := { frames := 1, cells := 0, slots := 0, locals := 22 }
set_option maxHeartbeats 4000000 in
set_option maxRecDepth 100000 in
theorem c_X6_isPhase (l : Launch) (D : va_G) (cI cC cO : ClassId) (h0 h_this_s h_this_saved h_this_snapshot h_this_text h_this_lumps h_this_order h_this_nears h_this_told : Nat) (p1 thrown_ savedMany_ hasSnapshot_ length_ lumpMany_ partingSet_ partingWeight_ at_ isWell_ toldMany_ : Int32) (s_ : Nat → Int32) (r_ : Int32) (h : f_X6_isPhase p1 s_ = some r_) : CI l yX6_isPhase (Wy yX6_isPhase cX6_isPhase 2 (some .boolean)) rmX6_isPhase D cI cC cO [.ref h0, .int p1] [(h0, .inr (6, [.int thrown_, .ref h_this_s, .ref h_this_saved, .int savedMany_, .ref h_this_snapshot, .int hasSnapshot_, .ref h_this_text, .int length_, .ref h_this_lumps, .int lumpMany_, .ref h_this_order, .ref h_this_nears, .int partingSet_, .int partingWeight_, .int at_, .int isWell_, .ref h_this_told, .int toldMany_])), (h_this_s, .inl (cI, 103, .inl s_))] r_ [(h0, .inr (6, [.int thrown_, .ref h_this_s, .ref h_this_saved, .int savedMany_, .ref h_this_snapshot, .int hasSnapshot_, .ref h_this_text, .int length_, .ref h_this_lumps, .int lumpMany_, .ref h_this_order, .ref h_this_nears, .int partingSet_, .int partingWeight_, .int at_, .int isWell_, .ref h_this_told, .int toldMany_])), (h_this_s, .inl (cI, 103, .inl s_))] := by
  refine enter_i RX6 (by decide) rfl (Nat.le_of_ble_eq_true rfl) ?_
  intro p e s m below meth c A X hr hlk hw ls hl
  have hx := X.1.1
  have hb := X.1.2.1
  have hl : lv_has ls 2 [(0, .ref h0), (1, .int p1)] := hl
  unfold f_X6_isPhase at h
  refine lv_iload_n hx hb dX6_isPhase_0 rfl (lv_at hl 1 rfl) ?_
  refine lv_iconst (v := 0) hx hb dX6_isPhase_1 (by decide) ?_
  refine lv_aload_n hx hb dX6_isPhase_2 rfl (lv_at hl 0 rfl) ?_
  refine fg_X6_7 X hw 0 rfl rfl dX6_isPhase_3 ?_
  refine lv_iconst (v := 0) hx hb dX6_isPhase_6 (by decide) ?_
  refine r_iald X hw 1 rfl (v := (s_ 0)) (vp_lit (by decide)) rfl dX6_isPhase_7 ?_
  refine lv_iconst (v := 2) hx hb dX6_isPhase_8 (by decide) ?_
  refine lv_isub hx hb dX6_isPhase_9 ?_
  obtain ⟨r1, hc, h⟩ := bd1_inv h
  refine r_cSi X hw (As := [.int p1, .int (0 : Int32), .int ((s_ 0) - (2 : Int32))]) (rest := []) (c_X6_in l D cI cC cO p1 (0 : Int32) ((s_ 0) - (2 : Int32)) r1 hc) (cs_X6_38 X (by decide)) rfl hl.1 rfl (Nat.le_of_ble_eq_true rfl) dX6_isPhase_10 ⟨Nat.zero_le _, Nat.zero_le _⟩ (fun H locs hw => ?_)
  obtain ⟨b1, h⟩ := chkB_inv h
  obtain rfl := oi1 h
  exact r_retz X hw hr b1 hlk dX6_isPhase_13
def rmX6_phase : Room := { frames := 5, cells := 0, slots := 0, locals := 118 }
section
variable {p : Program} {l : Launch} {e : Env} {R : Room} {s : State} {m : MethodId} {args : Array Value} {below : List Frame} {meth : Method} {c : Code} {H : Heap} {locs : List Loc} {cells slots : Nat} {Q : State → Prop}
variable {cc : ByteArray} {pc nL : Nat} {ls : Array Slot} {rest : List Value} {D : va_G} {cI cC cO : ClassId} {A : Nat → Prop} {ws : va_W} {H0 : Heap}
theorem cs_X6_165 (X : Ctx p m c cc nL s args RX6 D cI cC cO) (hR : rmX6_isPhase.frames + 1 ≤ R.frames ∧ 8 + (2 + 11) + rmX6_isPhase.locals ≤ R.locals) : CallW R s args RX6 RX6 165 yX6_isPhase cX6_isPhase 2 (some .boolean) (Wy yX6_isPhase cX6_isPhase 2 (some .boolean)) rmX6_isPhase 0 0 1 := cwV 1 X.1.2.2.2.2 (gi_V tw_773 tw_775 sw_yX6_isPhase tw_7 tw_776) rfl rfl rfl (by decide +kernel) hR
end
set_option maxHeartbeats 4000000 in
set_option maxRecDepth 100000 in
theorem c_X6_phase (l : Launch) (D : va_G) (cI cC cO : ClassId) (N : Nat) (h0 h_this_s h_this_saved h_this_snapshot h_this_text h_this_lumps h_this_order h_this_nears h_this_told : Nat) (p1 p2 thrown_ savedMany_ hasSnapshot_ length_ lumpMany_ partingSet_ partingWeight_ at_ isWell_ toldMany_ : Int32) (s_ lumps_ order_ nears_ : Nat → Int32) (r_ : Int32) (thrown_' : Int32) (lumpMany_' : Int32) (partingSet_' : Int32) (partingWeight_' : Int32) (lumps_' : Nat → Int32) (order_' : Nat → Int32) (nears_' : Nat → Int32) (h : f_X6_phase N p1 p2 lumpMany_ partingSet_ partingWeight_ s_ lumps_ order_ nears_ = some (r_, thrown_', lumpMany_', partingSet_', partingWeight_', lumps_', order_', nears_')) : CI l yX6_phase (Wy yX6_phase cX6_phase 5 (some .int)) rmX6_phase D cI cC cO [.ref h0, .int p1, .int p2] [(h0, .inr (6, [.int thrown_, .ref h_this_s, .ref h_this_saved, .int savedMany_, .ref h_this_snapshot, .int hasSnapshot_, .ref h_this_text, .int length_, .ref h_this_lumps, .int lumpMany_, .ref h_this_order, .ref h_this_nears, .int partingSet_, .int partingWeight_, .int at_, .int isWell_, .ref h_this_told, .int toldMany_])), (h_this_s, .inl (cI, 103, .inl s_)), (h_this_lumps, .inl (cI, 10, .inl lumps_)), (h_this_order, .inl (cI, 10, .inl order_)), (h_this_nears, .inl (cI, 10, .inl nears_))] r_ [(h0, .inr (6, [.int thrown_', .ref h_this_s, .ref h_this_saved, .int savedMany_, .ref h_this_snapshot, .int hasSnapshot_, .ref h_this_text, .int length_, .ref h_this_lumps, .int lumpMany_', .ref h_this_order, .ref h_this_nears, .int partingSet_', .int partingWeight_', .int at_, .int isWell_, .ref h_this_told, .int toldMany_])), (h_this_s, .inl (cI, 103, .inl s_)), (h_this_lumps, .inl (cI, 10, .inl lumps_')), (h_this_order, .inl (cI, 10, .inl order_')), (h_this_nears, .inl (cI, 10, .inl nears_'))] := by
  refine enter_i RX6 (by decide) rfl (Nat.le_of_ble_eq_true rfl) ?_
  intro p e s m below meth c A X hr hlk hw ls hl
  have hx := X.1.1
  have hb := X.1.2.1
  have hl : lv_has ls 5 [(0, .ref h0), (1, .int p1), (2, .int p2)] := hl
  unfold f_X6_phase at h
  refine lv_aload_n hx hb dX6_phase_0 rfl (lv_at hl 0 rfl) ?_
  refine lv_iconst (v := 0) hx hb dX6_phase_1 (by decide) ?_
  refine fp_X6_34 X hw 0 rfl rfl dX6_phase_2 (fun H locs hw => ?_)
  have hw : Wd D A s.heap [(h0, .inr (6, [.int (0 : Int32), .ref h_this_s, .ref h_this_saved, .int savedMany_, .ref h_this_snapshot, .int hasSnapshot_, .ref h_this_text, .int length_, .ref h_this_lumps, .int lumpMany_, .ref h_this_order, .ref h_this_nears, .int partingSet_, .int partingWeight_, .int at_, .int isWell_, .ref h_this_told, .int toldMany_])), (h_this_s, .inl (cI, 103, .inl s_)), (h_this_lumps, .inl (cI, 10, .inl lumps_)), (h_this_order, .inl (cI, 10, .inl order_)), (h_this_nears, .inl (cI, 10, .inl nears_))] H locs := hw
  refine lv_aload_n hx hb dX6_phase_5 rfl (lv_at hl 0 rfl) ?_
  refine lv_iload_n hx hb dX6_phase_6 rfl (lv_at hl 1 rfl) ?_
  obtain ⟨r1, hc, h⟩ := bd1_inv h
  refine r_cVi X hw (As := [.int p1]) (rest := []) (wr := [(h_this_lumps, .inl (cI, 10, .inl lumps_)), (h_this_order, .inl (cI, 10, .inl order_)), (h_this_nears, .inl (cI, 10, .inl nears_))]) (ws' := [(h0, .inr (6, [.int (0 : Int32), .ref h_this_s, .ref h_this_saved, .int savedMany_, .ref h_this_snapshot, .int hasSnapshot_, .ref h_this_text, .int length_, .ref h_this_lumps, .int lumpMany_, .ref h_this_order, .ref h_this_nears, .int partingSet_, .int partingWeight_, .int at_, .int isWell_, .ref h_this_told, .int toldMany_])), (h_this_s, .inl (cI, 103, .inl s_)), (h_this_lumps, .inl (cI, 10, .inl lumps_)), (h_this_order, .inl (cI, 10, .inl order_)), (h_this_nears, .inl (cI, 10, .inl nears_))]) (c_X6_isPhase l D cI cC cO h0 h_this_s h_this_saved h_this_snapshot h_this_text h_this_lumps h_this_order h_this_nears h_this_told p1 (0 : Int32) savedMany_ hasSnapshot_ length_ lumpMany_ partingSet_ partingWeight_ at_ isWell_ toldMany_ s_ r1 hc) (cs_X6_165 X (by decide)) [0, 1] [2, 3, 4] [3, 4, 0, 1, 2] rfl rfl rfl rfl (by decide) rfl rfl 0 rfl rfl rfl rfl hl.1 rfl (Nat.le_of_ble_eq_true rfl) dX6_phase_7 ⟨Nat.zero_le _, Nat.zero_le _⟩ (fun H locs hw => ?_)
  refine lv_if_ne (tgt := 15) hx hb dX6_phase_10 (by decide) (fun c1 => ?_) (fun c1 => ?_)
  · replace h := ig c1 h
    refine lv_aload_n hx hb dX6_phase_15 rfl (lv_at hl 0 rfl) ?_
    refine lv_iload_n hx hb dX6_phase_16 rfl (lv_at hl 1 rfl) ?_
    obtain ⟨x2, x3, x4, a5, a6, a7, hc, h⟩ := bd6_inv h
    refine r_cVv X hw (As := [.int p1]) (rest := []) (wr := []) (ws' := [(h0, .inr (6, [.int (0 : Int32), .ref h_this_s, .ref h_this_saved, .int savedMany_, .ref h_this_snapshot, .int hasSnapshot_, .ref h_this_text, .int length_, .ref h_this_lumps, .int x2, .ref h_this_order, .ref h_this_nears, .int x3, .int x4, .int at_, .int isWell_, .ref h_this_told, .int toldMany_])), (h_this_s, .inl (cI, 103, .inl s_)), (h_this_lumps, .inl (cI, 10, .inl a5)), (h_this_order, .inl (cI, 10, .inl a6)), (h_this_nears, .inl (cI, 10, .inl a7))]) (c_X6_laysPhase l D cI cC cO N h0 h_this_s h_this_saved h_this_snapshot h_this_text h_this_lumps h_this_order h_this_nears h_this_told p1 (0 : Int32) savedMany_ hasSnapshot_ length_ lumpMany_ partingSet_ partingWeight_ at_ isWell_ toldMany_ s_ lumps_ order_ nears_ x2 x3 x4 a5 a6 a7 hc) (cs_X6_98 X (by decide)) [0, 1, 2, 3, 4] [] [0, 1, 2, 3, 4] rfl rfl rfl rfl (by decide) rfl rfl 0 rfl rfl rfl rfl hl.1 rfl (Nat.le_of_ble_eq_true rfl) dX6_phase_17 ⟨Nat.zero_le _, Nat.zero_le _⟩ (fun H locs hw => ?_)
    refine lv_aload_n hx hb dX6_phase_20 rfl (lv_at hl 0 rfl) ?_
    refine fg_X6_25 X hw 0 rfl rfl dX6_phase_21 ?_
    refine lv_aload_n hx hb dX6_phase_24 rfl (lv_at hl 0 rfl) ?_
    refine fg_X6_77 X hw 0 rfl rfl dX6_phase_25 ?_
    refine lv_iconst (v := 1) hx hb dX6_phase_28 (by decide) ?_
    refine lv_isub hx hb dX6_phase_29 ?_
    obtain ⟨b1, h⟩ := chk_inv h
    refine r_iald X hw 3 rfl b1 rfl dX6_phase_30 ?_
    refine lv_istore_n (lv' := [(3, .int (a6 ((x2 - (1 : Int32))).toNatClampNeg)), (0, .ref h0), (1, .int p1), (2, .int p2)]) hx hb dX6_phase_31 rfl hl (by decide) rfl (fun ls hl => ?_)
    refine lv_aload_n hx hb dX6_phase_32 rfl (lv_at hl 1 rfl) ?_
    refine fg_X6_25 X hw 0 rfl rfl dX6_phase_33 ?_
    refine lv_aload_n hx hb dX6_phase_36 rfl (lv_at hl 1 rfl) ?_
    refine fg_X6_77 X hw 0 rfl rfl dX6_phase_37 ?_
    refine lv_iconst (v := 2) hx hb dX6_phase_40 (by decide) ?_
    refine lv_isub hx hb dX6_phase_41 ?_
    obtain ⟨b1, h⟩ := chk_inv h
    refine r_iald X hw 3 rfl b1 rfl dX6_phase_42 ?_
    refine lv_istore (lv' := [(4, .int (a6 ((x2 - (2 : Int32))).toNatClampNeg)), (3, .int (a6 ((x2 - (1 : Int32))).toNatClampNeg)), (0, .ref h0), (1, .int p1), (2, .int p2)]) hx hb dX6_phase_43 hl (by decide) rfl (fun ls hl => ?_)
    refine lv_iload_n hx hb dX6_phase_45 rfl (lv_at hl 4 rfl) ?_
    by_cases c0 : p2 = (0 : Int32)
    · replace h := ip c0 h
      refine lv_tableIn hx hb dX6_phase_46 (by rw [c0]; decide) (by rw [c0]; decide) (by rw [c0]; rfl) (tgt := 84) (by decide) ?_
      refine lv_aload_n hx hb dX6_phase_84 rfl (lv_at hl 2 rfl) ?_
      refine fg_X6_86 X hw 0 rfl rfl dX6_phase_85 ?_
      obtain ⟨rfl, rfl, rfl, rfl, rfl, rfl, rfl, rfl⟩ := oi8 h
      exact r_ret X hw hr hlk dX6_phase_88
    replace h := ig c0 h
    by_cases c1 : p2 = (1 : Int32)
    · replace h := ip c1 h
      refine lv_tableIn hx hb dX6_phase_46 (by rw [c1]; decide) (by rw [c1]; decide) (by rw [c1]; rfl) (tgt := 89) (by decide) ?_
      refine lv_aload_n hx hb dX6_phase_89 rfl (lv_at hl 2 rfl) ?_
      refine fg_X6_89 X hw 0 rfl rfl dX6_phase_90 ?_
      obtain ⟨rfl, rfl, rfl, rfl, rfl, rfl, rfl, rfl⟩ := oi8 h
      exact r_ret X hw hr hlk dX6_phase_93
    replace h := ig c1 h
    by_cases c2 : p2 = (2 : Int32)
    · replace h := ip c2 h
      refine lv_tableIn hx hb dX6_phase_46 (by rw [c2]; decide) (by rw [c2]; decide) (by rw [c2]; rfl) (tgt := 94) (by decide) ?_
      refine lv_iload_n hx hb dX6_phase_94 rfl (lv_at hl 1 rfl) ?_
      obtain ⟨r8, hc, h⟩ := bd1_inv h
      refine r_cSi X hw (As := [.int (a6 ((x2 - (1 : Int32))).toNatClampNeg)]) (rest := []) (c_X6_nameOf l D cI cC cO N (a6 ((x2 - (1 : Int32))).toNatClampNeg) r8 hc) (cs_X6_80 X (by decide)) rfl hl.1 rfl (Nat.le_of_ble_eq_true rfl) dX6_phase_95 ⟨Nat.zero_le _, Nat.zero_le _⟩ (fun H locs hw => ?_)
      obtain ⟨rfl, rfl, rfl, rfl, rfl, rfl, rfl, rfl⟩ := oi8 h
      exact r_ret X hw hr hlk dX6_phase_98
    replace h := ig c2 h
    by_cases c3 : p2 = (3 : Int32)
    · replace h := ip c3 h
      refine lv_tableIn hx hb dX6_phase_46 (by rw [c3]; decide) (by rw [c3]; decide) (by rw [c3]; rfl) (tgt := 99) (by decide) ?_
      refine lv_iload hx hb dX6_phase_99 (lv_at hl 0 rfl) ?_
      obtain ⟨r9, hc, h⟩ := bd1_inv h
      refine r_cSi X hw (As := [.int (a6 ((x2 - (2 : Int32))).toNatClampNeg)]) (rest := []) (c_X6_nameOf l D cI cC cO N (a6 ((x2 - (2 : Int32))).toNatClampNeg) r9 hc) (cs_X6_80 X (by decide)) rfl hl.1 rfl (Nat.le_of_ble_eq_true rfl) dX6_phase_101 ⟨Nat.zero_le _, Nat.zero_le _⟩ (fun H locs hw => ?_)
      obtain ⟨rfl, rfl, rfl, rfl, rfl, rfl, rfl, rfl⟩ := oi8 h
      exact r_ret X hw hr hlk dX6_phase_104
    replace h := ig c3 h
    by_cases c4 : p2 = (4 : Int32)
    · replace h := ip c4 h
      refine lv_tableIn hx hb dX6_phase_46 (by rw [c4]; decide) (by rw [c4]; decide) (by rw [c4]; rfl) (tgt := 105) (by decide) ?_
      refine lv_iload_n hx hb dX6_phase_105 rfl (lv_at hl 1 rfl) ?_
      refine lv_iload hx hb dX6_phase_106 (lv_at hl 0 rfl) ?_
      refine lv_ior hx hb dX6_phase_108 ?_
      obtain ⟨rfl, rfl, rfl, rfl, rfl, rfl, rfl, rfl⟩ := oi8 h
      exact r_ret X hw hr hlk dX6_phase_109
    replace h := ig c4 h
    by_cases c5 : p2 = (5 : Int32)
    · replace h := ip c5 h
      refine lv_tableIn hx hb dX6_phase_46 (by rw [c5]; decide) (by rw [c5]; decide) (by rw [c5]; rfl) (tgt := 110) (by decide) ?_
      refine lv_aload_n hx hb dX6_phase_110 rfl (lv_at hl 2 rfl) ?_
      refine fg_X6_77 X hw 0 rfl rfl dX6_phase_111 ?_
      obtain ⟨rfl, rfl, rfl, rfl, rfl, rfl, rfl, rfl⟩ := oi8 h
      exact r_ret X hw hr hlk dX6_phase_114
    replace h := ig c5 h
    have e0 := lv_neT c0 (a := 0) (by decide)
    have e1 := lv_neT c1 (a := 1) (by decide)
    have e2 := lv_neT c2 (a := 2) (by decide)
    have e3 := lv_neT c3 (a := 3) (by decide)
    have e4 := lv_neT c4 (a := 4) (by decide)
    have e5 := lv_neT c5 (a := 5) (by decide)
    refine lv_tableOut hx hb dX6_phase_46 (by omega) (tgt := 115) (by decide) ?_
    refine lv_bipush (v := -2) hx hb dX6_phase_115 (by decide) ?_
    obtain ⟨rfl, rfl, rfl, rfl, rfl, rfl, rfl, rfl⟩ := oi8 h
    exact r_ret X hw hr hlk dX6_phase_117
  · replace h := ip c1 h
    refine lv_iconst (v := -1) hx hb dX6_phase_13 (by decide) ?_
    obtain ⟨rfl, rfl, rfl, rfl, rfl, rfl, rfl, rfl⟩ := oi8 h
    exact r_ret X hw hr hlk dX6_phase_14
def rmX6_swallowed : Room := { frames := 5, cells := 0, slots := 0, locals := 118 }
set_option maxHeartbeats 4000000 in
set_option maxRecDepth 100000 in
theorem c_X6_swallowed (l : Launch) (D : va_G) (cI cC cO : ClassId) (N : Nat) (h0 h_this_s h_this_saved h_this_snapshot h_this_text h_this_lumps h_this_order h_this_nears h_this_told : Nat) (p1 p2 p3 thrown_ savedMany_ hasSnapshot_ length_ lumpMany_ partingSet_ partingWeight_ at_ isWell_ toldMany_ : Int32) (s_ lumps_ order_ nears_ : Nat → Int32) (r_ : Int32) (thrown_' : Int32) (lumpMany_' : Int32) (partingSet_' : Int32) (partingWeight_' : Int32) (lumps_' : Nat → Int32) (order_' : Nat → Int32) (nears_' : Nat → Int32) (h : f_X6_swallowed N p1 p2 p3 lumpMany_ partingSet_ partingWeight_ s_ lumps_ order_ nears_ = some (r_, thrown_', lumpMany_', partingSet_', partingWeight_', lumps_', order_', nears_')) : CI l yX6_swallowed (Wy yX6_swallowed cX6_swallowed 4 (some .int)) rmX6_swallowed D cI cC cO [.ref h0, .int p1, .int p2, .int p3] [(h0, .inr (6, [.int thrown_, .ref h_this_s, .ref h_this_saved, .int savedMany_, .ref h_this_snapshot, .int hasSnapshot_, .ref h_this_text, .int length_, .ref h_this_lumps, .int lumpMany_, .ref h_this_order, .ref h_this_nears, .int partingSet_, .int partingWeight_, .int at_, .int isWell_, .ref h_this_told, .int toldMany_])), (h_this_s, .inl (cI, 103, .inl s_)), (h_this_lumps, .inl (cI, 10, .inl lumps_)), (h_this_order, .inl (cI, 10, .inl order_)), (h_this_nears, .inl (cI, 10, .inl nears_))] r_ [(h0, .inr (6, [.int thrown_', .ref h_this_s, .ref h_this_saved, .int savedMany_, .ref h_this_snapshot, .int hasSnapshot_, .ref h_this_text, .int length_, .ref h_this_lumps, .int lumpMany_', .ref h_this_order, .ref h_this_nears, .int partingSet_', .int partingWeight_', .int at_, .int isWell_, .ref h_this_told, .int toldMany_])), (h_this_s, .inl (cI, 103, .inl s_)), (h_this_lumps, .inl (cI, 10, .inl lumps_')), (h_this_order, .inl (cI, 10, .inl order_')), (h_this_nears, .inl (cI, 10, .inl nears_'))] := by
  refine enter_i RX6 (by decide) rfl (Nat.le_of_ble_eq_true rfl) ?_
  intro p e s m below meth c A X hr hlk hw ls hl
  have hx := X.1.1
  have hb := X.1.2.1
  have hl : lv_has ls 4 [(0, .ref h0), (1, .int p1), (2, .int p2), (3, .int p3)] := hl
  unfold f_X6_swallowed at h
  refine lv_aload_n hx hb dX6_swallowed_0 rfl (lv_at hl 0 rfl) ?_
  refine lv_iconst (v := 0) hx hb dX6_swallowed_1 (by decide) ?_
  refine fp_X6_34 X hw 0 rfl rfl dX6_swallowed_2 (fun H locs hw => ?_)
  have hw : Wd D A s.heap [(h0, .inr (6, [.int (0 : Int32), .ref h_this_s, .ref h_this_saved, .int savedMany_, .ref h_this_snapshot, .int hasSnapshot_, .ref h_this_text, .int length_, .ref h_this_lumps, .int lumpMany_, .ref h_this_order, .ref h_this_nears, .int partingSet_, .int partingWeight_, .int at_, .int isWell_, .ref h_this_told, .int toldMany_])), (h_this_s, .inl (cI, 103, .inl s_)), (h_this_lumps, .inl (cI, 10, .inl lumps_)), (h_this_order, .inl (cI, 10, .inl order_)), (h_this_nears, .inl (cI, 10, .inl nears_))] H locs := hw
  refine lv_aload_n hx hb dX6_swallowed_5 rfl (lv_at hl 0 rfl) ?_
  refine lv_iload_n hx hb dX6_swallowed_6 rfl (lv_at hl 1 rfl) ?_
  obtain ⟨r1, hc, h⟩ := bd1_inv h
  refine r_cVi X hw (As := [.int p1]) (rest := []) (wr := [(h_this_lumps, .inl (cI, 10, .inl lumps_)), (h_this_order, .inl (cI, 10, .inl order_)), (h_this_nears, .inl (cI, 10, .inl nears_))]) (ws' := [(h0, .inr (6, [.int (0 : Int32), .ref h_this_s, .ref h_this_saved, .int savedMany_, .ref h_this_snapshot, .int hasSnapshot_, .ref h_this_text, .int length_, .ref h_this_lumps, .int lumpMany_, .ref h_this_order, .ref h_this_nears, .int partingSet_, .int partingWeight_, .int at_, .int isWell_, .ref h_this_told, .int toldMany_])), (h_this_s, .inl (cI, 103, .inl s_)), (h_this_lumps, .inl (cI, 10, .inl lumps_)), (h_this_order, .inl (cI, 10, .inl order_)), (h_this_nears, .inl (cI, 10, .inl nears_))]) (c_X6_isPhase l D cI cC cO h0 h_this_s h_this_saved h_this_snapshot h_this_text h_this_lumps h_this_order h_this_nears h_this_told p1 (0 : Int32) savedMany_ hasSnapshot_ length_ lumpMany_ partingSet_ partingWeight_ at_ isWell_ toldMany_ s_ r1 hc) (cs_X6_165 X (by decide)) [0, 1] [2, 3, 4] [3, 4, 0, 1, 2] rfl rfl rfl rfl (by decide) rfl rfl 0 rfl rfl rfl rfl hl.1 rfl (Nat.le_of_ble_eq_true rfl) dX6_swallowed_7 ⟨Nat.zero_le _, Nat.zero_le _⟩ (fun H locs hw => ?_)
  refine lv_if_ne (tgt := 15) hx hb dX6_swallowed_10 (by decide) (fun c1 => ?_) (fun c1 => ?_)
  · replace h := ig c1 h
    refine lv_iload_n hx hb dX6_swallowed_15 rfl (lv_at hl 2 rfl) ?_
    refine lv_if_ge (tgt := 22) hx hb dX6_swallowed_16 (by decide) (fun c1 => ?_) (fun c1 => ?_)
    · replace h := ip c1 h
      refine lv_aload_n hx hb dX6_swallowed_22 rfl (lv_at hl 0 rfl) ?_
      refine lv_iload_n hx hb dX6_swallowed_23 rfl (lv_at hl 1 rfl) ?_
      obtain ⟨x2, x3, x4, a5, a6, a7, hc, h⟩ := bd6_inv h
      refine r_cVv X hw (As := [.int p1]) (rest := []) (wr := []) (ws' := [(h0, .inr (6, [.int (0 : Int32), .ref h_this_s, .ref h_this_saved, .int savedMany_, .ref h_this_snapshot, .int hasSnapshot_, .ref h_this_text, .int length_, .ref h_this_lumps, .int x2, .ref h_this_order, .ref h_this_nears, .int x3, .int x4, .int at_, .int isWell_, .ref h_this_told, .int toldMany_])), (h_this_s, .inl (cI, 103, .inl s_)), (h_this_lumps, .inl (cI, 10, .inl a5)), (h_this_order, .inl (cI, 10, .inl a6)), (h_this_nears, .inl (cI, 10, .inl a7))]) (c_X6_laysPhase l D cI cC cO N h0 h_this_s h_this_saved h_this_snapshot h_this_text h_this_lumps h_this_order h_this_nears h_this_told p1 (0 : Int32) savedMany_ hasSnapshot_ length_ lumpMany_ partingSet_ partingWeight_ at_ isWell_ toldMany_ s_ lumps_ order_ nears_ x2 x3 x4 a5 a6 a7 hc) (cs_X6_98 X (by decide)) [0, 1, 2, 3, 4] [] [0, 1, 2, 3, 4] rfl rfl rfl rfl (by decide) rfl rfl 0 rfl rfl rfl rfl hl.1 rfl (Nat.le_of_ble_eq_true rfl) dX6_swallowed_24 ⟨Nat.zero_le _, Nat.zero_le _⟩ (fun H locs hw => ?_)
      refine lv_iload_n hx hb dX6_swallowed_27 rfl (lv_at hl 2 rfl) ?_
      refine lv_aload_n hx hb dX6_swallowed_28 rfl (lv_at hl 0 rfl) ?_
      refine fg_X6_77 X hw 0 rfl rfl dX6_swallowed_29 ?_
      refine lv_icmp_lt (tgt := 40) hx hb dX6_swallowed_32 (by decide) (fun c1 => ?_) (fun c1 => ?_)
      · replace h := ip c1 h
        refine lv_iload_n hx hb dX6_swallowed_40 rfl (lv_at hl 3 rfl) ?_
        refine lv_if_eq (tgt := 53) hx hb dX6_swallowed_41 (by decide) (fun c1 => ?_) (fun c1 => ?_)
        · replace h := ip c1 h
          refine lv_aload_n hx hb dX6_swallowed_53 rfl (lv_at hl 0 rfl) ?_
          refine fg_X6_25 X hw 0 rfl rfl dX6_swallowed_54 ?_
          refine lv_iload_n hx hb dX6_swallowed_57 rfl (lv_at hl 2 rfl) ?_
          obtain ⟨b1, h⟩ := chk_inv h
          refine r_iald X hw 3 rfl b1 rfl dX6_swallowed_58 ?_
          obtain ⟨r8, hc, h⟩ := bd1_inv h
          refine r_cSi X hw (As := [.int (a6 (p2).toNatClampNeg)]) (rest := []) (c_X6_nameOf l D cI cC cO N (a6 (p2).toNatClampNeg) r8 hc) (cs_X6_80 X (by decide)) rfl hl.1 rfl (Nat.le_of_ble_eq_true rfl) dX6_swallowed_59 ⟨Nat.zero_le _, Nat.zero_le _⟩ (fun H locs hw => ?_)
          obtain ⟨rfl, rfl, rfl, rfl, rfl, rfl, rfl, rfl⟩ := oi8 h
          exact r_ret X hw hr hlk dX6_swallowed_62
        · replace h := ig c1 h
          refine lv_aload_n hx hb dX6_swallowed_44 rfl (lv_at hl 0 rfl) ?_
          refine fg_X6_28 X hw 0 rfl rfl dX6_swallowed_45 ?_
          refine lv_iload_n hx hb dX6_swallowed_48 rfl (lv_at hl 2 rfl) ?_
          obtain ⟨b1, h⟩ := chk_inv h
          refine r_iald X hw 4 rfl b1 rfl dX6_swallowed_49 ?_
          refine lv_goto (tgt := 62) hx hb dX6_swallowed_50 (by decide) ?_
          obtain ⟨rfl, rfl, rfl, rfl, rfl, rfl, rfl, rfl⟩ := oi8 h
          exact r_ret X hw hr hlk dX6_swallowed_62
      · replace h := ig c1 h
        refine lv_bipush (v := -5) hx hb dX6_swallowed_35 (by decide) ?_
        refine lv_goto (tgt := 62) hx hb dX6_swallowed_37 (by decide) ?_
        obtain ⟨rfl, rfl, rfl, rfl, rfl, rfl, rfl, rfl⟩ := oi8 h
        exact r_ret X hw hr hlk dX6_swallowed_62
    · replace h := ig c1 h
      refine lv_bipush (v := -2) hx hb dX6_swallowed_19 (by decide) ?_
      obtain ⟨rfl, rfl, rfl, rfl, rfl, rfl, rfl, rfl⟩ := oi8 h
      exact r_ret X hw hr hlk dX6_swallowed_21
  · replace h := ip c1 h
    refine lv_iconst (v := -1) hx hb dX6_swallowed_13 (by decide) ?_
    obtain ⟨rfl, rfl, rfl, rfl, rfl, rfl, rfl, rfl⟩ := oi8 h
    exact r_ret X hw hr hlk dX6_swallowed_14
def rmX6_least : Room := { frames := 7, cells := 0, slots := 0, locals := 161 }
section
variable {p : Program} {l : Launch} {e : Env} {R : Room} {s : State} {m : MethodId} {args : Array Value} {below : List Frame} {meth : Method} {c : Code} {H : Heap} {locs : List Loc} {cells slots : Nat} {Q : State → Prop}
variable {cc : ByteArray} {pc nL : Nat} {ls : Array Slot} {rest : List Value} {D : va_G} {cI cC cO : ClassId} {A : Nat → Prop} {ws : va_W} {H0 : Heap}
theorem cs_X6_168 (X : Ctx p m c cc nL s args RX6 D cI cC cO) (hR : rmX6_leastFair.frames + 1 ≤ R.frames ∧ 8 + (4 + 11) + rmX6_leastFair.locals ≤ R.locals) : CallW R s args RX6 RX6 168 yX6_leastFair cX6_leastFair 4 (some .int) (Wy yX6_leastFair cX6_leastFair 4 (some .int)) rmX6_leastFair 0 0 0 := cwV 0 X.1.2.2.2.2 (gi_V tw_785 tw_787 sw_yX6_leastFair tw_7 tw_788) rfl rfl rfl (by decide +kernel) hR
end
set_option maxHeartbeats 4000000 in
set_option maxRecDepth 100000 in
theorem c_X6_least (l : Launch) (D : va_G) (cI cC cO : ClassId) (N : Nat) (h0 h_this_s h_this_saved h_this_snapshot h_this_text h_this_lumps h_this_order h_this_nears h_this_told : Nat) (p1 thrown_ savedMany_ hasSnapshot_ length_ lumpMany_ partingSet_ partingWeight_ at_ isWell_ toldMany_ : Int32) (s_ lumps_ order_ nears_ : Nat → Int32) (r_ : Int32) (thrown_' : Int32) (lumpMany_' : Int32) (partingSet_' : Int32) (partingWeight_' : Int32) (lumps_' : Nat → Int32) (order_' : Nat → Int32) (nears_' : Nat → Int32) (h : f_X6_least N p1 lumpMany_ partingSet_ partingWeight_ s_ lumps_ order_ nears_ = some (r_, thrown_', lumpMany_', partingSet_', partingWeight_', lumps_', order_', nears_')) : CI l yX6_least (Wy yX6_least cX6_least 2 (some .int)) rmX6_least D cI cC cO [.ref h0, .int p1] [(h0, .inr (6, [.int thrown_, .ref h_this_s, .ref h_this_saved, .int savedMany_, .ref h_this_snapshot, .int hasSnapshot_, .ref h_this_text, .int length_, .ref h_this_lumps, .int lumpMany_, .ref h_this_order, .ref h_this_nears, .int partingSet_, .int partingWeight_, .int at_, .int isWell_, .ref h_this_told, .int toldMany_])), (h_this_s, .inl (cI, 103, .inl s_)), (h_this_lumps, .inl (cI, 10, .inl lumps_)), (h_this_order, .inl (cI, 10, .inl order_)), (h_this_nears, .inl (cI, 10, .inl nears_))] r_ [(h0, .inr (6, [.int thrown_', .ref h_this_s, .ref h_this_saved, .int savedMany_, .ref h_this_snapshot, .int hasSnapshot_, .ref h_this_text, .int length_, .ref h_this_lumps, .int lumpMany_', .ref h_this_order, .ref h_this_nears, .int partingSet_', .int partingWeight_', .int at_, .int isWell_, .ref h_this_told, .int toldMany_])), (h_this_s, .inl (cI, 103, .inl s_)), (h_this_lumps, .inl (cI, 10, .inl lumps_')), (h_this_order, .inl (cI, 10, .inl order_')), (h_this_nears, .inl (cI, 10, .inl nears_'))] := by
  refine enter_i RX6 (by decide) rfl (Nat.le_of_ble_eq_true rfl) ?_
  intro p e s m below meth c A X hr hlk hw ls hl
  have hx := X.1.1
  have hb := X.1.2.1
  have hl : lv_has ls 2 [(0, .ref h0), (1, .int p1)] := hl
  unfold f_X6_least at h
  refine lv_aload_n hx hb dX6_least_0 rfl (lv_at hl 0 rfl) ?_
  refine lv_iconst (v := 0) hx hb dX6_least_1 (by decide) ?_
  refine fp_X6_34 X hw 0 rfl rfl dX6_least_2 (fun H locs hw => ?_)
  have hw : Wd D A s.heap [(h0, .inr (6, [.int (0 : Int32), .ref h_this_s, .ref h_this_saved, .int savedMany_, .ref h_this_snapshot, .int hasSnapshot_, .ref h_this_text, .int length_, .ref h_this_lumps, .int lumpMany_, .ref h_this_order, .ref h_this_nears, .int partingSet_, .int partingWeight_, .int at_, .int isWell_, .ref h_this_told, .int toldMany_])), (h_this_s, .inl (cI, 103, .inl s_)), (h_this_lumps, .inl (cI, 10, .inl lumps_)), (h_this_order, .inl (cI, 10, .inl order_)), (h_this_nears, .inl (cI, 10, .inl nears_))] H locs := hw
  refine lv_iload_n hx hb dX6_least_5 rfl (lv_at hl 1 rfl) ?_
  by_cases c0 : p1 = (0 : Int32)
  · replace h := ip c0 h
    refine lv_tableIn hx hb dX6_least_6 (by rw [c0]; decide) (by rw [c0]; decide) (by rw [c0]; rfl) (tgt := 40) (by decide) ?_
    refine lv_aload_n hx hb dX6_least_40 rfl (lv_at hl 0 rfl) ?_
    obtain ⟨r1, x2, x3, x4, a5, a6, a7, hc, h⟩ := bd7_inv h
    refine r_cVi X hw (As := []) (rest := []) (wr := []) (ws' := [(h0, .inr (6, [.int (0 : Int32), .ref h_this_s, .ref h_this_saved, .int savedMany_, .ref h_this_snapshot, .int hasSnapshot_, .ref h_this_text, .int length_, .ref h_this_lumps, .int x2, .ref h_this_order, .ref h_this_nears, .int x3, .int x4, .int at_, .int isWell_, .ref h_this_told, .int toldMany_])), (h_this_s, .inl (cI, 103, .inl s_)), (h_this_lumps, .inl (cI, 10, .inl a5)), (h_this_order, .inl (cI, 10, .inl a6)), (h_this_nears, .inl (cI, 10, .inl a7))]) (c_X6_leastByPhases l D cI cC cO N h0 h_this_s h_this_saved h_this_snapshot h_this_text h_this_lumps h_this_order h_this_nears h_this_told (0 : Int32) savedMany_ hasSnapshot_ length_ lumpMany_ partingSet_ partingWeight_ at_ isWell_ toldMany_ s_ lumps_ order_ nears_ r1 x2 x3 x4 a5 a6 a7 hc) (cs_X6_122 X (by decide)) [0, 1, 2, 3, 4] [] [0, 1, 2, 3, 4] rfl rfl rfl rfl (by decide) rfl rfl 0 rfl rfl rfl rfl hl.1 rfl (Nat.le_of_ble_eq_true rfl) dX6_least_41 ⟨Nat.zero_le _, Nat.zero_le _⟩ (fun H locs hw => ?_)
    obtain ⟨rfl, rfl, rfl, rfl, rfl, rfl, rfl, rfl⟩ := oi8 h
    exact r_ret X hw hr hlk dX6_least_44
  replace h := ig c0 h
  by_cases c1 : p1 = (1 : Int32)
  · replace h := ip c1 h
    refine lv_tableIn hx hb dX6_least_6 (by rw [c1]; decide) (by rw [c1]; decide) (by rw [c1]; rfl) (tgt := 45) (by decide) ?_
    refine lv_aload_n hx hb dX6_least_45 rfl (lv_at hl 0 rfl) ?_
    refine lv_aload_n hx hb dX6_least_46 rfl (lv_at hl 0 rfl) ?_
    obtain ⟨r8, x9, x10, x11, a12, a13, a14, hc, h⟩ := bd7_inv h
    refine r_cVi X hw (As := []) (rest := [.ref h0]) (wr := []) (ws' := [(h0, .inr (6, [.int (0 : Int32), .ref h_this_s, .ref h_this_saved, .int savedMany_, .ref h_this_snapshot, .int hasSnapshot_, .ref h_this_text, .int length_, .ref h_this_lumps, .int x9, .ref h_this_order, .ref h_this_nears, .int x10, .int x11, .int at_, .int isWell_, .ref h_this_told, .int toldMany_])), (h_this_s, .inl (cI, 103, .inl s_)), (h_this_lumps, .inl (cI, 10, .inl a12)), (h_this_order, .inl (cI, 10, .inl a13)), (h_this_nears, .inl (cI, 10, .inl a14))]) (c_X6_leastByPhases l D cI cC cO N h0 h_this_s h_this_saved h_this_snapshot h_this_text h_this_lumps h_this_order h_this_nears h_this_told (0 : Int32) savedMany_ hasSnapshot_ length_ lumpMany_ partingSet_ partingWeight_ at_ isWell_ toldMany_ s_ lumps_ order_ nears_ r8 x9 x10 x11 a12 a13 a14 hc) (cs_X6_122 X (by decide)) [0, 1, 2, 3, 4] [] [0, 1, 2, 3, 4] rfl rfl rfl rfl (by decide) rfl rfl 0 rfl rfl rfl rfl hl.1 rfl (Nat.le_of_ble_eq_true rfl) dX6_least_47 ⟨Nat.zero_le _, Nat.zero_le _⟩ (fun H locs hw => ?_)
    obtain ⟨r15, hc, h⟩ := bd1_inv h
    refine r_cVi X hw (As := [.int r8]) (rest := []) (wr := [(h_this_lumps, .inl (cI, 10, .inl a12)), (h_this_order, .inl (cI, 10, .inl a13)), (h_this_nears, .inl (cI, 10, .inl a14))]) (ws' := [(h0, .inr (6, [.int (0 : Int32), .ref h_this_s, .ref h_this_saved, .int savedMany_, .ref h_this_snapshot, .int hasSnapshot_, .ref h_this_text, .int length_, .ref h_this_lumps, .int x9, .ref h_this_order, .ref h_this_nears, .int x10, .int x11, .int at_, .int isWell_, .ref h_this_told, .int toldMany_])), (h_this_s, .inl (cI, 103, .inl s_)), (h_this_lumps, .inl (cI, 10, .inl a12)), (h_this_order, .inl (cI, 10, .inl a13)), (h_this_nears, .inl (cI, 10, .inl a14))]) (c_X6_weightOf l D cI cC cO N h0 h_this_s h_this_saved h_this_snapshot h_this_text h_this_lumps h_this_order h_this_nears h_this_told r8 (0 : Int32) savedMany_ hasSnapshot_ length_ x9 x10 x11 at_ isWell_ toldMany_ s_ r15 hc) (cs_X6_60 X (by decide)) [0, 1] [2, 3, 4] [3, 4, 0, 1, 2] rfl rfl rfl rfl (by decide) rfl rfl 0 rfl rfl rfl rfl hl.1 rfl (Nat.le_of_ble_eq_true rfl) dX6_least_50 ⟨Nat.zero_le _, Nat.zero_le _⟩ (fun H locs hw => ?_)
    obtain ⟨rfl, rfl, rfl, rfl, rfl, rfl, rfl, rfl⟩ := oi8 h
    exact r_ret X hw hr hlk dX6_least_53
  replace h := ig c1 h
  by_cases c2 : p1 = (2 : Int32)
  · replace h := ip c2 h
    refine lv_tableIn hx hb dX6_least_6 (by rw [c2]; decide) (by rw [c2]; decide) (by rw [c2]; rfl) (tgt := 54) (by decide) ?_
    refine lv_aload_n hx hb dX6_least_54 rfl (lv_at hl 0 rfl) ?_
    obtain ⟨r16, x17, x18, x19, a20, a21, a22, hc, h⟩ := bd7_inv h
    refine r_cVi X hw (As := []) (rest := []) (wr := []) (ws' := [(h0, .inr (6, [.int (0 : Int32), .ref h_this_s, .ref h_this_saved, .int savedMany_, .ref h_this_snapshot, .int hasSnapshot_, .ref h_this_text, .int length_, .ref h_this_lumps, .int x17, .ref h_this_order, .ref h_this_nears, .int x18, .int x19, .int at_, .int isWell_, .ref h_this_told, .int toldMany_])), (h_this_s, .inl (cI, 103, .inl s_)), (h_this_lumps, .inl (cI, 10, .inl a20)), (h_this_order, .inl (cI, 10, .inl a21)), (h_this_nears, .inl (cI, 10, .inl a22))]) (c_X6_leastPhase l D cI cC cO N h0 h_this_s h_this_saved h_this_snapshot h_this_text h_this_lumps h_this_order h_this_nears h_this_told (0 : Int32) savedMany_ hasSnapshot_ length_ lumpMany_ partingSet_ partingWeight_ at_ isWell_ toldMany_ s_ lumps_ order_ nears_ r16 x17 x18 x19 a20 a21 a22 hc) (cs_X6_102 X (by decide)) [0, 1, 2, 3, 4] [] [0, 1, 2, 3, 4] rfl rfl rfl rfl (by decide) rfl rfl 0 rfl rfl rfl rfl hl.1 rfl (Nat.le_of_ble_eq_true rfl) dX6_least_55 ⟨Nat.zero_le _, Nat.zero_le _⟩ (fun H locs hw => ?_)
    obtain ⟨rfl, rfl, rfl, rfl, rfl, rfl, rfl, rfl⟩ := oi8 h
    exact r_ret X hw hr hlk dX6_least_58
  replace h := ig c2 h
  by_cases c3 : p1 = (3 : Int32)
  · replace h := ip c3 h
    refine lv_tableIn hx hb dX6_least_6 (by rw [c3]; decide) (by rw [c3]; decide) (by rw [c3]; rfl) (tgt := 59) (by decide) ?_
    refine lv_aload_n hx hb dX6_least_59 rfl (lv_at hl 0 rfl) ?_
    obtain ⟨r23, hc, h⟩ := bd1_inv h
    refine r_cVi X hw (As := []) (rest := []) (wr := [(h_this_lumps, .inl (cI, 10, .inl lumps_)), (h_this_order, .inl (cI, 10, .inl order_)), (h_this_nears, .inl (cI, 10, .inl nears_))]) (ws' := [(h0, .inr (6, [.int (0 : Int32), .ref h_this_s, .ref h_this_saved, .int savedMany_, .ref h_this_snapshot, .int hasSnapshot_, .ref h_this_text, .int length_, .ref h_this_lumps, .int lumpMany_, .ref h_this_order, .ref h_this_nears, .int partingSet_, .int partingWeight_, .int at_, .int isWell_, .ref h_this_told, .int toldMany_])), (h_this_s, .inl (cI, 103, .inl s_)), (h_this_lumps, .inl (cI, 10, .inl lumps_)), (h_this_order, .inl (cI, 10, .inl order_)), (h_this_nears, .inl (cI, 10, .inl nears_))]) (c_X6_leastFair l D cI cC cO N h0 h_this_s h_this_saved h_this_snapshot h_this_text h_this_lumps h_this_order h_this_nears h_this_told (0 : Int32) savedMany_ hasSnapshot_ length_ lumpMany_ partingSet_ partingWeight_ at_ isWell_ toldMany_ s_ r23 hc) (cs_X6_168 X (by decide)) [0, 1] [2, 3, 4] [3, 4, 0, 1, 2] rfl rfl rfl rfl (by decide) rfl rfl 0 rfl rfl rfl rfl hl.1 rfl (Nat.le_of_ble_eq_true rfl) dX6_least_60 ⟨Nat.zero_le _, Nat.zero_le _⟩ (fun H locs hw => ?_)
    obtain ⟨rfl, rfl, rfl, rfl, rfl, rfl, rfl, rfl⟩ := oi8 h
    exact r_ret X hw hr hlk dX6_least_63
  replace h := ig c3 h
  by_cases c4 : p1 = (4 : Int32)
  · replace h := ip c4 h
    refine lv_tableIn hx hb dX6_least_6 (by rw [c4]; decide) (by rw [c4]; decide) (by rw [c4]; rfl) (tgt := 64) (by decide) ?_
    refine lv_aload_n hx hb dX6_least_64 rfl (lv_at hl 0 rfl) ?_
    obtain ⟨r24, hc, h⟩ := bd1_inv h
    refine r_cVi X hw (As := []) (rest := []) (wr := [(h_this_lumps, .inl (cI, 10, .inl lumps_)), (h_this_order, .inl (cI, 10, .inl order_)), (h_this_nears, .inl (cI, 10, .inl nears_))]) (ws' := [(h0, .inr (6, [.int (0 : Int32), .ref h_this_s, .ref h_this_saved, .int savedMany_, .ref h_this_snapshot, .int hasSnapshot_, .ref h_this_text, .int length_, .ref h_this_lumps, .int lumpMany_, .ref h_this_order, .ref h_this_nears, .int partingSet_, .int partingWeight_, .int at_, .int isWell_, .ref h_this_told, .int toldMany_])), (h_this_s, .inl (cI, 103, .inl s_)), (h_this_lumps, .inl (cI, 10, .inl lumps_)), (h_this_order, .inl (cI, 10, .inl order_)), (h_this_nears, .inl (cI, 10, .inl nears_))]) (c_X6_leastFair l D cI cC cO N h0 h_this_s h_this_saved h_this_snapshot h_this_text h_this_lumps h_this_order h_this_nears h_this_told (0 : Int32) savedMany_ hasSnapshot_ length_ lumpMany_ partingSet_ partingWeight_ at_ isWell_ toldMany_ s_ r24 hc) (cs_X6_168 X (by decide)) [0, 1] [2, 3, 4] [3, 4, 0, 1, 2] rfl rfl rfl rfl (by decide) rfl rfl 0 rfl rfl rfl rfl hl.1 rfl (Nat.le_of_ble_eq_true rfl) dX6_least_65 ⟨Nat.zero_le _, Nat.zero_le _⟩ (fun H locs hw => ?_)
    refine lv_bipush (v := -5) hx hb dX6_least_68 (by decide) ?_
    refine lv_icmp_ne (tgt := 78) hx hb dX6_least_70 (by decide) (fun c1 => ?_) (fun c1 => ?_)
    · replace h := ig c1 h
      refine lv_aload_n hx hb dX6_least_78 rfl (lv_at hl 0 rfl) ?_
      refine lv_aload_n hx hb dX6_least_79 rfl (lv_at hl 0 rfl) ?_
      obtain ⟨r25, hc, h⟩ := bd1_inv h
      refine r_cVi X hw (As := []) (rest := [.ref h0]) (wr := [(h_this_lumps, .inl (cI, 10, .inl lumps_)), (h_this_order, .inl (cI, 10, .inl order_)), (h_this_nears, .inl (cI, 10, .inl nears_))]) (ws' := [(h0, .inr (6, [.int (0 : Int32), .ref h_this_s, .ref h_this_saved, .int savedMany_, .ref h_this_snapshot, .int hasSnapshot_, .ref h_this_text, .int length_, .ref h_this_lumps, .int lumpMany_, .ref h_this_order, .ref h_this_nears, .int partingSet_, .int partingWeight_, .int at_, .int isWell_, .ref h_this_told, .int toldMany_])), (h_this_s, .inl (cI, 103, .inl s_)), (h_this_lumps, .inl (cI, 10, .inl lumps_)), (h_this_order, .inl (cI, 10, .inl order_)), (h_this_nears, .inl (cI, 10, .inl nears_))]) (c_X6_leastFair l D cI cC cO N h0 h_this_s h_this_saved h_this_snapshot h_this_text h_this_lumps h_this_order h_this_nears h_this_told (0 : Int32) savedMany_ hasSnapshot_ length_ lumpMany_ partingSet_ partingWeight_ at_ isWell_ toldMany_ s_ r25 hc) (cs_X6_168 X (by decide)) [0, 1] [2, 3, 4] [3, 4, 0, 1, 2] rfl rfl rfl rfl (by decide) rfl rfl 0 rfl rfl rfl rfl hl.1 rfl (Nat.le_of_ble_eq_true rfl) dX6_least_80 ⟨Nat.zero_le _, Nat.zero_le _⟩ (fun H locs hw => ?_)
      obtain ⟨r26, hc, h⟩ := bd1_inv h
      refine r_cVi X hw (As := [.int r25]) (rest := []) (wr := [(h_this_lumps, .inl (cI, 10, .inl lumps_)), (h_this_order, .inl (cI, 10, .inl order_)), (h_this_nears, .inl (cI, 10, .inl nears_))]) (ws' := [(h0, .inr (6, [.int (0 : Int32), .ref h_this_s, .ref h_this_saved, .int savedMany_, .ref h_this_snapshot, .int hasSnapshot_, .ref h_this_text, .int length_, .ref h_this_lumps, .int lumpMany_, .ref h_this_order, .ref h_this_nears, .int partingSet_, .int partingWeight_, .int at_, .int isWell_, .ref h_this_told, .int toldMany_])), (h_this_s, .inl (cI, 103, .inl s_)), (h_this_lumps, .inl (cI, 10, .inl lumps_)), (h_this_order, .inl (cI, 10, .inl order_)), (h_this_nears, .inl (cI, 10, .inl nears_))]) (c_X6_weightOf l D cI cC cO N h0 h_this_s h_this_saved h_this_snapshot h_this_text h_this_lumps h_this_order h_this_nears h_this_told r25 (0 : Int32) savedMany_ hasSnapshot_ length_ lumpMany_ partingSet_ partingWeight_ at_ isWell_ toldMany_ s_ r26 hc) (cs_X6_60 X (by decide)) [0, 1] [2, 3, 4] [3, 4, 0, 1, 2] rfl rfl rfl rfl (by decide) rfl rfl 0 rfl rfl rfl rfl hl.1 rfl (Nat.le_of_ble_eq_true rfl) dX6_least_83 ⟨Nat.zero_le _, Nat.zero_le _⟩ (fun H locs hw => ?_)
      obtain ⟨rfl, rfl, rfl, rfl, rfl, rfl, rfl, rfl⟩ := oi8 h
      exact r_ret X hw hr hlk dX6_least_86
    · replace h := ip c1 h
      refine lv_bipush (v := -5) hx hb dX6_least_73 (by decide) ?_
      refine lv_goto (tgt := 86) hx hb dX6_least_75 (by decide) ?_
      obtain ⟨rfl, rfl, rfl, rfl, rfl, rfl, rfl, rfl⟩ := oi8 h
      exact r_ret X hw hr hlk dX6_least_86
  replace h := ig c4 h
  have e0 := lv_neT c0 (a := 0) (by decide)
  have e1 := lv_neT c1 (a := 1) (by decide)
  have e2 := lv_neT c2 (a := 2) (by decide)
  have e3 := lv_neT c3 (a := 3) (by decide)
  have e4 := lv_neT c4 (a := 4) (by decide)
  refine lv_tableOut hx hb dX6_least_6 (by omega) (tgt := 87) (by decide) ?_
  refine lv_bipush (v := -2) hx hb dX6_least_87 (by decide) ?_
  obtain ⟨rfl, rfl, rfl, rfl, rfl, rfl, rfl, rfl⟩ := oi8 h
  exact r_ret X hw hr hlk dX6_least_89
def rmX6_leastOf : Room := { frames := 6, cells := 0, slots := 0, locals := 136 }
section
variable {p : Program} {l : Launch} {e : Env} {R : Room} {s : State} {m : MethodId} {args : Array Value} {below : List Frame} {meth : Method} {c : Code} {H : Heap} {locs : List Loc} {cells slots : Nat} {Q : State → Prop}
variable {cc : ByteArray} {pc nL : Nat} {ls : Array Slot} {rest : List Value} {D : va_G} {cI cC cO : ClassId} {A : Nat → Prop} {ws : va_W} {H0 : Heap}
theorem cs_X6_171 (X : Ctx p m c cc nL s args RX6 D cI cC cO) (hR : rmX6_leastAt.frames + 1 ≤ R.frames ∧ 8 + (5 + 11) + rmX6_leastAt.locals ≤ R.locals) : CallW R s args RX6 RX6 171 yX6_leastAt cX6_leastAt 5 (some .int) (Wy yX6_leastAt cX6_leastAt 5 (some .int)) rmX6_leastAt 0 0 1 := cwV 1 X.1.2.2.2.2 (gi_V tw_800 tw_802 sw_yX6_leastAt tw_7 tw_803) rfl rfl rfl (by decide +kernel) hR
end
set_option maxHeartbeats 4000000 in
set_option maxRecDepth 100000 in
theorem c_X6_leastOf (l : Launch) (D : va_G) (cI cC cO : ClassId) (N : Nat) (h0 h_this_s h_this_saved h_this_snapshot h_this_text h_this_lumps h_this_order h_this_nears h_this_told : Nat) (p1 thrown_ savedMany_ hasSnapshot_ length_ lumpMany_ partingSet_ partingWeight_ at_ isWell_ toldMany_ : Int32) (s_ : Nat → Int32) (r_ : Int32) (thrown_' : Int32) (h : f_X6_leastOf N p1 s_ = some (r_, thrown_')) : CI l yX6_leastOf (Wy yX6_leastOf cX6_leastOf 2 (some .int)) rmX6_leastOf D cI cC cO [.ref h0, .int p1] [(h0, .inr (6, [.int thrown_, .ref h_this_s, .ref h_this_saved, .int savedMany_, .ref h_this_snapshot, .int hasSnapshot_, .ref h_this_text, .int length_, .ref h_this_lumps, .int lumpMany_, .ref h_this_order, .ref h_this_nears, .int partingSet_, .int partingWeight_, .int at_, .int isWell_, .ref h_this_told, .int toldMany_])), (h_this_s, .inl (cI, 103, .inl s_))] r_ [(h0, .inr (6, [.int thrown_', .ref h_this_s, .ref h_this_saved, .int savedMany_, .ref h_this_snapshot, .int hasSnapshot_, .ref h_this_text, .int length_, .ref h_this_lumps, .int lumpMany_, .ref h_this_order, .ref h_this_nears, .int partingSet_, .int partingWeight_, .int at_, .int isWell_, .ref h_this_told, .int toldMany_])), (h_this_s, .inl (cI, 103, .inl s_))] := by
  refine enter_i RX6 (by decide) rfl (Nat.le_of_ble_eq_true rfl) ?_
  intro p e s m below meth c A X hr hlk hw ls hl
  have hx := X.1.1
  have hb := X.1.2.1
  have hl : lv_has ls 2 [(0, .ref h0), (1, .int p1)] := hl
  unfold f_X6_leastOf at h
  refine lv_aload_n hx hb dX6_leastOf_0 rfl (lv_at hl 0 rfl) ?_
  refine lv_iconst (v := 0) hx hb dX6_leastOf_1 (by decide) ?_
  refine fp_X6_34 X hw 0 rfl rfl dX6_leastOf_2 (fun H locs hw => ?_)
  have hw : Wd D A s.heap [(h0, .inr (6, [.int (0 : Int32), .ref h_this_s, .ref h_this_saved, .int savedMany_, .ref h_this_snapshot, .int hasSnapshot_, .ref h_this_text, .int length_, .ref h_this_lumps, .int lumpMany_, .ref h_this_order, .ref h_this_nears, .int partingSet_, .int partingWeight_, .int at_, .int isWell_, .ref h_this_told, .int toldMany_])), (h_this_s, .inl (cI, 103, .inl s_))] H locs := hw
  refine lv_iload_n hx hb dX6_leastOf_5 rfl (lv_at hl 1 rfl) ?_
  refine lv_if_ge (tgt := 14) hx hb dX6_leastOf_6 (by decide) (fun c1 => ?_) (fun c1 => ?_)
  · replace h := ip c1 h
    refine lv_aload_n hx hb dX6_leastOf_14 rfl (lv_at hl 0 rfl) ?_
    refine lv_iload_n hx hb dX6_leastOf_15 rfl (lv_at hl 1 rfl) ?_
    obtain ⟨r1, hc, h⟩ := bd1_inv h
    refine r_cVi X hw (As := [.int p1]) (rest := []) (wr := []) (ws' := [(h0, .inr (6, [.int (0 : Int32), .ref h_this_s, .ref h_this_saved, .int savedMany_, .ref h_this_snapshot, .int hasSnapshot_, .ref h_this_text, .int length_, .ref h_this_lumps, .int lumpMany_, .ref h_this_order, .ref h_this_nears, .int partingSet_, .int partingWeight_, .int at_, .int isWell_, .ref h_this_told, .int toldMany_])), (h_this_s, .inl (cI, 103, .inl s_))]) (c_X6_leastAt l D cI cC cO N h0 h_this_s h_this_saved h_this_snapshot h_this_text h_this_lumps h_this_order h_this_nears h_this_told p1 (0 : Int32) savedMany_ hasSnapshot_ length_ lumpMany_ partingSet_ partingWeight_ at_ isWell_ toldMany_ s_ r1 hc) (cs_X6_171 X (by decide)) [0, 1] [] [0, 1] rfl rfl rfl rfl (by decide) rfl rfl 0 rfl rfl rfl rfl hl.1 rfl (Nat.le_of_ble_eq_true rfl) dX6_leastOf_16 ⟨Nat.zero_le _, Nat.zero_le _⟩ (fun H locs hw => ?_)
    obtain ⟨rfl, rfl⟩ := oi2 h
    exact r_ret X hw hr hlk dX6_leastOf_19
  · replace h := ig c1 h
    refine lv_bipush (v := -2) hx hb dX6_leastOf_9 (by decide) ?_
    refine lv_goto (tgt := 19) hx hb dX6_leastOf_11 (by decide) ?_
    obtain ⟨rfl, rfl⟩ := oi2 h
    exact r_ret X hw hr hlk dX6_leastOf_19
def rmX6_between : Room := { frames := 4, cells := 0, slots := 0, locals := 94 }
section
variable {p : Program} {l : Launch} {e : Env} {R : Room} {s : State} {m : MethodId} {args : Array Value} {below : List Frame} {meth : Method} {c : Code} {H : Heap} {locs : List Loc} {cells slots : Nat} {Q : State → Prop}
variable {cc : ByteArray} {pc nL : Nat} {ls : Array Slot} {rest : List Value} {D : va_G} {cI cC cO : ClassId} {A : Nat → Prop} {ws : va_W} {H0 : Heap}
theorem cs_X6_174 (X : Ctx p m c cc nL s args RX6 D cI cC cO) (hR : rmX6_leastBetween.frames + 1 ≤ R.frames ∧ 8 + (7 + 11) + rmX6_leastBetween.locals ≤ R.locals) : CallW R s args RX6 RX6 174 yX6_leastBetween cX6_leastBetween 7 (some .int) (Wy yX6_leastBetween cX6_leastBetween 7 (some .int)) rmX6_leastBetween 0 0 2 := cwV 2 X.1.2.2.2.2 (gi_V tw_808 tw_810 sw_yX6_leastBetween tw_7 tw_811) rfl rfl rfl (by decide +kernel) hR
end
set_option maxHeartbeats 4000000 in
set_option maxRecDepth 100000 in
theorem c_X6_between (l : Launch) (D : va_G) (cI cC cO : ClassId) (N : Nat) (h0 h_this_s h_this_saved h_this_snapshot h_this_text h_this_lumps h_this_order h_this_nears h_this_told : Nat) (p1 p2 p3 thrown_ savedMany_ hasSnapshot_ length_ lumpMany_ partingSet_ partingWeight_ at_ isWell_ toldMany_ : Int32) (s_ : Nat → Int32) (r_ : Int32) (thrown_' : Int32) (h : f_X6_between N p1 p2 p3 s_ = some (r_, thrown_')) : CI l yX6_between (Wy yX6_between cX6_between 6 (some .int)) rmX6_between D cI cC cO [.ref h0, .int p1, .int p2, .int p3] [(h0, .inr (6, [.int thrown_, .ref h_this_s, .ref h_this_saved, .int savedMany_, .ref h_this_snapshot, .int hasSnapshot_, .ref h_this_text, .int length_, .ref h_this_lumps, .int lumpMany_, .ref h_this_order, .ref h_this_nears, .int partingSet_, .int partingWeight_, .int at_, .int isWell_, .ref h_this_told, .int toldMany_])), (h_this_s, .inl (cI, 103, .inl s_))] r_ [(h0, .inr (6, [.int thrown_', .ref h_this_s, .ref h_this_saved, .int savedMany_, .ref h_this_snapshot, .int hasSnapshot_, .ref h_this_text, .int length_, .ref h_this_lumps, .int lumpMany_, .ref h_this_order, .ref h_this_nears, .int partingSet_, .int partingWeight_, .int at_, .int isWell_, .ref h_this_told, .int toldMany_])), (h_this_s, .inl (cI, 103, .inl s_))] := by
  refine enter_i RX6 (by decide) rfl (Nat.le_of_ble_eq_true rfl) ?_
  intro p e s m below meth c A X hr hlk hw ls hl
  have hx := X.1.1
  have hb := X.1.2.1
  have hl : lv_has ls 6 [(0, .ref h0), (1, .int p1), (2, .int p2), (3, .int p3)] := hl
  unfold f_X6_between at h
  refine lv_aload_n hx hb dX6_between_0 rfl (lv_at hl 0 rfl) ?_
  refine lv_iconst (v := 0) hx hb dX6_between_1 (by decide) ?_
  refine fp_X6_34 X hw 0 rfl rfl dX6_between_2 (fun H locs hw => ?_)
  have hw : Wd D A s.heap [(h0, .inr (6, [.int (0 : Int32), .ref h_this_s, .ref h_this_saved, .int savedMany_, .ref h_this_snapshot, .int hasSnapshot_, .ref h_this_text, .int length_, .ref h_this_lumps, .int lumpMany_, .ref h_this_order, .ref h_this_nears, .int partingSet_, .int partingWeight_, .int at_, .int isWell_, .ref h_this_told, .int toldMany_])), (h_this_s, .inl (cI, 103, .inl s_))] H locs := hw
  refine lv_aload_n hx hb dX6_between_5 rfl (lv_at hl 0 rfl) ?_
  refine lv_iload_n hx hb dX6_between_6 rfl (lv_at hl 1 rfl) ?_
  refine lv_iload_n hx hb dX6_between_7 rfl (lv_at hl 2 rfl) ?_
  refine lv_iconst (v := 0) hx hb dX6_between_8 (by decide) ?_
  obtain ⟨r1, hc, h⟩ := bd1_inv h
  refine r_cVi X hw (As := [.int p1, .int p2, .int (0 : Int32)]) (rest := []) (wr := []) (ws' := [(h0, .inr (6, [.int (0 : Int32), .ref h_this_s, .ref h_this_saved, .int savedMany_, .ref h_this_snapshot, .int hasSnapshot_, .ref h_this_text, .int length_, .ref h_this_lumps, .int lumpMany_, .ref h_this_order, .ref h_this_nears, .int partingSet_, .int partingWeight_, .int at_, .int isWell_, .ref h_this_told, .int toldMany_])), (h_this_s, .inl (cI, 103, .inl s_))]) (c_X6_refusesPair l D cI cC cO h0 h_this_s h_this_saved h_this_snapshot h_this_text h_this_lumps h_this_order h_this_nears h_this_told p1 p2 (0 : Int32) (0 : Int32) savedMany_ hasSnapshot_ length_ lumpMany_ partingSet_ partingWeight_ at_ isWell_ toldMany_ s_ r1 hc) (cs_X6_118 X (by decide)) [0, 1] [] [0, 1] rfl rfl rfl rfl (by decide) rfl rfl 0 rfl rfl rfl rfl hl.1 rfl (Nat.le_of_ble_eq_true rfl) dX6_between_9 ⟨Nat.zero_le _, Nat.zero_le _⟩ (fun H locs hw => ?_)
  refine lv_istore (lv' := [(4, .int r1), (0, .ref h0), (1, .int p1), (2, .int p2), (3, .int p3)]) hx hb dX6_between_12 hl (by decide) rfl (fun ls hl => ?_)
  refine lv_iload hx hb dX6_between_14 (lv_at hl 0 rfl) ?_
  refine lv_if_eq (tgt := 22) hx hb dX6_between_16 (by decide) (fun c1 => ?_) (fun c1 => ?_)
  · replace h := ip c1 h
    refine lv_iload_n hx hb dX6_between_22 rfl (lv_at hl 4 rfl) ?_
    refine lv_iconst (v := 0) hx hb dX6_between_23 (by decide) ?_
    refine lv_iconst (v := 1) hx hb dX6_between_24 (by decide) ?_
    obtain ⟨r2, hc, h⟩ := bd1_inv h
    refine r_cSi X hw (As := [.int p3, .int (0 : Int32), .int (1 : Int32)]) (rest := []) (c_X6_in l D cI cC cO p3 (0 : Int32) (1 : Int32) r2 hc) (cs_X6_38 X (by decide)) rfl hl.1 rfl (Nat.le_of_ble_eq_true rfl) dX6_between_25 ⟨Nat.zero_le _, Nat.zero_le _⟩ (fun H locs hw => ?_)
    refine lv_if_ne (tgt := 34) hx hb dX6_between_28 (by decide) (fun c1 => ?_) (fun c1 => ?_)
    · replace h := ig c1 h
      refine lv_aload_n hx hb dX6_between_34 rfl (lv_at hl 1 rfl) ?_
      refine lv_iload_n hx hb dX6_between_35 rfl (lv_at hl 2 rfl) ?_
      refine lv_iload_n hx hb dX6_between_36 rfl (lv_at hl 3 rfl) ?_
      obtain ⟨r3, hc, h⟩ := bd1_inv h
      refine r_cVi X hw (As := [.int p1, .int p2]) (rest := []) (wr := []) (ws' := [(h0, .inr (6, [.int (0 : Int32), .ref h_this_s, .ref h_this_saved, .int savedMany_, .ref h_this_snapshot, .int hasSnapshot_, .ref h_this_text, .int length_, .ref h_this_lumps, .int lumpMany_, .ref h_this_order, .ref h_this_nears, .int partingSet_, .int partingWeight_, .int at_, .int isWell_, .ref h_this_told, .int toldMany_])), (h_this_s, .inl (cI, 103, .inl s_))]) (c_X6_leastBetween l D cI cC cO N h0 h_this_s h_this_saved h_this_snapshot h_this_text h_this_lumps h_this_order h_this_nears h_this_told p1 p2 (0 : Int32) savedMany_ hasSnapshot_ length_ lumpMany_ partingSet_ partingWeight_ at_ isWell_ toldMany_ s_ r3 hc) (cs_X6_174 X (by decide)) [0, 1] [] [0, 1] rfl rfl rfl rfl (by decide) rfl rfl 0 rfl rfl rfl rfl hl.1 rfl (Nat.le_of_ble_eq_true rfl) dX6_between_37 ⟨Nat.zero_le _, Nat.zero_le _⟩ (fun H locs hw => ?_)
      refine lv_istore (lv' := [(5, .int r3), (4, .int r1), (0, .ref h0), (1, .int p1), (2, .int p2), (3, .int p3)]) hx hb dX6_between_40 hl (by decide) rfl (fun ls hl => ?_)
      refine lv_iload_n hx hb dX6_between_42 rfl (lv_at hl 5 rfl) ?_
      refine lv_if_ne (tgt := 51) hx hb dX6_between_43 (by decide) (fun c1 => ?_) (fun c1 => ?_)
      · replace h := ig c1 h
        refine lv_aload_n hx hb dX6_between_51 rfl (lv_at hl 2 rfl) ?_
        refine lv_iload hx hb dX6_between_52 (lv_at hl 0 rfl) ?_
        obtain ⟨r4, hc, h⟩ := bd1_inv h
        refine r_cVi X hw (As := [.int r3]) (rest := []) (wr := []) (ws' := [(h0, .inr (6, [.int (0 : Int32), .ref h_this_s, .ref h_this_saved, .int savedMany_, .ref h_this_snapshot, .int hasSnapshot_, .ref h_this_text, .int length_, .ref h_this_lumps, .int lumpMany_, .ref h_this_order, .ref h_this_nears, .int partingSet_, .int partingWeight_, .int at_, .int isWell_, .ref h_this_told, .int toldMany_])), (h_this_s, .inl (cI, 103, .inl s_))]) (c_X6_weightOf l D cI cC cO N h0 h_this_s h_this_saved h_this_snapshot h_this_text h_this_lumps h_this_order h_this_nears h_this_told r3 (0 : Int32) savedMany_ hasSnapshot_ length_ lumpMany_ partingSet_ partingWeight_ at_ isWell_ toldMany_ s_ r4 hc) (cs_X6_60 X (by decide)) [0, 1] [] [0, 1] rfl rfl rfl rfl (by decide) rfl rfl 0 rfl rfl rfl rfl hl.1 rfl (Nat.le_of_ble_eq_true rfl) dX6_between_54 ⟨Nat.zero_le _, Nat.zero_le _⟩ (fun H locs hw => ?_)
        obtain ⟨rfl, rfl⟩ := oi2 h
        exact r_ret X hw hr hlk dX6_between_57
      · replace h := ip c1 h
        refine lv_iload hx hb dX6_between_46 (lv_at hl 0 rfl) ?_
        refine lv_goto (tgt := 57) hx hb dX6_between_48 (by decide) ?_
        obtain ⟨rfl, rfl⟩ := oi2 h
        exact r_ret X hw hr hlk dX6_between_57
    · replace h := ip c1 h
      refine lv_bipush (v := -2) hx hb dX6_between_31 (by decide) ?_
      obtain ⟨rfl, rfl⟩ := oi2 h
      exact r_ret X hw hr hlk dX6_between_33
  · replace h := ig c1 h
    refine lv_iload hx hb dX6_between_19 (lv_at hl 0 rfl) ?_
    obtain ⟨rfl, rfl⟩ := oi2 h
    exact r_ret X hw hr hlk dX6_between_21
def rmX6_parting : Room := { frames := 3, cells := 0, slots := 0, locals := 68 }
section
variable {p : Program} {l : Launch} {e : Env} {R : Room} {s : State} {m : MethodId} {args : Array Value} {below : List Frame} {meth : Method} {c : Code} {H : Heap} {locs : List Loc} {cells slots : Nat} {Q : State → Prop}
variable {cc : ByteArray} {pc nL : Nat} {ls : Array Slot} {rest : List Value} {D : va_G} {cI cC cO : ClassId} {A : Nat → Prop} {ws : va_W} {H0 : Heap}
theorem cs_X6_177 (X : Ctx p m c cc nL s args RX6 D cI cC cO) (hR : rmX6_isParting.frames + 1 ≤ R.frames ∧ 8 + (2 + 11) + rmX6_isParting.locals ≤ R.locals) : CallW R s args RX6 RX6 177 yX6_isParting cX6_isParting 2 (some .boolean) (Wy yX6_isParting cX6_isParting 2 (some .boolean)) rmX6_isParting 0 0 1 := cwV 1 X.1.2.2.2.2 (gi_V tw_816 tw_818 sw_yX6_isParting tw_7 tw_819) rfl rfl rfl (by decide +kernel) hR
end
set_option maxHeartbeats 4000000 in
set_option maxRecDepth 100000 in
theorem c_X6_parting (l : Launch) (D : va_G) (cI cC cO : ClassId) (N : Nat) (h0 h_this_s h_this_saved h_this_snapshot h_this_text h_this_lumps h_this_order h_this_nears h_this_told : Nat) (p1 thrown_ savedMany_ hasSnapshot_ length_ lumpMany_ partingSet_ partingWeight_ at_ isWell_ toldMany_ : Int32) (s_ : Nat → Int32) (r_ : Int32) (thrown_' : Int32) (h : f_X6_parting N p1 s_ = some (r_, thrown_')) : CI l yX6_parting (Wy yX6_parting cX6_parting 2 (some .int)) rmX6_parting D cI cC cO [.ref h0, .int p1] [(h0, .inr (6, [.int thrown_, .ref h_this_s, .ref h_this_saved, .int savedMany_, .ref h_this_snapshot, .int hasSnapshot_, .ref h_this_text, .int length_, .ref h_this_lumps, .int lumpMany_, .ref h_this_order, .ref h_this_nears, .int partingSet_, .int partingWeight_, .int at_, .int isWell_, .ref h_this_told, .int toldMany_])), (h_this_s, .inl (cI, 103, .inl s_))] r_ [(h0, .inr (6, [.int thrown_', .ref h_this_s, .ref h_this_saved, .int savedMany_, .ref h_this_snapshot, .int hasSnapshot_, .ref h_this_text, .int length_, .ref h_this_lumps, .int lumpMany_, .ref h_this_order, .ref h_this_nears, .int partingSet_, .int partingWeight_, .int at_, .int isWell_, .ref h_this_told, .int toldMany_])), (h_this_s, .inl (cI, 103, .inl s_))] := by
  refine enter_i RX6 (by decide) rfl (Nat.le_of_ble_eq_true rfl) ?_
  intro p e s m below meth c A X hr hlk hw ls hl
  have hx := X.1.1
  have hb := X.1.2.1
  have hl : lv_has ls 2 [(0, .ref h0), (1, .int p1)] := hl
  unfold f_X6_parting at h
  refine lv_aload_n hx hb dX6_parting_0 rfl (lv_at hl 0 rfl) ?_
  refine lv_iconst (v := 0) hx hb dX6_parting_1 (by decide) ?_
  refine fp_X6_34 X hw 0 rfl rfl dX6_parting_2 (fun H locs hw => ?_)
  have hw : Wd D A s.heap [(h0, .inr (6, [.int (0 : Int32), .ref h_this_s, .ref h_this_saved, .int savedMany_, .ref h_this_snapshot, .int hasSnapshot_, .ref h_this_text, .int length_, .ref h_this_lumps, .int lumpMany_, .ref h_this_order, .ref h_this_nears, .int partingSet_, .int partingWeight_, .int at_, .int isWell_, .ref h_this_told, .int toldMany_])), (h_this_s, .inl (cI, 103, .inl s_))] H locs := hw
  refine lv_aload_n hx hb dX6_parting_5 rfl (lv_at hl 0 rfl) ?_
  refine lv_iload_n hx hb dX6_parting_6 rfl (lv_at hl 1 rfl) ?_
  obtain ⟨r1, hc, h⟩ := bd1_inv h
  refine r_cVi X hw (As := [.int p1]) (rest := []) (wr := []) (ws' := [(h0, .inr (6, [.int (0 : Int32), .ref h_this_s, .ref h_this_saved, .int savedMany_, .ref h_this_snapshot, .int hasSnapshot_, .ref h_this_text, .int length_, .ref h_this_lumps, .int lumpMany_, .ref h_this_order, .ref h_this_nears, .int partingSet_, .int partingWeight_, .int at_, .int isWell_, .ref h_this_told, .int toldMany_])), (h_this_s, .inl (cI, 103, .inl s_))]) (c_X6_isParting l D cI cC cO h0 h_this_s h_this_saved h_this_snapshot h_this_text h_this_lumps h_this_order h_this_nears h_this_told p1 (0 : Int32) savedMany_ hasSnapshot_ length_ lumpMany_ partingSet_ partingWeight_ at_ isWell_ toldMany_ s_ r1 hc) (cs_X6_177 X (by decide)) [0, 1] [] [0, 1] rfl rfl rfl rfl (by decide) rfl rfl 0 rfl rfl rfl rfl hl.1 rfl (Nat.le_of_ble_eq_true rfl) dX6_parting_7 ⟨Nat.zero_le _, Nat.zero_le _⟩ (fun H locs hw => ?_)
  refine lv_if_eq (tgt := 21) hx hb dX6_parting_10 (by decide) (fun c1 => ?_) (fun c1 => ?_)
  · replace h := ip c1 h
    refine lv_bipush (v := -2) hx hb dX6_parting_21 (by decide) ?_
    obtain ⟨rfl, rfl⟩ := oi2 h
    exact r_ret X hw hr hlk dX6_parting_23
  · replace h := ig c1 h
    refine lv_aload_n hx hb dX6_parting_13 rfl (lv_at hl 0 rfl) ?_
    refine lv_iload_n hx hb dX6_parting_14 rfl (lv_at hl 1 rfl) ?_
    obtain ⟨r2, hc, h⟩ := bd1_inv h
    refine r_cVi X hw (As := [.int p1]) (rest := []) (wr := []) (ws' := [(h0, .inr (6, [.int (0 : Int32), .ref h_this_s, .ref h_this_saved, .int savedMany_, .ref h_this_snapshot, .int hasSnapshot_, .ref h_this_text, .int length_, .ref h_this_lumps, .int lumpMany_, .ref h_this_order, .ref h_this_nears, .int partingSet_, .int partingWeight_, .int at_, .int isWell_, .ref h_this_told, .int toldMany_])), (h_this_s, .inl (cI, 103, .inl s_))]) (c_X6_weightOf l D cI cC cO N h0 h_this_s h_this_saved h_this_snapshot h_this_text h_this_lumps h_this_order h_this_nears h_this_told p1 (0 : Int32) savedMany_ hasSnapshot_ length_ lumpMany_ partingSet_ partingWeight_ at_ isWell_ toldMany_ s_ r2 hc) (cs_X6_60 X (by decide)) [0, 1] [] [0, 1] rfl rfl rfl rfl (by decide) rfl rfl 0 rfl rfl rfl rfl hl.1 rfl (Nat.le_of_ble_eq_true rfl) dX6_parting_15 ⟨Nat.zero_le _, Nat.zero_le _⟩ (fun H locs hw => ?_)
    refine lv_goto (tgt := 23) hx hb dX6_parting_18 (by decide) ?_
    obtain ⟨rfl, rfl⟩ := oi2 h
    exact r_ret X hw hr hlk dX6_parting_23
def rmX6_wouldBe : Room := { frames := 5, cells := 0, slots := 0, locals := 112 }
set_option maxHeartbeats 4000000 in
set_option maxRecDepth 100000 in
theorem c_X6_wouldBe (l : Launch) (D : va_G) (cI cC cO : ClassId) (N : Nat) (h0 h_this_s h_this_saved h_this_snapshot h_this_text h_this_lumps h_this_order h_this_nears h_this_told : Nat) (p1 p2 p3 thrown_ savedMany_ hasSnapshot_ length_ lumpMany_ partingSet_ partingWeight_ at_ isWell_ toldMany_ : Int32) (s_ : Nat → Int32) (r_ : Int32) (thrown_' : Int32) (s_' : Nat → Int32) (h : f_X6_wouldBe N p1 p2 p3 s_ = some (r_, thrown_', s_')) : CI l yX6_wouldBe (Wy yX6_wouldBe cX6_wouldBe 7 (some .int)) rmX6_wouldBe D cI cC cO [.ref h0, .int p1, .int p2, .int p3] [(h0, .inr (6, [.int thrown_, .ref h_this_s, .ref h_this_saved, .int savedMany_, .ref h_this_snapshot, .int hasSnapshot_, .ref h_this_text, .int length_, .ref h_this_lumps, .int lumpMany_, .ref h_this_order, .ref h_this_nears, .int partingSet_, .int partingWeight_, .int at_, .int isWell_, .ref h_this_told, .int toldMany_])), (h_this_s, .inl (cI, 103, .inl s_))] r_ [(h0, .inr (6, [.int thrown_', .ref h_this_s, .ref h_this_saved, .int savedMany_, .ref h_this_snapshot, .int hasSnapshot_, .ref h_this_text, .int length_, .ref h_this_lumps, .int lumpMany_, .ref h_this_order, .ref h_this_nears, .int partingSet_, .int partingWeight_, .int at_, .int isWell_, .ref h_this_told, .int toldMany_])), (h_this_s, .inl (cI, 103, .inl s_'))] := by
  refine enter_i RX6 (by decide) rfl (Nat.le_of_ble_eq_true rfl) ?_
  intro p e s m below meth c A X hr hlk hw ls hl
  have hx := X.1.1
  have hb := X.1.2.1
  have hl : lv_has ls 7 [(0, .ref h0), (1, .int p1), (2, .int p2), (3, .int p3)] := hl
  unfold f_X6_wouldBe at h
  refine lv_aload_n hx hb dX6_wouldBe_0 rfl (lv_at hl 0 rfl) ?_
  refine lv_iconst (v := 0) hx hb dX6_wouldBe_1 (by decide) ?_
  refine fp_X6_34 X hw 0 rfl rfl dX6_wouldBe_2 (fun H locs hw => ?_)
  have hw : Wd D A s.heap [(h0, .inr (6, [.int (0 : Int32), .ref h_this_s, .ref h_this_saved, .int savedMany_, .ref h_this_snapshot, .int hasSnapshot_, .ref h_this_text, .int length_, .ref h_this_lumps, .int lumpMany_, .ref h_this_order, .ref h_this_nears, .int partingSet_, .int partingWeight_, .int at_, .int isWell_, .ref h_this_told, .int toldMany_])), (h_this_s, .inl (cI, 103, .inl s_))] H locs := hw
  refine lv_aload_n hx hb dX6_wouldBe_5 rfl (lv_at hl 0 rfl) ?_
  refine lv_iload_n hx hb dX6_wouldBe_6 rfl (lv_at hl 1 rfl) ?_
  refine lv_iload_n hx hb dX6_wouldBe_7 rfl (lv_at hl 2 rfl) ?_
  refine lv_iload_n hx hb dX6_wouldBe_8 rfl (lv_at hl 3 rfl) ?_
  obtain ⟨r1, hc, h⟩ := bd1_inv h
  refine r_cVi X hw (As := [.int p1, .int p2, .int p3]) (rest := []) (wr := []) (ws' := [(h0, .inr (6, [.int (0 : Int32), .ref h_this_s, .ref h_this_saved, .int savedMany_, .ref h_this_snapshot, .int hasSnapshot_, .ref h_this_text, .int length_, .ref h_this_lumps, .int lumpMany_, .ref h_this_order, .ref h_this_nears, .int partingSet_, .int partingWeight_, .int at_, .int isWell_, .ref h_this_told, .int toldMany_])), (h_this_s, .inl (cI, 103, .inl s_))]) (c_X6_refusesPair l D cI cC cO h0 h_this_s h_this_saved h_this_snapshot h_this_text h_this_lumps h_this_order h_this_nears h_this_told p1 p2 p3 (0 : Int32) savedMany_ hasSnapshot_ length_ lumpMany_ partingSet_ partingWeight_ at_ isWell_ toldMany_ s_ r1 hc) (cs_X6_118 X (by decide)) [0, 1] [] [0, 1] rfl rfl rfl rfl (by decide) rfl rfl 0 rfl rfl rfl rfl hl.1 rfl (Nat.le_of_ble_eq_true rfl) dX6_wouldBe_9 ⟨Nat.zero_le _, Nat.zero_le _⟩ (fun H locs hw => ?_)
  refine lv_istore (lv' := [(4, .int r1), (0, .ref h0), (1, .int p1), (2, .int p2), (3, .int p3)]) hx hb dX6_wouldBe_12 hl (by decide) rfl (fun ls hl => ?_)
  refine lv_iload hx hb dX6_wouldBe_14 (lv_at hl 0 rfl) ?_
  refine lv_if_eq (tgt := 22) hx hb dX6_wouldBe_16 (by decide) (fun c1 => ?_) (fun c1 => ?_)
  · replace h := ip c1 h
    refine lv_aload_n hx hb dX6_wouldBe_22 rfl (lv_at hl 1 rfl) ?_
    refine lv_iload_n hx hb dX6_wouldBe_23 rfl (lv_at hl 2 rfl) ?_
    refine lv_iload_n hx hb dX6_wouldBe_24 rfl (lv_at hl 3 rfl) ?_
    obtain ⟨r2, hc, h⟩ := bd1_inv h
    refine r_cVi X hw (As := [.int p1, .int p2]) (rest := []) (wr := []) (ws' := [(h0, .inr (6, [.int (0 : Int32), .ref h_this_s, .ref h_this_saved, .int savedMany_, .ref h_this_snapshot, .int hasSnapshot_, .ref h_this_text, .int length_, .ref h_this_lumps, .int lumpMany_, .ref h_this_order, .ref h_this_nears, .int partingSet_, .int partingWeight_, .int at_, .int isWell_, .ref h_this_told, .int toldMany_])), (h_this_s, .inl (cI, 103, .inl s_))]) (c_X6_tied l D cI cC cO h0 h_this_s h_this_saved h_this_snapshot h_this_text h_this_lumps h_this_order h_this_nears h_this_told p1 p2 (0 : Int32) savedMany_ hasSnapshot_ length_ lumpMany_ partingSet_ partingWeight_ at_ isWell_ toldMany_ s_ r2 hc) (cs_X6_45 X (by decide)) [0, 1] [] [0, 1] rfl rfl rfl rfl (by decide) rfl rfl 0 rfl rfl rfl rfl hl.1 rfl (Nat.le_of_ble_eq_true rfl) dX6_wouldBe_25 ⟨Nat.zero_le _, Nat.zero_le _⟩ (fun H locs hw => ?_)
    refine lv_istore (lv' := [(5, .int r2), (4, .int r1), (0, .ref h0), (1, .int p1), (2, .int p2), (3, .int p3)]) hx hb dX6_wouldBe_28 hl (by decide) rfl (fun ls hl => ?_)
    refine lv_aload_n hx hb dX6_wouldBe_30 rfl (lv_at hl 2 rfl) ?_
    refine lv_iload_n hx hb dX6_wouldBe_31 rfl (lv_at hl 3 rfl) ?_
    refine lv_iload_n hx hb dX6_wouldBe_32 rfl (lv_at hl 4 rfl) ?_
    refine lv_iload_n hx hb dX6_wouldBe_33 rfl (lv_at hl 5 rfl) ?_
    obtain ⟨a3, hc, h⟩ := bd1_inv h
    refine r_cVv X hw (As := [.int p1, .int p2, .int p3]) (rest := []) (wr := []) (ws' := [(h0, .inr (6, [.int (0 : Int32), .ref h_this_s, .ref h_this_saved, .int savedMany_, .ref h_this_snapshot, .int hasSnapshot_, .ref h_this_text, .int length_, .ref h_this_lumps, .int lumpMany_, .ref h_this_order, .ref h_this_nears, .int partingSet_, .int partingWeight_, .int at_, .int isWell_, .ref h_this_told, .int toldMany_])), (h_this_s, .inl (cI, 103, .inl a3))]) (c_X6_ties l D cI cC cO h0 h_this_s h_this_saved h_this_snapshot h_this_text h_this_lumps h_this_order h_this_nears h_this_told p1 p2 p3 (0 : Int32) savedMany_ hasSnapshot_ length_ lumpMany_ partingSet_ partingWeight_ at_ isWell_ toldMany_ s_ a3 hc) (cs_X6_114 X (by decide)) [0, 1] [] [0, 1] rfl rfl rfl rfl (by decide) rfl rfl 0 rfl rfl rfl rfl hl.1 rfl (Nat.le_of_ble_eq_true rfl) dX6_wouldBe_34 ⟨Nat.zero_le _, Nat.zero_le _⟩ (fun H locs hw => ?_)
    refine lv_aload_n hx hb dX6_wouldBe_37 rfl (lv_at hl 2 rfl) ?_
    obtain ⟨r4, hc, h⟩ := bd1_inv h
    refine r_cVi X hw (As := []) (rest := []) (wr := []) (ws' := [(h0, .inr (6, [.int (0 : Int32), .ref h_this_s, .ref h_this_saved, .int savedMany_, .ref h_this_snapshot, .int hasSnapshot_, .ref h_this_text, .int length_, .ref h_this_lumps, .int lumpMany_, .ref h_this_order, .ref h_this_nears, .int partingSet_, .int partingWeight_, .int at_, .int isWell_, .ref h_this_told, .int toldMany_])), (h_this_s, .inl (cI, 103, .inl a3))]) (c_X6_leastWeight l D cI cC cO N h0 h_this_s h_this_saved h_this_snapshot h_this_text h_this_lumps h_this_order h_this_nears h_this_told (0 : Int32) savedMany_ hasSnapshot_ length_ lumpMany_ partingSet_ partingWeight_ at_ isWell_ toldMany_ a3 r4 hc) (cs_X6_66 X (by decide)) [0, 1] [] [0, 1] rfl rfl rfl rfl (by decide) rfl rfl 0 rfl rfl rfl rfl hl.1 rfl (Nat.le_of_ble_eq_true rfl) dX6_wouldBe_38 ⟨Nat.zero_le _, Nat.zero_le _⟩ (fun H locs hw => ?_)
    refine lv_istore (lv' := [(6, .int r4), (5, .int r2), (4, .int r1), (0, .ref h0), (1, .int p1), (2, .int p2), (3, .int p3)]) hx hb dX6_wouldBe_41 hl (by decide) rfl (fun ls hl => ?_)
    refine lv_aload_n hx hb dX6_wouldBe_43 rfl (lv_at hl 3 rfl) ?_
    refine lv_iload_n hx hb dX6_wouldBe_44 rfl (lv_at hl 4 rfl) ?_
    refine lv_iload_n hx hb dX6_wouldBe_45 rfl (lv_at hl 5 rfl) ?_
    refine lv_iload hx hb dX6_wouldBe_46 (lv_at hl 1 rfl) ?_
    obtain ⟨a5, hc, h⟩ := bd1_inv h
    refine r_cVv X hw (As := [.int p1, .int p2, .int r2]) (rest := []) (wr := []) (ws' := [(h0, .inr (6, [.int (0 : Int32), .ref h_this_s, .ref h_this_saved, .int savedMany_, .ref h_this_snapshot, .int hasSnapshot_, .ref h_this_text, .int length_, .ref h_this_lumps, .int lumpMany_, .ref h_this_order, .ref h_this_nears, .int partingSet_, .int partingWeight_, .int at_, .int isWell_, .ref h_this_told, .int toldMany_])), (h_this_s, .inl (cI, 103, .inl a5))]) (c_X6_ties l D cI cC cO h0 h_this_s h_this_saved h_this_snapshot h_this_text h_this_lumps h_this_order h_this_nears h_this_told p1 p2 r2 (0 : Int32) savedMany_ hasSnapshot_ length_ lumpMany_ partingSet_ partingWeight_ at_ isWell_ toldMany_ a3 a5 hc) (cs_X6_114 X (by decide)) [0, 1] [] [0, 1] rfl rfl rfl rfl (by decide) rfl rfl 0 rfl rfl rfl rfl hl.1 rfl (Nat.le_of_ble_eq_true rfl) dX6_wouldBe_48 ⟨Nat.zero_le _, Nat.zero_le _⟩ (fun H locs hw => ?_)
    refine lv_iload hx hb dX6_wouldBe_51 (lv_at hl 0 rfl) ?_
    obtain ⟨rfl, rfl, rfl⟩ := oi3 h
    exact r_ret X hw hr hlk dX6_wouldBe_53
  · replace h := ig c1 h
    refine lv_iload hx hb dX6_wouldBe_19 (lv_at hl 0 rfl) ?_
    obtain ⟨rfl, rfl, rfl⟩ := oi3 h
    exact r_ret X hw hr hlk dX6_wouldBe_21
def rmX6_tight : Room := { frames := 7, cells := 0, slots := 0, locals := 161 }
section
variable {p : Program} {l : Launch} {e : Env} {R : Room} {s : State} {m : MethodId} {args : Array Value} {below : List Frame} {meth : Method} {c : Code} {H : Heap} {locs : List Loc} {cells slots : Nat} {Q : State → Prop}
variable {cc : ByteArray} {pc nL : Nat} {ls : Array Slot} {rest : List Value} {D : va_G} {cI cC cO : ClassId} {A : Nat → Prop} {ws : va_W} {H0 : Heap}
theorem cs_X6_180 (X : Ctx p m c cc nL s args RX6 D cI cC cO) (hR : rmX6_tightAt.frames + 1 ≤ R.frames ∧ 8 + (5 + 11) + rmX6_tightAt.locals ≤ R.locals) : CallW R s args RX6 RX6 180 yX6_tightAt cX6_tightAt 5 (some .int) (Wy yX6_tightAt cX6_tightAt 5 (some .int)) rmX6_tightAt 0 0 1 := cwV 1 X.1.2.2.2.2 (gi_V tw_828 tw_830 sw_yX6_tightAt tw_7 tw_831) rfl rfl rfl (by decide +kernel) hR
end
set_option maxHeartbeats 4000000 in
set_option maxRecDepth 100000 in
theorem c_X6_tight (l : Launch) (D : va_G) (cI cC cO : ClassId) (N : Nat) (h0 h_this_s h_this_saved h_this_snapshot h_this_text h_this_lumps h_this_order h_this_nears h_this_told : Nat) (p1 thrown_ savedMany_ hasSnapshot_ length_ lumpMany_ partingSet_ partingWeight_ at_ isWell_ toldMany_ : Int32) (s_ : Nat → Int32) (r_ : Int32) (thrown_' : Int32) (h : f_X6_tight N p1 s_ = some (r_, thrown_')) : CI l yX6_tight (Wy yX6_tight cX6_tight 2 (some .int)) rmX6_tight D cI cC cO [.ref h0, .int p1] [(h0, .inr (6, [.int thrown_, .ref h_this_s, .ref h_this_saved, .int savedMany_, .ref h_this_snapshot, .int hasSnapshot_, .ref h_this_text, .int length_, .ref h_this_lumps, .int lumpMany_, .ref h_this_order, .ref h_this_nears, .int partingSet_, .int partingWeight_, .int at_, .int isWell_, .ref h_this_told, .int toldMany_])), (h_this_s, .inl (cI, 103, .inl s_))] r_ [(h0, .inr (6, [.int thrown_', .ref h_this_s, .ref h_this_saved, .int savedMany_, .ref h_this_snapshot, .int hasSnapshot_, .ref h_this_text, .int length_, .ref h_this_lumps, .int lumpMany_, .ref h_this_order, .ref h_this_nears, .int partingSet_, .int partingWeight_, .int at_, .int isWell_, .ref h_this_told, .int toldMany_])), (h_this_s, .inl (cI, 103, .inl s_))] := by
  refine enter_i RX6 (by decide) rfl (Nat.le_of_ble_eq_true rfl) ?_
  intro p e s m below meth c A X hr hlk hw ls hl
  have hx := X.1.1
  have hb := X.1.2.1
  have hl : lv_has ls 2 [(0, .ref h0), (1, .int p1)] := hl
  unfold f_X6_tight at h
  refine lv_aload_n hx hb dX6_tight_0 rfl (lv_at hl 0 rfl) ?_
  refine lv_iconst (v := 0) hx hb dX6_tight_1 (by decide) ?_
  refine fp_X6_34 X hw 0 rfl rfl dX6_tight_2 (fun H locs hw => ?_)
  have hw : Wd D A s.heap [(h0, .inr (6, [.int (0 : Int32), .ref h_this_s, .ref h_this_saved, .int savedMany_, .ref h_this_snapshot, .int hasSnapshot_, .ref h_this_text, .int length_, .ref h_this_lumps, .int lumpMany_, .ref h_this_order, .ref h_this_nears, .int partingSet_, .int partingWeight_, .int at_, .int isWell_, .ref h_this_told, .int toldMany_])), (h_this_s, .inl (cI, 103, .inl s_))] H locs := hw
  refine lv_iload_n hx hb dX6_tight_5 rfl (lv_at hl 1 rfl) ?_
  refine lv_if_ge (tgt := 14) hx hb dX6_tight_6 (by decide) (fun c1 => ?_) (fun c1 => ?_)
  · replace h := ip c1 h
    refine lv_aload_n hx hb dX6_tight_14 rfl (lv_at hl 0 rfl) ?_
    refine lv_iload_n hx hb dX6_tight_15 rfl (lv_at hl 1 rfl) ?_
    obtain ⟨r1, hc, h⟩ := bd1_inv h
    refine r_cVi X hw (As := [.int p1]) (rest := []) (wr := []) (ws' := [(h0, .inr (6, [.int (0 : Int32), .ref h_this_s, .ref h_this_saved, .int savedMany_, .ref h_this_snapshot, .int hasSnapshot_, .ref h_this_text, .int length_, .ref h_this_lumps, .int lumpMany_, .ref h_this_order, .ref h_this_nears, .int partingSet_, .int partingWeight_, .int at_, .int isWell_, .ref h_this_told, .int toldMany_])), (h_this_s, .inl (cI, 103, .inl s_))]) (c_X6_tightAt l D cI cC cO N h0 h_this_s h_this_saved h_this_snapshot h_this_text h_this_lumps h_this_order h_this_nears h_this_told p1 (0 : Int32) savedMany_ hasSnapshot_ length_ lumpMany_ partingSet_ partingWeight_ at_ isWell_ toldMany_ s_ r1 hc) (cs_X6_180 X (by decide)) [0, 1] [] [0, 1] rfl rfl rfl rfl (by decide) rfl rfl 0 rfl rfl rfl rfl hl.1 rfl (Nat.le_of_ble_eq_true rfl) dX6_tight_16 ⟨Nat.zero_le _, Nat.zero_le _⟩ (fun H locs hw => ?_)
    obtain ⟨rfl, rfl⟩ := oi2 h
    exact r_ret X hw hr hlk dX6_tight_19
  · replace h := ig c1 h
    refine lv_bipush (v := -2) hx hb dX6_tight_9 (by decide) ?_
    refine lv_goto (tgt := 19) hx hb dX6_tight_11 (by decide) ?_
    obtain ⟨rfl, rfl⟩ := oi2 h
    exact r_ret X hw hr hlk dX6_tight_19
def rmX6_overPairs : Room := { frames := 1, cells := 0, slots := 0, locals := 22 }
set_option maxHeartbeats 4000000 in
set_option maxRecDepth 100000 in
theorem c_X6_overPairs (l : Launch) (D : va_G) (cI cC cO : ClassId) (N : Nat) (h0 h_this_s h_this_saved h_this_snapshot h_this_text h_this_lumps h_this_order h_this_nears h_this_told : Nat) (p1 thrown_ savedMany_ hasSnapshot_ length_ lumpMany_ partingSet_ partingWeight_ at_ isWell_ toldMany_ : Int32) (s_ : Nat → Int32) (r_ : Int32) (h : f_X6_overPairs N p1 s_ = some r_) : CI l yX6_overPairs (Wy yX6_overPairs cX6_overPairs 5 (some .int)) rmX6_overPairs D cI cC cO [.ref h0, .int p1] [(h0, .inr (6, [.int thrown_, .ref h_this_s, .ref h_this_saved, .int savedMany_, .ref h_this_snapshot, .int hasSnapshot_, .ref h_this_text, .int length_, .ref h_this_lumps, .int lumpMany_, .ref h_this_order, .ref h_this_nears, .int partingSet_, .int partingWeight_, .int at_, .int isWell_, .ref h_this_told, .int toldMany_])), (h_this_s, .inl (cI, 103, .inl s_))] r_ [(h0, .inr (6, [.int thrown_, .ref h_this_s, .ref h_this_saved, .int savedMany_, .ref h_this_snapshot, .int hasSnapshot_, .ref h_this_text, .int length_, .ref h_this_lumps, .int lumpMany_, .ref h_this_order, .ref h_this_nears, .int partingSet_, .int partingWeight_, .int at_, .int isWell_, .ref h_this_told, .int toldMany_])), (h_this_s, .inl (cI, 103, .inl s_))] := by
  refine enter_i RX6 (by decide) rfl (Nat.le_of_ble_eq_true rfl) ?_
  intro p e s m below meth c A X hr hlk hw ls hl
  have hx := X.1.1
  have hb := X.1.2.1
  have hl : lv_has ls 5 [(0, .ref h0), (1, .int p1)] := hl
  unfold f_X6_overPairs at h
  refine lv_iconst (v := 0) hx hb dX6_overPairs_0 (by decide) ?_
  refine lv_istore_n (lv' := [(2, .int (0 : Int32)), (0, .ref h0), (1, .int p1)]) hx hb dX6_overPairs_1 rfl hl (by decide) rfl (fun ls hl => ?_)
  refine lv_iconst (v := 0) hx hb dX6_overPairs_2 (by decide) ?_
  refine lv_istore_n (lv' := [(3, .int (0 : Int32)), (2, .int (0 : Int32)), (0, .ref h0), (1, .int p1)]) hx hb dX6_overPairs_3 rfl hl (by decide) rfl (fun ls hl => ?_)
  have E74 : ∀ (x15 : Int32) (H : Heap) (locs : List Loc) (ls : Array Slot), f_X6_overPairs_E74 x15 = some r_ → Wd D A s.heap [(h0, .inr (6, [.int thrown_, .ref h_this_s, .ref h_this_saved, .int savedMany_, .ref h_this_snapshot, .int hasSnapshot_, .ref h_this_text, .int length_, .ref h_this_lumps, .int lumpMany_, .ref h_this_order, .ref h_this_nears, .int partingSet_, .int partingWeight_, .int at_, .int isWell_, .ref h_this_told, .int toldMany_])), (h_this_s, .inl (cI, 103, .inl s_))] H locs → lv_has ls 5 [(2, .int x15)] → W p l e rmX6_overPairs s m ([.ref h0, .int p1] : List Value).toArray below meth c H locs 0 0 (MQ below (Qi D r_ [(h0, .inr (6, [.int thrown_, .ref h_this_s, .ref h_this_saved, .int savedMany_, .ref h_this_snapshot, .int hasSnapshot_, .ref h_this_text, .int length_, .ref h_this_lumps, .int lumpMany_, .ref h_this_order, .ref h_this_nears, .int partingSet_, .int partingWeight_, .int at_, .int isWell_, .ref h_this_told, .int toldMany_])), (h_this_s, .inl (cI, 103, .inl s_))] A) ([.ref h0, .int p1] : List Value).toArray s 0 0 A) (F0 m 74 ls []) := by
    intro x15 H locs ls h hw hl
    unfold f_X6_overPairs_E74 at h
    refine lv_iload_n hx hb dX6_overPairs_74 rfl (lv_at hl 0 rfl) ?_
    obtain rfl := oi1 h
    exact r_ret X hw hr hlk dX6_overPairs_75
  have L4 : ∀ (k12 : Int32 → Option (Int32)), (∀ (x15 : Int32) (H : Heap) (locs : List Loc) (ls : Array Slot), k12 x15 = some r_ → Wd D A s.heap [(h0, .inr (6, [.int thrown_, .ref h_this_s, .ref h_this_saved, .int savedMany_, .ref h_this_snapshot, .int hasSnapshot_, .ref h_this_text, .int length_, .ref h_this_lumps, .int lumpMany_, .ref h_this_order, .ref h_this_nears, .int partingSet_, .int partingWeight_, .int at_, .int isWell_, .ref h_this_told, .int toldMany_])), (h_this_s, .inl (cI, 103, .inl s_))] H locs → lv_has ls 5 [(2, .int x15)] → W p l e rmX6_overPairs s m ([.ref h0, .int p1] : List Value).toArray below meth c H locs 0 0 (MQ below (Qi D r_ [(h0, .inr (6, [.int thrown_, .ref h_this_s, .ref h_this_saved, .int savedMany_, .ref h_this_snapshot, .int hasSnapshot_, .ref h_this_text, .int length_, .ref h_this_lumps, .int lumpMany_, .ref h_this_order, .ref h_this_nears, .int partingSet_, .int partingWeight_, .int at_, .int isWell_, .ref h_this_told, .int toldMany_])), (h_this_s, .inl (cI, 103, .inl s_))] A) ([.ref h0, .int p1] : List Value).toArray s 0 0 A) (F0 m 74 ls [])) → ∀ (n14 : Nat), ∀ (x1 x2 : Int32) (H : Heap) (locs : List Loc) (ls : Array Slot), f_X6_overPairs_L4 N s_ p1 k12 n14 x1 x2 = some r_ → Wd D A s.heap [(h0, .inr (6, [.int thrown_, .ref h_this_s, .ref h_this_saved, .int savedMany_, .ref h_this_snapshot, .int hasSnapshot_, .ref h_this_text, .int length_, .ref h_this_lumps, .int lumpMany_, .ref h_this_order, .ref h_this_nears, .int partingSet_, .int partingWeight_, .int at_, .int isWell_, .ref h_this_told, .int toldMany_])), (h_this_s, .inl (cI, 103, .inl s_))] H locs → lv_has ls 5 [(0, .ref h0), (1, .int p1), (2, .int x1), (3, .int x2)] → W p l e rmX6_overPairs s m ([.ref h0, .int p1] : List Value).toArray below meth c H locs 0 0 (MQ below (Qi D r_ [(h0, .inr (6, [.int thrown_, .ref h_this_s, .ref h_this_saved, .int savedMany_, .ref h_this_snapshot, .int hasSnapshot_, .ref h_this_text, .int length_, .ref h_this_lumps, .int lumpMany_, .ref h_this_order, .ref h_this_nears, .int partingSet_, .int partingWeight_, .int at_, .int isWell_, .ref h_this_told, .int toldMany_])), (h_this_s, .inl (cI, 103, .inl s_))] A) ([.ref h0, .int p1] : List Value).toArray s 0 0 A) (F0 m 4 ls []) := by
    intro k12 hk4 n14
    induction n14 with
    | zero => intro x1 x2 H locs ls h; cases h
    | succ n14 ih4 =>
      intro x1 x2 H locs ls h hw hl
      rw [f_X6_overPairs_L4] at h
      refine lv_iload_n hx hb dX6_overPairs_4 rfl (lv_at hl 3 rfl) ?_
      refine lv_aload_n hx hb dX6_overPairs_5 rfl (lv_at hl 0 rfl) ?_
      refine fg_X6_7 X hw 0 rfl rfl dX6_overPairs_6 ?_
      refine lv_iconst (v := 0) hx hb dX6_overPairs_9 (by decide) ?_
      refine r_iald X hw 1 rfl (v := (s_ 0)) (vp_lit (by decide)) rfl dX6_overPairs_10 ?_
      refine lv_icmp_ge (tgt := 74) hx hb dX6_overPairs_11 (by decide) (fun c1 => ?_) (fun c1 => ?_)
      · replace h := ip c1 h
        exact hk4 x1 _ _ _ h hw (lv_sub hl [2] rfl)
      · replace h := ig c1 h
        refine lv_iload_n hx hb dX6_overPairs_14 rfl (lv_at hl 3 rfl) ?_
        refine lv_iconst (v := 1) hx hb dX6_overPairs_15 (by decide) ?_
        refine lv_iadd hx hb dX6_overPairs_16 ?_
        refine lv_istore (lv' := [(4, .int (x2 + (1 : Int32))), (0, .ref h0), (1, .int p1), (2, .int x1), (3, .int x2)]) hx hb dX6_overPairs_17 hl (by decide) rfl (fun ls hl => ?_)
        have E68 : ∀ (x11 : Int32) (H : Heap) (locs : List Loc) (ls : Array Slot), f_X6_overPairs_E68 (f_X6_overPairs_L4 N s_ p1 k12 n14) x2 x11 = some r_ → Wd D A s.heap [(h0, .inr (6, [.int thrown_, .ref h_this_s, .ref h_this_saved, .int savedMany_, .ref h_this_snapshot, .int hasSnapshot_, .ref h_this_text, .int length_, .ref h_this_lumps, .int lumpMany_, .ref h_this_order, .ref h_this_nears, .int partingSet_, .int partingWeight_, .int at_, .int isWell_, .ref h_this_told, .int toldMany_])), (h_this_s, .inl (cI, 103, .inl s_))] H locs → lv_has ls 5 [(0, .ref h0), (1, .int p1), (2, .int x11), (3, .int x2)] → W p l e rmX6_overPairs s m ([.ref h0, .int p1] : List Value).toArray below meth c H locs 0 0 (MQ below (Qi D r_ [(h0, .inr (6, [.int thrown_, .ref h_this_s, .ref h_this_saved, .int savedMany_, .ref h_this_snapshot, .int hasSnapshot_, .ref h_this_text, .int length_, .ref h_this_lumps, .int lumpMany_, .ref h_this_order, .ref h_this_nears, .int partingSet_, .int partingWeight_, .int at_, .int isWell_, .ref h_this_told, .int toldMany_])), (h_this_s, .inl (cI, 103, .inl s_))] A) ([.ref h0, .int p1] : List Value).toArray s 0 0 A) (F0 m 68 ls []) := by
          intro x11 H locs ls h hw hl
          unfold f_X6_overPairs_E68 at h
          refine lv_iinc (v := (x2 + (1 : Int32))) (lv' := [(3, .int (x2 + (1 : Int32))), (0, .ref h0), (1, .int p1), (2, .int x11)]) hx hb dX6_overPairs_68 hl (k := 3) rfl rfl (by decide) rfl (fun ls hl => ?_)
          refine lv_goto (tgt := 4) hx hb dX6_overPairs_71 (by decide) ?_
          exact ih4 x11 (x2 + (1 : Int32)) _ _ _ h hw (lv_sub hl [1, 2, 3, 0] rfl)
        have L19 : ∀ (k8 : Int32 → Option (Int32)), (∀ (x11 : Int32) (H : Heap) (locs : List Loc) (ls : Array Slot), k8 x11 = some r_ → Wd D A s.heap [(h0, .inr (6, [.int thrown_, .ref h_this_s, .ref h_this_saved, .int savedMany_, .ref h_this_snapshot, .int hasSnapshot_, .ref h_this_text, .int length_, .ref h_this_lumps, .int lumpMany_, .ref h_this_order, .ref h_this_nears, .int partingSet_, .int partingWeight_, .int at_, .int isWell_, .ref h_this_told, .int toldMany_])), (h_this_s, .inl (cI, 103, .inl s_))] H locs → lv_has ls 5 [(0, .ref h0), (1, .int p1), (2, .int x11), (3, .int x2)] → W p l e rmX6_overPairs s m ([.ref h0, .int p1] : List Value).toArray below meth c H locs 0 0 (MQ below (Qi D r_ [(h0, .inr (6, [.int thrown_, .ref h_this_s, .ref h_this_saved, .int savedMany_, .ref h_this_snapshot, .int hasSnapshot_, .ref h_this_text, .int length_, .ref h_this_lumps, .int lumpMany_, .ref h_this_order, .ref h_this_nears, .int partingSet_, .int partingWeight_, .int at_, .int isWell_, .ref h_this_told, .int toldMany_])), (h_this_s, .inl (cI, 103, .inl s_))] A) ([.ref h0, .int p1] : List Value).toArray s 0 0 A) (F0 m 68 ls [])) → ∀ (n10 : Nat), ∀ (x3 x4 : Int32) (H : Heap) (locs : List Loc) (ls : Array Slot), f_X6_overPairs_L19 s_ p1 x2 k8 n10 x3 x4 = some r_ → Wd D A s.heap [(h0, .inr (6, [.int thrown_, .ref h_this_s, .ref h_this_saved, .int savedMany_, .ref h_this_snapshot, .int hasSnapshot_, .ref h_this_text, .int length_, .ref h_this_lumps, .int lumpMany_, .ref h_this_order, .ref h_this_nears, .int partingSet_, .int partingWeight_, .int at_, .int isWell_, .ref h_this_told, .int toldMany_])), (h_this_s, .inl (cI, 103, .inl s_))] H locs → lv_has ls 5 [(0, .ref h0), (1, .int p1), (2, .int x3), (3, .int x2), (4, .int x4)] → W p l e rmX6_overPairs s m ([.ref h0, .int p1] : List Value).toArray below meth c H locs 0 0 (MQ below (Qi D r_ [(h0, .inr (6, [.int thrown_, .ref h_this_s, .ref h_this_saved, .int savedMany_, .ref h_this_snapshot, .int hasSnapshot_, .ref h_this_text, .int length_, .ref h_this_lumps, .int lumpMany_, .ref h_this_order, .ref h_this_nears, .int partingSet_, .int partingWeight_, .int at_, .int isWell_, .ref h_this_told, .int toldMany_])), (h_this_s, .inl (cI, 103, .inl s_))] A) ([.ref h0, .int p1] : List Value).toArray s 0 0 A) (F0 m 19 ls []) := by
          intro k8 hk19 n10
          induction n10 with
          | zero => intro x3 x4 H locs ls h; cases h
          | succ n10 ih19 =>
            intro x3 x4 H locs ls h hw hl
            rw [f_X6_overPairs_L19] at h
            refine lv_iload hx hb dX6_overPairs_19 (lv_at hl 4 rfl) ?_
            refine lv_aload_n hx hb dX6_overPairs_21 rfl (lv_at hl 0 rfl) ?_
            refine fg_X6_7 X hw 0 rfl rfl dX6_overPairs_22 ?_
            refine lv_iconst (v := 0) hx hb dX6_overPairs_25 (by decide) ?_
            refine r_iald X hw 1 rfl (v := (s_ 0)) (vp_lit (by decide)) rfl dX6_overPairs_26 ?_
            refine lv_icmp_ge (tgt := 68) hx hb dX6_overPairs_27 (by decide) (fun c1 => ?_) (fun c1 => ?_)
            · replace h := ip c1 h
              exact hk19 x3 _ _ _ h hw (lv_sub hl [0, 1, 2, 3] rfl)
            · replace h := ig c1 h
              refine lv_iload_n hx hb dX6_overPairs_30 rfl (lv_at hl 2 rfl) ?_
              refine lv_iload_n hx hb dX6_overPairs_31 rfl (lv_at hl 1 rfl) ?_
              have J60 : ∀ (x7 : Int32) (H : Heap) (locs : List Loc) (ls : Array Slot), f_X6_overPairs_J60 (f_X6_overPairs_L19 s_ p1 x2 k8 n10) x3 x4 x7 = some r_ → Wd D A s.heap [(h0, .inr (6, [.int thrown_, .ref h_this_s, .ref h_this_saved, .int savedMany_, .ref h_this_snapshot, .int hasSnapshot_, .ref h_this_text, .int length_, .ref h_this_lumps, .int lumpMany_, .ref h_this_order, .ref h_this_nears, .int partingSet_, .int partingWeight_, .int at_, .int isWell_, .ref h_this_told, .int toldMany_])), (h_this_s, .inl (cI, 103, .inl s_))] H locs → lv_has ls 5 [(0, .ref h0), (1, .int p1), (3, .int x2), (4, .int x4)] → W p l e rmX6_overPairs s m ([.ref h0, .int p1] : List Value).toArray below meth c H locs 0 0 (MQ below (Qi D r_ [(h0, .inr (6, [.int thrown_, .ref h_this_s, .ref h_this_saved, .int savedMany_, .ref h_this_snapshot, .int hasSnapshot_, .ref h_this_text, .int length_, .ref h_this_lumps, .int lumpMany_, .ref h_this_order, .ref h_this_nears, .int partingSet_, .int partingWeight_, .int at_, .int isWell_, .ref h_this_told, .int toldMany_])), (h_this_s, .inl (cI, 103, .inl s_))] A) ([.ref h0, .int p1] : List Value).toArray s 0 0 A) (F0 m 60 ls [.int x7, .int x3]) := by
                intro x7 H locs ls h hw hl
                unfold f_X6_overPairs_J60 at h
                refine lv_iadd hx hb dX6_overPairs_60 ?_
                refine lv_istore_n (lv' := [(2, .int (x3 + x7)), (0, .ref h0), (1, .int p1), (3, .int x2), (4, .int x4)]) hx hb dX6_overPairs_61 rfl hl (by decide) rfl (fun ls hl => ?_)
                refine lv_iinc (v := (x4 + (1 : Int32))) (lv' := [(4, .int (x4 + (1 : Int32))), (2, .int (x3 + x7)), (0, .ref h0), (1, .int p1), (3, .int x2)]) hx hb dX6_overPairs_62 hl (k := 4) rfl rfl (by decide) rfl (fun ls hl => ?_)
                refine lv_goto (tgt := 19) hx hb dX6_overPairs_65 (by decide) ?_
                exact ih19 (x3 + x7) (x4 + (1 : Int32)) _ _ _ h hw (lv_sub hl [2, 3, 1, 4, 0] rfl)
              refine lv_if_eq (tgt := 45) hx hb dX6_overPairs_32 (by decide) (fun c1 => ?_) (fun c1 => ?_)
              · replace h := ip c1 h
                refine lv_aload_n hx hb dX6_overPairs_45 rfl (lv_at hl 0 rfl) ?_
                refine lv_iload_n hx hb dX6_overPairs_46 rfl (lv_at hl 3 rfl) ?_
                refine lv_iload hx hb dX6_overPairs_47 (lv_at hl 4 rfl) ?_
                obtain ⟨r5, hc, h⟩ := bd1_inv h
                refine r_cVi X hw (As := [.int x2, .int x4]) (rest := [.int x3]) (wr := []) (ws' := [(h0, .inr (6, [.int thrown_, .ref h_this_s, .ref h_this_saved, .int savedMany_, .ref h_this_snapshot, .int hasSnapshot_, .ref h_this_text, .int length_, .ref h_this_lumps, .int lumpMany_, .ref h_this_order, .ref h_this_nears, .int partingSet_, .int partingWeight_, .int at_, .int isWell_, .ref h_this_told, .int toldMany_])), (h_this_s, .inl (cI, 103, .inl s_))]) (c_X6_tied l D cI cC cO h0 h_this_s h_this_saved h_this_snapshot h_this_text h_this_lumps h_this_order h_this_nears h_this_told x2 x4 thrown_ savedMany_ hasSnapshot_ length_ lumpMany_ partingSet_ partingWeight_ at_ isWell_ toldMany_ s_ r5 hc) (cs_X6_45 X (by decide)) [0, 1] [] [0, 1] rfl rfl rfl rfl (by decide) rfl rfl 0 rfl rfl rfl rfl hl.1 rfl (Nat.le_of_ble_eq_true rfl) dX6_overPairs_49 ⟨Nat.zero_le _, Nat.zero_le _⟩ (fun H locs hw => ?_)
                refine lv_if_le (tgt := 59) hx hb dX6_overPairs_52 (by decide) (fun c1 => ?_) (fun c1 => ?_)
                · replace h := ip c1 h
                  refine lv_iconst (v := 0) hx hb dX6_overPairs_59 (by decide) ?_
                  exact J60 (0 : Int32) _ _ _ h hw (lv_sub hl [0, 1, 3, 4] rfl)
                · replace h := ig c1 h
                  refine lv_iconst (v := 1) hx hb dX6_overPairs_55 (by decide) ?_
                  refine lv_goto (tgt := 60) hx hb dX6_overPairs_56 (by decide) ?_
                  exact J60 (1 : Int32) _ _ _ h hw (lv_sub hl [0, 1, 3, 4] rfl)
              · replace h := ig c1 h
                refine lv_aload_n hx hb dX6_overPairs_35 rfl (lv_at hl 0 rfl) ?_
                refine lv_iload_n hx hb dX6_overPairs_36 rfl (lv_at hl 3 rfl) ?_
                refine lv_iload hx hb dX6_overPairs_37 (lv_at hl 4 rfl) ?_
                obtain ⟨r6, hc, h⟩ := bd1_inv h
                refine r_cVi X hw (As := [.int x2, .int x4]) (rest := [.int x3]) (wr := []) (ws' := [(h0, .inr (6, [.int thrown_, .ref h_this_s, .ref h_this_saved, .int savedMany_, .ref h_this_snapshot, .int hasSnapshot_, .ref h_this_text, .int length_, .ref h_this_lumps, .int lumpMany_, .ref h_this_order, .ref h_this_nears, .int partingSet_, .int partingWeight_, .int at_, .int isWell_, .ref h_this_told, .int toldMany_])), (h_this_s, .inl (cI, 103, .inl s_))]) (c_X6_tied l D cI cC cO h0 h_this_s h_this_saved h_this_snapshot h_this_text h_this_lumps h_this_order h_this_nears h_this_told x2 x4 thrown_ savedMany_ hasSnapshot_ length_ lumpMany_ partingSet_ partingWeight_ at_ isWell_ toldMany_ s_ r6 hc) (cs_X6_45 X (by decide)) [0, 1] [] [0, 1] rfl rfl rfl rfl (by decide) rfl rfl 0 rfl rfl rfl rfl hl.1 rfl (Nat.le_of_ble_eq_true rfl) dX6_overPairs_39 ⟨Nat.zero_le _, Nat.zero_le _⟩ (fun H locs hw => ?_)
                refine lv_goto (tgt := 60) hx hb dX6_overPairs_42 (by decide) ?_
                exact J60 r6 _ _ _ h hw (lv_sub hl [0, 1, 3, 4] rfl)
        exact L19 (fun x11 => f_X6_overPairs_E68 (f_X6_overPairs_L4 N s_ p1 k12 n14) x2 x11) (fun x11 H locs ls h hw hl => E68 x11 H locs ls h hw hl) N x1 (x2 + (1 : Int32)) _ _ _ h hw (lv_sub hl [1, 2, 3, 4, 0] rfl)
  exact L4 (fun x15 => f_X6_overPairs_E74 x15) (fun x15 H locs ls h hw hl => E74 x15 H locs ls h hw hl) N (0 : Int32) (0 : Int32) _ _ _ h hw (lv_sub hl [2, 3, 1, 0] rfl)
def rmX6_parts : Room := { frames := 3, cells := 0, slots := 0, locals := 69 }
set_option maxHeartbeats 4000000 in
set_option maxRecDepth 100000 in
theorem c_X6_parts (l : Launch) (D : va_G) (cI cC cO : ClassId) (N : Nat) (h0 h_this_s h_this_saved h_this_snapshot h_this_text h_this_lumps h_this_order h_this_nears h_this_told : Nat) (thrown_ savedMany_ hasSnapshot_ length_ lumpMany_ partingSet_ partingWeight_ at_ isWell_ toldMany_ : Int32) (s_ : Nat → Int32) (r_ : Int32) (h : f_X6_parts N s_ = some r_) : CI l yX6_parts (Wy yX6_parts cX6_parts 3 (some .int)) rmX6_parts D cI cC cO [.ref h0] [(h0, .inr (6, [.int thrown_, .ref h_this_s, .ref h_this_saved, .int savedMany_, .ref h_this_snapshot, .int hasSnapshot_, .ref h_this_text, .int length_, .ref h_this_lumps, .int lumpMany_, .ref h_this_order, .ref h_this_nears, .int partingSet_, .int partingWeight_, .int at_, .int isWell_, .ref h_this_told, .int toldMany_])), (h_this_s, .inl (cI, 103, .inl s_))] r_ [(h0, .inr (6, [.int thrown_, .ref h_this_s, .ref h_this_saved, .int savedMany_, .ref h_this_snapshot, .int hasSnapshot_, .ref h_this_text, .int length_, .ref h_this_lumps, .int lumpMany_, .ref h_this_order, .ref h_this_nears, .int partingSet_, .int partingWeight_, .int at_, .int isWell_, .ref h_this_told, .int toldMany_])), (h_this_s, .inl (cI, 103, .inl s_))] := by
  refine enter_i RX6 (by decide) rfl (Nat.le_of_ble_eq_true rfl) ?_
  intro p e s m below meth c A X hr hlk hw ls hl
  have hx := X.1.1
  have hb := X.1.2.1
  have hl : lv_has ls 3 [(0, .ref h0)] := hl
  unfold f_X6_parts at h
  refine lv_iconst (v := 0) hx hb dX6_parts_0 (by decide) ?_
  refine lv_istore_n (lv' := [(1, .int (0 : Int32)), (0, .ref h0)]) hx hb dX6_parts_1 rfl hl (by decide) rfl (fun ls hl => ?_)
  refine lv_iconst (v := 0) hx hb dX6_parts_2 (by decide) ?_
  refine lv_istore_n (lv' := [(2, .int (0 : Int32)), (1, .int (0 : Int32)), (0, .ref h0)]) hx hb dX6_parts_3 rfl hl (by decide) rfl (fun ls hl => ?_)
  have E40 : ∀ (x9 : Int32) (H : Heap) (locs : List Loc) (ls : Array Slot), f_X6_parts_E40 x9 = some r_ → Wd D A s.heap [(h0, .inr (6, [.int thrown_, .ref h_this_s, .ref h_this_saved, .int savedMany_, .ref h_this_snapshot, .int hasSnapshot_, .ref h_this_text, .int length_, .ref h_this_lumps, .int lumpMany_, .ref h_this_order, .ref h_this_nears, .int partingSet_, .int partingWeight_, .int at_, .int isWell_, .ref h_this_told, .int toldMany_])), (h_this_s, .inl (cI, 103, .inl s_))] H locs → lv_has ls 3 [(1, .int x9)] → W p l e rmX6_parts s m ([.ref h0] : List Value).toArray below meth c H locs 0 0 (MQ below (Qi D r_ [(h0, .inr (6, [.int thrown_, .ref h_this_s, .ref h_this_saved, .int savedMany_, .ref h_this_snapshot, .int hasSnapshot_, .ref h_this_text, .int length_, .ref h_this_lumps, .int lumpMany_, .ref h_this_order, .ref h_this_nears, .int partingSet_, .int partingWeight_, .int at_, .int isWell_, .ref h_this_told, .int toldMany_])), (h_this_s, .inl (cI, 103, .inl s_))] A) ([.ref h0] : List Value).toArray s 0 0 A) (F0 m 40 ls []) := by
    intro x9 H locs ls h hw hl
    unfold f_X6_parts_E40 at h
    refine lv_iload_n hx hb dX6_parts_40 rfl (lv_at hl 0 rfl) ?_
    obtain rfl := oi1 h
    exact r_ret X hw hr hlk dX6_parts_41
  have L4 : ∀ (k6 : Int32 → Option (Int32)), (∀ (x9 : Int32) (H : Heap) (locs : List Loc) (ls : Array Slot), k6 x9 = some r_ → Wd D A s.heap [(h0, .inr (6, [.int thrown_, .ref h_this_s, .ref h_this_saved, .int savedMany_, .ref h_this_snapshot, .int hasSnapshot_, .ref h_this_text, .int length_, .ref h_this_lumps, .int lumpMany_, .ref h_this_order, .ref h_this_nears, .int partingSet_, .int partingWeight_, .int at_, .int isWell_, .ref h_this_told, .int toldMany_])), (h_this_s, .inl (cI, 103, .inl s_))] H locs → lv_has ls 3 [(1, .int x9)] → W p l e rmX6_parts s m ([.ref h0] : List Value).toArray below meth c H locs 0 0 (MQ below (Qi D r_ [(h0, .inr (6, [.int thrown_, .ref h_this_s, .ref h_this_saved, .int savedMany_, .ref h_this_snapshot, .int hasSnapshot_, .ref h_this_text, .int length_, .ref h_this_lumps, .int lumpMany_, .ref h_this_order, .ref h_this_nears, .int partingSet_, .int partingWeight_, .int at_, .int isWell_, .ref h_this_told, .int toldMany_])), (h_this_s, .inl (cI, 103, .inl s_))] A) ([.ref h0] : List Value).toArray s 0 0 A) (F0 m 40 ls [])) → ∀ (n8 : Nat), ∀ (x1 x2 : Int32) (H : Heap) (locs : List Loc) (ls : Array Slot), f_X6_parts_L4 N s_ k6 n8 x1 x2 = some r_ → Wd D A s.heap [(h0, .inr (6, [.int thrown_, .ref h_this_s, .ref h_this_saved, .int savedMany_, .ref h_this_snapshot, .int hasSnapshot_, .ref h_this_text, .int length_, .ref h_this_lumps, .int lumpMany_, .ref h_this_order, .ref h_this_nears, .int partingSet_, .int partingWeight_, .int at_, .int isWell_, .ref h_this_told, .int toldMany_])), (h_this_s, .inl (cI, 103, .inl s_))] H locs → lv_has ls 3 [(0, .ref h0), (1, .int x1), (2, .int x2)] → W p l e rmX6_parts s m ([.ref h0] : List Value).toArray below meth c H locs 0 0 (MQ below (Qi D r_ [(h0, .inr (6, [.int thrown_, .ref h_this_s, .ref h_this_saved, .int savedMany_, .ref h_this_snapshot, .int hasSnapshot_, .ref h_this_text, .int length_, .ref h_this_lumps, .int lumpMany_, .ref h_this_order, .ref h_this_nears, .int partingSet_, .int partingWeight_, .int at_, .int isWell_, .ref h_this_told, .int toldMany_])), (h_this_s, .inl (cI, 103, .inl s_))] A) ([.ref h0] : List Value).toArray s 0 0 A) (F0 m 4 ls []) := by
    intro k6 hk4 n8
    induction n8 with
    | zero => intro x1 x2 H locs ls h; cases h
    | succ n8 ih4 =>
      intro x1 x2 H locs ls h hw hl
      rw [f_X6_parts_L4] at h
      refine lv_iload_n hx hb dX6_parts_4 rfl (lv_at hl 2 rfl) ?_
      refine lv_aload_n hx hb dX6_parts_5 rfl (lv_at hl 0 rfl) ?_
      refine fg_X6_7 X hw 0 rfl rfl dX6_parts_6 ?_
      refine lv_iconst (v := 0) hx hb dX6_parts_9 (by decide) ?_
      refine r_iald X hw 1 rfl (v := (s_ 0)) (vp_lit (by decide)) rfl dX6_parts_10 ?_
      refine lv_icmp_ge (tgt := 40) hx hb dX6_parts_11 (by decide) (fun c1 => ?_) (fun c1 => ?_)
      · replace h := ip c1 h
        exact hk4 x1 _ _ _ h hw (lv_sub hl [1] rfl)
      · replace h := ig c1 h
        refine lv_iload_n hx hb dX6_parts_14 rfl (lv_at hl 1 rfl) ?_
        refine lv_aload_n hx hb dX6_parts_15 rfl (lv_at hl 0 rfl) ?_
        refine lv_iload_n hx hb dX6_parts_16 rfl (lv_at hl 2 rfl) ?_
        obtain ⟨r3, hc, h⟩ := bd1_inv h
        refine r_cVi X hw (As := [.int x2]) (rest := [.int x1]) (wr := []) (ws' := [(h0, .inr (6, [.int thrown_, .ref h_this_s, .ref h_this_saved, .int savedMany_, .ref h_this_snapshot, .int hasSnapshot_, .ref h_this_text, .int length_, .ref h_this_lumps, .int lumpMany_, .ref h_this_order, .ref h_this_nears, .int partingSet_, .int partingWeight_, .int at_, .int isWell_, .ref h_this_told, .int toldMany_])), (h_this_s, .inl (cI, 103, .inl s_))]) (c_X6_reached l D cI cC cO N h0 h_this_s h_this_saved h_this_snapshot h_this_text h_this_lumps h_this_order h_this_nears h_this_told x2 thrown_ savedMany_ hasSnapshot_ length_ lumpMany_ partingSet_ partingWeight_ at_ isWell_ toldMany_ s_ r3 hc) (cs_X6_156 X (by decide)) [0, 1] [] [0, 1] rfl rfl rfl rfl (by decide) rfl rfl 0 rfl rfl rfl rfl hl.1 rfl (Nat.le_of_ble_eq_true rfl) dX6_parts_17 ⟨Nat.zero_le _, Nat.zero_le _⟩ (fun H locs hw => ?_)
        obtain ⟨r4, hc, h⟩ := bd1_inv h
        refine r_cSi X hw (As := [.int r3]) (rest := [.int x1]) (c_X6_nameOf l D cI cC cO N r3 r4 hc) (cs_X6_80 X (by decide)) rfl hl.1 rfl (Nat.le_of_ble_eq_true rfl) dX6_parts_20 ⟨Nat.zero_le _, Nat.zero_le _⟩ (fun H locs hw => ?_)
        refine lv_iload_n hx hb dX6_parts_23 rfl (lv_at hl 2 rfl) ?_
        have J32 : ∀ (x5 : Int32) (H : Heap) (locs : List Loc) (ls : Array Slot), f_X6_parts_J32 (f_X6_parts_L4 N s_ k6 n8) x1 x2 x5 = some r_ → Wd D A s.heap [(h0, .inr (6, [.int thrown_, .ref h_this_s, .ref h_this_saved, .int savedMany_, .ref h_this_snapshot, .int hasSnapshot_, .ref h_this_text, .int length_, .ref h_this_lumps, .int lumpMany_, .ref h_this_order, .ref h_this_nears, .int partingSet_, .int partingWeight_, .int at_, .int isWell_, .ref h_this_told, .int toldMany_])), (h_this_s, .inl (cI, 103, .inl s_))] H locs → lv_has ls 3 [(0, .ref h0), (2, .int x2)] → W p l e rmX6_parts s m ([.ref h0] : List Value).toArray below meth c H locs 0 0 (MQ below (Qi D r_ [(h0, .inr (6, [.int thrown_, .ref h_this_s, .ref h_this_saved, .int savedMany_, .ref h_this_snapshot, .int hasSnapshot_, .ref h_this_text, .int length_, .ref h_this_lumps, .int lumpMany_, .ref h_this_order, .ref h_this_nears, .int partingSet_, .int partingWeight_, .int at_, .int isWell_, .ref h_this_told, .int toldMany_])), (h_this_s, .inl (cI, 103, .inl s_))] A) ([.ref h0] : List Value).toArray s 0 0 A) (F0 m 32 ls [.int x5, .int x1]) := by
          intro x5 H locs ls h hw hl
          unfold f_X6_parts_J32 at h
          refine lv_iadd hx hb dX6_parts_32 ?_
          refine lv_istore_n (lv' := [(1, .int (x1 + x5)), (0, .ref h0), (2, .int x2)]) hx hb dX6_parts_33 rfl hl (by decide) rfl (fun ls hl => ?_)
          refine lv_iinc (v := (x2 + (1 : Int32))) (lv' := [(2, .int (x2 + (1 : Int32))), (1, .int (x1 + x5)), (0, .ref h0)]) hx hb dX6_parts_34 hl (k := 2) rfl rfl (by decide) rfl (fun ls hl => ?_)
          refine lv_goto (tgt := 4) hx hb dX6_parts_37 (by decide) ?_
          exact ih4 (x1 + x5) (x2 + (1 : Int32)) _ _ _ h hw (lv_sub hl [2, 1, 0] rfl)
        refine lv_icmp_ne (tgt := 31) hx hb dX6_parts_24 (by decide) (fun c1 => ?_) (fun c1 => ?_)
        · replace h := ig c1 h
          refine lv_iconst (v := 0) hx hb dX6_parts_31 (by decide) ?_
          exact J32 (0 : Int32) _ _ _ h hw (lv_sub hl [0, 2] rfl)
        · replace h := ip c1 h
          refine lv_iconst (v := 1) hx hb dX6_parts_27 (by decide) ?_
          refine lv_goto (tgt := 32) hx hb dX6_parts_28 (by decide) ?_
          exact J32 (1 : Int32) _ _ _ h hw (lv_sub hl [0, 2] rfl)
  exact L4 (fun x9 => f_X6_parts_E40 x9) (fun x9 H locs ls h hw hl => E40 x9 H locs ls h hw hl) N (0 : Int32) (0 : Int32) _ _ _ h hw (lv_sub hl [2, 1, 0] rfl)
def rmX6_count : Room := { frames := 7, cells := 0, slots := 0, locals := 161 }
section
variable {p : Program} {l : Launch} {e : Env} {R : Room} {s : State} {m : MethodId} {args : Array Value} {below : List Frame} {meth : Method} {c : Code} {H : Heap} {locs : List Loc} {cells slots : Nat} {Q : State → Prop}
variable {cc : ByteArray} {pc nL : Nat} {ls : Array Slot} {rest : List Value} {D : va_G} {cI cC cO : ClassId} {A : Nat → Prop} {ws : va_W} {H0 : Heap}
theorem cs_X6_183 (X : Ctx p m c cc nL s args RX6 D cI cC cO) (hR : rmX6_overPairs.frames + 1 ≤ R.frames ∧ 8 + (5 + 11) + rmX6_overPairs.locals ≤ R.locals) : CallW R s args RX6 RX6 183 yX6_overPairs cX6_overPairs 5 (some .int) (Wy yX6_overPairs cX6_overPairs 5 (some .int)) rmX6_overPairs 0 0 1 := cwV 1 X.1.2.2.2.2 (gi_V tw_836 tw_838 sw_yX6_overPairs tw_7 tw_839) rfl rfl rfl (by decide +kernel) hR
theorem cs_X6_187 (X : Ctx p m c cc nL s args RX6 D cI cC cO) (hR : rmX6_leastMany.frames + 1 ≤ R.frames ∧ 8 + (4 + 11) + rmX6_leastMany.locals ≤ R.locals) : CallW R s args RX6 RX6 187 yX6_leastMany cX6_leastMany 4 (some .int) (Wy yX6_leastMany cX6_leastMany 4 (some .int)) rmX6_leastMany 0 0 0 := cwV 0 X.1.2.2.2.2 (gi_V tw_840 tw_842 sw_yX6_leastMany tw_7 tw_843) rfl rfl rfl (by decide +kernel) hR
theorem cs_X6_190 (X : Ctx p m c cc nL s args RX6 D cI cC cO) (hR : rmX6_parts.frames + 1 ≤ R.frames ∧ 8 + (3 + 11) + rmX6_parts.locals ≤ R.locals) : CallW R s args RX6 RX6 190 yX6_parts cX6_parts 3 (some .int) (Wy yX6_parts cX6_parts 3 (some .int)) rmX6_parts 0 0 0 := cwV 0 X.1.2.2.2.2 (gi_V tw_844 tw_846 sw_yX6_parts tw_7 tw_847) rfl rfl rfl (by decide +kernel) hR
theorem cs_X6_193 (X : Ctx p m c cc nL s args RX6 D cI cC cO) (hR : rmX6_fairMany.frames + 1 ≤ R.frames ∧ 8 + (3 + 11) + rmX6_fairMany.locals ≤ R.locals) : CallW R s args RX6 RX6 193 yX6_fairMany cX6_fairMany 3 (some .int) (Wy yX6_fairMany cX6_fairMany 3 (some .int)) rmX6_fairMany 0 0 0 := cwV 0 X.1.2.2.2.2 (gi_V tw_848 tw_850 sw_yX6_fairMany tw_7 tw_851) rfl rfl rfl (by decide +kernel) hR
end
set_option maxHeartbeats 4000000 in
set_option maxRecDepth 100000 in
theorem c_X6_count (l : Launch) (D : va_G) (cI cC cO : ClassId) (N : Nat) (h0 h_this_s h_this_saved h_this_snapshot h_this_text h_this_lumps h_this_order h_this_nears h_this_told : Nat) (p1 thrown_ savedMany_ hasSnapshot_ length_ lumpMany_ partingSet_ partingWeight_ at_ isWell_ toldMany_ : Int32) (s_ : Nat → Int32) (r_ : Int32) (thrown_' : Int32) (h : f_X6_count N p1 savedMany_ length_ s_ = some (r_, thrown_')) : CI l yX6_count (Wy yX6_count cX6_count 2 (some .int)) rmX6_count D cI cC cO [.ref h0, .int p1] [(h0, .inr (6, [.int thrown_, .ref h_this_s, .ref h_this_saved, .int savedMany_, .ref h_this_snapshot, .int hasSnapshot_, .ref h_this_text, .int length_, .ref h_this_lumps, .int lumpMany_, .ref h_this_order, .ref h_this_nears, .int partingSet_, .int partingWeight_, .int at_, .int isWell_, .ref h_this_told, .int toldMany_])), (h_this_s, .inl (cI, 103, .inl s_))] r_ [(h0, .inr (6, [.int thrown_', .ref h_this_s, .ref h_this_saved, .int savedMany_, .ref h_this_snapshot, .int hasSnapshot_, .ref h_this_text, .int length_, .ref h_this_lumps, .int lumpMany_, .ref h_this_order, .ref h_this_nears, .int partingSet_, .int partingWeight_, .int at_, .int isWell_, .ref h_this_told, .int toldMany_])), (h_this_s, .inl (cI, 103, .inl s_))] := by
  refine enter_i RX6 (by decide) rfl (Nat.le_of_ble_eq_true rfl) ?_
  intro p e s m below meth c A X hr hlk hw ls hl
  have hx := X.1.1
  have hb := X.1.2.1
  have hl : lv_has ls 2 [(0, .ref h0), (1, .int p1)] := hl
  unfold f_X6_count at h
  refine lv_aload_n hx hb dX6_count_0 rfl (lv_at hl 0 rfl) ?_
  refine lv_iconst (v := 0) hx hb dX6_count_1 (by decide) ?_
  refine fp_X6_34 X hw 0 rfl rfl dX6_count_2 (fun H locs hw => ?_)
  have hw : Wd D A s.heap [(h0, .inr (6, [.int (0 : Int32), .ref h_this_s, .ref h_this_saved, .int savedMany_, .ref h_this_snapshot, .int hasSnapshot_, .ref h_this_text, .int length_, .ref h_this_lumps, .int lumpMany_, .ref h_this_order, .ref h_this_nears, .int partingSet_, .int partingWeight_, .int at_, .int isWell_, .ref h_this_told, .int toldMany_])), (h_this_s, .inl (cI, 103, .inl s_))] H locs := hw
  refine lv_iload_n hx hb dX6_count_5 rfl (lv_at hl 1 rfl) ?_
  by_cases c0 : p1 = (0 : Int32)
  · replace h := ip c0 h
    refine lv_tableIn hx hb dX6_count_6 (by rw [c0]; decide) (by rw [c0]; decide) (by rw [c0]; rfl) (tgt := 64) (by decide) ?_
    refine lv_aload_n hx hb dX6_count_64 rfl (lv_at hl 0 rfl) ?_
    refine fg_X6_7 X hw 0 rfl rfl dX6_count_65 ?_
    refine lv_iconst (v := 0) hx hb dX6_count_68 (by decide) ?_
    refine r_iald X hw 1 rfl (v := (s_ 0)) (vp_lit (by decide)) rfl dX6_count_69 ?_
    obtain ⟨rfl, rfl⟩ := oi2 h
    exact r_ret X hw hr hlk dX6_count_70
  replace h := ig c0 h
  by_cases c1 : p1 = (1 : Int32)
  · replace h := ip c1 h
    refine lv_tableIn hx hb dX6_count_6 (by rw [c1]; decide) (by rw [c1]; decide) (by rw [c1]; rfl) (tgt := 71) (by decide) ?_
    refine lv_aload_n hx hb dX6_count_71 rfl (lv_at hl 0 rfl) ?_
    refine lv_iconst (v := 0) hx hb dX6_count_72 (by decide) ?_
    obtain ⟨r1, hc, h⟩ := bd1_inv h
    refine r_cVi X hw (As := [.int (0 : Int32)]) (rest := []) (wr := []) (ws' := [(h0, .inr (6, [.int (0 : Int32), .ref h_this_s, .ref h_this_saved, .int savedMany_, .ref h_this_snapshot, .int hasSnapshot_, .ref h_this_text, .int length_, .ref h_this_lumps, .int lumpMany_, .ref h_this_order, .ref h_this_nears, .int partingSet_, .int partingWeight_, .int at_, .int isWell_, .ref h_this_told, .int toldMany_])), (h_this_s, .inl (cI, 103, .inl s_))]) (c_X6_overPairs l D cI cC cO N h0 h_this_s h_this_saved h_this_snapshot h_this_text h_this_lumps h_this_order h_this_nears h_this_told (0 : Int32) (0 : Int32) savedMany_ hasSnapshot_ length_ lumpMany_ partingSet_ partingWeight_ at_ isWell_ toldMany_ s_ r1 hc) (cs_X6_183 X (by decide)) [0, 1] [] [0, 1] rfl rfl rfl rfl (by decide) rfl rfl 0 rfl rfl rfl rfl hl.1 rfl (Nat.le_of_ble_eq_true rfl) dX6_count_73 ⟨Nat.zero_le _, Nat.zero_le _⟩ (fun H locs hw => ?_)
    obtain ⟨rfl, rfl⟩ := oi2 h
    exact r_ret X hw hr hlk dX6_count_76
  replace h := ig c1 h
  by_cases c2 : p1 = (2 : Int32)
  · replace h := ip c2 h
    refine lv_tableIn hx hb dX6_count_6 (by rw [c2]; decide) (by rw [c2]; decide) (by rw [c2]; rfl) (tgt := 77) (by decide) ?_
    refine lv_aload_n hx hb dX6_count_77 rfl (lv_at hl 0 rfl) ?_
    refine lv_iconst (v := 1) hx hb dX6_count_78 (by decide) ?_
    obtain ⟨r2, hc, h⟩ := bd1_inv h
    refine r_cVi X hw (As := [.int (1 : Int32)]) (rest := []) (wr := []) (ws' := [(h0, .inr (6, [.int (0 : Int32), .ref h_this_s, .ref h_this_saved, .int savedMany_, .ref h_this_snapshot, .int hasSnapshot_, .ref h_this_text, .int length_, .ref h_this_lumps, .int lumpMany_, .ref h_this_order, .ref h_this_nears, .int partingSet_, .int partingWeight_, .int at_, .int isWell_, .ref h_this_told, .int toldMany_])), (h_this_s, .inl (cI, 103, .inl s_))]) (c_X6_overPairs l D cI cC cO N h0 h_this_s h_this_saved h_this_snapshot h_this_text h_this_lumps h_this_order h_this_nears h_this_told (1 : Int32) (0 : Int32) savedMany_ hasSnapshot_ length_ lumpMany_ partingSet_ partingWeight_ at_ isWell_ toldMany_ s_ r2 hc) (cs_X6_183 X (by decide)) [0, 1] [] [0, 1] rfl rfl rfl rfl (by decide) rfl rfl 0 rfl rfl rfl rfl hl.1 rfl (Nat.le_of_ble_eq_true rfl) dX6_count_79 ⟨Nat.zero_le _, Nat.zero_le _⟩ (fun H locs hw => ?_)
    obtain ⟨rfl, rfl⟩ := oi2 h
    exact r_ret X hw hr hlk dX6_count_82
  replace h := ig c2 h
  by_cases c3 : p1 = (3 : Int32)
  · replace h := ip c3 h
    refine lv_tableIn hx hb dX6_count_6 (by rw [c3]; decide) (by rw [c3]; decide) (by rw [c3]; rfl) (tgt := 83) (by decide) ?_
    refine lv_aload_n hx hb dX6_count_83 rfl (lv_at hl 0 rfl) ?_
    obtain ⟨r3, hc, h⟩ := bd1_inv h
    refine r_cVi X hw (As := []) (rest := []) (wr := []) (ws' := [(h0, .inr (6, [.int (0 : Int32), .ref h_this_s, .ref h_this_saved, .int savedMany_, .ref h_this_snapshot, .int hasSnapshot_, .ref h_this_text, .int length_, .ref h_this_lumps, .int lumpMany_, .ref h_this_order, .ref h_this_nears, .int partingSet_, .int partingWeight_, .int at_, .int isWell_, .ref h_this_told, .int toldMany_])), (h_this_s, .inl (cI, 103, .inl s_))]) (c_X6_leastMany l D cI cC cO N h0 h_this_s h_this_saved h_this_snapshot h_this_text h_this_lumps h_this_order h_this_nears h_this_told (0 : Int32) savedMany_ hasSnapshot_ length_ lumpMany_ partingSet_ partingWeight_ at_ isWell_ toldMany_ s_ r3 hc) (cs_X6_187 X (by decide)) [0, 1] [] [0, 1] rfl rfl rfl rfl (by decide) rfl rfl 0 rfl rfl rfl rfl hl.1 rfl (Nat.le_of_ble_eq_true rfl) dX6_count_84 ⟨Nat.zero_le _, Nat.zero_le _⟩ (fun H locs hw => ?_)
    obtain ⟨rfl, rfl⟩ := oi2 h
    exact r_ret X hw hr hlk dX6_count_87
  replace h := ig c3 h
  by_cases c4 : p1 = (4 : Int32)
  · replace h := ip c4 h
    refine lv_tableIn hx hb dX6_count_6 (by rw [c4]; decide) (by rw [c4]; decide) (by rw [c4]; rfl) (tgt := 88) (by decide) ?_
    refine lv_aload_n hx hb dX6_count_88 rfl (lv_at hl 0 rfl) ?_
    refine lv_bipush (v := -5) hx hb dX6_count_89 (by decide) ?_
    obtain ⟨r4, hc, h⟩ := bd1_inv h
    refine r_cVi X hw (As := [.int (-5 : Int32)]) (rest := []) (wr := []) (ws' := [(h0, .inr (6, [.int (0 : Int32), .ref h_this_s, .ref h_this_saved, .int savedMany_, .ref h_this_snapshot, .int hasSnapshot_, .ref h_this_text, .int length_, .ref h_this_lumps, .int lumpMany_, .ref h_this_order, .ref h_this_nears, .int partingSet_, .int partingWeight_, .int at_, .int isWell_, .ref h_this_told, .int toldMany_])), (h_this_s, .inl (cI, 103, .inl s_))]) (c_X6_tightMany l D cI cC cO N h0 h_this_s h_this_saved h_this_snapshot h_this_text h_this_lumps h_this_order h_this_nears h_this_told (-5 : Int32) (0 : Int32) savedMany_ hasSnapshot_ length_ lumpMany_ partingSet_ partingWeight_ at_ isWell_ toldMany_ s_ r4 hc) (cs_X6_159 X (by decide)) [0, 1] [] [0, 1] rfl rfl rfl rfl (by decide) rfl rfl 0 rfl rfl rfl rfl hl.1 rfl (Nat.le_of_ble_eq_true rfl) dX6_count_91 ⟨Nat.zero_le _, Nat.zero_le _⟩ (fun H locs hw => ?_)
    obtain ⟨rfl, rfl⟩ := oi2 h
    exact r_ret X hw hr hlk dX6_count_94
  replace h := ig c4 h
  by_cases c5 : p1 = (5 : Int32)
  · replace h := ip c5 h
    refine lv_tableIn hx hb dX6_count_6 (by rw [c5]; decide) (by rw [c5]; decide) (by rw [c5]; rfl) (tgt := 95) (by decide) ?_
    refine lv_aload_n hx hb dX6_count_95 rfl (lv_at hl 0 rfl) ?_
    obtain ⟨r5, hc, h⟩ := bd1_inv h
    refine r_cVi X hw (As := []) (rest := []) (wr := []) (ws' := [(h0, .inr (6, [.int (0 : Int32), .ref h_this_s, .ref h_this_saved, .int savedMany_, .ref h_this_snapshot, .int hasSnapshot_, .ref h_this_text, .int length_, .ref h_this_lumps, .int lumpMany_, .ref h_this_order, .ref h_this_nears, .int partingSet_, .int partingWeight_, .int at_, .int isWell_, .ref h_this_told, .int toldMany_])), (h_this_s, .inl (cI, 103, .inl s_))]) (c_X6_parts l D cI cC cO N h0 h_this_s h_this_saved h_this_snapshot h_this_text h_this_lumps h_this_order h_this_nears h_this_told (0 : Int32) savedMany_ hasSnapshot_ length_ lumpMany_ partingSet_ partingWeight_ at_ isWell_ toldMany_ s_ r5 hc) (cs_X6_190 X (by decide)) [0, 1] [] [0, 1] rfl rfl rfl rfl (by decide) rfl rfl 0 rfl rfl rfl rfl hl.1 rfl (Nat.le_of_ble_eq_true rfl) dX6_count_96 ⟨Nat.zero_le _, Nat.zero_le _⟩ (fun H locs hw => ?_)
    obtain ⟨rfl, rfl⟩ := oi2 h
    exact r_ret X hw hr hlk dX6_count_99
  replace h := ig c5 h
  by_cases c6 : p1 = (6 : Int32)
  · replace h := ip c6 h
    refine lv_tableIn hx hb dX6_count_6 (by rw [c6]; decide) (by rw [c6]; decide) (by rw [c6]; rfl) (tgt := 100) (by decide) ?_
    refine lv_aload_n hx hb dX6_count_100 rfl (lv_at hl 0 rfl) ?_
    refine fg_X6_7 X hw 0 rfl rfl dX6_count_101 ?_
    refine lv_iconst (v := 1) hx hb dX6_count_104 (by decide) ?_
    refine r_iald X hw 1 rfl (v := (s_ 1)) (vp_lit (by decide)) rfl dX6_count_105 ?_
    obtain ⟨rfl, rfl⟩ := oi2 h
    exact r_ret X hw hr hlk dX6_count_106
  replace h := ig c6 h
  by_cases c7 : p1 = (7 : Int32)
  · replace h := ip c7 h
    refine lv_tableIn hx hb dX6_count_6 (by rw [c7]; decide) (by rw [c7]; decide) (by rw [c7]; rfl) (tgt := 107) (by decide) ?_
    refine lv_aload_n hx hb dX6_count_107 rfl (lv_at hl 0 rfl) ?_
    refine fg_X6_7 X hw 0 rfl rfl dX6_count_108 ?_
    refine lv_iconst (v := 2) hx hb dX6_count_111 (by decide) ?_
    refine r_iald X hw 1 rfl (v := (s_ 2)) (vp_lit (by decide)) rfl dX6_count_112 ?_
    obtain ⟨rfl, rfl⟩ := oi2 h
    exact r_ret X hw hr hlk dX6_count_113
  replace h := ig c7 h
  by_cases c8 : p1 = (8 : Int32)
  · replace h := ip c8 h
    refine lv_tableIn hx hb dX6_count_6 (by rw [c8]; decide) (by rw [c8]; decide) (by rw [c8]; rfl) (tgt := 114) (by decide) ?_
    refine lv_aload_n hx hb dX6_count_114 rfl (lv_at hl 0 rfl) ?_
    obtain ⟨r6, hc, h⟩ := bd1_inv h
    refine r_cVi X hw (As := []) (rest := []) (wr := []) (ws' := [(h0, .inr (6, [.int (0 : Int32), .ref h_this_s, .ref h_this_saved, .int savedMany_, .ref h_this_snapshot, .int hasSnapshot_, .ref h_this_text, .int length_, .ref h_this_lumps, .int lumpMany_, .ref h_this_order, .ref h_this_nears, .int partingSet_, .int partingWeight_, .int at_, .int isWell_, .ref h_this_told, .int toldMany_])), (h_this_s, .inl (cI, 103, .inl s_))]) (c_X6_fairMany l D cI cC cO N h0 h_this_s h_this_saved h_this_snapshot h_this_text h_this_lumps h_this_order h_this_nears h_this_told (0 : Int32) savedMany_ hasSnapshot_ length_ lumpMany_ partingSet_ partingWeight_ at_ isWell_ toldMany_ s_ r6 hc) (cs_X6_193 X (by decide)) [0, 1] [] [0, 1] rfl rfl rfl rfl (by decide) rfl rfl 0 rfl rfl rfl rfl hl.1 rfl (Nat.le_of_ble_eq_true rfl) dX6_count_115 ⟨Nat.zero_le _, Nat.zero_le _⟩ (fun H locs hw => ?_)
    obtain ⟨rfl, rfl⟩ := oi2 h
    exact r_ret X hw hr hlk dX6_count_118
  replace h := ig c8 h
  by_cases c9 : p1 = (9 : Int32)
  · replace h := ip c9 h
    refine lv_tableIn hx hb dX6_count_6 (by rw [c9]; decide) (by rw [c9]; decide) (by rw [c9]; rfl) (tgt := 119) (by decide) ?_
    refine lv_aload_n hx hb dX6_count_119 rfl (lv_at hl 0 rfl) ?_
    refine fg_X6_42 X hw 0 rfl rfl dX6_count_120 ?_
    obtain ⟨rfl, rfl⟩ := oi2 h
    exact r_ret X hw hr hlk dX6_count_123
  replace h := ig c9 h
  by_cases c10 : p1 = (10 : Int32)
  · replace h := ip c10 h
    refine lv_tableIn hx hb dX6_count_6 (by rw [c10]; decide) (by rw [c10]; decide) (by rw [c10]; rfl) (tgt := 124) (by decide) ?_
    refine lv_aload_n hx hb dX6_count_124 rfl (lv_at hl 0 rfl) ?_
    refine fg_X6_128 X hw 0 rfl rfl dX6_count_125 ?_
    obtain ⟨rfl, rfl⟩ := oi2 h
    exact r_ret X hw hr hlk dX6_count_128
  replace h := ig c10 h
  have e0 := lv_neT c0 (a := 0) (by decide)
  have e1 := lv_neT c1 (a := 1) (by decide)
  have e2 := lv_neT c2 (a := 2) (by decide)
  have e3 := lv_neT c3 (a := 3) (by decide)
  have e4 := lv_neT c4 (a := 4) (by decide)
  have e5 := lv_neT c5 (a := 5) (by decide)
  have e6 := lv_neT c6 (a := 6) (by decide)
  have e7 := lv_neT c7 (a := 7) (by decide)
  have e8 := lv_neT c8 (a := 8) (by decide)
  have e9 := lv_neT c9 (a := 9) (by decide)
  have e10 := lv_neT c10 (a := 10) (by decide)
  refine lv_tableOut hx hb dX6_count_6 (by omega) (tgt := 129) (by decide) ?_
  refine lv_bipush (v := -2) hx hb dX6_count_129 (by decide) ?_
  obtain ⟨rfl, rfl⟩ := oi2 h
  exact r_ret X hw hr hlk dX6_count_131
