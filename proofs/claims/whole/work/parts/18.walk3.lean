def rmX3_append : Room := { frames := 0, cells := 0, slots := 0, locals := 0 }
set_option maxHeartbeats 4000000 in
set_option maxRecDepth 100000 in
theorem c_X3_append (l : Launch) (D : va_G) (cI cC cO : ClassId) (h0 h_this_signs h_this_lowers h_this_highers h_this_weights : Nat) (p1 length_ ties_ due_ lower_ higher_ : Int32) (signs_ : Nat → Int32) (length_' : Int32) (signs_' : Nat → Int32) (h : f_X3_append p1 length_ signs_ = some (length_', signs_')) : CV l yX3_append (Wy yX3_append cX3_append 2 none) rmX3_append D cI cC cO [.ref h0, .int p1] [(h0, .inr (3, [.ref h_this_signs, .int length_, .ref h_this_lowers, .ref h_this_highers, .ref h_this_weights, .int ties_, .int due_, .int lower_, .int higher_])), (h_this_signs, .inl (cC, 60, .inl signs_))] [(h0, .inr (3, [.ref h_this_signs, .int length_', .ref h_this_lowers, .ref h_this_highers, .ref h_this_weights, .int ties_, .int due_, .int lower_, .int higher_])), (h_this_signs, .inl (cC, 60, .inl signs_'))] := by
  refine enter_v RX3 (by decide) rfl (Nat.le_of_ble_eq_true rfl) ?_
  intro p e s m below meth c A X hr hlk hw ls hl
  have hx := X.1.1
  have hb := X.1.2.1
  have hl : lv_has ls 2 [(0, .ref h0), (1, .int p1)] := hl
  unfold f_X3_append at h
  refine lv_aload_n hx hb dX3_append_0 rfl (lv_at hl 0 rfl) ?_
  refine fg_X3_15 X hw 0 rfl rfl dX3_append_1 ?_
  refine lv_bipush (v := 60) hx hb dX3_append_4 (by decide) ?_
  refine lv_icmp_ge (tgt := 29) hx hb dX3_append_6 (by decide) (fun c1 => ?_) (fun c1 => ?_)
  · replace h := ip c1 h
    obtain ⟨rfl, rfl⟩ := oi2 h
    exact r_retv X hw hr hlk dX3_append_29
  · replace h := ig c1 h
    refine lv_aload_n hx hb dX3_append_9 rfl (lv_at hl 0 rfl) ?_
    refine fg_X3_9 X hw 0 rfl rfl dX3_append_10 ?_
    refine lv_aload_n hx hb dX3_append_13 rfl (lv_at hl 0 rfl) ?_
    refine fg_X3_15 X hw 0 rfl rfl dX3_append_14 ?_
    refine lv_iload_n hx hb dX3_append_17 rfl (lv_at hl 1 rfl) ?_
    obtain ⟨b1, h⟩ := chk_inv h
    refine r_cast X hw 1 rfl b1 rfl dX3_append_18 (fun H locs hw => ?_)
    have hw : Wd D A s.heap [(h0, .inr (3, [.ref h_this_signs, .int length_, .ref h_this_lowers, .ref h_this_highers, .ref h_this_weights, .int ties_, .int due_, .int lower_, .int higher_])), (h_this_signs, .inl (cC, 60, .inl (upd signs_ (length_).toNatClampNeg (vp_nar .char p1))))] H locs := hw
    refine lv_aload_n hx hb dX3_append_19 rfl (lv_at hl 0 rfl) ?_
    refine lv_dup hx hb dX3_append_20 rfl ?_
    refine fg_X3_15 X hw 0 rfl rfl dX3_append_21 ?_
    refine lv_iconst (v := 1) hx hb dX3_append_24 (by decide) ?_
    refine lv_iadd hx hb dX3_append_25 ?_
    refine fp_X3_15 X hw 0 rfl rfl dX3_append_26 (fun H locs hw => ?_)
    have hw : Wd D A s.heap [(h0, .inr (3, [.ref h_this_signs, .int (length_ + (1 : Int32)), .ref h_this_lowers, .ref h_this_highers, .ref h_this_weights, .int ties_, .int due_, .int lower_, .int higher_])), (h_this_signs, .inl (cC, 60, .inl (upd signs_ (length_).toNatClampNeg (vp_nar .char p1))))] H locs := hw
    obtain ⟨rfl, rfl⟩ := oi2 h
    exact r_retv X hw hr hlk dX3_append_29
def rmX3_takesFirstLetter : Room := { frames := 0, cells := 0, slots := 0, locals := 0 }
set_option maxHeartbeats 4000000 in
set_option maxRecDepth 100000 in
theorem c_X3_takesFirstLetter (l : Launch) (D : va_G) (cI cC cO : ClassId) (h0 h_this_signs h_this_lowers h_this_highers h_this_weights : Nat) (p1 length_ ties_ due_ lower_ higher_ : Int32) (r_ : Int32) (due_' : Int32) (lower_' : Int32) (h : f_X3_takesFirstLetter p1 = some (r_, due_', lower_')) : CI l yX3_takesFirstLetter (Wy yX3_takesFirstLetter cX3_takesFirstLetter 2 (some .boolean)) rmX3_takesFirstLetter D cI cC cO [.ref h0, .int p1] [(h0, .inr (3, [.ref h_this_signs, .int length_, .ref h_this_lowers, .ref h_this_highers, .ref h_this_weights, .int ties_, .int due_, .int lower_, .int higher_]))] r_ [(h0, .inr (3, [.ref h_this_signs, .int length_, .ref h_this_lowers, .ref h_this_highers, .ref h_this_weights, .int ties_, .int due_', .int lower_', .int higher_]))] := by
  refine enter_i RX3 (by decide) rfl (Nat.le_of_ble_eq_true rfl) ?_
  intro p e s m below meth c A X hr hlk hw ls hl
  have hx := X.1.1
  have hb := X.1.2.1
  have hl : lv_has ls 2 [(0, .ref h0), (1, .int p1)] := hl
  unfold f_X3_takesFirstLetter at h
  refine lv_aload_n hx hb dX3_takesFirstLetter_0 rfl (lv_at hl 0 rfl) ?_
  refine lv_iload_n hx hb dX3_takesFirstLetter_1 rfl (lv_at hl 1 rfl) ?_
  refine lv_bipush (v := 97) hx hb dX3_takesFirstLetter_2 (by decide) ?_
  refine lv_isub hx hb dX3_takesFirstLetter_4 ?_
  refine fp_X3_54 X hw 0 rfl rfl dX3_takesFirstLetter_5 (fun H locs hw => ?_)
  have hw : Wd D A s.heap [(h0, .inr (3, [.ref h_this_signs, .int length_, .ref h_this_lowers, .ref h_this_highers, .ref h_this_weights, .int ties_, .int due_, .int (p1 - (97 : Int32)), .int higher_]))] H locs := hw
  refine lv_aload_n hx hb dX3_takesFirstLetter_8 rfl (lv_at hl 0 rfl) ?_
  refine lv_iconst (v := 1) hx hb dX3_takesFirstLetter_9 (by decide) ?_
  refine fp_X3_32 X hw 0 rfl rfl dX3_takesFirstLetter_10 (fun H locs hw => ?_)
  have hw : Wd D A s.heap [(h0, .inr (3, [.ref h_this_signs, .int length_, .ref h_this_lowers, .ref h_this_highers, .ref h_this_weights, .int ties_, .int (1 : Int32), .int (p1 - (97 : Int32)), .int higher_]))] H locs := hw
  refine lv_aload_n hx hb dX3_takesFirstLetter_13 rfl (lv_at hl 0 rfl) ?_
  refine fg_X3_54 X hw 0 rfl rfl dX3_takesFirstLetter_14 ?_
  refine lv_if_lt (tgt := 33) hx hb dX3_takesFirstLetter_17 (by decide) (fun c1 => ?_) (fun c1 => ?_)
  · replace h := ip c1 h
    refine lv_iconst (v := 0) hx hb dX3_takesFirstLetter_33 (by decide) ?_
    obtain ⟨rfl, rfl, rfl⟩ := oi3 h
    exact r_retz X hw hr (Or.inl rfl) hlk dX3_takesFirstLetter_34
  · replace h := ig c1 h
    refine lv_aload_n hx hb dX3_takesFirstLetter_20 rfl (lv_at hl 0 rfl) ?_
    refine fg_X3_54 X hw 0 rfl rfl dX3_takesFirstLetter_21 ?_
    refine lv_bipush (v := 9) hx hb dX3_takesFirstLetter_24 (by decide) ?_
    refine lv_icmp_ge (tgt := 33) hx hb dX3_takesFirstLetter_26 (by decide) (fun c1 => ?_) (fun c1 => ?_)
    · replace h := ip c1 h
      refine lv_iconst (v := 0) hx hb dX3_takesFirstLetter_33 (by decide) ?_
      obtain ⟨rfl, rfl, rfl⟩ := oi3 h
      exact r_retz X hw hr (Or.inl rfl) hlk dX3_takesFirstLetter_34
    · replace h := ig c1 h
      refine lv_iconst (v := 1) hx hb dX3_takesFirstLetter_29 (by decide) ?_
      refine lv_goto (tgt := 34) hx hb dX3_takesFirstLetter_30 (by decide) ?_
      obtain ⟨rfl, rfl, rfl⟩ := oi3 h
      exact r_retz X hw hr (Or.inr rfl) hlk dX3_takesFirstLetter_34
def rmX3_takesSecondLetter : Room := { frames := 0, cells := 0, slots := 0, locals := 0 }
set_option maxHeartbeats 4000000 in
set_option maxRecDepth 100000 in
theorem c_X3_takesSecondLetter (l : Launch) (D : va_G) (cI cC cO : ClassId) (h0 h_this_signs h_this_lowers h_this_highers h_this_weights : Nat) (p1 length_ ties_ due_ lower_ higher_ : Int32) (r_ : Int32) (due_' : Int32) (higher_' : Int32) (h : f_X3_takesSecondLetter p1 lower_ = some (r_, due_', higher_')) : CI l yX3_takesSecondLetter (Wy yX3_takesSecondLetter cX3_takesSecondLetter 2 (some .boolean)) rmX3_takesSecondLetter D cI cC cO [.ref h0, .int p1] [(h0, .inr (3, [.ref h_this_signs, .int length_, .ref h_this_lowers, .ref h_this_highers, .ref h_this_weights, .int ties_, .int due_, .int lower_, .int higher_]))] r_ [(h0, .inr (3, [.ref h_this_signs, .int length_, .ref h_this_lowers, .ref h_this_highers, .ref h_this_weights, .int ties_, .int due_', .int lower_, .int higher_']))] := by
  refine enter_i RX3 (by decide) rfl (Nat.le_of_ble_eq_true rfl) ?_
  intro p e s m below meth c A X hr hlk hw ls hl
  have hx := X.1.1
  have hb := X.1.2.1
  have hl : lv_has ls 2 [(0, .ref h0), (1, .int p1)] := hl
  unfold f_X3_takesSecondLetter at h
  refine lv_aload_n hx hb dX3_takesSecondLetter_0 rfl (lv_at hl 0 rfl) ?_
  refine lv_iload_n hx hb dX3_takesSecondLetter_1 rfl (lv_at hl 1 rfl) ?_
  refine lv_bipush (v := 97) hx hb dX3_takesSecondLetter_2 (by decide) ?_
  refine lv_isub hx hb dX3_takesSecondLetter_4 ?_
  refine fp_X3_57 X hw 0 rfl rfl dX3_takesSecondLetter_5 (fun H locs hw => ?_)
  have hw : Wd D A s.heap [(h0, .inr (3, [.ref h_this_signs, .int length_, .ref h_this_lowers, .ref h_this_highers, .ref h_this_weights, .int ties_, .int due_, .int lower_, .int (p1 - (97 : Int32))]))] H locs := hw
  refine lv_aload_n hx hb dX3_takesSecondLetter_8 rfl (lv_at hl 0 rfl) ?_
  refine lv_iconst (v := 2) hx hb dX3_takesSecondLetter_9 (by decide) ?_
  refine fp_X3_32 X hw 0 rfl rfl dX3_takesSecondLetter_10 (fun H locs hw => ?_)
  have hw : Wd D A s.heap [(h0, .inr (3, [.ref h_this_signs, .int length_, .ref h_this_lowers, .ref h_this_highers, .ref h_this_weights, .int ties_, .int (2 : Int32), .int lower_, .int (p1 - (97 : Int32))]))] H locs := hw
  refine lv_aload_n hx hb dX3_takesSecondLetter_13 rfl (lv_at hl 0 rfl) ?_
  refine fg_X3_57 X hw 0 rfl rfl dX3_takesSecondLetter_14 ?_
  refine lv_aload_n hx hb dX3_takesSecondLetter_17 rfl (lv_at hl 0 rfl) ?_
  refine fg_X3_54 X hw 0 rfl rfl dX3_takesSecondLetter_18 ?_
  refine lv_icmp_le (tgt := 37) hx hb dX3_takesSecondLetter_21 (by decide) (fun c1 => ?_) (fun c1 => ?_)
  · replace h := ip c1 h
    refine lv_iconst (v := 0) hx hb dX3_takesSecondLetter_37 (by decide) ?_
    obtain ⟨rfl, rfl, rfl⟩ := oi3 h
    exact r_retz X hw hr (Or.inl rfl) hlk dX3_takesSecondLetter_38
  · replace h := ig c1 h
    refine lv_aload_n hx hb dX3_takesSecondLetter_24 rfl (lv_at hl 0 rfl) ?_
    refine fg_X3_57 X hw 0 rfl rfl dX3_takesSecondLetter_25 ?_
    refine lv_bipush (v := 10) hx hb dX3_takesSecondLetter_28 (by decide) ?_
    refine lv_icmp_ge (tgt := 37) hx hb dX3_takesSecondLetter_30 (by decide) (fun c1 => ?_) (fun c1 => ?_)
    · replace h := ip c1 h
      refine lv_iconst (v := 0) hx hb dX3_takesSecondLetter_37 (by decide) ?_
      obtain ⟨rfl, rfl, rfl⟩ := oi3 h
      exact r_retz X hw hr (Or.inl rfl) hlk dX3_takesSecondLetter_38
    · replace h := ig c1 h
      refine lv_iconst (v := 1) hx hb dX3_takesSecondLetter_33 (by decide) ?_
      refine lv_goto (tgt := 38) hx hb dX3_takesSecondLetter_34 (by decide) ?_
      obtain ⟨rfl, rfl, rfl⟩ := oi3 h
      exact r_retz X hw hr (Or.inr rfl) hlk dX3_takesSecondLetter_38
def rmX3_isDigit : Room := { frames := 0, cells := 0, slots := 0, locals := 0 }
set_option maxHeartbeats 4000000 in
set_option maxRecDepth 100000 in
theorem c_X3_isDigit (l : Launch) (D : va_G) (cI cC cO : ClassId) (p0 : Int32) (r_ : Int32) (h : f_X3_isDigit p0 = some r_) : CI l yX3_isDigit (Wy yX3_isDigit cX3_isDigit 1 (some .boolean)) rmX3_isDigit D cI cC cO [.int p0] [] r_ [] := by
  refine enter_i RX3 (by decide) rfl (Nat.le_of_ble_eq_true rfl) ?_
  intro p e s m below meth c A X hr hlk hw ls hl
  have hx := X.1.1
  have hb := X.1.2.1
  have hl : lv_has ls 1 [(0, .int p0)] := hl
  unfold f_X3_isDigit at h
  refine lv_iload_n hx hb dX3_isDigit_0 rfl (lv_at hl 0 rfl) ?_
  refine lv_bipush (v := 48) hx hb dX3_isDigit_1 (by decide) ?_
  refine lv_icmp_lt (tgt := 16) hx hb dX3_isDigit_3 (by decide) (fun c1 => ?_) (fun c1 => ?_)
  · replace h := ip c1 h
    refine lv_iconst (v := 0) hx hb dX3_isDigit_16 (by decide) ?_
    obtain rfl := oi1 h
    exact r_retz X hw hr (Or.inl rfl) hlk dX3_isDigit_17
  · replace h := ig c1 h
    refine lv_iload_n hx hb dX3_isDigit_6 rfl (lv_at hl 0 rfl) ?_
    refine lv_bipush (v := 57) hx hb dX3_isDigit_7 (by decide) ?_
    refine lv_icmp_gt (tgt := 16) hx hb dX3_isDigit_9 (by decide) (fun c1 => ?_) (fun c1 => ?_)
    · replace h := ip c1 h
      refine lv_iconst (v := 0) hx hb dX3_isDigit_16 (by decide) ?_
      obtain rfl := oi1 h
      exact r_retz X hw hr (Or.inl rfl) hlk dX3_isDigit_17
    · replace h := ig c1 h
      refine lv_iconst (v := 1) hx hb dX3_isDigit_12 (by decide) ?_
      refine lv_goto (tgt := 17) hx hb dX3_isDigit_13 (by decide) ?_
      obtain rfl := oi1 h
      exact r_retz X hw hr (Or.inr rfl) hlk dX3_isDigit_17
def rmX3_takesFirstDigit : Room := { frames := 1, cells := 0, slots := 0, locals := 20 }
section
variable {p : Program} {l : Launch} {e : Env} {R : Room} {s : State} {m : MethodId} {args : Array Value} {below : List Frame} {meth : Method} {c : Code} {H : Heap} {locs : List Loc} {cells slots : Nat} {Q : State → Prop}
variable {cc : ByteArray} {pc nL : Nat} {ls : Array Slot} {rest : List Value} {D : va_G} {cI cC cO : ClassId} {A : Nat → Prop} {ws : va_W} {H0 : Heap}
theorem cs_X3_60 (X : Ctx p m c cc nL s args RX3 D cI cC cO) (hR : rmX3_isDigit.frames + 1 ≤ R.frames ∧ 8 + (1 + 11) + rmX3_isDigit.locals ≤ R.locals) : CallB R s args RX3 60 yX3_isDigit cX3_isDigit 1 (some .boolean) (Wy yX3_isDigit cX3_isDigit 1 (some .boolean)) rmX3_isDigit 0 0 1 ∧ (Cond.static yX3_isDigit).before args s = true := va_cwS 1 X.1.2.2.2.2 (gi_S tw_241 tw_242 tw_4 tw_243) rfl rfl rfl (by decide +kernel) hR
end
set_option maxHeartbeats 4000000 in
set_option maxRecDepth 100000 in
theorem c_X3_takesFirstDigit (l : Launch) (D : va_G) (cI cC cO : ClassId) (h0 h_this_signs h_this_lowers h_this_highers h_this_weights : Nat) (p1 length_ ties_ due_ lower_ higher_ : Int32) (lowers_ highers_ weights_ : Nat → Int32) (r_ : Int32) (ties_' : Int32) (due_' : Int32) (lowers_' : Nat → Int32) (highers_' : Nat → Int32) (weights_' : Nat → Int32) (h : f_X3_takesFirstDigit p1 ties_ due_ lower_ higher_ lowers_ highers_ weights_ = some (r_, ties_', due_', lowers_', highers_', weights_')) : CI l yX3_takesFirstDigit (Wy yX3_takesFirstDigit cX3_takesFirstDigit 2 (some .boolean)) rmX3_takesFirstDigit D cI cC cO [.ref h0, .int p1] [(h0, .inr (3, [.ref h_this_signs, .int length_, .ref h_this_lowers, .ref h_this_highers, .ref h_this_weights, .int ties_, .int due_, .int lower_, .int higher_])), (h_this_lowers, .inl (cI, 15, .inl lowers_)), (h_this_highers, .inl (cI, 15, .inl highers_)), (h_this_weights, .inl (cI, 15, .inl weights_))] r_ [(h0, .inr (3, [.ref h_this_signs, .int length_, .ref h_this_lowers, .ref h_this_highers, .ref h_this_weights, .int ties_', .int due_', .int lower_, .int higher_])), (h_this_lowers, .inl (cI, 15, .inl lowers_')), (h_this_highers, .inl (cI, 15, .inl highers_')), (h_this_weights, .inl (cI, 15, .inl weights_'))] := by
  refine enter_i RX3 (by decide) rfl (Nat.le_of_ble_eq_true rfl) ?_
  intro p e s m below meth c A X hr hlk hw ls hl
  have hx := X.1.1
  have hb := X.1.2.1
  have hl : lv_has ls 2 [(0, .ref h0), (1, .int p1)] := hl
  unfold f_X3_takesFirstDigit at h
  refine lv_iload_n hx hb dX3_takesFirstDigit_0 rfl (lv_at hl 1 rfl) ?_
  obtain ⟨r1, hc, h⟩ := bd1_inv h
  refine r_cSi X hw (As := [.int p1]) (rest := []) (c_X3_isDigit l D cI cC cO p1 r1 hc) (cs_X3_60 X (by decide)) rfl hl.1 rfl (Nat.le_of_ble_eq_true rfl) dX3_takesFirstDigit_1 ⟨Nat.zero_le _, Nat.zero_le _⟩ (fun H locs hw => ?_)
  refine lv_if_eq (tgt := 16) hx hb dX3_takesFirstDigit_4 (by decide) (fun c1 => ?_) (fun c1 => ?_)
  · replace h := ip c1 h
    refine lv_iconst (v := 0) hx hb dX3_takesFirstDigit_16 (by decide) ?_
    obtain ⟨rfl, rfl, rfl, rfl, rfl, rfl⟩ := oi6 h
    exact r_retz X hw hr (Or.inl rfl) hlk dX3_takesFirstDigit_17
  · replace h := ig c1 h
    refine lv_aload_n hx hb dX3_takesFirstDigit_7 rfl (lv_at hl 0 rfl) ?_
    refine fg_X3_29 X hw 0 rfl rfl dX3_takesFirstDigit_8 ?_
    refine lv_bipush (v := 15) hx hb dX3_takesFirstDigit_11 (by decide) ?_
    refine lv_icmp_lt (tgt := 18) hx hb dX3_takesFirstDigit_13 (by decide) (fun c1 => ?_) (fun c1 => ?_)
    · replace h := ip c1 h
      refine lv_aload_n hx hb dX3_takesFirstDigit_18 rfl (lv_at hl 0 rfl) ?_
      refine fg_X3_19 X hw 0 rfl rfl dX3_takesFirstDigit_19 ?_
      refine lv_aload_n hx hb dX3_takesFirstDigit_22 rfl (lv_at hl 0 rfl) ?_
      refine fg_X3_29 X hw 0 rfl rfl dX3_takesFirstDigit_23 ?_
      refine lv_aload_n hx hb dX3_takesFirstDigit_26 rfl (lv_at hl 0 rfl) ?_
      refine fg_X3_54 X hw 0 rfl rfl dX3_takesFirstDigit_27 ?_
      obtain ⟨b1, h⟩ := chk_inv h
      refine r_iast X hw 1 rfl b1 rfl dX3_takesFirstDigit_30 (fun H locs hw => ?_)
      have hw : Wd D A s.heap [(h0, .inr (3, [.ref h_this_signs, .int length_, .ref h_this_lowers, .ref h_this_highers, .ref h_this_weights, .int ties_, .int due_, .int lower_, .int higher_])), (h_this_lowers, .inl (cI, 15, .inl (upd lowers_ (ties_).toNatClampNeg lower_))), (h_this_highers, .inl (cI, 15, .inl highers_)), (h_this_weights, .inl (cI, 15, .inl weights_))] H locs := hw
      refine lv_aload_n hx hb dX3_takesFirstDigit_31 rfl (lv_at hl 0 rfl) ?_
      refine fg_X3_23 X hw 0 rfl rfl dX3_takesFirstDigit_32 ?_
      refine lv_aload_n hx hb dX3_takesFirstDigit_35 rfl (lv_at hl 0 rfl) ?_
      refine fg_X3_29 X hw 0 rfl rfl dX3_takesFirstDigit_36 ?_
      refine lv_aload_n hx hb dX3_takesFirstDigit_39 rfl (lv_at hl 0 rfl) ?_
      refine fg_X3_57 X hw 0 rfl rfl dX3_takesFirstDigit_40 ?_
      obtain ⟨b1, h⟩ := chk_inv h
      refine r_iast X hw 2 rfl b1 rfl dX3_takesFirstDigit_43 (fun H locs hw => ?_)
      have hw : Wd D A s.heap [(h0, .inr (3, [.ref h_this_signs, .int length_, .ref h_this_lowers, .ref h_this_highers, .ref h_this_weights, .int ties_, .int due_, .int lower_, .int higher_])), (h_this_lowers, .inl (cI, 15, .inl (upd lowers_ (ties_).toNatClampNeg lower_))), (h_this_highers, .inl (cI, 15, .inl (upd highers_ (ties_).toNatClampNeg higher_))), (h_this_weights, .inl (cI, 15, .inl weights_))] H locs := hw
      refine lv_aload_n hx hb dX3_takesFirstDigit_44 rfl (lv_at hl 0 rfl) ?_
      refine fg_X3_26 X hw 0 rfl rfl dX3_takesFirstDigit_45 ?_
      refine lv_aload_n hx hb dX3_takesFirstDigit_48 rfl (lv_at hl 0 rfl) ?_
      refine fg_X3_29 X hw 0 rfl rfl dX3_takesFirstDigit_49 ?_
      refine lv_iload_n hx hb dX3_takesFirstDigit_52 rfl (lv_at hl 1 rfl) ?_
      refine lv_bipush (v := 48) hx hb dX3_takesFirstDigit_53 (by decide) ?_
      refine lv_isub hx hb dX3_takesFirstDigit_55 ?_
      obtain ⟨b1, h⟩ := chk_inv h
      refine r_iast X hw 3 rfl b1 rfl dX3_takesFirstDigit_56 (fun H locs hw => ?_)
      have hw : Wd D A s.heap [(h0, .inr (3, [.ref h_this_signs, .int length_, .ref h_this_lowers, .ref h_this_highers, .ref h_this_weights, .int ties_, .int due_, .int lower_, .int higher_])), (h_this_lowers, .inl (cI, 15, .inl (upd lowers_ (ties_).toNatClampNeg lower_))), (h_this_highers, .inl (cI, 15, .inl (upd highers_ (ties_).toNatClampNeg higher_))), (h_this_weights, .inl (cI, 15, .inl (upd weights_ (ties_).toNatClampNeg (p1 - (48 : Int32)))))] H locs := hw
      refine lv_aload_n hx hb dX3_takesFirstDigit_57 rfl (lv_at hl 0 rfl) ?_
      refine lv_dup hx hb dX3_takesFirstDigit_58 rfl ?_
      refine fg_X3_29 X hw 0 rfl rfl dX3_takesFirstDigit_59 ?_
      refine lv_iconst (v := 1) hx hb dX3_takesFirstDigit_62 (by decide) ?_
      refine lv_iadd hx hb dX3_takesFirstDigit_63 ?_
      refine fp_X3_29 X hw 0 rfl rfl dX3_takesFirstDigit_64 (fun H locs hw => ?_)
      have hw : Wd D A s.heap [(h0, .inr (3, [.ref h_this_signs, .int length_, .ref h_this_lowers, .ref h_this_highers, .ref h_this_weights, .int (ties_ + (1 : Int32)), .int due_, .int lower_, .int higher_])), (h_this_lowers, .inl (cI, 15, .inl (upd lowers_ (ties_).toNatClampNeg lower_))), (h_this_highers, .inl (cI, 15, .inl (upd highers_ (ties_).toNatClampNeg higher_))), (h_this_weights, .inl (cI, 15, .inl (upd weights_ (ties_).toNatClampNeg (p1 - (48 : Int32)))))] H locs := hw
      refine lv_aload_n hx hb dX3_takesFirstDigit_67 rfl (lv_at hl 0 rfl) ?_
      refine lv_iload_n hx hb dX3_takesFirstDigit_68 rfl (lv_at hl 1 rfl) ?_
      refine lv_bipush (v := 48) hx hb dX3_takesFirstDigit_69 (by decide) ?_
      have J79 : ∀ (x2 : Int32) (H : Heap) (locs : List Loc) (ls : Array Slot), f_X3_takesFirstDigit_J79 ties_ lowers_ lower_ highers_ higher_ weights_ p1 x2 = some (r_, ties_', due_', lowers_', highers_', weights_') → Wd D A s.heap [(h0, .inr (3, [.ref h_this_signs, .int length_, .ref h_this_lowers, .ref h_this_highers, .ref h_this_weights, .int (ties_ + (1 : Int32)), .int due_, .int lower_, .int higher_])), (h_this_lowers, .inl (cI, 15, .inl (upd lowers_ (ties_).toNatClampNeg lower_))), (h_this_highers, .inl (cI, 15, .inl (upd highers_ (ties_).toNatClampNeg higher_))), (h_this_weights, .inl (cI, 15, .inl (upd weights_ (ties_).toNatClampNeg (p1 - (48 : Int32)))))] H locs → lv_has ls 2 [] → W p l e rmX3_takesFirstDigit s m ([.ref h0, .int p1] : List Value).toArray below meth c H locs 0 0 (MQ below (Qi D r_ [(h0, .inr (3, [.ref h_this_signs, .int length_, .ref h_this_lowers, .ref h_this_highers, .ref h_this_weights, .int ties_', .int due_', .int lower_, .int higher_])), (h_this_lowers, .inl (cI, 15, .inl lowers_')), (h_this_highers, .inl (cI, 15, .inl highers_')), (h_this_weights, .inl (cI, 15, .inl weights_'))] A) ([.ref h0, .int p1] : List Value).toArray s 0 0 A) (F0 m 79 ls [.int x2, .ref h0]) := by
        intro x2 H locs ls h hw hl
        unfold f_X3_takesFirstDigit_J79 at h
        refine fp_X3_32 X hw 0 rfl rfl dX3_takesFirstDigit_79 (fun H locs hw => ?_)
        have hw : Wd D A s.heap [(h0, .inr (3, [.ref h_this_signs, .int length_, .ref h_this_lowers, .ref h_this_highers, .ref h_this_weights, .int (ties_ + (1 : Int32)), .int x2, .int lower_, .int higher_])), (h_this_lowers, .inl (cI, 15, .inl (upd lowers_ (ties_).toNatClampNeg lower_))), (h_this_highers, .inl (cI, 15, .inl (upd highers_ (ties_).toNatClampNeg higher_))), (h_this_weights, .inl (cI, 15, .inl (upd weights_ (ties_).toNatClampNeg (p1 - (48 : Int32)))))] H locs := hw
        refine lv_iconst (v := 1) hx hb dX3_takesFirstDigit_82 (by decide) ?_
        obtain ⟨rfl, rfl, rfl, rfl, rfl, rfl⟩ := oi6 h
        exact r_retz X hw hr (Or.inr rfl) hlk dX3_takesFirstDigit_83
      refine lv_icmp_ne (tgt := 78) hx hb dX3_takesFirstDigit_71 (by decide) (fun c1 => ?_) (fun c1 => ?_)
      · replace h := ig c1 h
        refine lv_iconst (v := 3) hx hb dX3_takesFirstDigit_78 (by decide) ?_
        exact J79 (3 : Int32) _ _ _ h hw (lv_sub hl [] rfl)
      · replace h := ip c1 h
        refine lv_iconst (v := 4) hx hb dX3_takesFirstDigit_74 (by decide) ?_
        refine lv_goto (tgt := 79) hx hb dX3_takesFirstDigit_75 (by decide) ?_
        exact J79 (4 : Int32) _ _ _ h hw (lv_sub hl [] rfl)
    · replace h := ig c1 h
      refine lv_iconst (v := 0) hx hb dX3_takesFirstDigit_16 (by decide) ?_
      obtain ⟨rfl, rfl, rfl, rfl, rfl, rfl⟩ := oi6 h
      exact r_retz X hw hr (Or.inl rfl) hlk dX3_takesFirstDigit_17
def rmX3_takesSecondDigit : Room := { frames := 1, cells := 0, slots := 0, locals := 20 }
set_option maxHeartbeats 4000000 in
set_option maxRecDepth 100000 in
theorem c_X3_takesSecondDigit (l : Launch) (D : va_G) (cI cC cO : ClassId) (h0 h_this_signs h_this_lowers h_this_highers h_this_weights : Nat) (p1 length_ ties_ due_ lower_ higher_ : Int32) (weights_ : Nat → Int32) (r_ : Int32) (due_' : Int32) (weights_' : Nat → Int32) (h : f_X3_takesSecondDigit p1 ties_ due_ weights_ = some (r_, due_', weights_')) : CI l yX3_takesSecondDigit (Wy yX3_takesSecondDigit cX3_takesSecondDigit 2 (some .boolean)) rmX3_takesSecondDigit D cI cC cO [.ref h0, .int p1] [(h0, .inr (3, [.ref h_this_signs, .int length_, .ref h_this_lowers, .ref h_this_highers, .ref h_this_weights, .int ties_, .int due_, .int lower_, .int higher_])), (h_this_weights, .inl (cI, 15, .inl weights_))] r_ [(h0, .inr (3, [.ref h_this_signs, .int length_, .ref h_this_lowers, .ref h_this_highers, .ref h_this_weights, .int ties_, .int due_', .int lower_, .int higher_])), (h_this_weights, .inl (cI, 15, .inl weights_'))] := by
  refine enter_i RX3 (by decide) rfl (Nat.le_of_ble_eq_true rfl) ?_
  intro p e s m below meth c A X hr hlk hw ls hl
  have hx := X.1.1
  have hb := X.1.2.1
  have hl : lv_has ls 2 [(0, .ref h0), (1, .int p1)] := hl
  unfold f_X3_takesSecondDigit at h
  refine lv_iload_n hx hb dX3_takesSecondDigit_0 rfl (lv_at hl 1 rfl) ?_
  obtain ⟨r1, hc, h⟩ := bd1_inv h
  refine r_cSi X hw (As := [.int p1]) (rest := []) (c_X3_isDigit l D cI cC cO p1 r1 hc) (cs_X3_60 X (by decide)) rfl hl.1 rfl (Nat.le_of_ble_eq_true rfl) dX3_takesSecondDigit_1 ⟨Nat.zero_le _, Nat.zero_le _⟩ (fun H locs hw => ?_)
  refine lv_if_eq (tgt := 15) hx hb dX3_takesSecondDigit_4 (by decide) (fun c1 => ?_) (fun c1 => ?_)
  · replace h := ip c1 h
    refine lv_iconst (v := 0) hx hb dX3_takesSecondDigit_15 (by decide) ?_
    obtain ⟨rfl, rfl, rfl⟩ := oi3 h
    exact r_retz X hw hr (Or.inl rfl) hlk dX3_takesSecondDigit_16
  · replace h := ig c1 h
    refine lv_aload_n hx hb dX3_takesSecondDigit_7 rfl (lv_at hl 0 rfl) ?_
    refine fg_X3_29 X hw 0 rfl rfl dX3_takesSecondDigit_8 ?_
    refine lv_iconst (v := 1) hx hb dX3_takesSecondDigit_11 (by decide) ?_
    refine lv_icmp_ge (tgt := 17) hx hb dX3_takesSecondDigit_12 (by decide) (fun c1 => ?_) (fun c1 => ?_)
    · replace h := ip c1 h
      refine lv_aload_n hx hb dX3_takesSecondDigit_17 rfl (lv_at hl 0 rfl) ?_
      refine fg_X3_26 X hw 0 rfl rfl dX3_takesSecondDigit_18 ?_
      refine lv_aload_n hx hb dX3_takesSecondDigit_21 rfl (lv_at hl 0 rfl) ?_
      refine fg_X3_29 X hw 0 rfl rfl dX3_takesSecondDigit_22 ?_
      refine lv_iconst (v := 1) hx hb dX3_takesSecondDigit_25 (by decide) ?_
      refine lv_isub hx hb dX3_takesSecondDigit_26 ?_
      refine lv_bipush (v := 10) hx hb dX3_takesSecondDigit_27 (by decide) ?_
      refine lv_aload_n hx hb dX3_takesSecondDigit_29 rfl (lv_at hl 0 rfl) ?_
      refine fg_X3_26 X hw 0 rfl rfl dX3_takesSecondDigit_30 ?_
      refine lv_aload_n hx hb dX3_takesSecondDigit_33 rfl (lv_at hl 0 rfl) ?_
      refine fg_X3_29 X hw 0 rfl rfl dX3_takesSecondDigit_34 ?_
      refine lv_iconst (v := 1) hx hb dX3_takesSecondDigit_37 (by decide) ?_
      refine lv_isub hx hb dX3_takesSecondDigit_38 ?_
      obtain ⟨b1, h⟩ := chk_inv h
      refine r_iald X hw 1 rfl b1 rfl dX3_takesSecondDigit_39 ?_
      refine lv_imul hx hb dX3_takesSecondDigit_40 ?_
      refine lv_iload_n hx hb dX3_takesSecondDigit_41 rfl (lv_at hl 1 rfl) ?_
      refine lv_bipush (v := 48) hx hb dX3_takesSecondDigit_42 (by decide) ?_
      refine lv_isub hx hb dX3_takesSecondDigit_44 ?_
      refine lv_iadd hx hb dX3_takesSecondDigit_45 ?_
      obtain ⟨b1, h⟩ := chk_inv h
      refine r_iast X hw 1 rfl b1 rfl dX3_takesSecondDigit_46 (fun H locs hw => ?_)
      have hw : Wd D A s.heap [(h0, .inr (3, [.ref h_this_signs, .int length_, .ref h_this_lowers, .ref h_this_highers, .ref h_this_weights, .int ties_, .int due_, .int lower_, .int higher_])), (h_this_weights, .inl (cI, 15, .inl (upd weights_ ((ties_ - (1 : Int32))).toNatClampNeg (((10 : Int32) * (weights_ ((ties_ - (1 : Int32))).toNatClampNeg)) + (p1 - (48 : Int32))))))] H locs := hw
      refine lv_aload_n hx hb dX3_takesSecondDigit_47 rfl (lv_at hl 0 rfl) ?_
      refine lv_iconst (v := 4) hx hb dX3_takesSecondDigit_48 (by decide) ?_
      refine fp_X3_32 X hw 0 rfl rfl dX3_takesSecondDigit_49 (fun H locs hw => ?_)
      have hw : Wd D A s.heap [(h0, .inr (3, [.ref h_this_signs, .int length_, .ref h_this_lowers, .ref h_this_highers, .ref h_this_weights, .int ties_, .int (4 : Int32), .int lower_, .int higher_])), (h_this_weights, .inl (cI, 15, .inl (upd weights_ ((ties_ - (1 : Int32))).toNatClampNeg (((10 : Int32) * (weights_ ((ties_ - (1 : Int32))).toNatClampNeg)) + (p1 - (48 : Int32))))))] H locs := hw
      refine lv_iconst (v := 1) hx hb dX3_takesSecondDigit_52 (by decide) ?_
      obtain ⟨rfl, rfl, rfl⟩ := oi3 h
      exact r_retz X hw hr (Or.inr rfl) hlk dX3_takesSecondDigit_53
    · replace h := ig c1 h
      refine lv_iconst (v := 0) hx hb dX3_takesSecondDigit_15 (by decide) ?_
      obtain ⟨rfl, rfl, rfl⟩ := oi3 h
      exact r_retz X hw hr (Or.inl rfl) hlk dX3_takesSecondDigit_16
def rmX3_takesComma : Room := { frames := 0, cells := 0, slots := 0, locals := 0 }
set_option maxHeartbeats 4000000 in
set_option maxRecDepth 100000 in
theorem c_X3_takesComma (l : Launch) (D : va_G) (cI cC cO : ClassId) (h0 h_this_signs h_this_lowers h_this_highers h_this_weights : Nat) (p1 length_ ties_ due_ lower_ higher_ : Int32) (r_ : Int32) (due_' : Int32) (h : f_X3_takesComma p1 = some (r_, due_')) : CI l yX3_takesComma (Wy yX3_takesComma cX3_takesComma 2 (some .boolean)) rmX3_takesComma D cI cC cO [.ref h0, .int p1] [(h0, .inr (3, [.ref h_this_signs, .int length_, .ref h_this_lowers, .ref h_this_highers, .ref h_this_weights, .int ties_, .int due_, .int lower_, .int higher_]))] r_ [(h0, .inr (3, [.ref h_this_signs, .int length_, .ref h_this_lowers, .ref h_this_highers, .ref h_this_weights, .int ties_, .int due_', .int lower_, .int higher_]))] := by
  refine enter_i RX3 (by decide) rfl (Nat.le_of_ble_eq_true rfl) ?_
  intro p e s m below meth c A X hr hlk hw ls hl
  have hx := X.1.1
  have hb := X.1.2.1
  have hl : lv_has ls 2 [(0, .ref h0), (1, .int p1)] := hl
  unfold f_X3_takesComma at h
  refine lv_aload_n hx hb dX3_takesComma_0 rfl (lv_at hl 0 rfl) ?_
  refine lv_iconst (v := 0) hx hb dX3_takesComma_1 (by decide) ?_
  refine fp_X3_32 X hw 0 rfl rfl dX3_takesComma_2 (fun H locs hw => ?_)
  have hw : Wd D A s.heap [(h0, .inr (3, [.ref h_this_signs, .int length_, .ref h_this_lowers, .ref h_this_highers, .ref h_this_weights, .int ties_, .int (0 : Int32), .int lower_, .int higher_]))] H locs := hw
  refine lv_iload_n hx hb dX3_takesComma_5 rfl (lv_at hl 1 rfl) ?_
  refine lv_bipush (v := 44) hx hb dX3_takesComma_6 (by decide) ?_
  refine lv_icmp_ne (tgt := 15) hx hb dX3_takesComma_8 (by decide) (fun c1 => ?_) (fun c1 => ?_)
  · replace h := ig c1 h
    refine lv_iconst (v := 0) hx hb dX3_takesComma_15 (by decide) ?_
    obtain ⟨rfl, rfl⟩ := oi2 h
    exact r_retz X hw hr (Or.inl rfl) hlk dX3_takesComma_16
  · replace h := ip c1 h
    refine lv_iconst (v := 1) hx hb dX3_takesComma_11 (by decide) ?_
    refine lv_goto (tgt := 16) hx hb dX3_takesComma_12 (by decide) ?_
    obtain ⟨rfl, rfl⟩ := oi2 h
    exact r_retz X hw hr (Or.inr rfl) hlk dX3_takesComma_16
def rmX3_takes : Room := { frames := 2, cells := 0, slots := 0, locals := 41 }
section
variable {p : Program} {l : Launch} {e : Env} {R : Room} {s : State} {m : MethodId} {args : Array Value} {below : List Frame} {meth : Method} {c : Code} {H : Heap} {locs : List Loc} {cells slots : Nat} {Q : State → Prop}
variable {cc : ByteArray} {pc nL : Nat} {ls : Array Slot} {rest : List Value} {D : va_G} {cI cC cO : ClassId} {A : Nat → Prop} {ws : va_W} {H0 : Heap}
theorem cs_X3_39 (X : Ctx p m c cc nL s args RX3 D cI cC cO) (hR : rmX3_takesFirstLetter.frames + 1 ≤ R.frames ∧ 8 + (2 + 11) + rmX3_takesFirstLetter.locals ≤ R.locals) : CallW R s args RX3 RX3 39 yX3_takesFirstLetter cX3_takesFirstLetter 2 (some .boolean) (Wy yX3_takesFirstLetter cX3_takesFirstLetter 2 (some .boolean)) rmX3_takesFirstLetter 0 0 1 := cwV 1 X.1.2.2.2.2 (gi_V tw_229 tw_231 sw_yX3_takesFirstLetter tw_4 tw_232) rfl rfl rfl (by decide +kernel) hR
theorem cs_X3_42 (X : Ctx p m c cc nL s args RX3 D cI cC cO) (hR : rmX3_takesSecondLetter.frames + 1 ≤ R.frames ∧ 8 + (2 + 11) + rmX3_takesSecondLetter.locals ≤ R.locals) : CallW R s args RX3 RX3 42 yX3_takesSecondLetter cX3_takesSecondLetter 2 (some .boolean) (Wy yX3_takesSecondLetter cX3_takesSecondLetter 2 (some .boolean)) rmX3_takesSecondLetter 0 0 1 := cwV 1 X.1.2.2.2.2 (gi_V tw_233 tw_235 sw_yX3_takesSecondLetter tw_4 tw_236) rfl rfl rfl (by decide +kernel) hR
theorem cs_X3_45 (X : Ctx p m c cc nL s args RX3 D cI cC cO) (hR : rmX3_takesFirstDigit.frames + 1 ≤ R.frames ∧ 8 + (2 + 11) + rmX3_takesFirstDigit.locals ≤ R.locals) : CallW R s args RX3 RX3 45 yX3_takesFirstDigit cX3_takesFirstDigit 2 (some .boolean) (Wy yX3_takesFirstDigit cX3_takesFirstDigit 2 (some .boolean)) rmX3_takesFirstDigit 0 0 1 := cwV 1 X.1.2.2.2.2 (gi_V tw_237 tw_239 sw_yX3_takesFirstDigit tw_4 tw_240) rfl rfl rfl (by decide +kernel) hR
theorem cs_X3_48 (X : Ctx p m c cc nL s args RX3 D cI cC cO) (hR : rmX3_takesSecondDigit.frames + 1 ≤ R.frames ∧ 8 + (2 + 11) + rmX3_takesSecondDigit.locals ≤ R.locals) : CallW R s args RX3 RX3 48 yX3_takesSecondDigit cX3_takesSecondDigit 2 (some .boolean) (Wy yX3_takesSecondDigit cX3_takesSecondDigit 2 (some .boolean)) rmX3_takesSecondDigit 0 0 1 := cwV 1 X.1.2.2.2.2 (gi_V tw_244 tw_246 sw_yX3_takesSecondDigit tw_4 tw_247) rfl rfl rfl (by decide +kernel) hR
theorem cs_X3_51 (X : Ctx p m c cc nL s args RX3 D cI cC cO) (hR : rmX3_takesComma.frames + 1 ≤ R.frames ∧ 8 + (2 + 11) + rmX3_takesComma.locals ≤ R.locals) : CallW R s args RX3 RX3 51 yX3_takesComma cX3_takesComma 2 (some .boolean) (Wy yX3_takesComma cX3_takesComma 2 (some .boolean)) rmX3_takesComma 0 0 1 := cwV 1 X.1.2.2.2.2 (gi_V tw_248 tw_250 sw_yX3_takesComma tw_4 tw_251) rfl rfl rfl (by decide +kernel) hR
end
set_option maxHeartbeats 4000000 in
set_option maxRecDepth 100000 in
theorem c_X3_takes (l : Launch) (D : va_G) (cI cC cO : ClassId) (h0 h_this_signs h_this_lowers h_this_highers h_this_weights : Nat) (p1 length_ ties_ due_ lower_ higher_ : Int32) (lowers_ highers_ weights_ : Nat → Int32) (r_ : Int32) (ties_' : Int32) (due_' : Int32) (lower_' : Int32) (higher_' : Int32) (lowers_' : Nat → Int32) (highers_' : Nat → Int32) (weights_' : Nat → Int32) (h : f_X3_takes p1 ties_ due_ lower_ higher_ lowers_ highers_ weights_ = some (r_, ties_', due_', lower_', higher_', lowers_', highers_', weights_')) : CI l yX3_takes (Wy yX3_takes cX3_takes 2 (some .boolean)) rmX3_takes D cI cC cO [.ref h0, .int p1] [(h0, .inr (3, [.ref h_this_signs, .int length_, .ref h_this_lowers, .ref h_this_highers, .ref h_this_weights, .int ties_, .int due_, .int lower_, .int higher_])), (h_this_lowers, .inl (cI, 15, .inl lowers_)), (h_this_highers, .inl (cI, 15, .inl highers_)), (h_this_weights, .inl (cI, 15, .inl weights_))] r_ [(h0, .inr (3, [.ref h_this_signs, .int length_, .ref h_this_lowers, .ref h_this_highers, .ref h_this_weights, .int ties_', .int due_', .int lower_', .int higher_'])), (h_this_lowers, .inl (cI, 15, .inl lowers_')), (h_this_highers, .inl (cI, 15, .inl highers_')), (h_this_weights, .inl (cI, 15, .inl weights_'))] := by
  refine enter_i RX3 (by decide) rfl (Nat.le_of_ble_eq_true rfl) ?_
  intro p e s m below meth c A X hr hlk hw ls hl
  have hx := X.1.1
  have hb := X.1.2.1
  have hl : lv_has ls 2 [(0, .ref h0), (1, .int p1)] := hl
  unfold f_X3_takes at h
  refine lv_aload_n hx hb dX3_takes_0 rfl (lv_at hl 0 rfl) ?_
  refine fg_X3_32 X hw 0 rfl rfl dX3_takes_1 ?_
  by_cases c0 : due_ = (0 : Int32)
  · replace h := ip c0 h
    refine lv_tableIn hx hb dX3_takes_4 (by rw [c0]; decide) (by rw [c0]; decide) (by rw [c0]; rfl) (tgt := 36) (by decide) ?_
    refine lv_aload_n hx hb dX3_takes_36 rfl (lv_at hl 0 rfl) ?_
    refine lv_iload_n hx hb dX3_takes_37 rfl (lv_at hl 1 rfl) ?_
    obtain ⟨r1, x2, x3, hc, h⟩ := bd3_inv h
    refine r_cVi X hw (As := [.int p1]) (rest := []) (wr := [(h_this_lowers, .inl (cI, 15, .inl lowers_)), (h_this_highers, .inl (cI, 15, .inl highers_)), (h_this_weights, .inl (cI, 15, .inl weights_))]) (ws' := [(h0, .inr (3, [.ref h_this_signs, .int length_, .ref h_this_lowers, .ref h_this_highers, .ref h_this_weights, .int ties_, .int x2, .int x3, .int higher_])), (h_this_lowers, .inl (cI, 15, .inl lowers_)), (h_this_highers, .inl (cI, 15, .inl highers_)), (h_this_weights, .inl (cI, 15, .inl weights_))]) (c_X3_takesFirstLetter l D cI cC cO h0 h_this_signs h_this_lowers h_this_highers h_this_weights p1 length_ ties_ due_ lower_ higher_ r1 x2 x3 hc) (cs_X3_39 X (by decide)) [0] [1, 2, 3] [3, 0, 1, 2] rfl rfl rfl rfl (by decide) rfl rfl 0 rfl rfl rfl rfl hl.1 rfl (Nat.le_of_ble_eq_true rfl) dX3_takes_38 ⟨Nat.zero_le _, Nat.zero_le _⟩ (fun H locs hw => ?_)
    obtain ⟨b1, h⟩ := chkB_inv h
    obtain ⟨rfl, rfl, rfl, rfl, rfl, rfl, rfl, rfl⟩ := oi8 h
    exact r_retz X hw hr b1 hlk dX3_takes_41
  replace h := ig c0 h
  by_cases c1 : due_ = (1 : Int32)
  · replace h := ip c1 h
    refine lv_tableIn hx hb dX3_takes_4 (by rw [c1]; decide) (by rw [c1]; decide) (by rw [c1]; rfl) (tgt := 42) (by decide) ?_
    refine lv_aload_n hx hb dX3_takes_42 rfl (lv_at hl 0 rfl) ?_
    refine lv_iload_n hx hb dX3_takes_43 rfl (lv_at hl 1 rfl) ?_
    obtain ⟨r4, x5, x6, hc, h⟩ := bd3_inv h
    refine r_cVi X hw (As := [.int p1]) (rest := []) (wr := [(h_this_lowers, .inl (cI, 15, .inl lowers_)), (h_this_highers, .inl (cI, 15, .inl highers_)), (h_this_weights, .inl (cI, 15, .inl weights_))]) (ws' := [(h0, .inr (3, [.ref h_this_signs, .int length_, .ref h_this_lowers, .ref h_this_highers, .ref h_this_weights, .int ties_, .int x5, .int lower_, .int x6])), (h_this_lowers, .inl (cI, 15, .inl lowers_)), (h_this_highers, .inl (cI, 15, .inl highers_)), (h_this_weights, .inl (cI, 15, .inl weights_))]) (c_X3_takesSecondLetter l D cI cC cO h0 h_this_signs h_this_lowers h_this_highers h_this_weights p1 length_ ties_ due_ lower_ higher_ r4 x5 x6 hc) (cs_X3_42 X (by decide)) [0] [1, 2, 3] [3, 0, 1, 2] rfl rfl rfl rfl (by decide) rfl rfl 0 rfl rfl rfl rfl hl.1 rfl (Nat.le_of_ble_eq_true rfl) dX3_takes_44 ⟨Nat.zero_le _, Nat.zero_le _⟩ (fun H locs hw => ?_)
    obtain ⟨b1, h⟩ := chkB_inv h
    obtain ⟨rfl, rfl, rfl, rfl, rfl, rfl, rfl, rfl⟩ := oi8 h
    exact r_retz X hw hr b1 hlk dX3_takes_47
  replace h := ig c1 h
  by_cases c2 : due_ = (2 : Int32)
  · replace h := ip c2 h
    refine lv_tableIn hx hb dX3_takes_4 (by rw [c2]; decide) (by rw [c2]; decide) (by rw [c2]; rfl) (tgt := 48) (by decide) ?_
    refine lv_aload_n hx hb dX3_takes_48 rfl (lv_at hl 0 rfl) ?_
    refine lv_iload_n hx hb dX3_takes_49 rfl (lv_at hl 1 rfl) ?_
    obtain ⟨r7, x8, x9, a10, a11, a12, hc, h⟩ := bd6_inv h
    refine r_cVi X hw (As := [.int p1]) (rest := []) (wr := []) (ws' := [(h0, .inr (3, [.ref h_this_signs, .int length_, .ref h_this_lowers, .ref h_this_highers, .ref h_this_weights, .int x8, .int x9, .int lower_, .int higher_])), (h_this_lowers, .inl (cI, 15, .inl a10)), (h_this_highers, .inl (cI, 15, .inl a11)), (h_this_weights, .inl (cI, 15, .inl a12))]) (c_X3_takesFirstDigit l D cI cC cO h0 h_this_signs h_this_lowers h_this_highers h_this_weights p1 length_ ties_ due_ lower_ higher_ lowers_ highers_ weights_ r7 x8 x9 a10 a11 a12 hc) (cs_X3_45 X (by decide)) [0, 1, 2, 3] [] [0, 1, 2, 3] rfl rfl rfl rfl (by decide) rfl rfl 0 rfl rfl rfl rfl hl.1 rfl (Nat.le_of_ble_eq_true rfl) dX3_takes_50 ⟨Nat.zero_le _, Nat.zero_le _⟩ (fun H locs hw => ?_)
    obtain ⟨b1, h⟩ := chkB_inv h
    obtain ⟨rfl, rfl, rfl, rfl, rfl, rfl, rfl, rfl⟩ := oi8 h
    exact r_retz X hw hr b1 hlk dX3_takes_53
  replace h := ig c2 h
  by_cases c3 : due_ = (3 : Int32)
  · replace h := ip c3 h
    refine lv_tableIn hx hb dX3_takes_4 (by rw [c3]; decide) (by rw [c3]; decide) (by rw [c3]; rfl) (tgt := 54) (by decide) ?_
    refine lv_aload_n hx hb dX3_takes_54 rfl (lv_at hl 0 rfl) ?_
    refine lv_iload_n hx hb dX3_takes_55 rfl (lv_at hl 1 rfl) ?_
    obtain ⟨r13, x14, a15, hc, h⟩ := bd3_inv h
    refine r_cVi X hw (As := [.int p1]) (rest := []) (wr := [(h_this_lowers, .inl (cI, 15, .inl lowers_)), (h_this_highers, .inl (cI, 15, .inl highers_))]) (ws' := [(h0, .inr (3, [.ref h_this_signs, .int length_, .ref h_this_lowers, .ref h_this_highers, .ref h_this_weights, .int ties_, .int x14, .int lower_, .int higher_])), (h_this_lowers, .inl (cI, 15, .inl lowers_)), (h_this_highers, .inl (cI, 15, .inl highers_)), (h_this_weights, .inl (cI, 15, .inl a15))]) (c_X3_takesSecondDigit l D cI cC cO h0 h_this_signs h_this_lowers h_this_highers h_this_weights p1 length_ ties_ due_ lower_ higher_ weights_ r13 x14 a15 hc) (cs_X3_48 X (by decide)) [0, 3] [1, 2] [2, 0, 1, 3] rfl rfl rfl rfl (by decide) rfl rfl 0 rfl rfl rfl rfl hl.1 rfl (Nat.le_of_ble_eq_true rfl) dX3_takes_56 ⟨Nat.zero_le _, Nat.zero_le _⟩ (fun H locs hw => ?_)
    refine lv_if_ne (tgt := 70) hx hb dX3_takes_59 (by decide) (fun c1 => ?_) (fun c1 => ?_)
    · replace h := ig c1 h
      refine lv_iconst (v := 1) hx hb dX3_takes_70 (by decide) ?_
      refine lv_goto (tgt := 75) hx hb dX3_takes_71 (by decide) ?_
      obtain ⟨rfl, rfl, rfl, rfl, rfl, rfl, rfl, rfl⟩ := oi8 h
      exact r_retz X hw hr (Or.inr rfl) hlk dX3_takes_75
    · replace h := ip c1 h
      refine lv_aload_n hx hb dX3_takes_62 rfl (lv_at hl 0 rfl) ?_
      refine lv_iload_n hx hb dX3_takes_63 rfl (lv_at hl 1 rfl) ?_
      obtain ⟨r16, x17, hc, h⟩ := bd2_inv h
      refine r_cVi X hw (As := [.int p1]) (rest := []) (wr := [(h_this_lowers, .inl (cI, 15, .inl lowers_)), (h_this_highers, .inl (cI, 15, .inl highers_)), (h_this_weights, .inl (cI, 15, .inl a15))]) (ws' := [(h0, .inr (3, [.ref h_this_signs, .int length_, .ref h_this_lowers, .ref h_this_highers, .ref h_this_weights, .int ties_, .int x17, .int lower_, .int higher_])), (h_this_lowers, .inl (cI, 15, .inl lowers_)), (h_this_highers, .inl (cI, 15, .inl highers_)), (h_this_weights, .inl (cI, 15, .inl a15))]) (c_X3_takesComma l D cI cC cO h0 h_this_signs h_this_lowers h_this_highers h_this_weights p1 length_ ties_ x14 lower_ higher_ r16 x17 hc) (cs_X3_51 X (by decide)) [0] [1, 2, 3] [3, 0, 1, 2] rfl rfl rfl rfl (by decide) rfl rfl 0 rfl rfl rfl rfl hl.1 rfl (Nat.le_of_ble_eq_true rfl) dX3_takes_64 ⟨Nat.zero_le _, Nat.zero_le _⟩ (fun H locs hw => ?_)
      refine lv_if_eq (tgt := 74) hx hb dX3_takes_67 (by decide) (fun c1 => ?_) (fun c1 => ?_)
      · replace h := ip c1 h
        refine lv_iconst (v := 0) hx hb dX3_takes_74 (by decide) ?_
        obtain ⟨rfl, rfl, rfl, rfl, rfl, rfl, rfl, rfl⟩ := oi8 h
        exact r_retz X hw hr (Or.inl rfl) hlk dX3_takes_75
      · replace h := ig c1 h
        refine lv_iconst (v := 1) hx hb dX3_takes_70 (by decide) ?_
        refine lv_goto (tgt := 75) hx hb dX3_takes_71 (by decide) ?_
        obtain ⟨rfl, rfl, rfl, rfl, rfl, rfl, rfl, rfl⟩ := oi8 h
        exact r_retz X hw hr (Or.inr rfl) hlk dX3_takes_75
  replace h := ig c3 h
  have e0 := lv_neT c0 (a := 0) (by decide)
  have e1 := lv_neT c1 (a := 1) (by decide)
  have e2 := lv_neT c2 (a := 2) (by decide)
  have e3 := lv_neT c3 (a := 3) (by decide)
  refine lv_tableOut hx hb dX3_takes_4 (by omega) (tgt := 76) (by decide) ?_
  refine lv_aload_n hx hb dX3_takes_76 rfl (lv_at hl 0 rfl) ?_
  refine lv_iload_n hx hb dX3_takes_77 rfl (lv_at hl 1 rfl) ?_
  obtain ⟨r18, x19, hc, h⟩ := bd2_inv h
  refine r_cVi X hw (As := [.int p1]) (rest := []) (wr := [(h_this_lowers, .inl (cI, 15, .inl lowers_)), (h_this_highers, .inl (cI, 15, .inl highers_)), (h_this_weights, .inl (cI, 15, .inl weights_))]) (ws' := [(h0, .inr (3, [.ref h_this_signs, .int length_, .ref h_this_lowers, .ref h_this_highers, .ref h_this_weights, .int ties_, .int x19, .int lower_, .int higher_])), (h_this_lowers, .inl (cI, 15, .inl lowers_)), (h_this_highers, .inl (cI, 15, .inl highers_)), (h_this_weights, .inl (cI, 15, .inl weights_))]) (c_X3_takesComma l D cI cC cO h0 h_this_signs h_this_lowers h_this_highers h_this_weights p1 length_ ties_ due_ lower_ higher_ r18 x19 hc) (cs_X3_51 X (by decide)) [0] [1, 2, 3] [3, 0, 1, 2] rfl rfl rfl rfl (by decide) rfl rfl 0 rfl rfl rfl rfl hl.1 rfl (Nat.le_of_ble_eq_true rfl) dX3_takes_78 ⟨Nat.zero_le _, Nat.zero_le _⟩ (fun H locs hw => ?_)
  obtain ⟨b1, h⟩ := chkB_inv h
  obtain ⟨rfl, rfl, rfl, rfl, rfl, rfl, rfl, rfl⟩ := oi8 h
  exact r_retz X hw hr b1 hlk dX3_takes_81
def rmX3_read : Room := { frames := 3, cells := 0, slots := 0, locals := 62 }
section
variable {p : Program} {l : Launch} {e : Env} {R : Room} {s : State} {m : MethodId} {args : Array Value} {below : List Frame} {meth : Method} {c : Code} {H : Heap} {locs : List Loc} {cells slots : Nat} {Q : State → Prop}
variable {cc : ByteArray} {pc nL : Nat} {ls : Array Slot} {rest : List Value} {D : va_G} {cI cC cO : ClassId} {A : Nat → Prop} {ws : va_W} {H0 : Heap}
theorem cs_X3_35 (X : Ctx p m c cc nL s args RX3 D cI cC cO) (hR : rmX3_takes.frames + 1 ≤ R.frames ∧ 8 + (2 + 11) + rmX3_takes.locals ≤ R.locals) : CallW R s args RX3 RX3 35 yX3_takes cX3_takes 2 (some .boolean) (Wy yX3_takes cX3_takes 2 (some .boolean)) rmX3_takes 0 0 1 := cwV 1 X.1.2.2.2.2 (gi_V tw_225 tw_227 sw_yX3_takes tw_4 tw_228) rfl rfl rfl (by decide +kernel) hR
end
set_option maxHeartbeats 4000000 in
set_option maxRecDepth 100000 in
theorem c_X3_read (l : Launch) (D : va_G) (cI cC cO : ClassId) (N : Nat) (h0 h_this_signs h_this_lowers h_this_highers h_this_weights : Nat) (length_ ties_ due_ lower_ higher_ : Int32) (signs_ lowers_ highers_ weights_ : Nat → Int32) (r_ : Int32) (ties_' : Int32) (due_' : Int32) (lower_' : Int32) (higher_' : Int32) (lowers_' : Nat → Int32) (highers_' : Nat → Int32) (weights_' : Nat → Int32) (h : f_X3_read N length_ lower_ higher_ signs_ lowers_ highers_ weights_ = some (r_, ties_', due_', lower_', higher_', lowers_', highers_', weights_')) : CI l yX3_read (Wy yX3_read cX3_read 2 (some .int)) rmX3_read D cI cC cO [.ref h0] [(h0, .inr (3, [.ref h_this_signs, .int length_, .ref h_this_lowers, .ref h_this_highers, .ref h_this_weights, .int ties_, .int due_, .int lower_, .int higher_])), (h_this_signs, .inl (cC, 60, .inl signs_)), (h_this_lowers, .inl (cI, 15, .inl lowers_)), (h_this_highers, .inl (cI, 15, .inl highers_)), (h_this_weights, .inl (cI, 15, .inl weights_))] r_ [(h0, .inr (3, [.ref h_this_signs, .int length_, .ref h_this_lowers, .ref h_this_highers, .ref h_this_weights, .int ties_', .int due_', .int lower_', .int higher_'])), (h_this_signs, .inl (cC, 60, .inl signs_)), (h_this_lowers, .inl (cI, 15, .inl lowers_')), (h_this_highers, .inl (cI, 15, .inl highers_')), (h_this_weights, .inl (cI, 15, .inl weights_'))] := by
  refine enter_i RX3 (by decide) rfl (Nat.le_of_ble_eq_true rfl) ?_
  intro p e s m below meth c A X hr hlk hw ls hl
  have hx := X.1.1
  have hb := X.1.2.1
  have hl : lv_has ls 2 [(0, .ref h0)] := hl
  unfold f_X3_read at h
  refine lv_aload_n hx hb dX3_read_0 rfl (lv_at hl 0 rfl) ?_
  refine lv_iconst (v := 0) hx hb dX3_read_1 (by decide) ?_
  refine fp_X3_29 X hw 0 rfl rfl dX3_read_2 (fun H locs hw => ?_)
  have hw : Wd D A s.heap [(h0, .inr (3, [.ref h_this_signs, .int length_, .ref h_this_lowers, .ref h_this_highers, .ref h_this_weights, .int (0 : Int32), .int due_, .int lower_, .int higher_])), (h_this_signs, .inl (cC, 60, .inl signs_)), (h_this_lowers, .inl (cI, 15, .inl lowers_)), (h_this_highers, .inl (cI, 15, .inl highers_)), (h_this_weights, .inl (cI, 15, .inl weights_))] H locs := hw
  refine lv_aload_n hx hb dX3_read_5 rfl (lv_at hl 0 rfl) ?_
  refine lv_iconst (v := 0) hx hb dX3_read_6 (by decide) ?_
  refine fp_X3_32 X hw 0 rfl rfl dX3_read_7 (fun H locs hw => ?_)
  have hw : Wd D A s.heap [(h0, .inr (3, [.ref h_this_signs, .int length_, .ref h_this_lowers, .ref h_this_highers, .ref h_this_weights, .int (0 : Int32), .int (0 : Int32), .int lower_, .int higher_])), (h_this_signs, .inl (cC, 60, .inl signs_)), (h_this_lowers, .inl (cI, 15, .inl lowers_)), (h_this_highers, .inl (cI, 15, .inl highers_)), (h_this_weights, .inl (cI, 15, .inl weights_))] H locs := hw
  refine lv_iconst (v := 0) hx hb dX3_read_10 (by decide) ?_
  refine lv_istore_n (lv' := [(1, .int (0 : Int32)), (0, .ref h0)]) hx hb dX3_read_11 rfl hl (by decide) rfl (fun ls hl => ?_)
  have E41 : ∀ (x20 x21 x22 x23 : Int32) (a24 a25 a26 : Nat → Int32) (H : Heap) (locs : List Loc) (ls : Array Slot), f_X3_read_E41 length_ x20 x21 x22 x23 a24 a25 a26 = some (r_, ties_', due_', lower_', higher_', lowers_', highers_', weights_') → Wd D A s.heap [(h0, .inr (3, [.ref h_this_signs, .int length_, .ref h_this_lowers, .ref h_this_highers, .ref h_this_weights, .int x20, .int x21, .int x22, .int x23])), (h_this_signs, .inl (cC, 60, .inl signs_)), (h_this_lowers, .inl (cI, 15, .inl a24)), (h_this_highers, .inl (cI, 15, .inl a25)), (h_this_weights, .inl (cI, 15, .inl a26))] H locs → lv_has ls 2 [(0, .ref h0)] → W p l e rmX3_read s m ([.ref h0] : List Value).toArray below meth c H locs 0 0 (MQ below (Qi D r_ [(h0, .inr (3, [.ref h_this_signs, .int length_, .ref h_this_lowers, .ref h_this_highers, .ref h_this_weights, .int ties_', .int due_', .int lower_', .int higher_'])), (h_this_signs, .inl (cC, 60, .inl signs_)), (h_this_lowers, .inl (cI, 15, .inl lowers_')), (h_this_highers, .inl (cI, 15, .inl highers_')), (h_this_weights, .inl (cI, 15, .inl weights_'))] A) ([.ref h0] : List Value).toArray s 0 0 A) (F0 m 41 ls []) := by
    intro x20 x21 x22 x23 a24 a25 a26 H locs ls h hw hl
    unfold f_X3_read_E41 at h
    refine lv_aload_n hx hb dX3_read_41 rfl (lv_at hl 0 rfl) ?_
    refine fg_X3_32 X hw 0 rfl rfl dX3_read_42 ?_
    refine lv_iconst (v := 3) hx hb dX3_read_45 (by decide) ?_
    refine lv_icmp_eq (tgt := 57) hx hb dX3_read_46 (by decide) (fun c1 => ?_) (fun c1 => ?_)
    · replace h := ip c1 h
      refine lv_iconst (v := -1) hx hb dX3_read_57 (by decide) ?_
      refine lv_goto (tgt := 65) hx hb dX3_read_58 (by decide) ?_
      obtain ⟨rfl, rfl, rfl, rfl, rfl, rfl, rfl, rfl⟩ := oi8 h
      exact r_ret X hw hr hlk dX3_read_65
    · replace h := ig c1 h
      refine lv_aload_n hx hb dX3_read_49 rfl (lv_at hl 0 rfl) ?_
      refine fg_X3_32 X hw 0 rfl rfl dX3_read_50 ?_
      refine lv_iconst (v := 4) hx hb dX3_read_53 (by decide) ?_
      refine lv_icmp_ne (tgt := 61) hx hb dX3_read_54 (by decide) (fun c1 => ?_) (fun c1 => ?_)
      · replace h := ig c1 h
        refine lv_aload_n hx hb dX3_read_61 rfl (lv_at hl 0 rfl) ?_
        refine fg_X3_15 X hw 0 rfl rfl dX3_read_62 ?_
        obtain ⟨rfl, rfl, rfl, rfl, rfl, rfl, rfl, rfl⟩ := oi8 h
        exact r_ret X hw hr hlk dX3_read_65
      · replace h := ip c1 h
        refine lv_iconst (v := -1) hx hb dX3_read_57 (by decide) ?_
        refine lv_goto (tgt := 65) hx hb dX3_read_58 (by decide) ?_
        obtain ⟨rfl, rfl, rfl, rfl, rfl, rfl, rfl, rfl⟩ := oi8 h
        exact r_ret X hw hr hlk dX3_read_65
  have L12 : ∀ (k17 : Int32 → Int32 → Int32 → Int32 → (Nat → Int32) → (Nat → Int32) → (Nat → Int32) → Option (Int32 × Int32 × Int32 × Int32 × Int32 × (Nat → Int32) × (Nat → Int32) × (Nat → Int32))), (∀ (x20 x21 x22 x23 : Int32) (a24 a25 a26 : Nat → Int32) (H : Heap) (locs : List Loc) (ls : Array Slot), k17 x20 x21 x22 x23 a24 a25 a26 = some (r_, ties_', due_', lower_', higher_', lowers_', highers_', weights_') → Wd D A s.heap [(h0, .inr (3, [.ref h_this_signs, .int length_, .ref h_this_lowers, .ref h_this_highers, .ref h_this_weights, .int x20, .int x21, .int x22, .int x23])), (h_this_signs, .inl (cC, 60, .inl signs_)), (h_this_lowers, .inl (cI, 15, .inl a24)), (h_this_highers, .inl (cI, 15, .inl a25)), (h_this_weights, .inl (cI, 15, .inl a26))] H locs → lv_has ls 2 [(0, .ref h0)] → W p l e rmX3_read s m ([.ref h0] : List Value).toArray below meth c H locs 0 0 (MQ below (Qi D r_ [(h0, .inr (3, [.ref h_this_signs, .int length_, .ref h_this_lowers, .ref h_this_highers, .ref h_this_weights, .int ties_', .int due_', .int lower_', .int higher_'])), (h_this_signs, .inl (cC, 60, .inl signs_)), (h_this_lowers, .inl (cI, 15, .inl lowers_')), (h_this_highers, .inl (cI, 15, .inl highers_')), (h_this_weights, .inl (cI, 15, .inl weights_'))] A) ([.ref h0] : List Value).toArray s 0 0 A) (F0 m 41 ls [])) → ∀ (n19 : Nat), ∀ (x1 x2 x3 x4 x5 : Int32) (a6 a7 a8 : Nat → Int32) (H : Heap) (locs : List Loc) (ls : Array Slot), f_X3_read_L12 length_ signs_ k17 n19 x1 x2 x3 x4 x5 a6 a7 a8 = some (r_, ties_', due_', lower_', higher_', lowers_', highers_', weights_') → Wd D A s.heap [(h0, .inr (3, [.ref h_this_signs, .int length_, .ref h_this_lowers, .ref h_this_highers, .ref h_this_weights, .int x2, .int x3, .int x4, .int x5])), (h_this_signs, .inl (cC, 60, .inl signs_)), (h_this_lowers, .inl (cI, 15, .inl a6)), (h_this_highers, .inl (cI, 15, .inl a7)), (h_this_weights, .inl (cI, 15, .inl a8))] H locs → lv_has ls 2 [(0, .ref h0), (1, .int x1)] → W p l e rmX3_read s m ([.ref h0] : List Value).toArray below meth c H locs 0 0 (MQ below (Qi D r_ [(h0, .inr (3, [.ref h_this_signs, .int length_, .ref h_this_lowers, .ref h_this_highers, .ref h_this_weights, .int ties_', .int due_', .int lower_', .int higher_'])), (h_this_signs, .inl (cC, 60, .inl signs_)), (h_this_lowers, .inl (cI, 15, .inl lowers_')), (h_this_highers, .inl (cI, 15, .inl highers_')), (h_this_weights, .inl (cI, 15, .inl weights_'))] A) ([.ref h0] : List Value).toArray s 0 0 A) (F0 m 12 ls []) := by
    intro k17 hk12 n19
    induction n19 with
    | zero => intro x1 x2 x3 x4 x5 a6 a7 a8 H locs ls h; cases h
    | succ n19 ih12 =>
      intro x1 x2 x3 x4 x5 a6 a7 a8 H locs ls h hw hl
      rw [f_X3_read_L12] at h
      refine lv_iload_n hx hb dX3_read_12 rfl (lv_at hl 1 rfl) ?_
      refine lv_aload_n hx hb dX3_read_13 rfl (lv_at hl 0 rfl) ?_
      refine fg_X3_15 X hw 0 rfl rfl dX3_read_14 ?_
      refine lv_icmp_ge (tgt := 41) hx hb dX3_read_17 (by decide) (fun c1 => ?_) (fun c1 => ?_)
      · replace h := ip c1 h
        exact hk12 x2 x3 x4 x5 a6 a7 a8 _ _ _ h hw (lv_sub hl [0] rfl)
      · replace h := ig c1 h
        refine lv_aload_n hx hb dX3_read_20 rfl (lv_at hl 0 rfl) ?_
        refine lv_aload_n hx hb dX3_read_21 rfl (lv_at hl 0 rfl) ?_
        refine fg_X3_9 X hw 0 rfl rfl dX3_read_22 ?_
        refine lv_iload_n hx hb dX3_read_25 rfl (lv_at hl 1 rfl) ?_
        obtain ⟨b1, h⟩ := chk_inv h
        refine r_cald X hw 1 rfl b1 rfl dX3_read_26 ?_
        obtain ⟨r9, x10, x11, x12, x13, a14, a15, a16, hc, h⟩ := bd8_inv h
        refine r_cVi X hw (As := [.int (signs_ (x1).toNatClampNeg)]) (rest := []) (wr := [(h_this_signs, .inl (cC, 60, .inl signs_))]) (ws' := [(h0, .inr (3, [.ref h_this_signs, .int length_, .ref h_this_lowers, .ref h_this_highers, .ref h_this_weights, .int x10, .int x11, .int x12, .int x13])), (h_this_signs, .inl (cC, 60, .inl signs_)), (h_this_lowers, .inl (cI, 15, .inl a14)), (h_this_highers, .inl (cI, 15, .inl a15)), (h_this_weights, .inl (cI, 15, .inl a16))]) (c_X3_takes l D cI cC cO h0 h_this_signs h_this_lowers h_this_highers h_this_weights (signs_ (x1).toNatClampNeg) length_ x2 x3 x4 x5 a6 a7 a8 r9 x10 x11 x12 x13 a14 a15 a16 hc) (cs_X3_35 X (by decide)) [0, 2, 3, 4] [1] [1, 0, 2, 3, 4] rfl rfl rfl rfl (by decide) rfl rfl 0 rfl rfl rfl rfl hl.1 rfl (Nat.le_of_ble_eq_true rfl) dX3_read_27 ⟨Nat.zero_le _, Nat.zero_le _⟩ (fun H locs hw => ?_)
        refine lv_if_ne (tgt := 35) hx hb dX3_read_30 (by decide) (fun c1 => ?_) (fun c1 => ?_)
        · replace h := ig c1 h
          refine lv_iinc (v := (x1 + (1 : Int32))) (lv' := [(1, .int (x1 + (1 : Int32))), (0, .ref h0)]) hx hb dX3_read_35 hl (k := 1) rfl rfl (by decide) rfl (fun ls hl => ?_)
          refine lv_goto (tgt := 12) hx hb dX3_read_38 (by decide) ?_
          exact ih12 (x1 + (1 : Int32)) x10 x11 x12 x13 a14 a15 a16 _ _ _ h hw (lv_sub hl [1, 0] rfl)
        · replace h := ip c1 h
          refine lv_iload_n hx hb dX3_read_33 rfl (lv_at hl 1 rfl) ?_
          obtain ⟨rfl, rfl, rfl, rfl, rfl, rfl, rfl, rfl⟩ := oi8 h
          exact r_ret X hw hr hlk dX3_read_34
  exact L12 (fun x20 x21 x22 x23 a24 a25 a26 => f_X3_read_E41 length_ x20 x21 x22 x23 a24 a25 a26) (fun x20 x21 x22 x23 a24 a25 a26 H locs ls h hw hl => E41 x20 x21 x22 x23 a24 a25 a26 H locs ls h hw hl) N (0 : Int32) (0 : Int32) (0 : Int32) lower_ higher_ lowers_ highers_ weights_ _ _ _ h hw (lv_sub hl [1, 0] rfl)
def rmX3_fits : Room := { frames := 1, cells := 0, slots := 0, locals := 21 }
section
variable {p : Program} {l : Launch} {e : Env} {R : Room} {s : State} {m : MethodId} {args : Array Value} {below : List Frame} {meth : Method} {c : Code} {H : Heap} {locs : List Loc} {cells slots : Nat} {Q : State → Prop}
variable {cc : ByteArray} {pc nL : Nat} {ls : Array Slot} {rest : List Value} {D : va_G} {cI cC cO : ClassId} {A : Nat → Prop} {ws : va_W} {H0 : Heap}
theorem cs_X3_63 (X : Ctx p m c cc nL s args RX3 D cI cC cO) (hR : rmX4_has.frames + 1 ≤ R.frames ∧ 8 + (2 + 11) + rmX4_has.locals ≤ R.locals) : CallW R s args RX3 RX4 63 yX4_has cX4_has 2 (some .boolean) (Wy yX4_has cX4_has 2 (some .boolean)) rmX4_has 0 0 1 := cwV 1 X.1.2.2.2.2 (gi_V tw_256 tw_171 tw_172 tw_2 tw_173) rfl rfl rfl (by decide +kernel) hR
end
set_option maxHeartbeats 4000000 in
set_option maxRecDepth 100000 in
theorem c_X3_fits (l : Launch) (D : va_G) (cI cC cO : ClassId) (N : Nat) (h0 h_p1 h_this_signs h_this_lowers h_this_highers h_this_weights h_p1_weights : Nat) (length_ ties_ due_ lower_ higher_ : Int32) (highers_ : Nat → Int32) (p1_places_ p1_start_ p1_fairPlaces_ : Int32) (r_ : Int32) (h : f_X3_fits N ties_ highers_ p1_places_ = some r_) : CI l yX3_fits (Wy yX3_fits cX3_fits 3 (some .boolean)) rmX3_fits D cI cC cO [.ref h0, .ref h_p1] [(h0, .inr (3, [.ref h_this_signs, .int length_, .ref h_this_lowers, .ref h_this_highers, .ref h_this_weights, .int ties_, .int due_, .int lower_, .int higher_])), (h_this_highers, .inl (cI, 15, .inl highers_)), (h_p1, .inr (4, [.int p1_places_, .int p1_start_, .int p1_fairPlaces_, .ref h_p1_weights]))] r_ [(h0, .inr (3, [.ref h_this_signs, .int length_, .ref h_this_lowers, .ref h_this_highers, .ref h_this_weights, .int ties_, .int due_, .int lower_, .int higher_])), (h_this_highers, .inl (cI, 15, .inl highers_)), (h_p1, .inr (4, [.int p1_places_, .int p1_start_, .int p1_fairPlaces_, .ref h_p1_weights]))] := by
  refine enter_i RX3 (by decide) rfl (Nat.le_of_ble_eq_true rfl) ?_
  intro p e s m below meth c A X hr hlk hw ls hl
  have hx := X.1.1
  have hb := X.1.2.1
  have hl : lv_has ls 3 [(0, .ref h0), (1, .ref h_p1)] := hl
  unfold f_X3_fits at h
  refine lv_iconst (v := 0) hx hb dX3_fits_0 (by decide) ?_
  refine lv_istore_n (lv' := [(2, .int (0 : Int32)), (0, .ref h0), (1, .ref h_p1)]) hx hb dX3_fits_1 rfl hl (by decide) rfl (fun ls hl => ?_)
  have E31 : ∀ (H : Heap) (locs : List Loc) (ls : Array Slot), f_X3_fits_E31 = some r_ → Wd D A s.heap [(h0, .inr (3, [.ref h_this_signs, .int length_, .ref h_this_lowers, .ref h_this_highers, .ref h_this_weights, .int ties_, .int due_, .int lower_, .int higher_])), (h_this_highers, .inl (cI, 15, .inl highers_)), (h_p1, .inr (4, [.int p1_places_, .int p1_start_, .int p1_fairPlaces_, .ref h_p1_weights]))] H locs → lv_has ls 3 [] → W p l e rmX3_fits s m ([.ref h0, .ref h_p1] : List Value).toArray below meth c H locs 0 0 (MQ below (Qi D r_ [(h0, .inr (3, [.ref h_this_signs, .int length_, .ref h_this_lowers, .ref h_this_highers, .ref h_this_weights, .int ties_, .int due_, .int lower_, .int higher_])), (h_this_highers, .inl (cI, 15, .inl highers_)), (h_p1, .inr (4, [.int p1_places_, .int p1_start_, .int p1_fairPlaces_, .ref h_p1_weights]))] A) ([.ref h0, .ref h_p1] : List Value).toArray s 0 0 A) (F0 m 31 ls []) := by
    intro H locs ls h hw hl
    unfold f_X3_fits_E31 at h
    refine lv_iconst (v := 1) hx hb dX3_fits_31 (by decide) ?_
    obtain rfl := oi1 h
    exact r_retz X hw hr (Or.inr rfl) hlk dX3_fits_32
  have L2 : ∀ (k3 : Option (Int32)), (∀ (H : Heap) (locs : List Loc) (ls : Array Slot), k3 = some r_ → Wd D A s.heap [(h0, .inr (3, [.ref h_this_signs, .int length_, .ref h_this_lowers, .ref h_this_highers, .ref h_this_weights, .int ties_, .int due_, .int lower_, .int higher_])), (h_this_highers, .inl (cI, 15, .inl highers_)), (h_p1, .inr (4, [.int p1_places_, .int p1_start_, .int p1_fairPlaces_, .ref h_p1_weights]))] H locs → lv_has ls 3 [] → W p l e rmX3_fits s m ([.ref h0, .ref h_p1] : List Value).toArray below meth c H locs 0 0 (MQ below (Qi D r_ [(h0, .inr (3, [.ref h_this_signs, .int length_, .ref h_this_lowers, .ref h_this_highers, .ref h_this_weights, .int ties_, .int due_, .int lower_, .int higher_])), (h_this_highers, .inl (cI, 15, .inl highers_)), (h_p1, .inr (4, [.int p1_places_, .int p1_start_, .int p1_fairPlaces_, .ref h_p1_weights]))] A) ([.ref h0, .ref h_p1] : List Value).toArray s 0 0 A) (F0 m 31 ls [])) → ∀ (n5 : Nat), ∀ (x1 : Int32) (H : Heap) (locs : List Loc) (ls : Array Slot), f_X3_fits_L2 ties_ highers_ p1_places_ k3 n5 x1 = some r_ → Wd D A s.heap [(h0, .inr (3, [.ref h_this_signs, .int length_, .ref h_this_lowers, .ref h_this_highers, .ref h_this_weights, .int ties_, .int due_, .int lower_, .int higher_])), (h_this_highers, .inl (cI, 15, .inl highers_)), (h_p1, .inr (4, [.int p1_places_, .int p1_start_, .int p1_fairPlaces_, .ref h_p1_weights]))] H locs → lv_has ls 3 [(0, .ref h0), (1, .ref h_p1), (2, .int x1)] → W p l e rmX3_fits s m ([.ref h0, .ref h_p1] : List Value).toArray below meth c H locs 0 0 (MQ below (Qi D r_ [(h0, .inr (3, [.ref h_this_signs, .int length_, .ref h_this_lowers, .ref h_this_highers, .ref h_this_weights, .int ties_, .int due_, .int lower_, .int higher_])), (h_this_highers, .inl (cI, 15, .inl highers_)), (h_p1, .inr (4, [.int p1_places_, .int p1_start_, .int p1_fairPlaces_, .ref h_p1_weights]))] A) ([.ref h0, .ref h_p1] : List Value).toArray s 0 0 A) (F0 m 2 ls []) := by
    intro k3 hk2 n5
    induction n5 with
    | zero => intro x1 H locs ls h; cases h
    | succ n5 ih2 =>
      intro x1 H locs ls h hw hl
      rw [f_X3_fits_L2] at h
      refine lv_iload_n hx hb dX3_fits_2 rfl (lv_at hl 2 rfl) ?_
      refine lv_aload_n hx hb dX3_fits_3 rfl (lv_at hl 0 rfl) ?_
      refine fg_X3_29 X hw 0 rfl rfl dX3_fits_4 ?_
      refine lv_icmp_ge (tgt := 31) hx hb dX3_fits_7 (by decide) (fun c1 => ?_) (fun c1 => ?_)
      · replace h := ip c1 h
        exact hk2 _ _ _ h hw (lv_sub hl [] rfl)
      · replace h := ig c1 h
        refine lv_aload_n hx hb dX3_fits_10 rfl (lv_at hl 1 rfl) ?_
        refine lv_aload_n hx hb dX3_fits_11 rfl (lv_at hl 0 rfl) ?_
        refine fg_X3_23 X hw 0 rfl rfl dX3_fits_12 ?_
        refine lv_iload_n hx hb dX3_fits_15 rfl (lv_at hl 2 rfl) ?_
        obtain ⟨b1, h⟩ := chk_inv h
        refine r_iald X hw 1 rfl b1 rfl dX3_fits_16 ?_
        obtain ⟨r2, hc, h⟩ := bd1_inv h
        refine r_cVi X hw (As := [.int (highers_ (x1).toNatClampNeg)]) (rest := []) (wr := [(h0, .inr (3, [.ref h_this_signs, .int length_, .ref h_this_lowers, .ref h_this_highers, .ref h_this_weights, .int ties_, .int due_, .int lower_, .int higher_])), (h_this_highers, .inl (cI, 15, .inl highers_))]) (ws' := [(h0, .inr (3, [.ref h_this_signs, .int length_, .ref h_this_lowers, .ref h_this_highers, .ref h_this_weights, .int ties_, .int due_, .int lower_, .int higher_])), (h_this_highers, .inl (cI, 15, .inl highers_)), (h_p1, .inr (4, [.int p1_places_, .int p1_start_, .int p1_fairPlaces_, .ref h_p1_weights]))]) (c_X4_has l D cI cC cO h_p1 h_p1_weights (highers_ (x1).toNatClampNeg) p1_places_ p1_start_ p1_fairPlaces_ r2 hc) (cs_X3_63 X (by decide)) [2] [0, 1] [0, 1, 2] rfl rfl rfl rfl (by decide) rfl rfl 2 rfl rfl rfl rfl hl.1 rfl (Nat.le_of_ble_eq_true rfl) dX3_fits_17 ⟨Nat.zero_le _, Nat.zero_le _⟩ (fun H locs hw => ?_)
        refine lv_if_ne (tgt := 25) hx hb dX3_fits_20 (by decide) (fun c1 => ?_) (fun c1 => ?_)
        · replace h := ig c1 h
          refine lv_iinc (v := (x1 + (1 : Int32))) (lv' := [(2, .int (x1 + (1 : Int32))), (0, .ref h0), (1, .ref h_p1)]) hx hb dX3_fits_25 hl (k := 2) rfl rfl (by decide) rfl (fun ls hl => ?_)
          refine lv_goto (tgt := 2) hx hb dX3_fits_28 (by decide) ?_
          exact ih2 (x1 + (1 : Int32)) _ _ _ h hw (lv_sub hl [1, 2, 0] rfl)
        · replace h := ip c1 h
          refine lv_iconst (v := 0) hx hb dX3_fits_23 (by decide) ?_
          obtain rfl := oi1 h
          exact r_retz X hw hr (Or.inl rfl) hlk dX3_fits_24
  exact L2 (f_X3_fits_E31) (fun H locs ls h hw hl => E31 H locs ls h hw hl) N (0 : Int32) _ _ _ h hw (lv_sub hl [1, 2, 0] rfl)
def rmX3_bindAll : Room := { frames := 2, cells := 0, slots := 0, locals := 44 }
section
variable {p : Program} {l : Launch} {e : Env} {R : Room} {s : State} {m : MethodId} {args : Array Value} {below : List Frame} {meth : Method} {c : Code} {H : Heap} {locs : List Loc} {cells slots : Nat} {Q : State → Prop}
variable {cc : ByteArray} {pc nL : Nat} {ls : Array Slot} {rest : List Value} {D : va_G} {cI cC cO : ClassId} {A : Nat → Prop} {ws : va_W} {H0 : Heap}
theorem cs_X3_69 (X : Ctx p m c cc nL s args RX3 D cI cC cO) (hR : rmX4_bind.frames + 1 ≤ R.frames ∧ 8 + (4 + 11) + rmX4_bind.locals ≤ R.locals) : CallW R s args RX3 RX4 69 yX4_bind cX4_bind 4 none (Wy yX4_bind cX4_bind 4 none) rmX4_bind 0 0 3 := cwV 3 X.1.2.2.2.2 (gi_V tw_261 tw_167 tw_168 tw_2 tw_169) rfl rfl rfl (by decide +kernel) hR
end
set_option maxHeartbeats 4000000 in
set_option maxRecDepth 100000 in
theorem c_X3_bindAll (l : Launch) (D : va_G) (cI cC cO : ClassId) (N : Nat) (h0 h_p1 h_this_signs h_this_lowers h_this_highers h_this_weights h_p1_weights : Nat) (length_ ties_ due_ lower_ higher_ : Int32) (lowers_ highers_ weights_ : Nat → Int32) (p1_places_ p1_start_ p1_fairPlaces_ : Int32) (p1_weights_ : Nat → Int32) (p1_weights_' : Nat → Int32) (h : f_X3_bindAll N ties_ lowers_ highers_ weights_ p1_places_ p1_weights_ = some p1_weights_') : CV l yX3_bindAll (Wy yX3_bindAll cX3_bindAll 3 none) rmX3_bindAll D cI cC cO [.ref h0, .ref h_p1] [(h0, .inr (3, [.ref h_this_signs, .int length_, .ref h_this_lowers, .ref h_this_highers, .ref h_this_weights, .int ties_, .int due_, .int lower_, .int higher_])), (h_this_lowers, .inl (cI, 15, .inl lowers_)), (h_this_highers, .inl (cI, 15, .inl highers_)), (h_this_weights, .inl (cI, 15, .inl weights_)), (h_p1, .inr (4, [.int p1_places_, .int p1_start_, .int p1_fairPlaces_, .ref h_p1_weights])), (h_p1_weights, .inl (cI, 100, .inl p1_weights_))] [(h0, .inr (3, [.ref h_this_signs, .int length_, .ref h_this_lowers, .ref h_this_highers, .ref h_this_weights, .int ties_, .int due_, .int lower_, .int higher_])), (h_this_lowers, .inl (cI, 15, .inl lowers_)), (h_this_highers, .inl (cI, 15, .inl highers_)), (h_this_weights, .inl (cI, 15, .inl weights_)), (h_p1, .inr (4, [.int p1_places_, .int p1_start_, .int p1_fairPlaces_, .ref h_p1_weights])), (h_p1_weights, .inl (cI, 100, .inl p1_weights_'))] := by
  refine enter_v RX3 (by decide) rfl (Nat.le_of_ble_eq_true rfl) ?_
  intro p e s m below meth c A X hr hlk hw ls hl
  have hx := X.1.1
  have hb := X.1.2.1
  have hl : lv_has ls 3 [(0, .ref h0), (1, .ref h_p1)] := hl
  unfold f_X3_bindAll at h
  refine lv_iconst (v := 0) hx hb dX3_bindAll_0 (by decide) ?_
  refine lv_istore_n (lv' := [(2, .int (0 : Int32)), (0, .ref h0), (1, .ref h_p1)]) hx hb dX3_bindAll_1 rfl hl (by decide) rfl (fun ls hl => ?_)
  have E38 : ∀ (a7 : Nat → Int32) (H : Heap) (locs : List Loc) (ls : Array Slot), f_X3_bindAll_E38 a7 = some p1_weights_' → Wd D A s.heap [(h0, .inr (3, [.ref h_this_signs, .int length_, .ref h_this_lowers, .ref h_this_highers, .ref h_this_weights, .int ties_, .int due_, .int lower_, .int higher_])), (h_this_lowers, .inl (cI, 15, .inl lowers_)), (h_this_highers, .inl (cI, 15, .inl highers_)), (h_this_weights, .inl (cI, 15, .inl weights_)), (h_p1, .inr (4, [.int p1_places_, .int p1_start_, .int p1_fairPlaces_, .ref h_p1_weights])), (h_p1_weights, .inl (cI, 100, .inl a7))] H locs → lv_has ls 3 [] → W p l e rmX3_bindAll s m ([.ref h0, .ref h_p1] : List Value).toArray below meth c H locs 0 0 (MQ below (Qv D [(h0, .inr (3, [.ref h_this_signs, .int length_, .ref h_this_lowers, .ref h_this_highers, .ref h_this_weights, .int ties_, .int due_, .int lower_, .int higher_])), (h_this_lowers, .inl (cI, 15, .inl lowers_)), (h_this_highers, .inl (cI, 15, .inl highers_)), (h_this_weights, .inl (cI, 15, .inl weights_)), (h_p1, .inr (4, [.int p1_places_, .int p1_start_, .int p1_fairPlaces_, .ref h_p1_weights])), (h_p1_weights, .inl (cI, 100, .inl p1_weights_'))] A) ([.ref h0, .ref h_p1] : List Value).toArray s 0 0 A) (F0 m 38 ls []) := by
    intro a7 H locs ls h hw hl
    unfold f_X3_bindAll_E38 at h
    obtain rfl := oi1 h
    exact r_retv X hw hr hlk dX3_bindAll_38
  have L2 : ∀ (k4 : (Nat → Int32) → Option ((Nat → Int32))), (∀ (a7 : Nat → Int32) (H : Heap) (locs : List Loc) (ls : Array Slot), k4 a7 = some p1_weights_' → Wd D A s.heap [(h0, .inr (3, [.ref h_this_signs, .int length_, .ref h_this_lowers, .ref h_this_highers, .ref h_this_weights, .int ties_, .int due_, .int lower_, .int higher_])), (h_this_lowers, .inl (cI, 15, .inl lowers_)), (h_this_highers, .inl (cI, 15, .inl highers_)), (h_this_weights, .inl (cI, 15, .inl weights_)), (h_p1, .inr (4, [.int p1_places_, .int p1_start_, .int p1_fairPlaces_, .ref h_p1_weights])), (h_p1_weights, .inl (cI, 100, .inl a7))] H locs → lv_has ls 3 [] → W p l e rmX3_bindAll s m ([.ref h0, .ref h_p1] : List Value).toArray below meth c H locs 0 0 (MQ below (Qv D [(h0, .inr (3, [.ref h_this_signs, .int length_, .ref h_this_lowers, .ref h_this_highers, .ref h_this_weights, .int ties_, .int due_, .int lower_, .int higher_])), (h_this_lowers, .inl (cI, 15, .inl lowers_)), (h_this_highers, .inl (cI, 15, .inl highers_)), (h_this_weights, .inl (cI, 15, .inl weights_)), (h_p1, .inr (4, [.int p1_places_, .int p1_start_, .int p1_fairPlaces_, .ref h_p1_weights])), (h_p1_weights, .inl (cI, 100, .inl p1_weights_'))] A) ([.ref h0, .ref h_p1] : List Value).toArray s 0 0 A) (F0 m 38 ls [])) → ∀ (n6 : Nat), ∀ (x1 : Int32) (a2 : Nat → Int32) (H : Heap) (locs : List Loc) (ls : Array Slot), f_X3_bindAll_L2 ties_ lowers_ highers_ weights_ p1_places_ k4 n6 x1 a2 = some p1_weights_' → Wd D A s.heap [(h0, .inr (3, [.ref h_this_signs, .int length_, .ref h_this_lowers, .ref h_this_highers, .ref h_this_weights, .int ties_, .int due_, .int lower_, .int higher_])), (h_this_lowers, .inl (cI, 15, .inl lowers_)), (h_this_highers, .inl (cI, 15, .inl highers_)), (h_this_weights, .inl (cI, 15, .inl weights_)), (h_p1, .inr (4, [.int p1_places_, .int p1_start_, .int p1_fairPlaces_, .ref h_p1_weights])), (h_p1_weights, .inl (cI, 100, .inl a2))] H locs → lv_has ls 3 [(0, .ref h0), (1, .ref h_p1), (2, .int x1)] → W p l e rmX3_bindAll s m ([.ref h0, .ref h_p1] : List Value).toArray below meth c H locs 0 0 (MQ below (Qv D [(h0, .inr (3, [.ref h_this_signs, .int length_, .ref h_this_lowers, .ref h_this_highers, .ref h_this_weights, .int ties_, .int due_, .int lower_, .int higher_])), (h_this_lowers, .inl (cI, 15, .inl lowers_)), (h_this_highers, .inl (cI, 15, .inl highers_)), (h_this_weights, .inl (cI, 15, .inl weights_)), (h_p1, .inr (4, [.int p1_places_, .int p1_start_, .int p1_fairPlaces_, .ref h_p1_weights])), (h_p1_weights, .inl (cI, 100, .inl p1_weights_'))] A) ([.ref h0, .ref h_p1] : List Value).toArray s 0 0 A) (F0 m 2 ls []) := by
    intro k4 hk2 n6
    induction n6 with
    | zero => intro x1 a2 H locs ls h; cases h
    | succ n6 ih2 =>
      intro x1 a2 H locs ls h hw hl
      rw [f_X3_bindAll_L2] at h
      refine lv_iload_n hx hb dX3_bindAll_2 rfl (lv_at hl 2 rfl) ?_
      refine lv_aload_n hx hb dX3_bindAll_3 rfl (lv_at hl 0 rfl) ?_
      refine fg_X3_29 X hw 0 rfl rfl dX3_bindAll_4 ?_
      refine lv_icmp_ge (tgt := 38) hx hb dX3_bindAll_7 (by decide) (fun c1 => ?_) (fun c1 => ?_)
      · replace h := ip c1 h
        exact hk2 a2 _ _ _ h hw (lv_sub hl [] rfl)
      · replace h := ig c1 h
        refine lv_aload_n hx hb dX3_bindAll_10 rfl (lv_at hl 1 rfl) ?_
        refine lv_aload_n hx hb dX3_bindAll_11 rfl (lv_at hl 0 rfl) ?_
        refine fg_X3_19 X hw 0 rfl rfl dX3_bindAll_12 ?_
        refine lv_iload_n hx hb dX3_bindAll_15 rfl (lv_at hl 2 rfl) ?_
        obtain ⟨b1, h⟩ := chk_inv h
        refine r_iald X hw 1 rfl b1 rfl dX3_bindAll_16 ?_
        refine lv_aload_n hx hb dX3_bindAll_17 rfl (lv_at hl 0 rfl) ?_
        refine fg_X3_23 X hw 0 rfl rfl dX3_bindAll_18 ?_
        refine lv_iload_n hx hb dX3_bindAll_21 rfl (lv_at hl 2 rfl) ?_
        obtain ⟨b1, h⟩ := chk_inv h
        refine r_iald X hw 2 rfl b1 rfl dX3_bindAll_22 ?_
        refine lv_aload_n hx hb dX3_bindAll_23 rfl (lv_at hl 0 rfl) ?_
        refine fg_X3_26 X hw 0 rfl rfl dX3_bindAll_24 ?_
        refine lv_iload_n hx hb dX3_bindAll_27 rfl (lv_at hl 2 rfl) ?_
        obtain ⟨b1, h⟩ := chk_inv h
        refine r_iald X hw 3 rfl b1 rfl dX3_bindAll_28 ?_
        obtain ⟨a3, hc, h⟩ := bd1_inv h
        refine r_cVv X hw (As := [.int (lowers_ (x1).toNatClampNeg), .int (highers_ (x1).toNatClampNeg), .int (weights_ (x1).toNatClampNeg)]) (rest := []) (wr := [(h0, .inr (3, [.ref h_this_signs, .int length_, .ref h_this_lowers, .ref h_this_highers, .ref h_this_weights, .int ties_, .int due_, .int lower_, .int higher_])), (h_this_lowers, .inl (cI, 15, .inl lowers_)), (h_this_highers, .inl (cI, 15, .inl highers_)), (h_this_weights, .inl (cI, 15, .inl weights_))]) (ws' := [(h0, .inr (3, [.ref h_this_signs, .int length_, .ref h_this_lowers, .ref h_this_highers, .ref h_this_weights, .int ties_, .int due_, .int lower_, .int higher_])), (h_this_lowers, .inl (cI, 15, .inl lowers_)), (h_this_highers, .inl (cI, 15, .inl highers_)), (h_this_weights, .inl (cI, 15, .inl weights_)), (h_p1, .inr (4, [.int p1_places_, .int p1_start_, .int p1_fairPlaces_, .ref h_p1_weights])), (h_p1_weights, .inl (cI, 100, .inl a3))]) (c_X4_bind l D cI cC cO h_p1 h_p1_weights (lowers_ (x1).toNatClampNeg) (highers_ (x1).toNatClampNeg) (weights_ (x1).toNatClampNeg) p1_places_ p1_start_ p1_fairPlaces_ a2 a3 hc) (cs_X3_69 X (by decide)) [4, 5] [0, 1, 2, 3] [0, 1, 2, 3, 4, 5] rfl rfl rfl rfl (by decide) rfl rfl 4 rfl rfl rfl rfl hl.1 rfl (Nat.le_of_ble_eq_true rfl) dX3_bindAll_29 ⟨Nat.zero_le _, Nat.zero_le _⟩ (fun H locs hw => ?_)
        refine lv_iinc (v := (x1 + (1 : Int32))) (lv' := [(2, .int (x1 + (1 : Int32))), (0, .ref h0), (1, .ref h_p1)]) hx hb dX3_bindAll_32 hl (k := 2) rfl rfl (by decide) rfl (fun ls hl => ?_)
        refine lv_goto (tgt := 2) hx hb dX3_bindAll_35 (by decide) ?_
        exact ih2 (x1 + (1 : Int32)) a3 _ _ _ h hw (lv_sub hl [1, 2, 0] rfl)
  exact L2 (fun a7 => f_X3_bindAll_E38 a7) (fun a7 H locs ls h hw hl => E38 a7 H locs ls h hw hl) N (0 : Int32) p1_weights_ _ _ _ h hw (lv_sub hl [1, 2, 0] rfl)
