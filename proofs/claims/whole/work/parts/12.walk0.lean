def rmX0_dropOldest : Room := { frames := 0, cells := 0, slots := 0, locals := 0 }
set_option maxHeartbeats 4000000 in
set_option maxRecDepth 100000 in
theorem c_X0_dropOldest (l : Launch) (D : va_G) (cI cC cO : ClassId) (h0 h_this_states : Nat) (size_ : Int32) (ha_ hb_ : Nat → Nat) (pl_ st_ fp_ : Nat → Int32) (wt_ : Nat → Nat → Int32) (size_' : Int32) (ha_' : Nat → Nat) (hb_' : Nat → Nat) (pl_' : Nat → Int32) (st_' : Nat → Int32) (fp_' : Nat → Int32) (wt_' : Nat → Nat → Int32) (h : f_X0_dropOldest ha_ hb_ pl_ st_ fp_ wt_ = some (size_', ha_', hb_', pl_', st_', fp_', wt_')) : CV l yX0_dropOldest (Wy yX0_dropOldest cX0_dropOldest 3 none) rmX0_dropOldest D cI cC cO [.ref h0] [(h0, .inr (0, [.ref h_this_states, .int size_])), (h_this_states, .inl (cO, 4, .inr (.inr (.inr (.inr (hst ha_)))))), (ha_ 0, .inr (4, [.int (pl_ 0), .int (st_ 0), .int (fp_ 0), .ref (hb_ 0)])), (hb_ 0, .inl (cI, 100, .inl (wt_ 0))), (ha_ 1, .inr (4, [.int (pl_ 1), .int (st_ 1), .int (fp_ 1), .ref (hb_ 1)])), (hb_ 1, .inl (cI, 100, .inl (wt_ 1))), (ha_ 2, .inr (4, [.int (pl_ 2), .int (st_ 2), .int (fp_ 2), .ref (hb_ 2)])), (hb_ 2, .inl (cI, 100, .inl (wt_ 2))), (ha_ 3, .inr (4, [.int (pl_ 3), .int (st_ 3), .int (fp_ 3), .ref (hb_ 3)])), (hb_ 3, .inl (cI, 100, .inl (wt_ 3)))] [(h0, .inr (0, [.ref h_this_states, .int size_'])), (h_this_states, .inl (cO, 4, .inr (.inr (.inr (.inr (hst ha_')))))), (ha_' 0, .inr (4, [.int (pl_' 0), .int (st_' 0), .int (fp_' 0), .ref (hb_' 0)])), (hb_' 0, .inl (cI, 100, .inl (wt_' 0))), (ha_' 1, .inr (4, [.int (pl_' 1), .int (st_' 1), .int (fp_' 1), .ref (hb_' 1)])), (hb_' 1, .inl (cI, 100, .inl (wt_' 1))), (ha_' 2, .inr (4, [.int (pl_' 2), .int (st_' 2), .int (fp_' 2), .ref (hb_' 2)])), (hb_' 2, .inl (cI, 100, .inl (wt_' 2))), (ha_' 3, .inr (4, [.int (pl_' 3), .int (st_' 3), .int (fp_' 3), .ref (hb_' 3)])), (hb_' 3, .inl (cI, 100, .inl (wt_' 3)))] := by
  refine enter_v RX0 (by decide) rfl (Nat.le_of_ble_eq_true rfl) ?_
  intro p e s m below meth c A X hr hlk hw ls hl
  have hx := X.1.1
  have hb := X.1.2.1
  have hl : lv_has ls 3 [(0, .ref h0)] := hl
  unfold f_X0_dropOldest at h
  refine lv_aload_n hx hb dX0_dropOldest_0 rfl (lv_at hl 0 rfl) ?_
  refine fg_X0_11 X hw 0 rfl rfl dX0_dropOldest_1 ?_
  refine lv_iconst (v := 0) hx hb dX0_dropOldest_4 (by decide) ?_
  refine r_aald X hw 1 rfl (v := (ha_ 0)) (vp_lit (by decide)) rfl dX0_dropOldest_5 ?_
  refine lv_astore_n (lv' := [(1, .ref (ha_ 0)), (0, .ref h0)]) hx hb dX0_dropOldest_6 rfl hl (by decide) rfl (fun ls hl => ?_)
  refine lv_iconst (v := 1) hx hb dX0_dropOldest_7 (by decide) ?_
  refine lv_istore_n (lv' := [(2, .int (1 : Int32)), (1, .ref (ha_ 0)), (0, .ref h0)]) hx hb dX0_dropOldest_8 rfl hl (by decide) rfl (fun ls hl => ?_)
  refine lv_iload_n hx hb dX0_dropOldest_9 rfl (lv_at hl 0 rfl) ?_
  refine lv_iconst (v := 4) hx hb dX0_dropOldest_10 (by decide) ?_
  refine lv_icmp_ge (tgt := 34) hx hb dX0_dropOldest_11 (by decide) (fun c1 => absurd c1 (by decide)) (fun c1 => ?_)
  refine lv_aload_n hx hb dX0_dropOldest_14 rfl (lv_at hl 2 rfl) ?_
  refine fg_X0_11 X hw 0 rfl rfl dX0_dropOldest_15 ?_
  refine lv_iload_n hx hb dX0_dropOldest_18 rfl (lv_at hl 0 rfl) ?_
  refine lv_iconst (v := 1) hx hb dX0_dropOldest_19 (by decide) ?_
  refine lv_isub hx hb dX0_dropOldest_20 ?_
  refine W.eq (g2 := F0 m 21 ls [.int (0 : Int32), .ref h_this_states]) rfl ?_
  refine lv_aload_n hx hb dX0_dropOldest_21 rfl (lv_at hl 2 rfl) ?_
  refine fg_X0_11 X hw 0 rfl rfl dX0_dropOldest_22 ?_
  refine lv_iload_n hx hb dX0_dropOldest_25 rfl (lv_at hl 0 rfl) ?_
  refine r_aald X hw 1 rfl (v := (ha_ 1)) (vp_lit (by decide)) rfl dX0_dropOldest_26 ?_
  refine r_aast X hw 1 4 4 rfl rfl rfl (vp_lit (by decide)) rfl dX0_dropOldest_27 (fun H locs hw => ?_)
  have hw : Wd D A s.heap [(h0, .inr (0, [.ref h_this_states, .int size_])), (h_this_states, .inl (cO, 4, .inr (.inr (.inr (.inr (va_up (hst ha_) 0 (some (ha_ 1)))))))), (ha_ 0, .inr (4, [.int (pl_ 0), .int (st_ 0), .int (fp_ 0), .ref (hb_ 0)])), (hb_ 0, .inl (cI, 100, .inl (wt_ 0))), (ha_ 1, .inr (4, [.int (pl_ 1), .int (st_ 1), .int (fp_ 1), .ref (hb_ 1)])), (hb_ 1, .inl (cI, 100, .inl (wt_ 1))), (ha_ 2, .inr (4, [.int (pl_ 2), .int (st_ 2), .int (fp_ 2), .ref (hb_ 2)])), (hb_ 2, .inl (cI, 100, .inl (wt_ 2))), (ha_ 3, .inr (4, [.int (pl_ 3), .int (st_ 3), .int (fp_ 3), .ref (hb_ 3)])), (hb_ 3, .inl (cI, 100, .inl (wt_ 3)))] H locs := hw
  refine lv_iinc (v := (2 : Int32)) (lv' := [(2, .int (2 : Int32)), (1, .ref (ha_ 0)), (0, .ref h0)]) hx hb dX0_dropOldest_28 hl (k := 0) rfl (by decide) (by decide) rfl (fun ls hl => ?_)
  refine lv_goto (tgt := 9) hx hb dX0_dropOldest_31 (by decide) ?_
  refine lv_iload_n hx hb dX0_dropOldest_9 rfl (lv_at hl 0 rfl) ?_
  refine lv_iconst (v := 4) hx hb dX0_dropOldest_10 (by decide) ?_
  refine lv_icmp_ge (tgt := 34) hx hb dX0_dropOldest_11 (by decide) (fun c1 => absurd c1 (by decide)) (fun c1 => ?_)
  refine lv_aload_n hx hb dX0_dropOldest_14 rfl (lv_at hl 2 rfl) ?_
  refine fg_X0_11 X hw 0 rfl rfl dX0_dropOldest_15 ?_
  refine lv_iload_n hx hb dX0_dropOldest_18 rfl (lv_at hl 0 rfl) ?_
  refine lv_iconst (v := 1) hx hb dX0_dropOldest_19 (by decide) ?_
  refine lv_isub hx hb dX0_dropOldest_20 ?_
  refine W.eq (g2 := F0 m 21 ls [.int (1 : Int32), .ref h_this_states]) rfl ?_
  refine lv_aload_n hx hb dX0_dropOldest_21 rfl (lv_at hl 2 rfl) ?_
  refine fg_X0_11 X hw 0 rfl rfl dX0_dropOldest_22 ?_
  refine lv_iload_n hx hb dX0_dropOldest_25 rfl (lv_at hl 0 rfl) ?_
  refine r_aald X hw 1 rfl (v := (ha_ 2)) (vp_lit (by decide)) rfl dX0_dropOldest_26 ?_
  refine r_aast X hw 1 6 4 rfl rfl rfl (vp_lit (by decide)) rfl dX0_dropOldest_27 (fun H locs hw => ?_)
  have hw : Wd D A s.heap [(h0, .inr (0, [.ref h_this_states, .int size_])), (h_this_states, .inl (cO, 4, .inr (.inr (.inr (.inr (va_up (va_up (hst ha_) 0 (some (ha_ 1))) 1 (some (ha_ 2)))))))), (ha_ 0, .inr (4, [.int (pl_ 0), .int (st_ 0), .int (fp_ 0), .ref (hb_ 0)])), (hb_ 0, .inl (cI, 100, .inl (wt_ 0))), (ha_ 1, .inr (4, [.int (pl_ 1), .int (st_ 1), .int (fp_ 1), .ref (hb_ 1)])), (hb_ 1, .inl (cI, 100, .inl (wt_ 1))), (ha_ 2, .inr (4, [.int (pl_ 2), .int (st_ 2), .int (fp_ 2), .ref (hb_ 2)])), (hb_ 2, .inl (cI, 100, .inl (wt_ 2))), (ha_ 3, .inr (4, [.int (pl_ 3), .int (st_ 3), .int (fp_ 3), .ref (hb_ 3)])), (hb_ 3, .inl (cI, 100, .inl (wt_ 3)))] H locs := hw
  refine lv_iinc (v := (3 : Int32)) (lv' := [(2, .int (3 : Int32)), (1, .ref (ha_ 0)), (0, .ref h0)]) hx hb dX0_dropOldest_28 hl (k := 0) rfl (by decide) (by decide) rfl (fun ls hl => ?_)
  refine lv_goto (tgt := 9) hx hb dX0_dropOldest_31 (by decide) ?_
  refine lv_iload_n hx hb dX0_dropOldest_9 rfl (lv_at hl 0 rfl) ?_
  refine lv_iconst (v := 4) hx hb dX0_dropOldest_10 (by decide) ?_
  refine lv_icmp_ge (tgt := 34) hx hb dX0_dropOldest_11 (by decide) (fun c1 => absurd c1 (by decide)) (fun c1 => ?_)
  refine lv_aload_n hx hb dX0_dropOldest_14 rfl (lv_at hl 2 rfl) ?_
  refine fg_X0_11 X hw 0 rfl rfl dX0_dropOldest_15 ?_
  refine lv_iload_n hx hb dX0_dropOldest_18 rfl (lv_at hl 0 rfl) ?_
  refine lv_iconst (v := 1) hx hb dX0_dropOldest_19 (by decide) ?_
  refine lv_isub hx hb dX0_dropOldest_20 ?_
  refine W.eq (g2 := F0 m 21 ls [.int (2 : Int32), .ref h_this_states]) rfl ?_
  refine lv_aload_n hx hb dX0_dropOldest_21 rfl (lv_at hl 2 rfl) ?_
  refine fg_X0_11 X hw 0 rfl rfl dX0_dropOldest_22 ?_
  refine lv_iload_n hx hb dX0_dropOldest_25 rfl (lv_at hl 0 rfl) ?_
  refine r_aald X hw 1 rfl (v := (ha_ 3)) (vp_lit (by decide)) rfl dX0_dropOldest_26 ?_
  refine r_aast X hw 1 8 4 rfl rfl rfl (vp_lit (by decide)) rfl dX0_dropOldest_27 (fun H locs hw => ?_)
  have hw : Wd D A s.heap [(h0, .inr (0, [.ref h_this_states, .int size_])), (h_this_states, .inl (cO, 4, .inr (.inr (.inr (.inr (va_up (va_up (va_up (hst ha_) 0 (some (ha_ 1))) 1 (some (ha_ 2))) 2 (some (ha_ 3)))))))), (ha_ 0, .inr (4, [.int (pl_ 0), .int (st_ 0), .int (fp_ 0), .ref (hb_ 0)])), (hb_ 0, .inl (cI, 100, .inl (wt_ 0))), (ha_ 1, .inr (4, [.int (pl_ 1), .int (st_ 1), .int (fp_ 1), .ref (hb_ 1)])), (hb_ 1, .inl (cI, 100, .inl (wt_ 1))), (ha_ 2, .inr (4, [.int (pl_ 2), .int (st_ 2), .int (fp_ 2), .ref (hb_ 2)])), (hb_ 2, .inl (cI, 100, .inl (wt_ 2))), (ha_ 3, .inr (4, [.int (pl_ 3), .int (st_ 3), .int (fp_ 3), .ref (hb_ 3)])), (hb_ 3, .inl (cI, 100, .inl (wt_ 3)))] H locs := hw
  refine lv_iinc (v := (4 : Int32)) (lv' := [(2, .int (4 : Int32)), (1, .ref (ha_ 0)), (0, .ref h0)]) hx hb dX0_dropOldest_28 hl (k := 0) rfl (by decide) (by decide) rfl (fun ls hl => ?_)
  refine lv_goto (tgt := 9) hx hb dX0_dropOldest_31 (by decide) ?_
  refine lv_iload_n hx hb dX0_dropOldest_9 rfl (lv_at hl 0 rfl) ?_
  refine lv_iconst (v := 4) hx hb dX0_dropOldest_10 (by decide) ?_
  refine lv_icmp_ge (tgt := 34) hx hb dX0_dropOldest_11 (by decide) (fun c1 => ?_) (fun c1 => absurd (by decide) c1)
  refine lv_aload_n hx hb dX0_dropOldest_34 rfl (lv_at hl 2 rfl) ?_
  refine fg_X0_11 X hw 0 rfl rfl dX0_dropOldest_35 ?_
  refine lv_iconst (v := 3) hx hb dX0_dropOldest_38 (by decide) ?_
  refine lv_aload_n hx hb dX0_dropOldest_39 rfl (lv_at hl 1 rfl) ?_
  refine r_aast X hw 1 2 4 rfl rfl rfl (vp_lit (by decide)) rfl dX0_dropOldest_40 (fun H locs hw => ?_)
  have hw : Wd D A s.heap [(h0, .inr (0, [.ref h_this_states, .int size_])), (h_this_states, .inl (cO, 4, .inr (.inr (.inr (.inr (va_up (va_up (va_up (va_up (hst ha_) 0 (some (ha_ 1))) 1 (some (ha_ 2))) 2 (some (ha_ 3))) 3 (some (ha_ 0)))))))), (ha_ 0, .inr (4, [.int (pl_ 0), .int (st_ 0), .int (fp_ 0), .ref (hb_ 0)])), (hb_ 0, .inl (cI, 100, .inl (wt_ 0))), (ha_ 1, .inr (4, [.int (pl_ 1), .int (st_ 1), .int (fp_ 1), .ref (hb_ 1)])), (hb_ 1, .inl (cI, 100, .inl (wt_ 1))), (ha_ 2, .inr (4, [.int (pl_ 2), .int (st_ 2), .int (fp_ 2), .ref (hb_ 2)])), (hb_ 2, .inl (cI, 100, .inl (wt_ 2))), (ha_ 3, .inr (4, [.int (pl_ 3), .int (st_ 3), .int (fp_ 3), .ref (hb_ 3)])), (hb_ 3, .inl (cI, 100, .inl (wt_ 3)))] H locs := hw
  refine lv_aload_n hx hb dX0_dropOldest_41 rfl (lv_at hl 2 rfl) ?_
  refine lv_iconst (v := 3) hx hb dX0_dropOldest_42 (by decide) ?_
  refine fp_X0_18 X hw 0 rfl rfl dX0_dropOldest_43 (fun H locs hw => ?_)
  have hw : Wd D A s.heap [(h0, .inr (0, [.ref h_this_states, .int (3 : Int32)])), (h_this_states, .inl (cO, 4, .inr (.inr (.inr (.inr (va_up (va_up (va_up (va_up (hst ha_) 0 (some (ha_ 1))) 1 (some (ha_ 2))) 2 (some (ha_ 3))) 3 (some (ha_ 0)))))))), (ha_ 0, .inr (4, [.int (pl_ 0), .int (st_ 0), .int (fp_ 0), .ref (hb_ 0)])), (hb_ 0, .inl (cI, 100, .inl (wt_ 0))), (ha_ 1, .inr (4, [.int (pl_ 1), .int (st_ 1), .int (fp_ 1), .ref (hb_ 1)])), (hb_ 1, .inl (cI, 100, .inl (wt_ 1))), (ha_ 2, .inr (4, [.int (pl_ 2), .int (st_ 2), .int (fp_ 2), .ref (hb_ 2)])), (hb_ 2, .inl (cI, 100, .inl (wt_ 2))), (ha_ 3, .inr (4, [.int (pl_ 3), .int (st_ 3), .int (fp_ 3), .ref (hb_ 3)])), (hb_ 3, .inl (cI, 100, .inl (wt_ 3)))] H locs := hw
  replace hw := wd_rot hw
  have hw : Wd D A s.heap [(h0, .inr (0, [.ref h_this_states, .int (3 : Int32)])), (h_this_states, .inl (cO, 4, .inr (.inr (.inr (.inr (hst (rot ha_))))))), ((rot ha_) 0, .inr (4, [.int ((rot pl_) 0), .int ((rot st_) 0), .int ((rot fp_) 0), .ref ((rot hb_) 0)])), ((rot hb_) 0, .inl (cI, 100, .inl ((rot wt_) 0))), ((rot ha_) 1, .inr (4, [.int ((rot pl_) 1), .int ((rot st_) 1), .int ((rot fp_) 1), .ref ((rot hb_) 1)])), ((rot hb_) 1, .inl (cI, 100, .inl ((rot wt_) 1))), ((rot ha_) 2, .inr (4, [.int ((rot pl_) 2), .int ((rot st_) 2), .int ((rot fp_) 2), .ref ((rot hb_) 2)])), ((rot hb_) 2, .inl (cI, 100, .inl ((rot wt_) 2))), ((rot ha_) 3, .inr (4, [.int ((rot pl_) 3), .int ((rot st_) 3), .int ((rot fp_) 3), .ref ((rot hb_) 3)])), ((rot hb_) 3, .inl (cI, 100, .inl ((rot wt_) 3)))] H locs := hw
  obtain ⟨rfl, rfl, rfl, rfl, rfl, rfl, rfl⟩ := oi7 h
  exact r_retv X hw hr hlk dX0_dropOldest_46
def rmX0_remember : Room := { frames := 2, cells := 0, slots := 0, locals := 61 }
section
variable {p : Program} {l : Launch} {e : Env} {R : Room} {s : State} {m : MethodId} {args : Array Value} {below : List Frame} {meth : Method} {c : Code} {H : Heap} {locs : List Loc} {cells slots : Nat} {Q : State → Prop}
variable {cc : ByteArray} {pc nL : Nat} {ls : Array Slot} {rest : List Value} {D : va_G} {cI cC cO : ClassId} {A : Nat → Prop} {ws : va_W} {H0 : Heap}
theorem cs_X0_22 (X : Ctx p m c cc nL s args RX0 D cI cC cO) (hR : rmX0_dropOldest.frames + 1 ≤ R.frames ∧ 8 + (3 + 11) + rmX0_dropOldest.locals ≤ R.locals) : CallW R s args RX0 RX0 22 yX0_dropOldest cX0_dropOldest 3 none (Wy yX0_dropOldest cX0_dropOldest 3 none) rmX0_dropOldest 0 0 0 := cwV 0 X.1.2.2.2.2 (gi_V tw_151 tw_153 sw_yX0_dropOldest tw_3 tw_154) rfl rfl rfl (by decide +kernel) hR
theorem cs_X0_25 (X : Ctx p m c cc nL s args RX0 D cI cC cO) (hR : rmX4_copyFrom.frames + 1 ≤ R.frames ∧ 8 + (2 + 11) + rmX4_copyFrom.locals ≤ R.locals) : CallW R s args RX0 RX4 25 yX4_copyFrom cX4_copyFrom 2 none (Wy yX4_copyFrom cX4_copyFrom 2 none) rmX4_copyFrom 0 0 1 := cwV 1 X.1.2.2.2.2 (gi_V tw_155 tw_156 tw_157 tw_2 tw_158) rfl rfl rfl (by decide +kernel) hR
end
set_option maxHeartbeats 4000000 in
set_option maxRecDepth 100000 in
theorem c_X0_remember (l : Launch) (D : va_G) (cI cC cO : ClassId) (h0 h_p1 h_this_states h_p1_weights : Nat) (size_ : Int32) (ha_ hb_ : Nat → Nat) (pl_ st_ fp_ : Nat → Int32) (wt_ : Nat → Nat → Int32) (p1_places_ p1_start_ p1_fairPlaces_ : Int32) (p1_weights_ : Nat → Int32) (size_' : Int32) (ha_' : Nat → Nat) (hb_' : Nat → Nat) (pl_' : Nat → Int32) (st_' : Nat → Int32) (fp_' : Nat → Int32) (wt_' : Nat → Nat → Int32) (h : f_X0_remember size_ ha_ hb_ pl_ st_ fp_ wt_ p1_places_ p1_start_ p1_fairPlaces_ p1_weights_ = some (size_', ha_', hb_', pl_', st_', fp_', wt_')) : CV l yX0_remember (Wy yX0_remember cX0_remember 2 none) rmX0_remember D cI cC cO [.ref h0, .ref h_p1] [(h0, .inr (0, [.ref h_this_states, .int size_])), (h_this_states, .inl (cO, 4, .inr (.inr (.inr (.inr (hst ha_)))))), (ha_ 0, .inr (4, [.int (pl_ 0), .int (st_ 0), .int (fp_ 0), .ref (hb_ 0)])), (hb_ 0, .inl (cI, 100, .inl (wt_ 0))), (ha_ 1, .inr (4, [.int (pl_ 1), .int (st_ 1), .int (fp_ 1), .ref (hb_ 1)])), (hb_ 1, .inl (cI, 100, .inl (wt_ 1))), (ha_ 2, .inr (4, [.int (pl_ 2), .int (st_ 2), .int (fp_ 2), .ref (hb_ 2)])), (hb_ 2, .inl (cI, 100, .inl (wt_ 2))), (ha_ 3, .inr (4, [.int (pl_ 3), .int (st_ 3), .int (fp_ 3), .ref (hb_ 3)])), (hb_ 3, .inl (cI, 100, .inl (wt_ 3))), (h_p1, .inr (4, [.int p1_places_, .int p1_start_, .int p1_fairPlaces_, .ref h_p1_weights])), (h_p1_weights, .inl (cI, 100, .inl p1_weights_))] [(h0, .inr (0, [.ref h_this_states, .int size_'])), (h_this_states, .inl (cO, 4, .inr (.inr (.inr (.inr (hst ha_')))))), (ha_' 0, .inr (4, [.int (pl_' 0), .int (st_' 0), .int (fp_' 0), .ref (hb_' 0)])), (hb_' 0, .inl (cI, 100, .inl (wt_' 0))), (ha_' 1, .inr (4, [.int (pl_' 1), .int (st_' 1), .int (fp_' 1), .ref (hb_' 1)])), (hb_' 1, .inl (cI, 100, .inl (wt_' 1))), (ha_' 2, .inr (4, [.int (pl_' 2), .int (st_' 2), .int (fp_' 2), .ref (hb_' 2)])), (hb_' 2, .inl (cI, 100, .inl (wt_' 2))), (ha_' 3, .inr (4, [.int (pl_' 3), .int (st_' 3), .int (fp_' 3), .ref (hb_' 3)])), (hb_' 3, .inl (cI, 100, .inl (wt_' 3))), (h_p1, .inr (4, [.int p1_places_, .int p1_start_, .int p1_fairPlaces_, .ref h_p1_weights])), (h_p1_weights, .inl (cI, 100, .inl p1_weights_))] := by
  refine enter_v RX0 (by decide) rfl (Nat.le_of_ble_eq_true rfl) ?_
  intro p e s m below meth c A X hr hlk hw ls hl
  have hx := X.1.1
  have hb := X.1.2.1
  have hl : lv_has ls 2 [(0, .ref h0), (1, .ref h_p1)] := hl
  unfold f_X0_remember at h
  refine lv_aload_n hx hb dX0_remember_0 rfl (lv_at hl 0 rfl) ?_
  refine fg_X0_18 X hw 0 rfl rfl dX0_remember_1 ?_
  refine lv_iconst (v := 4) hx hb dX0_remember_4 (by decide) ?_
  have J12 : ∀ (x8 : Int32) (a9 a10 : Nat → Nat) (a11 a12 a13 : Nat → Int32) (a14 : Nat → Nat → Int32) (H : Heap) (locs : List Loc) (ls : Array Slot), f_X0_remember_J12 p1_places_ p1_start_ p1_fairPlaces_ p1_weights_ x8 a9 a10 a11 a12 a13 a14 = some (size_', ha_', hb_', pl_', st_', fp_', wt_') → Wd D A s.heap [(h0, .inr (0, [.ref h_this_states, .int x8])), (h_this_states, .inl (cO, 4, .inr (.inr (.inr (.inr (hst a9)))))), (a9 0, .inr (4, [.int (a11 0), .int (a12 0), .int (a13 0), .ref (a10 0)])), (a10 0, .inl (cI, 100, .inl (a14 0))), (a9 1, .inr (4, [.int (a11 1), .int (a12 1), .int (a13 1), .ref (a10 1)])), (a10 1, .inl (cI, 100, .inl (a14 1))), (a9 2, .inr (4, [.int (a11 2), .int (a12 2), .int (a13 2), .ref (a10 2)])), (a10 2, .inl (cI, 100, .inl (a14 2))), (a9 3, .inr (4, [.int (a11 3), .int (a12 3), .int (a13 3), .ref (a10 3)])), (a10 3, .inl (cI, 100, .inl (a14 3))), (h_p1, .inr (4, [.int p1_places_, .int p1_start_, .int p1_fairPlaces_, .ref h_p1_weights])), (h_p1_weights, .inl (cI, 100, .inl p1_weights_))] H locs → lv_has ls 2 [(0, .ref h0), (1, .ref h_p1)] → W p l e rmX0_remember s m ([.ref h0, .ref h_p1] : List Value).toArray below meth c H locs 0 0 (MQ below (Qv D [(h0, .inr (0, [.ref h_this_states, .int size_'])), (h_this_states, .inl (cO, 4, .inr (.inr (.inr (.inr (hst ha_')))))), (ha_' 0, .inr (4, [.int (pl_' 0), .int (st_' 0), .int (fp_' 0), .ref (hb_' 0)])), (hb_' 0, .inl (cI, 100, .inl (wt_' 0))), (ha_' 1, .inr (4, [.int (pl_' 1), .int (st_' 1), .int (fp_' 1), .ref (hb_' 1)])), (hb_' 1, .inl (cI, 100, .inl (wt_' 1))), (ha_' 2, .inr (4, [.int (pl_' 2), .int (st_' 2), .int (fp_' 2), .ref (hb_' 2)])), (hb_' 2, .inl (cI, 100, .inl (wt_' 2))), (ha_' 3, .inr (4, [.int (pl_' 3), .int (st_' 3), .int (fp_' 3), .ref (hb_' 3)])), (hb_' 3, .inl (cI, 100, .inl (wt_' 3))), (h_p1, .inr (4, [.int p1_places_, .int p1_start_, .int p1_fairPlaces_, .ref h_p1_weights])), (h_p1_weights, .inl (cI, 100, .inl p1_weights_))] A) ([.ref h0, .ref h_p1] : List Value).toArray s 0 0 A) (F0 m 12 ls []) := by
    intro x8 a9 a10 a11 a12 a13 a14 H locs ls h hw hl
    unfold f_X0_remember_J12 at h
    refine lv_aload_n hx hb dX0_remember_12 rfl (lv_at hl 0 rfl) ?_
    refine fg_X0_11 X hw 0 rfl rfl dX0_remember_13 ?_
    refine lv_aload_n hx hb dX0_remember_16 rfl (lv_at hl 0 rfl) ?_
    refine fg_X0_18 X hw 0 rfl rfl dX0_remember_17 ?_
    by_cases cs0 : x8 = (0 : Int32)
    · replace h := ip cs0 h
      subst cs0
      refine r_aald X hw 1 rfl (v := (a9 0)) (vp_lit (by decide)) rfl dX0_remember_20 ?_
      refine lv_aload_n hx hb dX0_remember_21 rfl (lv_at hl 1 rfl) ?_
      obtain ⟨x15, x16, x17, a18, hc, h⟩ := bd4_inv h
      refine r_cVv X hw (As := [.ref h_p1]) (rest := []) (wr := [(h0, .inr (0, [.ref h_this_states, .int (0 : Int32)])), (h_this_states, .inl (cO, 4, .inr (.inr (.inr (.inr (hst a9)))))), (a9 1, .inr (4, [.int (a11 1), .int (a12 1), .int (a13 1), .ref (a10 1)])), (a10 1, .inl (cI, 100, .inl (a14 1))), (a9 2, .inr (4, [.int (a11 2), .int (a12 2), .int (a13 2), .ref (a10 2)])), (a10 2, .inl (cI, 100, .inl (a14 2))), (a9 3, .inr (4, [.int (a11 3), .int (a12 3), .int (a13 3), .ref (a10 3)])), (a10 3, .inl (cI, 100, .inl (a14 3)))]) (ws' := [(h0, .inr (0, [.ref h_this_states, .int (0 : Int32)])), (h_this_states, .inl (cO, 4, .inr (.inr (.inr (.inr (hst a9)))))), (a9 0, .inr (4, [.int ((va_up a11 0 x15) 0), .int ((va_up a12 0 x16) 0), .int ((va_up a13 0 x17) 0), .ref (a10 0)])), (a10 0, .inl (cI, 100, .inl ((va_up a14 0 a18) 0))), (a9 1, .inr (4, [.int ((va_up a11 0 x15) 1), .int ((va_up a12 0 x16) 1), .int ((va_up a13 0 x17) 1), .ref (a10 1)])), (a10 1, .inl (cI, 100, .inl ((va_up a14 0 a18) 1))), (a9 2, .inr (4, [.int ((va_up a11 0 x15) 2), .int ((va_up a12 0 x16) 2), .int ((va_up a13 0 x17) 2), .ref (a10 2)])), (a10 2, .inl (cI, 100, .inl ((va_up a14 0 a18) 2))), (a9 3, .inr (4, [.int ((va_up a11 0 x15) 3), .int ((va_up a12 0 x16) 3), .int ((va_up a13 0 x17) 3), .ref (a10 3)])), (a10 3, .inl (cI, 100, .inl ((va_up a14 0 a18) 3))), (h_p1, .inr (4, [.int p1_places_, .int p1_start_, .int p1_fairPlaces_, .ref h_p1_weights])), (h_p1_weights, .inl (cI, 100, .inl p1_weights_))]) (c_X4_copyFrom l D cI cC cO (a9 0) h_p1 (a10 0) h_p1_weights (a11 0) (a12 0) (a13 0) (a14 0) p1_places_ p1_start_ p1_fairPlaces_ p1_weights_ x15 x16 x17 a18 hc) (cs_X0_25 X (by decide)) [2, 3, 10, 11] [0, 1, 4, 5, 6, 7, 8, 9] [0, 1, 8, 9, 2, 3, 4, 5, 6, 7, 10, 11] rfl rfl rfl rfl (by decide) rfl rfl 2 rfl rfl rfl rfl hl.1 rfl (Nat.le_of_ble_eq_true rfl) dX0_remember_22 ⟨Nat.zero_le _, Nat.zero_le _⟩ (fun H locs hw => ?_)
      refine lv_aload_n hx hb dX0_remember_25 rfl (lv_at hl 0 rfl) ?_
      refine lv_dup hx hb dX0_remember_26 rfl ?_
      refine fg_X0_18 X hw 0 rfl rfl dX0_remember_27 ?_
      refine lv_iconst (v := 1) hx hb dX0_remember_30 (by decide) ?_
      refine lv_iadd hx hb dX0_remember_31 ?_
      refine W.eq (g2 := F0 m 32 ls [.int (1 : Int32), .ref h0]) rfl ?_
      refine fp_X0_18 X hw 0 rfl rfl dX0_remember_32 (fun H locs hw => ?_)
      have hw : Wd D A s.heap [(h0, .inr (0, [.ref h_this_states, .int (1 : Int32)])), (h_this_states, .inl (cO, 4, .inr (.inr (.inr (.inr (hst a9)))))), (a9 0, .inr (4, [.int ((va_up a11 0 x15) 0), .int ((va_up a12 0 x16) 0), .int ((va_up a13 0 x17) 0), .ref (a10 0)])), (a10 0, .inl (cI, 100, .inl ((va_up a14 0 a18) 0))), (a9 1, .inr (4, [.int ((va_up a11 0 x15) 1), .int ((va_up a12 0 x16) 1), .int ((va_up a13 0 x17) 1), .ref (a10 1)])), (a10 1, .inl (cI, 100, .inl ((va_up a14 0 a18) 1))), (a9 2, .inr (4, [.int ((va_up a11 0 x15) 2), .int ((va_up a12 0 x16) 2), .int ((va_up a13 0 x17) 2), .ref (a10 2)])), (a10 2, .inl (cI, 100, .inl ((va_up a14 0 a18) 2))), (a9 3, .inr (4, [.int ((va_up a11 0 x15) 3), .int ((va_up a12 0 x16) 3), .int ((va_up a13 0 x17) 3), .ref (a10 3)])), (a10 3, .inl (cI, 100, .inl ((va_up a14 0 a18) 3))), (h_p1, .inr (4, [.int p1_places_, .int p1_start_, .int p1_fairPlaces_, .ref h_p1_weights])), (h_p1_weights, .inl (cI, 100, .inl p1_weights_))] H locs := hw
      obtain ⟨rfl, rfl, rfl, rfl, rfl, rfl, rfl⟩ := oi7 h
      exact r_retv X hw hr hlk dX0_remember_35
    replace h := ig cs0 h
    by_cases cs1 : x8 = (1 : Int32)
    · replace h := ip cs1 h
      subst cs1
      refine r_aald X hw 1 rfl (v := (a9 1)) (vp_lit (by decide)) rfl dX0_remember_20 ?_
      refine lv_aload_n hx hb dX0_remember_21 rfl (lv_at hl 1 rfl) ?_
      obtain ⟨x19, x20, x21, a22, hc, h⟩ := bd4_inv h
      refine r_cVv X hw (As := [.ref h_p1]) (rest := []) (wr := [(h0, .inr (0, [.ref h_this_states, .int (1 : Int32)])), (h_this_states, .inl (cO, 4, .inr (.inr (.inr (.inr (hst a9)))))), (a9 0, .inr (4, [.int (a11 0), .int (a12 0), .int (a13 0), .ref (a10 0)])), (a10 0, .inl (cI, 100, .inl (a14 0))), (a9 2, .inr (4, [.int (a11 2), .int (a12 2), .int (a13 2), .ref (a10 2)])), (a10 2, .inl (cI, 100, .inl (a14 2))), (a9 3, .inr (4, [.int (a11 3), .int (a12 3), .int (a13 3), .ref (a10 3)])), (a10 3, .inl (cI, 100, .inl (a14 3)))]) (ws' := [(h0, .inr (0, [.ref h_this_states, .int (1 : Int32)])), (h_this_states, .inl (cO, 4, .inr (.inr (.inr (.inr (hst a9)))))), (a9 0, .inr (4, [.int ((va_up a11 1 x19) 0), .int ((va_up a12 1 x20) 0), .int ((va_up a13 1 x21) 0), .ref (a10 0)])), (a10 0, .inl (cI, 100, .inl ((va_up a14 1 a22) 0))), (a9 1, .inr (4, [.int ((va_up a11 1 x19) 1), .int ((va_up a12 1 x20) 1), .int ((va_up a13 1 x21) 1), .ref (a10 1)])), (a10 1, .inl (cI, 100, .inl ((va_up a14 1 a22) 1))), (a9 2, .inr (4, [.int ((va_up a11 1 x19) 2), .int ((va_up a12 1 x20) 2), .int ((va_up a13 1 x21) 2), .ref (a10 2)])), (a10 2, .inl (cI, 100, .inl ((va_up a14 1 a22) 2))), (a9 3, .inr (4, [.int ((va_up a11 1 x19) 3), .int ((va_up a12 1 x20) 3), .int ((va_up a13 1 x21) 3), .ref (a10 3)])), (a10 3, .inl (cI, 100, .inl ((va_up a14 1 a22) 3))), (h_p1, .inr (4, [.int p1_places_, .int p1_start_, .int p1_fairPlaces_, .ref h_p1_weights])), (h_p1_weights, .inl (cI, 100, .inl p1_weights_))]) (c_X4_copyFrom l D cI cC cO (a9 1) h_p1 (a10 1) h_p1_weights (a11 1) (a12 1) (a13 1) (a14 1) p1_places_ p1_start_ p1_fairPlaces_ p1_weights_ x19 x20 x21 a22 hc) (cs_X0_25 X (by decide)) [4, 5, 10, 11] [0, 1, 2, 3, 6, 7, 8, 9] [0, 1, 2, 3, 8, 9, 4, 5, 6, 7, 10, 11] rfl rfl rfl rfl (by decide) rfl rfl 4 rfl rfl rfl rfl hl.1 rfl (Nat.le_of_ble_eq_true rfl) dX0_remember_22 ⟨Nat.zero_le _, Nat.zero_le _⟩ (fun H locs hw => ?_)
      refine lv_aload_n hx hb dX0_remember_25 rfl (lv_at hl 0 rfl) ?_
      refine lv_dup hx hb dX0_remember_26 rfl ?_
      refine fg_X0_18 X hw 0 rfl rfl dX0_remember_27 ?_
      refine lv_iconst (v := 1) hx hb dX0_remember_30 (by decide) ?_
      refine lv_iadd hx hb dX0_remember_31 ?_
      refine W.eq (g2 := F0 m 32 ls [.int (2 : Int32), .ref h0]) rfl ?_
      refine fp_X0_18 X hw 0 rfl rfl dX0_remember_32 (fun H locs hw => ?_)
      have hw : Wd D A s.heap [(h0, .inr (0, [.ref h_this_states, .int (2 : Int32)])), (h_this_states, .inl (cO, 4, .inr (.inr (.inr (.inr (hst a9)))))), (a9 0, .inr (4, [.int ((va_up a11 1 x19) 0), .int ((va_up a12 1 x20) 0), .int ((va_up a13 1 x21) 0), .ref (a10 0)])), (a10 0, .inl (cI, 100, .inl ((va_up a14 1 a22) 0))), (a9 1, .inr (4, [.int ((va_up a11 1 x19) 1), .int ((va_up a12 1 x20) 1), .int ((va_up a13 1 x21) 1), .ref (a10 1)])), (a10 1, .inl (cI, 100, .inl ((va_up a14 1 a22) 1))), (a9 2, .inr (4, [.int ((va_up a11 1 x19) 2), .int ((va_up a12 1 x20) 2), .int ((va_up a13 1 x21) 2), .ref (a10 2)])), (a10 2, .inl (cI, 100, .inl ((va_up a14 1 a22) 2))), (a9 3, .inr (4, [.int ((va_up a11 1 x19) 3), .int ((va_up a12 1 x20) 3), .int ((va_up a13 1 x21) 3), .ref (a10 3)])), (a10 3, .inl (cI, 100, .inl ((va_up a14 1 a22) 3))), (h_p1, .inr (4, [.int p1_places_, .int p1_start_, .int p1_fairPlaces_, .ref h_p1_weights])), (h_p1_weights, .inl (cI, 100, .inl p1_weights_))] H locs := hw
      obtain ⟨rfl, rfl, rfl, rfl, rfl, rfl, rfl⟩ := oi7 h
      exact r_retv X hw hr hlk dX0_remember_35
    replace h := ig cs1 h
    by_cases cs2 : x8 = (2 : Int32)
    · replace h := ip cs2 h
      subst cs2
      refine r_aald X hw 1 rfl (v := (a9 2)) (vp_lit (by decide)) rfl dX0_remember_20 ?_
      refine lv_aload_n hx hb dX0_remember_21 rfl (lv_at hl 1 rfl) ?_
      obtain ⟨x23, x24, x25, a26, hc, h⟩ := bd4_inv h
      refine r_cVv X hw (As := [.ref h_p1]) (rest := []) (wr := [(h0, .inr (0, [.ref h_this_states, .int (2 : Int32)])), (h_this_states, .inl (cO, 4, .inr (.inr (.inr (.inr (hst a9)))))), (a9 0, .inr (4, [.int (a11 0), .int (a12 0), .int (a13 0), .ref (a10 0)])), (a10 0, .inl (cI, 100, .inl (a14 0))), (a9 1, .inr (4, [.int (a11 1), .int (a12 1), .int (a13 1), .ref (a10 1)])), (a10 1, .inl (cI, 100, .inl (a14 1))), (a9 3, .inr (4, [.int (a11 3), .int (a12 3), .int (a13 3), .ref (a10 3)])), (a10 3, .inl (cI, 100, .inl (a14 3)))]) (ws' := [(h0, .inr (0, [.ref h_this_states, .int (2 : Int32)])), (h_this_states, .inl (cO, 4, .inr (.inr (.inr (.inr (hst a9)))))), (a9 0, .inr (4, [.int ((va_up a11 2 x23) 0), .int ((va_up a12 2 x24) 0), .int ((va_up a13 2 x25) 0), .ref (a10 0)])), (a10 0, .inl (cI, 100, .inl ((va_up a14 2 a26) 0))), (a9 1, .inr (4, [.int ((va_up a11 2 x23) 1), .int ((va_up a12 2 x24) 1), .int ((va_up a13 2 x25) 1), .ref (a10 1)])), (a10 1, .inl (cI, 100, .inl ((va_up a14 2 a26) 1))), (a9 2, .inr (4, [.int ((va_up a11 2 x23) 2), .int ((va_up a12 2 x24) 2), .int ((va_up a13 2 x25) 2), .ref (a10 2)])), (a10 2, .inl (cI, 100, .inl ((va_up a14 2 a26) 2))), (a9 3, .inr (4, [.int ((va_up a11 2 x23) 3), .int ((va_up a12 2 x24) 3), .int ((va_up a13 2 x25) 3), .ref (a10 3)])), (a10 3, .inl (cI, 100, .inl ((va_up a14 2 a26) 3))), (h_p1, .inr (4, [.int p1_places_, .int p1_start_, .int p1_fairPlaces_, .ref h_p1_weights])), (h_p1_weights, .inl (cI, 100, .inl p1_weights_))]) (c_X4_copyFrom l D cI cC cO (a9 2) h_p1 (a10 2) h_p1_weights (a11 2) (a12 2) (a13 2) (a14 2) p1_places_ p1_start_ p1_fairPlaces_ p1_weights_ x23 x24 x25 a26 hc) (cs_X0_25 X (by decide)) [6, 7, 10, 11] [0, 1, 2, 3, 4, 5, 8, 9] [0, 1, 2, 3, 4, 5, 8, 9, 6, 7, 10, 11] rfl rfl rfl rfl (by decide) rfl rfl 6 rfl rfl rfl rfl hl.1 rfl (Nat.le_of_ble_eq_true rfl) dX0_remember_22 ⟨Nat.zero_le _, Nat.zero_le _⟩ (fun H locs hw => ?_)
      refine lv_aload_n hx hb dX0_remember_25 rfl (lv_at hl 0 rfl) ?_
      refine lv_dup hx hb dX0_remember_26 rfl ?_
      refine fg_X0_18 X hw 0 rfl rfl dX0_remember_27 ?_
      refine lv_iconst (v := 1) hx hb dX0_remember_30 (by decide) ?_
      refine lv_iadd hx hb dX0_remember_31 ?_
      refine W.eq (g2 := F0 m 32 ls [.int (3 : Int32), .ref h0]) rfl ?_
      refine fp_X0_18 X hw 0 rfl rfl dX0_remember_32 (fun H locs hw => ?_)
      have hw : Wd D A s.heap [(h0, .inr (0, [.ref h_this_states, .int (3 : Int32)])), (h_this_states, .inl (cO, 4, .inr (.inr (.inr (.inr (hst a9)))))), (a9 0, .inr (4, [.int ((va_up a11 2 x23) 0), .int ((va_up a12 2 x24) 0), .int ((va_up a13 2 x25) 0), .ref (a10 0)])), (a10 0, .inl (cI, 100, .inl ((va_up a14 2 a26) 0))), (a9 1, .inr (4, [.int ((va_up a11 2 x23) 1), .int ((va_up a12 2 x24) 1), .int ((va_up a13 2 x25) 1), .ref (a10 1)])), (a10 1, .inl (cI, 100, .inl ((va_up a14 2 a26) 1))), (a9 2, .inr (4, [.int ((va_up a11 2 x23) 2), .int ((va_up a12 2 x24) 2), .int ((va_up a13 2 x25) 2), .ref (a10 2)])), (a10 2, .inl (cI, 100, .inl ((va_up a14 2 a26) 2))), (a9 3, .inr (4, [.int ((va_up a11 2 x23) 3), .int ((va_up a12 2 x24) 3), .int ((va_up a13 2 x25) 3), .ref (a10 3)])), (a10 3, .inl (cI, 100, .inl ((va_up a14 2 a26) 3))), (h_p1, .inr (4, [.int p1_places_, .int p1_start_, .int p1_fairPlaces_, .ref h_p1_weights])), (h_p1_weights, .inl (cI, 100, .inl p1_weights_))] H locs := hw
      obtain ⟨rfl, rfl, rfl, rfl, rfl, rfl, rfl⟩ := oi7 h
      exact r_retv X hw hr hlk dX0_remember_35
    replace h := ig cs2 h
    by_cases cs3 : x8 = (3 : Int32)
    · replace h := ip cs3 h
      subst cs3
      refine r_aald X hw 1 rfl (v := (a9 3)) (vp_lit (by decide)) rfl dX0_remember_20 ?_
      refine lv_aload_n hx hb dX0_remember_21 rfl (lv_at hl 1 rfl) ?_
      obtain ⟨x27, x28, x29, a30, hc, h⟩ := bd4_inv h
      refine r_cVv X hw (As := [.ref h_p1]) (rest := []) (wr := [(h0, .inr (0, [.ref h_this_states, .int (3 : Int32)])), (h_this_states, .inl (cO, 4, .inr (.inr (.inr (.inr (hst a9)))))), (a9 0, .inr (4, [.int (a11 0), .int (a12 0), .int (a13 0), .ref (a10 0)])), (a10 0, .inl (cI, 100, .inl (a14 0))), (a9 1, .inr (4, [.int (a11 1), .int (a12 1), .int (a13 1), .ref (a10 1)])), (a10 1, .inl (cI, 100, .inl (a14 1))), (a9 2, .inr (4, [.int (a11 2), .int (a12 2), .int (a13 2), .ref (a10 2)])), (a10 2, .inl (cI, 100, .inl (a14 2)))]) (ws' := [(h0, .inr (0, [.ref h_this_states, .int (3 : Int32)])), (h_this_states, .inl (cO, 4, .inr (.inr (.inr (.inr (hst a9)))))), (a9 0, .inr (4, [.int ((va_up a11 3 x27) 0), .int ((va_up a12 3 x28) 0), .int ((va_up a13 3 x29) 0), .ref (a10 0)])), (a10 0, .inl (cI, 100, .inl ((va_up a14 3 a30) 0))), (a9 1, .inr (4, [.int ((va_up a11 3 x27) 1), .int ((va_up a12 3 x28) 1), .int ((va_up a13 3 x29) 1), .ref (a10 1)])), (a10 1, .inl (cI, 100, .inl ((va_up a14 3 a30) 1))), (a9 2, .inr (4, [.int ((va_up a11 3 x27) 2), .int ((va_up a12 3 x28) 2), .int ((va_up a13 3 x29) 2), .ref (a10 2)])), (a10 2, .inl (cI, 100, .inl ((va_up a14 3 a30) 2))), (a9 3, .inr (4, [.int ((va_up a11 3 x27) 3), .int ((va_up a12 3 x28) 3), .int ((va_up a13 3 x29) 3), .ref (a10 3)])), (a10 3, .inl (cI, 100, .inl ((va_up a14 3 a30) 3))), (h_p1, .inr (4, [.int p1_places_, .int p1_start_, .int p1_fairPlaces_, .ref h_p1_weights])), (h_p1_weights, .inl (cI, 100, .inl p1_weights_))]) (c_X4_copyFrom l D cI cC cO (a9 3) h_p1 (a10 3) h_p1_weights (a11 3) (a12 3) (a13 3) (a14 3) p1_places_ p1_start_ p1_fairPlaces_ p1_weights_ x27 x28 x29 a30 hc) (cs_X0_25 X (by decide)) [8, 9, 10, 11] [0, 1, 2, 3, 4, 5, 6, 7] [0, 1, 2, 3, 4, 5, 6, 7, 8, 9, 10, 11] rfl rfl rfl rfl (by decide) rfl rfl 8 rfl rfl rfl rfl hl.1 rfl (Nat.le_of_ble_eq_true rfl) dX0_remember_22 ⟨Nat.zero_le _, Nat.zero_le _⟩ (fun H locs hw => ?_)
      refine lv_aload_n hx hb dX0_remember_25 rfl (lv_at hl 0 rfl) ?_
      refine lv_dup hx hb dX0_remember_26 rfl ?_
      refine fg_X0_18 X hw 0 rfl rfl dX0_remember_27 ?_
      refine lv_iconst (v := 1) hx hb dX0_remember_30 (by decide) ?_
      refine lv_iadd hx hb dX0_remember_31 ?_
      refine W.eq (g2 := F0 m 32 ls [.int (4 : Int32), .ref h0]) rfl ?_
      refine fp_X0_18 X hw 0 rfl rfl dX0_remember_32 (fun H locs hw => ?_)
      have hw : Wd D A s.heap [(h0, .inr (0, [.ref h_this_states, .int (4 : Int32)])), (h_this_states, .inl (cO, 4, .inr (.inr (.inr (.inr (hst a9)))))), (a9 0, .inr (4, [.int ((va_up a11 3 x27) 0), .int ((va_up a12 3 x28) 0), .int ((va_up a13 3 x29) 0), .ref (a10 0)])), (a10 0, .inl (cI, 100, .inl ((va_up a14 3 a30) 0))), (a9 1, .inr (4, [.int ((va_up a11 3 x27) 1), .int ((va_up a12 3 x28) 1), .int ((va_up a13 3 x29) 1), .ref (a10 1)])), (a10 1, .inl (cI, 100, .inl ((va_up a14 3 a30) 1))), (a9 2, .inr (4, [.int ((va_up a11 3 x27) 2), .int ((va_up a12 3 x28) 2), .int ((va_up a13 3 x29) 2), .ref (a10 2)])), (a10 2, .inl (cI, 100, .inl ((va_up a14 3 a30) 2))), (a9 3, .inr (4, [.int ((va_up a11 3 x27) 3), .int ((va_up a12 3 x28) 3), .int ((va_up a13 3 x29) 3), .ref (a10 3)])), (a10 3, .inl (cI, 100, .inl ((va_up a14 3 a30) 3))), (h_p1, .inr (4, [.int p1_places_, .int p1_start_, .int p1_fairPlaces_, .ref h_p1_weights])), (h_p1_weights, .inl (cI, 100, .inl p1_weights_))] H locs := hw
      obtain ⟨rfl, rfl, rfl, rfl, rfl, rfl, rfl⟩ := oi7 h
      exact r_retv X hw hr hlk dX0_remember_35
    replace h := ig cs3 h
    cases h
  refine lv_icmp_lt (tgt := 12) hx hb dX0_remember_5 (by decide) (fun c1 => ?_) (fun c1 => ?_)
  · replace h := ip c1 h
    exact J12 size_ ha_ hb_ pl_ st_ fp_ wt_ _ _ _ h hw (lv_sub hl [0, 1] rfl)
  · replace h := ig c1 h
    refine lv_aload_n hx hb dX0_remember_8 rfl (lv_at hl 0 rfl) ?_
    obtain ⟨x1, a2, a3, a4, a5, a6, a7, hc, h⟩ := bd7_inv h
    refine r_cVv X hw (As := []) (rest := []) (wr := [(h_p1, .inr (4, [.int p1_places_, .int p1_start_, .int p1_fairPlaces_, .ref h_p1_weights])), (h_p1_weights, .inl (cI, 100, .inl p1_weights_))]) (ws' := [(h0, .inr (0, [.ref h_this_states, .int x1])), (h_this_states, .inl (cO, 4, .inr (.inr (.inr (.inr (hst a2)))))), (a2 0, .inr (4, [.int (a4 0), .int (a5 0), .int (a6 0), .ref (a3 0)])), (a3 0, .inl (cI, 100, .inl (a7 0))), (a2 1, .inr (4, [.int (a4 1), .int (a5 1), .int (a6 1), .ref (a3 1)])), (a3 1, .inl (cI, 100, .inl (a7 1))), (a2 2, .inr (4, [.int (a4 2), .int (a5 2), .int (a6 2), .ref (a3 2)])), (a3 2, .inl (cI, 100, .inl (a7 2))), (a2 3, .inr (4, [.int (a4 3), .int (a5 3), .int (a6 3), .ref (a3 3)])), (a3 3, .inl (cI, 100, .inl (a7 3))), (h_p1, .inr (4, [.int p1_places_, .int p1_start_, .int p1_fairPlaces_, .ref h_p1_weights])), (h_p1_weights, .inl (cI, 100, .inl p1_weights_))]) (c_X0_dropOldest l D cI cC cO h0 h_this_states size_ ha_ hb_ pl_ st_ fp_ wt_ x1 a2 a3 a4 a5 a6 a7 hc) (cs_X0_22 X (by decide)) [0, 1, 2, 3, 4, 5, 6, 7, 8, 9] [10, 11] [2, 3, 4, 5, 6, 7, 8, 9, 10, 11, 0, 1] rfl rfl rfl rfl (by decide) rfl rfl 0 rfl rfl rfl rfl hl.1 rfl (Nat.le_of_ble_eq_true rfl) dX0_remember_9 ⟨Nat.zero_le _, Nat.zero_le _⟩ (fun H locs hw => ?_)
    exact J12 x1 a2 a3 a4 a5 a6 a7 _ _ _ h hw (lv_sub hl [0, 1] rfl)
def rmX0_takeBack : Room := { frames := 2, cells := 0, slots := 0, locals := 61 }
set_option maxHeartbeats 4000000 in
set_option maxRecDepth 100000 in
theorem c_X0_takeBack (l : Launch) (D : va_G) (cI cC cO : ClassId) (h0 h_p1 h_this_states h_p1_weights : Nat) (size_ : Int32) (ha_ hb_ : Nat → Nat) (pl_ st_ fp_ : Nat → Int32) (wt_ : Nat → Nat → Int32) (p1_places_ p1_start_ p1_fairPlaces_ : Int32) (p1_weights_ : Nat → Int32) (size_' : Int32) (p1_places_' : Int32) (p1_start_' : Int32) (p1_fairPlaces_' : Int32) (p1_weights_' : Nat → Int32) (h : f_X0_takeBack size_ pl_ st_ fp_ wt_ p1_places_ p1_start_ p1_fairPlaces_ p1_weights_ = some (size_', p1_places_', p1_start_', p1_fairPlaces_', p1_weights_')) : CV l yX0_takeBack (Wy yX0_takeBack cX0_takeBack 2 none) rmX0_takeBack D cI cC cO [.ref h0, .ref h_p1] [(h0, .inr (0, [.ref h_this_states, .int size_])), (h_this_states, .inl (cO, 4, .inr (.inr (.inr (.inr (hst ha_)))))), (ha_ 0, .inr (4, [.int (pl_ 0), .int (st_ 0), .int (fp_ 0), .ref (hb_ 0)])), (hb_ 0, .inl (cI, 100, .inl (wt_ 0))), (ha_ 1, .inr (4, [.int (pl_ 1), .int (st_ 1), .int (fp_ 1), .ref (hb_ 1)])), (hb_ 1, .inl (cI, 100, .inl (wt_ 1))), (ha_ 2, .inr (4, [.int (pl_ 2), .int (st_ 2), .int (fp_ 2), .ref (hb_ 2)])), (hb_ 2, .inl (cI, 100, .inl (wt_ 2))), (ha_ 3, .inr (4, [.int (pl_ 3), .int (st_ 3), .int (fp_ 3), .ref (hb_ 3)])), (hb_ 3, .inl (cI, 100, .inl (wt_ 3))), (h_p1, .inr (4, [.int p1_places_, .int p1_start_, .int p1_fairPlaces_, .ref h_p1_weights])), (h_p1_weights, .inl (cI, 100, .inl p1_weights_))] [(h0, .inr (0, [.ref h_this_states, .int size_'])), (h_this_states, .inl (cO, 4, .inr (.inr (.inr (.inr (hst ha_)))))), (ha_ 0, .inr (4, [.int (pl_ 0), .int (st_ 0), .int (fp_ 0), .ref (hb_ 0)])), (hb_ 0, .inl (cI, 100, .inl (wt_ 0))), (ha_ 1, .inr (4, [.int (pl_ 1), .int (st_ 1), .int (fp_ 1), .ref (hb_ 1)])), (hb_ 1, .inl (cI, 100, .inl (wt_ 1))), (ha_ 2, .inr (4, [.int (pl_ 2), .int (st_ 2), .int (fp_ 2), .ref (hb_ 2)])), (hb_ 2, .inl (cI, 100, .inl (wt_ 2))), (ha_ 3, .inr (4, [.int (pl_ 3), .int (st_ 3), .int (fp_ 3), .ref (hb_ 3)])), (hb_ 3, .inl (cI, 100, .inl (wt_ 3))), (h_p1, .inr (4, [.int p1_places_', .int p1_start_', .int p1_fairPlaces_', .ref h_p1_weights])), (h_p1_weights, .inl (cI, 100, .inl p1_weights_'))] := by
  refine enter_v RX0 (by decide) rfl (Nat.le_of_ble_eq_true rfl) ?_
  intro p e s m below meth c A X hr hlk hw ls hl
  have hx := X.1.1
  have hb := X.1.2.1
  have hl : lv_has ls 2 [(0, .ref h0), (1, .ref h_p1)] := hl
  unfold f_X0_takeBack at h
  refine lv_aload_n hx hb dX0_takeBack_0 rfl (lv_at hl 0 rfl) ?_
  refine fg_X0_18 X hw 0 rfl rfl dX0_takeBack_1 ?_
  refine lv_if_le (tgt := 30) hx hb dX0_takeBack_4 (by decide) (fun c1 => ?_) (fun c1 => ?_)
  · replace h := ip c1 h
    obtain ⟨rfl, rfl, rfl, rfl, rfl⟩ := oi5 h
    exact r_retv X hw hr hlk dX0_takeBack_30
  · replace h := ig c1 h
    refine lv_aload_n hx hb dX0_takeBack_7 rfl (lv_at hl 0 rfl) ?_
    refine lv_dup hx hb dX0_takeBack_8 rfl ?_
    refine fg_X0_18 X hw 0 rfl rfl dX0_takeBack_9 ?_
    refine lv_iconst (v := 1) hx hb dX0_takeBack_12 (by decide) ?_
    refine lv_isub hx hb dX0_takeBack_13 ?_
    refine fp_X0_18 X hw 0 rfl rfl dX0_takeBack_14 (fun H locs hw => ?_)
    have hw : Wd D A s.heap [(h0, .inr (0, [.ref h_this_states, .int (size_ - (1 : Int32))])), (h_this_states, .inl (cO, 4, .inr (.inr (.inr (.inr (hst ha_)))))), (ha_ 0, .inr (4, [.int (pl_ 0), .int (st_ 0), .int (fp_ 0), .ref (hb_ 0)])), (hb_ 0, .inl (cI, 100, .inl (wt_ 0))), (ha_ 1, .inr (4, [.int (pl_ 1), .int (st_ 1), .int (fp_ 1), .ref (hb_ 1)])), (hb_ 1, .inl (cI, 100, .inl (wt_ 1))), (ha_ 2, .inr (4, [.int (pl_ 2), .int (st_ 2), .int (fp_ 2), .ref (hb_ 2)])), (hb_ 2, .inl (cI, 100, .inl (wt_ 2))), (ha_ 3, .inr (4, [.int (pl_ 3), .int (st_ 3), .int (fp_ 3), .ref (hb_ 3)])), (hb_ 3, .inl (cI, 100, .inl (wt_ 3))), (h_p1, .inr (4, [.int p1_places_, .int p1_start_, .int p1_fairPlaces_, .ref h_p1_weights])), (h_p1_weights, .inl (cI, 100, .inl p1_weights_))] H locs := hw
    refine lv_aload_n hx hb dX0_takeBack_17 rfl (lv_at hl 1 rfl) ?_
    refine lv_aload_n hx hb dX0_takeBack_18 rfl (lv_at hl 0 rfl) ?_
    refine fg_X0_11 X hw 0 rfl rfl dX0_takeBack_19 ?_
    refine lv_aload_n hx hb dX0_takeBack_22 rfl (lv_at hl 0 rfl) ?_
    refine fg_X0_18 X hw 0 rfl rfl dX0_takeBack_23 ?_
    by_cases cs0 : (size_ - (1 : Int32)) = (0 : Int32)
    · replace h := ip cs0 h
      rw [cs0] at hw ⊢
      refine r_aald X hw 1 rfl (v := (ha_ 0)) (vp_lit (by decide)) rfl dX0_takeBack_26 ?_
      obtain ⟨x1, x2, x3, a4, hc, h⟩ := bd4_inv h
      refine r_cVv X hw (As := [.ref (ha_ 0)]) (rest := []) (wr := [(h0, .inr (0, [.ref h_this_states, .int (0 : Int32)])), (h_this_states, .inl (cO, 4, .inr (.inr (.inr (.inr (hst ha_)))))), (ha_ 1, .inr (4, [.int (pl_ 1), .int (st_ 1), .int (fp_ 1), .ref (hb_ 1)])), (hb_ 1, .inl (cI, 100, .inl (wt_ 1))), (ha_ 2, .inr (4, [.int (pl_ 2), .int (st_ 2), .int (fp_ 2), .ref (hb_ 2)])), (hb_ 2, .inl (cI, 100, .inl (wt_ 2))), (ha_ 3, .inr (4, [.int (pl_ 3), .int (st_ 3), .int (fp_ 3), .ref (hb_ 3)])), (hb_ 3, .inl (cI, 100, .inl (wt_ 3)))]) (ws' := [(h0, .inr (0, [.ref h_this_states, .int (0 : Int32)])), (h_this_states, .inl (cO, 4, .inr (.inr (.inr (.inr (hst ha_)))))), (ha_ 0, .inr (4, [.int (pl_ 0), .int (st_ 0), .int (fp_ 0), .ref (hb_ 0)])), (hb_ 0, .inl (cI, 100, .inl (wt_ 0))), (ha_ 1, .inr (4, [.int (pl_ 1), .int (st_ 1), .int (fp_ 1), .ref (hb_ 1)])), (hb_ 1, .inl (cI, 100, .inl (wt_ 1))), (ha_ 2, .inr (4, [.int (pl_ 2), .int (st_ 2), .int (fp_ 2), .ref (hb_ 2)])), (hb_ 2, .inl (cI, 100, .inl (wt_ 2))), (ha_ 3, .inr (4, [.int (pl_ 3), .int (st_ 3), .int (fp_ 3), .ref (hb_ 3)])), (hb_ 3, .inl (cI, 100, .inl (wt_ 3))), (h_p1, .inr (4, [.int x1, .int x2, .int x3, .ref h_p1_weights])), (h_p1_weights, .inl (cI, 100, .inl a4))]) (c_X4_copyFrom l D cI cC cO h_p1 (ha_ 0) h_p1_weights (hb_ 0) p1_places_ p1_start_ p1_fairPlaces_ p1_weights_ (pl_ 0) (st_ 0) (fp_ 0) (wt_ 0) x1 x2 x3 a4 hc) (cs_X0_25 X (by decide)) [10, 11, 2, 3] [0, 1, 4, 5, 6, 7, 8, 9] [0, 1, 10, 11, 2, 3, 4, 5, 6, 7, 8, 9] rfl rfl rfl rfl (by decide) rfl rfl 10 rfl rfl rfl rfl hl.1 rfl (Nat.le_of_ble_eq_true rfl) dX0_takeBack_27 ⟨Nat.zero_le _, Nat.zero_le _⟩ (fun H locs hw => ?_)
      obtain ⟨rfl, rfl, rfl, rfl, rfl⟩ := oi5 h
      exact r_retv X hw hr hlk dX0_takeBack_30
    replace h := ig cs0 h
    by_cases cs1 : (size_ - (1 : Int32)) = (1 : Int32)
    · replace h := ip cs1 h
      rw [cs1] at hw ⊢
      refine r_aald X hw 1 rfl (v := (ha_ 1)) (vp_lit (by decide)) rfl dX0_takeBack_26 ?_
      obtain ⟨x5, x6, x7, a8, hc, h⟩ := bd4_inv h
      refine r_cVv X hw (As := [.ref (ha_ 1)]) (rest := []) (wr := [(h0, .inr (0, [.ref h_this_states, .int (1 : Int32)])), (h_this_states, .inl (cO, 4, .inr (.inr (.inr (.inr (hst ha_)))))), (ha_ 0, .inr (4, [.int (pl_ 0), .int (st_ 0), .int (fp_ 0), .ref (hb_ 0)])), (hb_ 0, .inl (cI, 100, .inl (wt_ 0))), (ha_ 2, .inr (4, [.int (pl_ 2), .int (st_ 2), .int (fp_ 2), .ref (hb_ 2)])), (hb_ 2, .inl (cI, 100, .inl (wt_ 2))), (ha_ 3, .inr (4, [.int (pl_ 3), .int (st_ 3), .int (fp_ 3), .ref (hb_ 3)])), (hb_ 3, .inl (cI, 100, .inl (wt_ 3)))]) (ws' := [(h0, .inr (0, [.ref h_this_states, .int (1 : Int32)])), (h_this_states, .inl (cO, 4, .inr (.inr (.inr (.inr (hst ha_)))))), (ha_ 0, .inr (4, [.int (pl_ 0), .int (st_ 0), .int (fp_ 0), .ref (hb_ 0)])), (hb_ 0, .inl (cI, 100, .inl (wt_ 0))), (ha_ 1, .inr (4, [.int (pl_ 1), .int (st_ 1), .int (fp_ 1), .ref (hb_ 1)])), (hb_ 1, .inl (cI, 100, .inl (wt_ 1))), (ha_ 2, .inr (4, [.int (pl_ 2), .int (st_ 2), .int (fp_ 2), .ref (hb_ 2)])), (hb_ 2, .inl (cI, 100, .inl (wt_ 2))), (ha_ 3, .inr (4, [.int (pl_ 3), .int (st_ 3), .int (fp_ 3), .ref (hb_ 3)])), (hb_ 3, .inl (cI, 100, .inl (wt_ 3))), (h_p1, .inr (4, [.int x5, .int x6, .int x7, .ref h_p1_weights])), (h_p1_weights, .inl (cI, 100, .inl a8))]) (c_X4_copyFrom l D cI cC cO h_p1 (ha_ 1) h_p1_weights (hb_ 1) p1_places_ p1_start_ p1_fairPlaces_ p1_weights_ (pl_ 1) (st_ 1) (fp_ 1) (wt_ 1) x5 x6 x7 a8 hc) (cs_X0_25 X (by decide)) [10, 11, 4, 5] [0, 1, 2, 3, 6, 7, 8, 9] [0, 1, 2, 3, 10, 11, 4, 5, 6, 7, 8, 9] rfl rfl rfl rfl (by decide) rfl rfl 10 rfl rfl rfl rfl hl.1 rfl (Nat.le_of_ble_eq_true rfl) dX0_takeBack_27 ⟨Nat.zero_le _, Nat.zero_le _⟩ (fun H locs hw => ?_)
      obtain ⟨rfl, rfl, rfl, rfl, rfl⟩ := oi5 h
      exact r_retv X hw hr hlk dX0_takeBack_30
    replace h := ig cs1 h
    by_cases cs2 : (size_ - (1 : Int32)) = (2 : Int32)
    · replace h := ip cs2 h
      rw [cs2] at hw ⊢
      refine r_aald X hw 1 rfl (v := (ha_ 2)) (vp_lit (by decide)) rfl dX0_takeBack_26 ?_
      obtain ⟨x9, x10, x11, a12, hc, h⟩ := bd4_inv h
      refine r_cVv X hw (As := [.ref (ha_ 2)]) (rest := []) (wr := [(h0, .inr (0, [.ref h_this_states, .int (2 : Int32)])), (h_this_states, .inl (cO, 4, .inr (.inr (.inr (.inr (hst ha_)))))), (ha_ 0, .inr (4, [.int (pl_ 0), .int (st_ 0), .int (fp_ 0), .ref (hb_ 0)])), (hb_ 0, .inl (cI, 100, .inl (wt_ 0))), (ha_ 1, .inr (4, [.int (pl_ 1), .int (st_ 1), .int (fp_ 1), .ref (hb_ 1)])), (hb_ 1, .inl (cI, 100, .inl (wt_ 1))), (ha_ 3, .inr (4, [.int (pl_ 3), .int (st_ 3), .int (fp_ 3), .ref (hb_ 3)])), (hb_ 3, .inl (cI, 100, .inl (wt_ 3)))]) (ws' := [(h0, .inr (0, [.ref h_this_states, .int (2 : Int32)])), (h_this_states, .inl (cO, 4, .inr (.inr (.inr (.inr (hst ha_)))))), (ha_ 0, .inr (4, [.int (pl_ 0), .int (st_ 0), .int (fp_ 0), .ref (hb_ 0)])), (hb_ 0, .inl (cI, 100, .inl (wt_ 0))), (ha_ 1, .inr (4, [.int (pl_ 1), .int (st_ 1), .int (fp_ 1), .ref (hb_ 1)])), (hb_ 1, .inl (cI, 100, .inl (wt_ 1))), (ha_ 2, .inr (4, [.int (pl_ 2), .int (st_ 2), .int (fp_ 2), .ref (hb_ 2)])), (hb_ 2, .inl (cI, 100, .inl (wt_ 2))), (ha_ 3, .inr (4, [.int (pl_ 3), .int (st_ 3), .int (fp_ 3), .ref (hb_ 3)])), (hb_ 3, .inl (cI, 100, .inl (wt_ 3))), (h_p1, .inr (4, [.int x9, .int x10, .int x11, .ref h_p1_weights])), (h_p1_weights, .inl (cI, 100, .inl a12))]) (c_X4_copyFrom l D cI cC cO h_p1 (ha_ 2) h_p1_weights (hb_ 2) p1_places_ p1_start_ p1_fairPlaces_ p1_weights_ (pl_ 2) (st_ 2) (fp_ 2) (wt_ 2) x9 x10 x11 a12 hc) (cs_X0_25 X (by decide)) [10, 11, 6, 7] [0, 1, 2, 3, 4, 5, 8, 9] [0, 1, 2, 3, 4, 5, 10, 11, 6, 7, 8, 9] rfl rfl rfl rfl (by decide) rfl rfl 10 rfl rfl rfl rfl hl.1 rfl (Nat.le_of_ble_eq_true rfl) dX0_takeBack_27 ⟨Nat.zero_le _, Nat.zero_le _⟩ (fun H locs hw => ?_)
      obtain ⟨rfl, rfl, rfl, rfl, rfl⟩ := oi5 h
      exact r_retv X hw hr hlk dX0_takeBack_30
    replace h := ig cs2 h
    by_cases cs3 : (size_ - (1 : Int32)) = (3 : Int32)
    · replace h := ip cs3 h
      rw [cs3] at hw ⊢
      refine r_aald X hw 1 rfl (v := (ha_ 3)) (vp_lit (by decide)) rfl dX0_takeBack_26 ?_
      obtain ⟨x13, x14, x15, a16, hc, h⟩ := bd4_inv h
      refine r_cVv X hw (As := [.ref (ha_ 3)]) (rest := []) (wr := [(h0, .inr (0, [.ref h_this_states, .int (3 : Int32)])), (h_this_states, .inl (cO, 4, .inr (.inr (.inr (.inr (hst ha_)))))), (ha_ 0, .inr (4, [.int (pl_ 0), .int (st_ 0), .int (fp_ 0), .ref (hb_ 0)])), (hb_ 0, .inl (cI, 100, .inl (wt_ 0))), (ha_ 1, .inr (4, [.int (pl_ 1), .int (st_ 1), .int (fp_ 1), .ref (hb_ 1)])), (hb_ 1, .inl (cI, 100, .inl (wt_ 1))), (ha_ 2, .inr (4, [.int (pl_ 2), .int (st_ 2), .int (fp_ 2), .ref (hb_ 2)])), (hb_ 2, .inl (cI, 100, .inl (wt_ 2)))]) (ws' := [(h0, .inr (0, [.ref h_this_states, .int (3 : Int32)])), (h_this_states, .inl (cO, 4, .inr (.inr (.inr (.inr (hst ha_)))))), (ha_ 0, .inr (4, [.int (pl_ 0), .int (st_ 0), .int (fp_ 0), .ref (hb_ 0)])), (hb_ 0, .inl (cI, 100, .inl (wt_ 0))), (ha_ 1, .inr (4, [.int (pl_ 1), .int (st_ 1), .int (fp_ 1), .ref (hb_ 1)])), (hb_ 1, .inl (cI, 100, .inl (wt_ 1))), (ha_ 2, .inr (4, [.int (pl_ 2), .int (st_ 2), .int (fp_ 2), .ref (hb_ 2)])), (hb_ 2, .inl (cI, 100, .inl (wt_ 2))), (ha_ 3, .inr (4, [.int (pl_ 3), .int (st_ 3), .int (fp_ 3), .ref (hb_ 3)])), (hb_ 3, .inl (cI, 100, .inl (wt_ 3))), (h_p1, .inr (4, [.int x13, .int x14, .int x15, .ref h_p1_weights])), (h_p1_weights, .inl (cI, 100, .inl a16))]) (c_X4_copyFrom l D cI cC cO h_p1 (ha_ 3) h_p1_weights (hb_ 3) p1_places_ p1_start_ p1_fairPlaces_ p1_weights_ (pl_ 3) (st_ 3) (fp_ 3) (wt_ 3) x13 x14 x15 a16 hc) (cs_X0_25 X (by decide)) [10, 11, 8, 9] [0, 1, 2, 3, 4, 5, 6, 7] [0, 1, 2, 3, 4, 5, 6, 7, 10, 11, 8, 9] rfl rfl rfl rfl (by decide) rfl rfl 10 rfl rfl rfl rfl hl.1 rfl (Nat.le_of_ble_eq_true rfl) dX0_takeBack_27 ⟨Nat.zero_le _, Nat.zero_le _⟩ (fun H locs hw => ?_)
      obtain ⟨rfl, rfl, rfl, rfl, rfl⟩ := oi5 h
      exact r_retv X hw hr hlk dX0_takeBack_30
    replace h := ig cs3 h
    cases h
