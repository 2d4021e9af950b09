def rmX2_begin : Room := { frames := 2, cells := 0, slots := 0, locals := 43 }
section
variable {p : Program} {l : Launch} {e : Env} {R : Room} {s : State} {m : MethodId} {args : Array Value} {below : List Frame} {meth : Method} {c : Code} {H : Heap} {locs : List Loc} {cells slots : Nat} {Q : State → Prop}
variable {cc : ByteArray} {pc nL : Nat} {ls : Array Slot} {rest : List Value} {D : va_G} {cI cC cO : ClassId} {A : Nat → Prop} {ws : va_W} {H0 : Heap}
theorem cs_X2_59 (X : Ctx p m c cc nL s args RX2 D cI cC cO) (hR : rmX4_tieOf.frames + 1 ≤ R.frames ∧ 8 + (3 + 11) + rmX4_tieOf.locals ≤ R.locals) : CallW R s args RX2 RX4 59 yX4_tieOf cX4_tieOf 3 (some .int) (Wy yX4_tieOf cX4_tieOf 3 (some .int)) rmX4_tieOf 0 0 2 := cwV 2 X.1.2.2.2.2 (gi_V tw_286 tw_184 tw_185 tw_2 tw_186) rfl rfl rfl (by decide +kernel) hR
end
set_option maxHeartbeats 4000000 in
set_option maxRecDepth 100000 in
theorem c_X2_begin (l : Launch) (D : va_G) (cI cC cO : ClassId) (N : Nat) (h0 h_p1 h_this_members h_this_ties h_this_nears h_this_names h_this_nearnesses h_this_partings h_this_unions h_p1_weights : Nat) (places_ : Int32) (members_ ties_ : Nat → Int32) (p1_places_ p1_start_ p1_fairPlaces_ : Int32) (p1_weights_ : Nat → Int32) (places_' : Int32) (members_' : Nat → Int32) (ties_' : Nat → Int32) (h : f_X2_begin N members_ ties_ p1_places_ p1_weights_ = some (places_', members_', ties_')) : CV l yX2_begin (Wy yX2_begin cX2_begin 4 none) rmX2_begin D cI cC cO [.ref h0, .ref h_p1] [(h0, .inr (2, [.int places_, .ref h_this_members, .ref h_this_ties, .ref h_this_nears, .ref h_this_names, .ref h_this_nearnesses, .ref h_this_partings, .ref h_this_unions])), (h_this_members, .inl (cI, 10, .inl members_)), (h_this_ties, .inl (cI, 100, .inl ties_)), (h_p1, .inr (4, [.int p1_places_, .int p1_start_, .int p1_fairPlaces_, .ref h_p1_weights])), (h_p1_weights, .inl (cI, 100, .inl p1_weights_))] [(h0, .inr (2, [.int places_', .ref h_this_members, .ref h_this_ties, .ref h_this_nears, .ref h_this_names, .ref h_this_nearnesses, .ref h_this_partings, .ref h_this_unions])), (h_this_members, .inl (cI, 10, .inl members_')), (h_this_ties, .inl (cI, 100, .inl ties_')), (h_p1, .inr (4, [.int p1_places_, .int p1_start_, .int p1_fairPlaces_, .ref h_p1_weights])), (h_p1_weights, .inl (cI, 100, .inl p1_weights_))] := by
  refine enter_v RX2 (by decide) rfl (Nat.le_of_ble_eq_true rfl) ?_
  intro p e s m below meth c A X hr hlk hw ls hl
  have hx := X.1.1
  have hb := X.1.2.1
  have hl : lv_has ls 4 [(0, .ref h0), (1, .ref h_p1)] := hl
  unfold f_X2_begin at h
  refine lv_aload_n hx hb dX2_begin_0 rfl (lv_at hl 0 rfl) ?_
  refine lv_aload_n hx hb dX2_begin_1 rfl (lv_at hl 1 rfl) ?_
  refine fg_X2_58 X hw 3 rfl rfl dX2_begin_2 ?_
  refine fp_X2_9 X hw 0 rfl rfl dX2_begin_5 (fun H locs hw => ?_)
  have hw : Wd D A s.heap [(h0, .inr (2, [.int p1_places_, .ref h_this_members, .ref h_this_ties, .ref h_this_nears, .ref h_this_names, .ref h_this_nearnesses, .ref h_this_partings, .ref h_this_unions])), (h_this_members, .inl (cI, 10, .inl members_)), (h_this_ties, .inl (cI, 100, .inl ties_)), (h_p1, .inr (4, [.int p1_places_, .int p1_start_, .int p1_fairPlaces_, .ref h_p1_weights])), (h_p1_weights, .inl (cI, 100, .inl p1_weights_))] H locs := hw
  refine lv_iconst (v := 0) hx hb dX2_begin_8 (by decide) ?_
  refine lv_istore_n (lv' := [(2, .int (0 : Int32)), (0, .ref h0), (1, .ref h_p1)]) hx hb dX2_begin_9 rfl hl (by decide) rfl (fun ls hl => ?_)
  have E66 : ∀ (a14 a15 : Nat → Int32) (H : Heap) (locs : List Loc) (ls : Array Slot), f_X2_begin_E66 p1_places_ a14 a15 = some (places_', members_', ties_') → Wd D A s.heap [(h0, .inr (2, [.int p1_places_, .ref h_this_members, .ref h_this_ties, .ref h_this_nears, .ref h_this_names, .ref h_this_nearnesses, .ref h_this_partings, .ref h_this_unions])), (h_this_members, .inl (cI, 10, .inl a14)), (h_this_ties, .inl (cI, 100, .inl a15)), (h_p1, .inr (4, [.int p1_places_, .int p1_start_, .int p1_fairPlaces_, .ref h_p1_weights])), (h_p1_weights, .inl (cI, 100, .inl p1_weights_))] H locs → lv_has ls 4 [] → W p l e rmX2_begin s m ([.ref h0, .ref h_p1] : List Value).toArray below meth c H locs 0 0 (MQ below (Qv D [(h0, .inr (2, [.int places_', .ref h_this_members, .ref h_this_ties, .ref h_this_nears, .ref h_this_names, .ref h_this_nearnesses, .ref h_this_partings, .ref h_this_unions])), (h_this_members, .inl (cI, 10, .inl members_')), (h_this_ties, .inl (cI, 100, .inl ties_')), (h_p1, .inr (4, [.int p1_places_, .int p1_start_, .int p1_fairPlaces_, .ref h_p1_weights])), (h_p1_weights, .inl (cI, 100, .inl p1_weights_))] A) ([.ref h0, .ref h_p1] : List Value).toArray s 0 0 A) (F0 m 66 ls []) := by
    intro a14 a15 H locs ls h hw hl
    unfold f_X2_begin_E66 at h
    obtain ⟨rfl, rfl, rfl⟩ := oi3 h
    exact r_retv X hw hr hlk dX2_begin_66
  have L10 : ∀ (k11 : (Nat → Int32) → (Nat → Int32) → Option (Int32 × (Nat → Int32) × (Nat → Int32))), (∀ (a14 a15 : Nat → Int32) (H : Heap) (locs : List Loc) (ls : Array Slot), k11 a14 a15 = some (places_', members_', ties_') → Wd D A s.heap [(h0, .inr (2, [.int p1_places_, .ref h_this_members, .ref h_this_ties, .ref h_this_nears, .ref h_this_names, .ref h_this_nearnesses, .ref h_this_partings, .ref h_this_unions])), (h_this_members, .inl (cI, 10, .inl a14)), (h_this_ties, .inl (cI, 100, .inl a15)), (h_p1, .inr (4, [.int p1_places_, .int p1_start_, .int p1_fairPlaces_, .ref h_p1_weights])), (h_p1_weights, .inl (cI, 100, .inl p1_weights_))] H locs → lv_has ls 4 [] → W p l e rmX2_begin s m ([.ref h0, .ref h_p1] : List Value).toArray below meth c H locs 0 0 (MQ below (Qv D [(h0, .inr (2, [.int places_', .ref h_this_members, .ref h_this_ties, .ref h_this_nears, .ref h_this_names, .ref h_this_nearnesses, .ref h_this_partings, .ref h_this_unions])), (h_this_members, .inl (cI, 10, .inl members_')), (h_this_ties, .inl (cI, 100, .inl ties_')), (h_p1, .inr (4, [.int p1_places_, .int p1_start_, .int p1_fairPlaces_, .ref h_p1_weights])), (h_p1_weights, .inl (cI, 100, .inl p1_weights_))] A) ([.ref h0, .ref h_p1] : List Value).toArray s 0 0 A) (F0 m 66 ls [])) → ∀ (n13 : Nat), ∀ (x1 : Int32) (a2 a3 : Nat → Int32) (H : Heap) (locs : List Loc) (ls : Array Slot), f_X2_begin_L10 N p1_places_ p1_weights_ k11 n13 x1 a2 a3 = some (places_', members_', ties_') → Wd D A s.heap [(h0, .inr (2, [.int p1_places_, .ref h_this_members, .ref h_this_ties, .ref h_this_nears, .ref h_this_names, .ref h_this_nearnesses, .ref h_this_partings, .ref h_this_unions])), (h_this_members, .inl (cI, 10, .inl a2)), (h_this_ties, .inl (cI, 100, .inl a3)), (h_p1, .inr (4, [.int p1_places_, .int p1_start_, .int p1_fairPlaces_, .ref h_p1_weights])), (h_p1_weights, .inl (cI, 100, .inl p1_weights_))] H locs → lv_has ls 4 [(0, .ref h0), (1, .ref h_p1), (2, .int x1)] → W p l e rmX2_begin s m ([.ref h0, .ref h_p1] : List Value).toArray below meth c H locs 0 0 (MQ below (Qv D [(h0, .inr (2, [.int places_', .ref h_this_members, .ref h_this_ties, .ref h_this_nears, .ref h_this_names, .ref h_this_nearnesses, .ref h_this_partings, .ref h_this_unions])), (h_this_members, .inl (cI, 10, .inl members_')), (h_this_ties, .inl (cI, 100, .inl ties_')), (h_p1, .inr (4, [.int p1_places_, .int p1_start_, .int p1_fairPlaces_, .ref h_p1_weights])), (h_p1_weights, .inl (cI, 100, .inl p1_weights_))] A) ([.ref h0, .ref h_p1] : List Value).toArray s 0 0 A) (F0 m 10 ls []) := by
    intro k11 hk10 n13
    induction n13 with
    | zero => intro x1 a2 a3 H locs ls h; cases h
    | succ n13 ih10 =>
      intro x1 a2 a3 H locs ls h hw hl
      rw [f_X2_begin_L10] at h
      refine lv_iload_n hx hb dX2_begin_10 rfl (lv_at hl 2 rfl) ?_
      refine lv_aload_n hx hb dX2_begin_11 rfl (lv_at hl 0 rfl) ?_
      refine fg_X2_9 X hw 0 rfl rfl dX2_begin_12 ?_
      refine lv_icmp_ge (tgt := 66) hx hb dX2_begin_15 (by decide) (fun c1 => ?_) (fun c1 => ?_)
      · replace h := ip c1 h
        exact hk10 a2 a3 _ _ _ h hw (lv_sub hl [] rfl)
      · replace h := ig c1 h
        refine lv_aload_n hx hb dX2_begin_18 rfl (lv_at hl 0 rfl) ?_
        refine fg_X2_15 X hw 0 rfl rfl dX2_begin_19 ?_
        refine lv_iload_n hx hb dX2_begin_22 rfl (lv_at hl 2 rfl) ?_
        refine lv_iconst (v := 1) hx hb dX2_begin_23 (by decide) ?_
        refine lv_iload_n hx hb dX2_begin_24 rfl (lv_at hl 2 rfl) ?_
        refine lv_ishl hx hb dX2_begin_25 ?_
        obtain ⟨b1, h⟩ := chk_inv h
        refine r_iast X hw 1 rfl b1 rfl dX2_begin_26 (fun H locs hw => ?_)
        have hw : Wd D A s.heap [(h0, .inr (2, [.int p1_places_, .ref h_this_members, .ref h_this_ties, .ref h_this_nears, .ref h_this_names, .ref h_this_nearnesses, .ref h_this_partings, .ref h_this_unions])), (h_this_members, .inl (cI, 10, .inl (upd a2 (x1).toNatClampNeg ((1 : Int32) <<< (x1 &&& (31 : Int32)))))), (h_this_ties, .inl (cI, 100, .inl a3)), (h_p1, .inr (4, [.int p1_places_, .int p1_start_, .int p1_fairPlaces_, .ref h_p1_weights])), (h_p1_weights, .inl (cI, 100, .inl p1_weights_))] H locs := hw
        refine lv_iconst (v := 0) hx hb dX2_begin_27 (by decide) ?_
        refine lv_istore_n (lv' := [(3, .int (0 : Int32)), (0, .ref h0), (1, .ref h_p1), (2, .int x1)]) hx hb dX2_begin_28 rfl hl (by decide) rfl (fun ls hl => ?_)
        have E60 : ∀ (a10 : Nat → Int32) (H : Heap) (locs : List Loc) (ls : Array Slot), f_X2_begin_E60 (f_X2_begin_L10 N p1_places_ p1_weights_ k11 n13) x1 a2 a10 = some (places_', members_', ties_') → Wd D A s.heap [(h0, .inr (2, [.int p1_places_, .ref h_this_members, .ref h_this_ties, .ref h_this_nears, .ref h_this_names, .ref h_this_nearnesses, .ref h_this_partings, .ref h_this_unions])), (h_this_members, .inl (cI, 10, .inl (upd a2 (x1).toNatClampNeg ((1 : Int32) <<< (x1 &&& (31 : Int32)))))), (h_this_ties, .inl (cI, 100, .inl a10)), (h_p1, .inr (4, [.int p1_places_, .int p1_start_, .int p1_fairPlaces_, .ref h_p1_weights])), (h_p1_weights, .inl (cI, 100, .inl p1_weights_))] H locs → lv_has ls 4 [(0, .ref h0), (1, .ref h_p1), (2, .int x1)] → W p l e rmX2_begin s m ([.ref h0, .ref h_p1] : List Value).toArray below meth c H locs 0 0 (MQ below (Qv D [(h0, .inr (2, [.int places_', .ref h_this_members, .ref h_this_ties, .ref h_this_nears, .ref h_this_names, .ref h_this_nearnesses, .ref h_this_partings, .ref h_this_unions])), (h_this_members, .inl (cI, 10, .inl members_')), (h_this_ties, .inl (cI, 100, .inl ties_')), (h_p1, .inr (4, [.int p1_places_, .int p1_start_, .int p1_fairPlaces_, .ref h_p1_weights])), (h_p1_weights, .inl (cI, 100, .inl p1_weights_))] A) ([.ref h0, .ref h_p1] : List Value).toArray s 0 0 A) (F0 m 60 ls []) := by
          intro a10 H locs ls h hw hl
          unfold f_X2_begin_E60 at h
          refine lv_iinc (v := (x1 + (1 : Int32))) (lv' := [(2, .int (x1 + (1 : Int32))), (0, .ref h0), (1, .ref h_p1)]) hx hb dX2_begin_60 hl (k := 2) rfl rfl (by decide) rfl (fun ls hl => ?_)
          refine lv_goto (tgt := 10) hx hb dX2_begin_63 (by decide) ?_
          exact ih10 (x1 + (1 : Int32)) (upd a2 (x1).toNatClampNeg ((1 : Int32) <<< (x1 &&& (31 : Int32)))) a10 _ _ _ h hw (lv_sub hl [1, 2, 0] rfl)
        have L29 : ∀ (k7 : (Nat → Int32) → Option (Int32 × (Nat → Int32) × (Nat → Int32))), (∀ (a10 : Nat → Int32) (H : Heap) (locs : List Loc) (ls : Array Slot), k7 a10 = some (places_', members_', ties_') → Wd D A s.heap [(h0, .inr (2, [.int p1_places_, .ref h_this_members, .ref h_this_ties, .ref h_this_nears, .ref h_this_names, .ref h_this_nearnesses, .ref h_this_partings, .ref h_this_unions])), (h_this_members, .inl (cI, 10, .inl (upd a2 (x1).toNatClampNeg ((1 : Int32) <<< (x1 &&& (31 : Int32)))))), (h_this_ties, .inl (cI, 100, .inl a10)), (h_p1, .inr (4, [.int p1_places_, .int p1_start_, .int p1_fairPlaces_, .ref h_p1_weights])), (h_p1_weights, .inl (cI, 100, .inl p1_weights_))] H locs → lv_has ls 4 [(0, .ref h0), (1, .ref h_p1), (2, .int x1)] → W p l e rmX2_begin s m ([.ref h0, .ref h_p1] : List Value).toArray below meth c H locs 0 0 (MQ below (Qv D [(h0, .inr (2, [.int places_', .ref h_this_members, .ref h_this_ties, .ref h_this_nears, .ref h_this_names, .ref h_this_nearnesses, .ref h_this_partings, .ref h_this_unions])), (h_this_members, .inl (cI, 10, .inl members_')), (h_this_ties, .inl (cI, 100, .inl ties_')), (h_p1, .inr (4, [.int p1_places_, .int p1_start_, .int p1_fairPlaces_, .ref h_p1_weights])), (h_p1_weights, .inl (cI, 100, .inl p1_weights_))] A) ([.ref h0, .ref h_p1] : List Value).toArray s 0 0 A) (F0 m 60 ls [])) → ∀ (n9 : Nat), ∀ (x4 : Int32) (a5 : Nat → Int32) (H : Heap) (locs : List Loc) (ls : Array Slot), f_X2_begin_L29 p1_places_ x1 p1_weights_ k7 n9 x4 a5 = some (places_', members_', ties_') → Wd D A s.heap [(h0, .inr (2, [.int p1_places_, .ref h_this_members, .ref h_this_ties, .ref h_this_nears, .ref h_this_names, .ref h_this_nearnesses, .ref h_this_partings, .ref h_this_unions])), (h_this_members, .inl (cI, 10, .inl (upd a2 (x1).toNatClampNeg ((1 : Int32) <<< (x1 &&& (31 : Int32)))))), (h_this_ties, .inl (cI, 100, .inl a5)), (h_p1, .inr (4, [.int p1_places_, .int p1_start_, .int p1_fairPlaces_, .ref h_p1_weights])), (h_p1_weights, .inl (cI, 100, .inl p1_weights_))] H locs → lv_has ls 4 [(0, .ref h0), (1, .ref h_p1), (2, .int x1), (3, .int x4)] → W p l e rmX2_begin s m ([.ref h0, .ref h_p1] : List Value).toArray below meth c H locs 0 0 (MQ below (Qv D [(h0, .inr (2, [.int places_', .ref h_this_members, .ref h_this_ties, .ref h_this_nears, .ref h_this_names, .ref h_this_nearnesses, .ref h_this_partings, .ref h_this_unions])), (h_this_members, .inl (cI, 10, .inl members_')), (h_this_ties, .inl (cI, 100, .inl ties_')), (h_p1, .inr (4, [.int p1_places_, .int p1_start_, .int p1_fairPlaces_, .ref h_p1_weights])), (h_p1_weights, .inl (cI, 100, .inl p1_weights_))] A) ([.ref h0, .ref h_p1] : List Value).toArray s 0 0 A) (F0 m 29 ls []) := by
          intro k7 hk29 n9
          induction n9 with
          | zero => intro x4 a5 H locs ls h; cases h
          | succ n9 ih29 =>
            intro x4 a5 H locs ls h hw hl
            rw [f_X2_begin_L29] at h
            refine lv_iload_n hx hb dX2_begin_29 rfl (lv_at hl 3 rfl) ?_
            refine lv_aload_n hx hb dX2_begin_30 rfl (lv_at hl 0 rfl) ?_
            refine fg_X2_9 X hw 0 rfl rfl dX2_begin_31 ?_
            refine lv_icmp_ge (tgt := 60) hx hb dX2_begin_34 (by decide) (fun c1 => ?_) (fun c1 => ?_)
            · replace h := ip c1 h
              exact hk29 a5 _ _ _ h hw (lv_sub hl [0, 1, 2] rfl)
            · replace h := ig c1 h
              refine lv_aload_n hx hb dX2_begin_37 rfl (lv_at hl 0 rfl) ?_
              refine fg_X2_19 X hw 0 rfl rfl dX2_begin_38 ?_
              refine lv_iload_n hx hb dX2_begin_41 rfl (lv_at hl 2 rfl) ?_
              refine lv_bipush (v := 10) hx hb dX2_begin_42 (by decide) ?_
              refine lv_imul hx hb dX2_begin_44 ?_
              refine lv_iload_n hx hb dX2_begin_45 rfl (lv_at hl 3 rfl) ?_
              refine lv_iadd hx hb dX2_begin_46 ?_
              refine lv_aload_n hx hb dX2_begin_47 rfl (lv_at hl 1 rfl) ?_
              refine lv_iload_n hx hb dX2_begin_48 rfl (lv_at hl 2 rfl) ?_
              refine lv_iload_n hx hb dX2_begin_49 rfl (lv_at hl 3 rfl) ?_
              obtain ⟨r6, hc, h⟩ := bd1_inv h
              refine r_cVi X hw (As := [.int x1, .int x4]) (rest := [.int ((x1 * (10 : Int32)) + x4), .ref h_this_ties]) (wr := [(h0, .inr (2, [.int p1_places_, .ref h_this_members, .ref h_this_ties, .ref h_this_nears, .ref h_this_names, .ref h_this_nearnesses, .ref h_this_partings, .ref h_this_unions])), (h_this_members, .inl (cI, 10, .inl (upd a2 (x1).toNatClampNeg ((1 : Int32) <<< (x1 &&& (31 : Int32)))))), (h_this_ties, .inl (cI, 100, .inl a5))]) (ws' := [(h0, .inr (2, [.int p1_places_, .ref h_this_members, .ref h_this_ties, .ref h_this_nears, .ref h_this_names, .ref h_this_nearnesses, .ref h_this_partings, .ref h_this_unions])), (h_this_members, .inl (cI, 10, .inl (upd a2 (x1).toNatClampNeg ((1 : Int32) <<< (x1 &&& (31 : Int32)))))), (h_this_ties, .inl (cI, 100, .inl a5)), (h_p1, .inr (4, [.int p1_places_, .int p1_start_, .int p1_fairPlaces_, .ref h_p1_weights])), (h_p1_weights, .inl (cI, 100, .inl p1_weights_))]) (c_X4_tieOf l D cI cC cO h_p1 h_p1_weights x1 x4 p1_places_ p1_start_ p1_fairPlaces_ p1_weights_ r6 hc) (cs_X2_59 X (by decide)) [3, 4] [0, 1, 2] [0, 1, 2, 3, 4] rfl rfl rfl rfl (by decide) rfl rfl 3 rfl rfl rfl rfl hl.1 rfl (Nat.le_of_ble_eq_true rfl) dX2_begin_50 ⟨Nat.zero_le _, Nat.zero_le _⟩ (fun H locs hw => ?_)
              obtain ⟨b1, h⟩ := chk_inv h
              refine r_iast X hw 2 rfl b1 rfl dX2_begin_53 (fun H locs hw => ?_)
              have hw : Wd D A s.heap [(h0, .inr (2, [.int p1_places_, .ref h_this_members, .ref h_this_ties, .ref h_this_nears, .ref h_this_names, .ref h_this_nearnesses, .ref h_this_partings, .ref h_this_unions])), (h_this_members, .inl (cI, 10, .inl (upd a2 (x1).toNatClampNeg ((1 : Int32) <<< (x1 &&& (31 : Int32)))))), (h_this_ties, .inl (cI, 100, .inl (upd a5 (((x1 * (10 : Int32)) + x4)).toNatClampNeg r6))), (h_p1, .inr (4, [.int p1_places_, .int p1_start_, .int p1_fairPlaces_, .ref h_p1_weights])), (h_p1_weights, .inl (cI, 100, .inl p1_weights_))] H locs := hw
              refine lv_iinc (v := (x4 + (1 : Int32))) (lv' := [(3, .int (x4 + (1 : Int32))), (0, .ref h0), (1, .ref h_p1), (2, .int x1)]) hx hb dX2_begin_54 hl (k := 3) rfl rfl (by decide) rfl (fun ls hl => ?_)
              refine lv_goto (tgt := 29) hx hb dX2_begin_57 (by decide) ?_
              exact ih29 (x4 + (1 : Int32)) (upd a5 (((x1 * (10 : Int32)) + x4)).toNatClampNeg r6) _ _ _ h hw (lv_sub hl [1, 2, 3, 0] rfl)
        exact L29 (fun a10 => f_X2_begin_E60 (f_X2_begin_L10 N p1_places_ p1_weights_ k11 n13) x1 a2 a10) (fun a10 H locs ls h hw hl => E60 a10 H locs ls h hw hl) N (0 : Int32) a3 _ _ _ h hw (lv_sub hl [1, 2, 3, 0] rfl)
  exact L10 (fun a14 a15 => f_X2_begin_E66 p1_places_ a14 a15) (fun a14 a15 H locs ls h hw hl => E66 a14 a15 H locs ls h hw hl) N (0 : Int32) members_ ties_ _ _ _ h hw (lv_sub hl [1, 2, 0] rfl)
def rmX2_nameOfLumpWith : Room := { frames := 1, cells := 0, slots := 0, locals := 21 }
section
variable {p : Program} {l : Launch} {e : Env} {R : Room} {s : State} {m : MethodId} {args : Array Value} {below : List Frame} {meth : Method} {c : Code} {H : Heap} {locs : List Loc} {cells slots : Nat} {Q : State → Prop}
variable {cc : ByteArray} {pc nL : Nat} {ls : Array Slot} {rest : List Value} {D : va_G} {cI cC cO : ClassId} {A : Nat → Prop} {ws : va_W} {H0 : Heap}
theorem cs_X2_63 (X : Ctx p m c cc nL s args RX2 D cI cC cO) (hR : rmX5_holds.frames + 1 ≤ R.frames ∧ 8 + (2 + 11) + rmX5_holds.locals ≤ R.locals) : va_CN R s args RX2 63 yX5_holds RX5 cX5_holds 2 (some .boolean) (Wy yX5_holds cX5_holds 2 (some .boolean)) rmX5_holds 0 0 2 ∧ (Cond.static yX5_holds).before args s = true ∧ True := ⟨va_cnB 2 X.1.2.2.2.2 (gi_all tw_293) rfl rfl rfl X.2.2.1.g11 (X.1.2.2.2.2 _ tw_1) (by decide +kernel) hR, X.1.2.2.2.2 _ tw_292, trivial⟩
end
set_option maxHeartbeats 4000000 in
set_option maxRecDepth 100000 in
theorem c_X2_nameOfLumpWith (l : Launch) (D : va_G) (cI cC cO : ClassId) (N : Nat) (h0 h_this_members h_this_ties h_this_nears h_this_names h_this_nearnesses h_this_partings h_this_unions : Nat) (p1 places_ : Int32) (members_ : Nat → Int32) (r_ : Int32) (h : f_X2_nameOfLumpWith N p1 places_ members_ = some r_) : CI l yX2_nameOfLumpWith (Wy yX2_nameOfLumpWith cX2_nameOfLumpWith 3 (some .int)) rmX2_nameOfLumpWith D cI cC cO [.ref h0, .int p1] [(h0, .inr (2, [.int places_, .ref h_this_members, .ref h_this_ties, .ref h_this_nears, .ref h_this_names, .ref h_this_nearnesses, .ref h_this_partings, .ref h_this_unions])), (h_this_members, .inl (cI, 10, .inl members_))] r_ [(h0, .inr (2, [.int places_, .ref h_this_members, .ref h_this_ties, .ref h_this_nears, .ref h_this_names, .ref h_this_nearnesses, .ref h_this_partings, .ref h_this_unions])), (h_this_members, .inl (cI, 10, .inl members_))] := by
  refine enter_i RX2 (by decide) rfl (Nat.le_of_ble_eq_true rfl) ?_
  intro p e s m below meth c A X hr hlk hw ls hl
  have hx := X.1.1
  have hb := X.1.2.1
  have hl : lv_has ls 3 [(0, .ref h0), (1, .int p1)] := hl
  unfold f_X2_nameOfLumpWith at h
  refine lv_iconst (v := 0) hx hb dX2_nameOfLumpWith_0 (by decide) ?_
  refine lv_istore_n (lv' := [(2, .int (0 : Int32)), (0, .ref h0), (1, .int p1)]) hx hb dX2_nameOfLumpWith_1 rfl hl (by decide) rfl (fun ls hl => ?_)
  have E31 : ∀ (H : Heap) (locs : List Loc) (ls : Array Slot), f_X2_nameOfLumpWith_E31 = some r_ → Wd D A s.heap [(h0, .inr (2, [.int places_, .ref h_this_members, .ref h_this_ties, .ref h_this_nears, .ref h_this_names, .ref h_this_nearnesses, .ref h_this_partings, .ref h_this_unions])), (h_this_members, .inl (cI, 10, .inl members_))] H locs → lv_has ls 3 [] → W p l e rmX2_nameOfLumpWith s m ([.ref h0, .int p1] : List Value).toArray below meth c H locs 0 0 (MQ below (Qi D r_ [(h0, .inr (2, [.int places_, .ref h_this_members, .ref h_this_ties, .ref h_this_nears, .ref h_this_names, .ref h_this_nearnesses, .ref h_this_partings, .ref h_this_unions])), (h_this_members, .inl (cI, 10, .inl members_))] A) ([.ref h0, .int p1] : List Value).toArray s 0 0 A) (F0 m 31 ls []) := by
    intro H locs ls h hw hl
    unfold f_X2_nameOfLumpWith_E31 at h
    refine lv_iconst (v := 0) hx hb dX2_nameOfLumpWith_31 (by decide) ?_
    obtain rfl := oi1 h
    exact r_ret X hw hr hlk dX2_nameOfLumpWith_32
  have L2 : ∀ (k3 : Option (Int32)), (∀ (H : Heap) (locs : List Loc) (ls : Array Slot), k3 = some r_ → Wd D A s.heap [(h0, .inr (2, [.int places_, .ref h_this_members, .ref h_this_ties, .ref h_this_nears, .ref h_this_names, .ref h_this_nearnesses, .ref h_this_partings, .ref h_this_unions])), (h_this_members, .inl (cI, 10, .inl members_))] H locs → lv_has ls 3 [] → W p l e rmX2_nameOfLumpWith s m ([.ref h0, .int p1] : List Value).toArray below meth c H locs 0 0 (MQ below (Qi D r_ [(h0, .inr (2, [.int places_, .ref h_this_members, .ref h_this_ties, .ref h_this_nears, .ref h_this_names, .ref h_this_nearnesses, .ref h_this_partings, .ref h_this_unions])), (h_this_members, .inl (cI, 10, .inl members_))] A) ([.ref h0, .int p1] : List Value).toArray s 0 0 A) (F0 m 31 ls [])) → ∀ (n5 : Nat), ∀ (x1 : Int32) (H : Heap) (locs : List Loc) (ls : Array Slot), f_X2_nameOfLumpWith_L2 places_ members_ p1 k3 n5 x1 = some r_ → Wd D A s.heap [(h0, .inr (2, [.int places_, .ref h_this_members, .ref h_this_ties, .ref h_this_nears, .ref h_this_names, .ref h_this_nearnesses, .ref h_this_partings, .ref h_this_unions])), (h_this_members, .inl (cI, 10, .inl members_))] H locs → lv_has ls 3 [(0, .ref h0), (1, .int p1), (2, .int x1)] → W p l e rmX2_nameOfLumpWith s m ([.ref h0, .int p1] : List Value).toArray below meth c H locs 0 0 (MQ below (Qi D r_ [(h0, .inr (2, [.int places_, .ref h_this_members, .ref h_this_ties, .ref h_this_nears, .ref h_this_names, .ref h_this_nearnesses, .ref h_this_partings, .ref h_this_unions])), (h_this_members, .inl (cI, 10, .inl members_))] A) ([.ref h0, .int p1] : List Value).toArray s 0 0 A) (F0 m 2 ls []) := by
    intro k3 hk2 n5
    induction n5 with
    | zero => intro x1 H locs ls h; cases h
    | succ n5 ih2 =>
      intro x1 H locs ls h hw hl
      rw [f_X2_nameOfLumpWith_L2] at h
      refine lv_iload_n hx hb dX2_nameOfLumpWith_2 rfl (lv_at hl 2 rfl) ?_
      refine lv_aload_n hx hb dX2_nameOfLumpWith_3 rfl (lv_at hl 0 rfl) ?_
      refine fg_X2_9 X hw 0 rfl rfl dX2_nameOfLumpWith_4 ?_
      refine lv_icmp_ge (tgt := 31) hx hb dX2_nameOfLumpWith_7 (by decide) (fun c1 => ?_) (fun c1 => ?_)
      · replace h := ip c1 h
        exact hk2 _ _ _ h hw (lv_sub hl [] rfl)
      · replace h := ig c1 h
        refine lv_aload_n hx hb dX2_nameOfLumpWith_10 rfl (lv_at hl 0 rfl) ?_
        refine fg_X2_15 X hw 0 rfl rfl dX2_nameOfLumpWith_11 ?_
        refine lv_iload_n hx hb dX2_nameOfLumpWith_14 rfl (lv_at hl 2 rfl) ?_
        obtain ⟨b1, h⟩ := chk_inv h
        refine r_iald X hw 1 rfl b1 rfl dX2_nameOfLumpWith_15 ?_
        refine lv_iload_n hx hb dX2_nameOfLumpWith_16 rfl (lv_at hl 1 rfl) ?_
        obtain ⟨r2, hc, h⟩ := bd1_inv h
        refine r_cNi X hw (As := [.int (members_ (x1).toNatClampNeg), .int p1]) (rest := []) (c_X5_holds l D cI cC cO (members_ (x1).toNatClampNeg) p1 r2 hc) (cs_X2_63 X (by decide)) rfl hl.1 rfl (Nat.le_of_ble_eq_true rfl) dX2_nameOfLumpWith_17 ⟨Nat.zero_le _, Nat.zero_le _⟩ (fun H locs hw => ?_)
        refine lv_if_eq (tgt := 25) hx hb dX2_nameOfLumpWith_20 (by decide) (fun c1 => ?_) (fun c1 => ?_)
        · replace h := ip c1 h
          refine lv_iinc (v := (x1 + (1 : Int32))) (lv' := [(2, .int (x1 + (1 : Int32))), (0, .ref h0), (1, .int p1)]) hx hb dX2_nameOfLumpWith_25 hl (k := 2) rfl rfl (by decide) rfl (fun ls hl => ?_)
          refine lv_goto (tgt := 2) hx hb dX2_nameOfLumpWith_28 (by decide) ?_
          exact ih2 (x1 + (1 : Int32)) _ _ _ h hw (lv_sub hl [1, 2, 0] rfl)
        · replace h := ig c1 h
          refine lv_iload_n hx hb dX2_nameOfLumpWith_23 rfl (lv_at hl 2 rfl) ?_
          obtain rfl := oi1 h
          exact r_ret X hw hr hlk dX2_nameOfLumpWith_24
  exact L2 (f_X2_nameOfLumpWith_E31) (fun H locs ls h hw hl => E31 H locs ls h hw hl) N (0 : Int32) _ _ _ h hw (lv_sub hl [1, 2, 0] rfl)
def rmX2_lumpsIn : Room := { frames := 0, cells := 0, slots := 0, locals := 0 }
set_option maxHeartbeats 4000000 in
set_option maxRecDepth 100000 in
theorem c_X2_lumpsIn (l : Launch) (D : va_G) (cI cC cO : ClassId) (h0 h_this_members h_this_ties h_this_nears h_this_names h_this_nearnesses h_this_partings h_this_unions : Nat) (p1 places_ : Int32) (r_ : Int32) (h : f_X2_lumpsIn p1 places_ = some r_) : CI l yX2_lumpsIn (Wy yX2_lumpsIn cX2_lumpsIn 2 (some .int)) rmX2_lumpsIn D cI cC cO [.ref h0, .int p1] [(h0, .inr (2, [.int places_, .ref h_this_members, .ref h_this_ties, .ref h_this_nears, .ref h_this_names, .ref h_this_nearnesses, .ref h_this_partings, .ref h_this_unions]))] r_ [(h0, .inr (2, [.int places_, .ref h_this_members, .ref h_this_ties, .ref h_this_nears, .ref h_this_names, .ref h_this_nearnesses, .ref h_this_partings, .ref h_this_unions]))] := by
  refine enter_i RX2 (by decide) rfl (Nat.le_of_ble_eq_true rfl) ?_
  intro p e s m below meth c A X hr hlk hw ls hl
  have hx := X.1.1
  have hb := X.1.2.1
  have hl : lv_has ls 2 [(0, .ref h0), (1, .int p1)] := hl
  unfold f_X2_lumpsIn at h
  refine lv_aload_n hx hb dX2_lumpsIn_0 rfl (lv_at hl 0 rfl) ?_
  refine fg_X2_9 X hw 0 rfl rfl dX2_lumpsIn_1 ?_
  refine lv_iload_n hx hb dX2_lumpsIn_4 rfl (lv_at hl 1 rfl) ?_
  refine lv_isub hx hb dX2_lumpsIn_5 ?_
  obtain rfl := oi1 h
  exact r_ret X hw hr hlk dX2_lumpsIn_6
def rmX2_drawNearer : Room := { frames := 1, cells := 0, slots := 0, locals := 21 }
set_option maxHeartbeats 4000000 in
set_option maxRecDepth 100000 in
theorem c_X2_drawNearer (l : Launch) (D : va_G) (cI cC cO : ClassId) (N : Nat) (h0 h_this_members h_this_ties h_this_nears h_this_names h_this_nearnesses h_this_partings h_this_unions : Nat) (p1 p2 places_ : Int32) (ties_ nears_ : Nat → Int32) (nears_' : Nat → Int32) (h : f_X2_drawNearer N p1 p2 places_ ties_ nears_ = some nears_') : CV l yX2_drawNearer (Wy yX2_drawNearer cX2_drawNearer 4 none) rmX2_drawNearer D cI cC cO [.ref h0, .int p1, .int p2] [(h0, .inr (2, [.int places_, .ref h_this_members, .ref h_this_ties, .ref h_this_nears, .ref h_this_names, .ref h_this_nearnesses, .ref h_this_partings, .ref h_this_unions])), (h_this_ties, .inl (cI, 100, .inl ties_)), (h_this_nears, .inl (cI, 10, .inl nears_))] [(h0, .inr (2, [.int places_, .ref h_this_members, .ref h_this_ties, .ref h_this_nears, .ref h_this_names, .ref h_this_nearnesses, .ref h_this_partings, .ref h_this_unions])), (h_this_ties, .inl (cI, 100, .inl ties_)), (h_this_nears, .inl (cI, 10, .inl nears_'))] := by
  refine enter_v RX2 (by decide) rfl (Nat.le_of_ble_eq_true rfl) ?_
  intro p e s m below meth c A X hr hlk hw ls hl
  have hx := X.1.1
  have hb := X.1.2.1
  have hl : lv_has ls 4 [(0, .ref h0), (1, .int p1), (2, .int p2)] := hl
  unfold f_X2_drawNearer at h
  refine lv_iconst (v := 0) hx hb dX2_drawNearer_0 (by decide) ?_
  refine lv_istore_n (lv' := [(3, .int (0 : Int32)), (0, .ref h0), (1, .int p1), (2, .int p2)]) hx hb dX2_drawNearer_1 rfl hl (by decide) rfl (fun ls hl => ?_)
  have E44 : ∀ (a8 : Nat → Int32) (H : Heap) (locs : List Loc) (ls : Array Slot), f_X2_drawNearer_E44 a8 = some nears_' → Wd D A s.heap [(h0, .inr (2, [.int places_, .ref h_this_members, .ref h_this_ties, .ref h_this_nears, .ref h_this_names, .ref h_this_nearnesses, .ref h_this_partings, .ref h_this_unions])), (h_this_ties, .inl (cI, 100, .inl ties_)), (h_this_nears, .inl (cI, 10, .inl a8))] H locs → lv_has ls 4 [] → W p l e rmX2_drawNearer s m ([.ref h0, .int p1, .int p2] : List Value).toArray below meth c H locs 0 0 (MQ below (Qv D [(h0, .inr (2, [.int places_, .ref h_this_members, .ref h_this_ties, .ref h_this_nears, .ref h_this_names, .ref h_this_nearnesses, .ref h_this_partings, .ref h_this_unions])), (h_this_ties, .inl (cI, 100, .inl ties_)), (h_this_nears, .inl (cI, 10, .inl nears_'))] A) ([.ref h0, .int p1, .int p2] : List Value).toArray s 0 0 A) (F0 m 44 ls []) := by
    intro a8 H locs ls h hw hl
    unfold f_X2_drawNearer_E44 at h
    obtain rfl := oi1 h
    exact r_retv X hw hr hlk dX2_drawNearer_44
  have L2 : ∀ (k5 : (Nat → Int32) → Option ((Nat → Int32))), (∀ (a8 : Nat → Int32) (H : Heap) (locs : List Loc) (ls : Array Slot), k5 a8 = some nears_' → Wd D A s.heap [(h0, .inr (2, [.int places_, .ref h_this_members, .ref h_this_ties, .ref h_this_nears, .ref h_this_names, .ref h_this_nearnesses, .ref h_this_partings, .ref h_this_unions])), (h_this_ties, .inl (cI, 100, .inl ties_)), (h_this_nears, .inl (cI, 10, .inl a8))] H locs → lv_has ls 4 [] → W p l e rmX2_drawNearer s m ([.ref h0, .int p1, .int p2] : List Value).toArray below meth c H locs 0 0 (MQ below (Qv D [(h0, .inr (2, [.int places_, .ref h_this_members, .ref h_this_ties, .ref h_this_nears, .ref h_this_names, .ref h_this_nearnesses, .ref h_this_partings, .ref h_this_unions])), (h_this_ties, .inl (cI, 100, .inl ties_)), (h_this_nears, .inl (cI, 10, .inl nears_'))] A) ([.ref h0, .int p1, .int p2] : List Value).toArray s 0 0 A) (F0 m 44 ls [])) → ∀ (n7 : Nat), ∀ (x1 : Int32) (a2 : Nat → Int32) (H : Heap) (locs : List Loc) (ls : Array Slot), f_X2_drawNearer_L2 places_ p1 p2 ties_ k5 n7 x1 a2 = some nears_' → Wd D A s.heap [(h0, .inr (2, [.int places_, .ref h_this_members, .ref h_this_ties, .ref h_this_nears, .ref h_this_names, .ref h_this_nearnesses, .ref h_this_partings, .ref h_this_unions])), (h_this_ties, .inl (cI, 100, .inl ties_)), (h_this_nears, .inl (cI, 10, .inl a2))] H locs → lv_has ls 4 [(0, .ref h0), (1, .int p1), (2, .int p2), (3, .int x1)] → W p l e rmX2_drawNearer s m ([.ref h0, .int p1, .int p2] : List Value).toArray below meth c H locs 0 0 (MQ below (Qv D [(h0, .inr (2, [.int places_, .ref h_this_members, .ref h_this_ties, .ref h_this_nears, .ref h_this_names, .ref h_this_nearnesses, .ref h_this_partings, .ref h_this_unions])), (h_this_ties, .inl (cI, 100, .inl ties_)), (h_this_nears, .inl (cI, 10, .inl nears_'))] A) ([.ref h0, .int p1, .int p2] : List Value).toArray s 0 0 A) (F0 m 2 ls []) := by
    intro k5 hk2 n7
    induction n7 with
    | zero => intro x1 a2 H locs ls h; cases h
    | succ n7 ih2 =>
      intro x1 a2 H locs ls h hw hl
      rw [f_X2_drawNearer_L2] at h
      refine lv_iload_n hx hb dX2_drawNearer_2 rfl (lv_at hl 3 rfl) ?_
      refine lv_aload_n hx hb dX2_drawNearer_3 rfl (lv_at hl 0 rfl) ?_
      refine fg_X2_9 X hw 0 rfl rfl dX2_drawNearer_4 ?_
      refine lv_icmp_ge (tgt := 44) hx hb dX2_drawNearer_7 (by decide) (fun c1 => ?_) (fun c1 => ?_)
      · replace h := ip c1 h
        exact hk2 a2 _ _ _ h hw (lv_sub hl [] rfl)
      · replace h := ig c1 h
        refine lv_iload_n hx hb dX2_drawNearer_10 rfl (lv_at hl 1 rfl) ?_
        refine lv_iload_n hx hb dX2_drawNearer_11 rfl (lv_at hl 3 rfl) ?_
        obtain ⟨r3, hc, h⟩ := bd1_inv h
        refine r_cNi X hw (As := [.int p1, .int x1]) (rest := []) (c_X5_holds l D cI cC cO p1 x1 r3 hc) (cs_X2_63 X (by decide)) rfl hl.1 rfl (Nat.le_of_ble_eq_true rfl) dX2_drawNearer_12 ⟨Nat.zero_le _, Nat.zero_le _⟩ (fun H locs hw => ?_)
        have J38 : ∀ (a4 : Nat → Int32) (H : Heap) (locs : List Loc) (ls : Array Slot), f_X2_drawNearer_J38 (f_X2_drawNearer_L2 places_ p1 p2 ties_ k5 n7) x1 a4 = some nears_' → Wd D A s.heap [(h0, .inr (2, [.int places_, .ref h_this_members, .ref h_this_ties, .ref h_this_nears, .ref h_this_names, .ref h_this_nearnesses, .ref h_this_partings, .ref h_this_unions])), (h_this_ties, .inl (cI, 100, .inl ties_)), (h_this_nears, .inl (cI, 10, .inl a4))] H locs → lv_has ls 4 [(0, .ref h0), (1, .int p1), (2, .int p2), (3, .int x1)] → W p l e rmX2_drawNearer s m ([.ref h0, .int p1, .int p2] : List Value).toArray below meth c H locs 0 0 (MQ below (Qv D [(h0, .inr (2, [.int places_, .ref h_this_members, .ref h_this_ties, .ref h_this_nears, .ref h_this_names, .ref h_this_nearnesses, .ref h_this_partings, .ref h_this_unions])), (h_this_ties, .inl (cI, 100, .inl ties_)), (h_this_nears, .inl (cI, 10, .inl nears_'))] A) ([.ref h0, .int p1, .int p2] : List Value).toArray s 0 0 A) (F0 m 38 ls []) := by
          intro a4 H locs ls h hw hl
          unfold f_X2_drawNearer_J38 at h
          refine lv_iinc (v := (x1 + (1 : Int32))) (lv' := [(3, .int (x1 + (1 : Int32))), (0, .ref h0), (1, .int p1), (2, .int p2)]) hx hb dX2_drawNearer_38 hl (k := 3) rfl rfl (by decide) rfl (fun ls hl => ?_)
          refine lv_goto (tgt := 2) hx hb dX2_drawNearer_41 (by decide) ?_
          exact ih2 (x1 + (1 : Int32)) a4 _ _ _ h hw (lv_sub hl [1, 2, 3, 0] rfl)
        refine lv_if_eq (tgt := 38) hx hb dX2_drawNearer_15 (by decide) (fun c1 => ?_) (fun c1 => ?_)
        · replace h := ip c1 h
          exact J38 a2 _ _ _ h hw (lv_sub hl [0, 1, 2, 3] rfl)
        · replace h := ig c1 h
          refine lv_aload_n hx hb dX2_drawNearer_18 rfl (lv_at hl 0 rfl) ?_
          refine fg_X2_22 X hw 0 rfl rfl dX2_drawNearer_19 ?_
          refine lv_iload_n hx hb dX2_drawNearer_22 rfl (lv_at hl 3 rfl) ?_
          refine lv_dup2_11 hx hb dX2_drawNearer_23 rfl rfl ?_
          obtain ⟨b1, h⟩ := chk_inv h
          refine r_iald X hw 2 rfl b1 rfl dX2_drawNearer_24 ?_
          refine lv_aload_n hx hb dX2_drawNearer_25 rfl (lv_at hl 0 rfl) ?_
          refine fg_X2_19 X hw 0 rfl rfl dX2_drawNearer_26 ?_
          refine lv_iload_n hx hb dX2_drawNearer_29 rfl (lv_at hl 2 rfl) ?_
          refine lv_bipush (v := 10) hx hb dX2_drawNearer_30 (by decide) ?_
          refine lv_imul hx hb dX2_drawNearer_32 ?_
          refine lv_iload_n hx hb dX2_drawNearer_33 rfl (lv_at hl 3 rfl) ?_
          refine lv_iadd hx hb dX2_drawNearer_34 ?_
          obtain ⟨b1, h⟩ := chk_inv h
          refine r_iald X hw 1 rfl b1 rfl dX2_drawNearer_35 ?_
          refine lv_iadd hx hb dX2_drawNearer_36 ?_
          obtain ⟨b1, h⟩ := chk_inv h
          refine r_iast X hw 2 rfl b1 rfl dX2_drawNearer_37 (fun H locs hw => ?_)
          have hw : Wd D A s.heap [(h0, .inr (2, [.int places_, .ref h_this_members, .ref h_this_ties, .ref h_this_nears, .ref h_this_names, .ref h_this_nearnesses, .ref h_this_partings, .ref h_this_unions])), (h_this_ties, .inl (cI, 100, .inl ties_)), (h_this_nears, .inl (cI, 10, .inl (upd a2 (x1).toNatClampNeg ((a2 (x1).toNatClampNeg) + (ties_ (((p2 * (10 : Int32)) + x1)).toNatClampNeg)))))] H locs := hw
          exact J38 (upd a2 (x1).toNatClampNeg ((a2 (x1).toNatClampNeg) + (ties_ (((p2 * (10 : Int32)) + x1)).toNatClampNeg))) _ _ _ h hw (lv_sub hl [0, 1, 2, 3] rfl)
  exact L2 (fun a8 => f_X2_drawNearer_E44 a8) (fun a8 H locs ls h hw hl => E44 a8 H locs ls h hw hl) N (0 : Int32) nears_ _ _ _ h hw (lv_sub hl [1, 2, 3, 0] rfl)
def rmX2_nearestOf : Room := { frames := 1, cells := 0, slots := 0, locals := 21 }
set_option maxHeartbeats 4000000 in
set_option maxRecDepth 100000 in
theorem c_X2_nearestOf (l : Launch) (D : va_G) (cI cC cO : ClassId) (N : Nat) (h0 h_this_members h_this_ties h_this_nears h_this_names h_this_nearnesses h_this_partings h_this_unions : Nat) (p1 places_ : Int32) (nears_ : Nat → Int32) (r_ : Int32) (h : f_X2_nearestOf N p1 places_ nears_ = some r_) : CI l yX2_nearestOf (Wy yX2_nearestOf cX2_nearestOf 5 (some .int)) rmX2_nearestOf D cI cC cO [.ref h0, .int p1] [(h0, .inr (2, [.int places_, .ref h_this_members, .ref h_this_ties, .ref h_this_nears, .ref h_this_names, .ref h_this_nearnesses, .ref h_this_partings, .ref h_this_unions])), (h_this_nears, .inl (cI, 10, .inl nears_))] r_ [(h0, .inr (2, [.int places_, .ref h_this_members, .ref h_this_ties, .ref h_this_nears, .ref h_this_names, .ref h_this_nearnesses, .ref h_this_partings, .ref h_this_unions])), (h_this_nears, .inl (cI, 10, .inl nears_))] := by
  refine enter_i RX2 (by decide) rfl (Nat.le_of_ble_eq_true rfl) ?_
  intro p e s m below meth c A X hr hlk hw ls hl
  have hx := X.1.1
  have hb := X.1.2.1
  have hl : lv_has ls 5 [(0, .ref h0), (1, .int p1)] := hl
  unfold f_X2_nearestOf at h
  refine lv_iconst (v := 0) hx hb dX2_nearestOf_0 (by decide) ?_
  refine lv_istore_n (lv' := [(2, .int (0 : Int32)), (0, .ref h0), (1, .int p1)]) hx hb dX2_nearestOf_1 rfl hl (by decide) rfl (fun ls hl => ?_)
  refine lv_iconst (v := -1) hx hb dX2_nearestOf_2 (by decide) ?_
  refine lv_istore_n (lv' := [(3, .int (-1 : Int32)), (2, .int (0 : Int32)), (0, .ref h0), (1, .int p1)]) hx hb dX2_nearestOf_3 rfl hl (by decide) rfl (fun ls hl => ?_)
  refine lv_iconst (v := 0) hx hb dX2_nearestOf_4 (by decide) ?_
  refine lv_istore (lv' := [(4, .int (0 : Int32)), (3, .int (-1 : Int32)), (2, .int (0 : Int32)), (0, .ref h0), (1, .int p1)]) hx hb dX2_nearestOf_5 hl (by decide) rfl (fun ls hl => ?_)
  have E53 : ∀ (x10 : Int32) (H : Heap) (locs : List Loc) (ls : Array Slot), f_X2_nearestOf_E53 x10 = some r_ → Wd D A s.heap [(h0, .inr (2, [.int places_, .ref h_this_members, .ref h_this_ties, .ref h_this_nears, .ref h_this_names, .ref h_this_nearnesses, .ref h_this_partings, .ref h_this_unions])), (h_this_nears, .inl (cI, 10, .inl nears_))] H locs → lv_has ls 5 [(2, .int x10)] → W p l e rmX2_nearestOf s m ([.ref h0, .int p1] : List Value).toArray below meth c H locs 0 0 (MQ below (Qi D r_ [(h0, .inr (2, [.int places_, .ref h_this_members, .ref h_this_ties, .ref h_this_nears, .ref h_this_names, .ref h_this_nearnesses, .ref h_this_partings, .ref h_this_unions])), (h_this_nears, .inl (cI, 10, .inl nears_))] A) ([.ref h0, .int p1] : List Value).toArray s 0 0 A) (F0 m 53 ls []) := by
    intro x10 H locs ls h hw hl
    unfold f_X2_nearestOf_E53 at h
    refine lv_iload_n hx hb dX2_nearestOf_53 rfl (lv_at hl 0 rfl) ?_
    obtain rfl := oi1 h
    exact r_ret X hw hr hlk dX2_nearestOf_54
  have L7 : ∀ (k7 : Int32 → Option (Int32)), (∀ (x10 : Int32) (H : Heap) (locs : List Loc) (ls : Array Slot), k7 x10 = some r_ → Wd D A s.heap [(h0, .inr (2, [.int places_, .ref h_this_members, .ref h_this_ties, .ref h_this_nears, .ref h_this_names, .ref h_this_nearnesses, .ref h_this_partings, .ref h_this_unions])), (h_this_nears, .inl (cI, 10, .inl nears_))] H locs → lv_has ls 5 [(2, .int x10)] → W p l e rmX2_nearestOf s m ([.ref h0, .int p1] : List Value).toArray below meth c H locs 0 0 (MQ below (Qi D r_ [(h0, .inr (2, [.int places_, .ref h_this_members, .ref h_this_ties, .ref h_this_nears, .ref h_this_names, .ref h_this_nearnesses, .ref h_this_partings, .ref h_this_unions])), (h_this_nears, .inl (cI, 10, .inl nears_))] A) ([.ref h0, .int p1] : List Value).toArray s 0 0 A) (F0 m 53 ls [])) → ∀ (n9 : Nat), ∀ (x1 x2 x3 : Int32) (H : Heap) (locs : List Loc) (ls : Array Slot), f_X2_nearestOf_L7 places_ p1 nears_ k7 n9 x1 x2 x3 = some r_ → Wd D A s.heap [(h0, .inr (2, [.int places_, .ref h_this_members, .ref h_this_ties, .ref h_this_nears, .ref h_this_names, .ref h_this_nearnesses, .ref h_this_partings, .ref h_this_unions])), (h_this_nears, .inl (cI, 10, .inl nears_))] H locs → lv_has ls 5 [(0, .ref h0), (1, .int p1), (2, .int x1), (3, .int x2), (4, .int x3)] → W p l e rmX2_nearestOf s m ([.ref h0, .int p1] : List Value).toArray below meth c H locs 0 0 (MQ below (Qi D r_ [(h0, .inr (2, [.int places_, .ref h_this_members, .ref h_this_ties, .ref h_this_nears, .ref h_this_names, .ref h_this_nearnesses, .ref h_this_partings, .ref h_this_unions])), (h_this_nears, .inl (cI, 10, .inl nears_))] A) ([.ref h0, .int p1] : List Value).toArray s 0 0 A) (F0 m 7 ls []) := by
    intro k7 hk7 n9
    induction n9 with
    | zero => intro x1 x2 x3 H locs ls h; cases h
    | succ n9 ih7 =>
      intro x1 x2 x3 H locs ls h hw hl
      rw [f_X2_nearestOf_L7] at h
      refine lv_iload hx hb dX2_nearestOf_7 (lv_at hl 4 rfl) ?_
      refine lv_aload_n hx hb dX2_nearestOf_9 rfl (lv_at hl 0 rfl) ?_
      refine fg_X2_9 X hw 0 rfl rfl dX2_nearestOf_10 ?_
      refine lv_icmp_ge (tgt := 53) hx hb dX2_nearestOf_13 (by decide) (fun c1 => ?_) (fun c1 => ?_)
      · replace h := ip c1 h
        exact hk7 x1 _ _ _ h hw (lv_sub hl [2] rfl)
      · replace h := ig c1 h
        refine lv_iload_n hx hb dX2_nearestOf_16 rfl (lv_at hl 1 rfl) ?_
        refine lv_iload hx hb dX2_nearestOf_17 (lv_at hl 4 rfl) ?_
        obtain ⟨r4, hc, h⟩ := bd1_inv h
        refine r_cNi X hw (As := [.int p1, .int x3]) (rest := []) (c_X5_holds l D cI cC cO p1 x3 r4 hc) (cs_X2_63 X (by decide)) rfl hl.1 rfl (Nat.le_of_ble_eq_true rfl) dX2_nearestOf_19 ⟨Nat.zero_le _, Nat.zero_le _⟩ (fun H locs hw => ?_)
        have J47 : ∀ (x5 x6 : Int32) (H : Heap) (locs : List Loc) (ls : Array Slot), f_X2_nearestOf_J47 (f_X2_nearestOf_L7 places_ p1 nears_ k7 n9) x3 x5 x6 = some r_ → Wd D A s.heap [(h0, .inr (2, [.int places_, .ref h_this_members, .ref h_this_ties, .ref h_this_nears, .ref h_this_names, .ref h_this_nearnesses, .ref h_this_partings, .ref h_this_unions])), (h_this_nears, .inl (cI, 10, .inl nears_))] H locs → lv_has ls 5 [(0, .ref h0), (1, .int p1), (2, .int x5), (3, .int x6), (4, .int x3)] → W p l e rmX2_nearestOf s m ([.ref h0, .int p1] : List Value).toArray below meth c H locs 0 0 (MQ below (Qi D r_ [(h0, .inr (2, [.int places_, .ref h_this_members, .ref h_this_ties, .ref h_this_nears, .ref h_this_names, .ref h_this_nearnesses, .ref h_this_partings, .ref h_this_unions])), (h_this_nears, .inl (cI, 10, .inl nears_))] A) ([.ref h0, .int p1] : List Value).toArray s 0 0 A) (F0 m 47 ls []) := by
          intro x5 x6 H locs ls h hw hl
          unfold f_X2_nearestOf_J47 at h
          refine lv_iinc (v := (x3 + (1 : Int32))) (lv' := [(4, .int (x3 + (1 : Int32))), (0, .ref h0), (1, .int p1), (2, .int x5), (3, .int x6)]) hx hb dX2_nearestOf_47 hl (k := 4) rfl rfl (by decide) rfl (fun ls hl => ?_)
          refine lv_goto (tgt := 7) hx hb dX2_nearestOf_50 (by decide) ?_
          exact ih7 x5 x6 (x3 + (1 : Int32)) _ _ _ h hw (lv_sub hl [1, 2, 3, 4, 0] rfl)
        refine lv_if_eq (tgt := 47) hx hb dX2_nearestOf_22 (by decide) (fun c1 => ?_) (fun c1 => ?_)
        · replace h := ip c1 h
          exact J47 x1 x2 _ _ _ h hw (lv_sub hl [0, 1, 2, 3, 4] rfl)
        · replace h := ig c1 h
          refine lv_aload_n hx hb dX2_nearestOf_25 rfl (lv_at hl 0 rfl) ?_
          refine fg_X2_22 X hw 0 rfl rfl dX2_nearestOf_26 ?_
          refine lv_iload hx hb dX2_nearestOf_29 (lv_at hl 4 rfl) ?_
          obtain ⟨b1, h⟩ := chk_inv h
          refine r_iald X hw 1 rfl b1 rfl dX2_nearestOf_31 ?_
          refine lv_iload_n hx hb dX2_nearestOf_32 rfl (lv_at hl 3 rfl) ?_
          refine lv_icmp_le (tgt := 47) hx hb dX2_nearestOf_33 (by decide) (fun c1 => ?_) (fun c1 => ?_)
          · replace h := ip c1 h
            exact J47 x1 x2 _ _ _ h hw (lv_sub hl [0, 1, 2, 3, 4] rfl)
          · replace h := ig c1 h
            refine lv_iload hx hb dX2_nearestOf_36 (lv_at hl 4 rfl) ?_
            refine lv_istore_n (lv' := [(2, .int x3), (0, .ref h0), (1, .int p1), (3, .int x2), (4, .int x3)]) hx hb dX2_nearestOf_38 rfl hl (by decide) rfl (fun ls hl => ?_)
            refine lv_aload_n hx hb dX2_nearestOf_39 rfl (lv_at hl 1 rfl) ?_
            refine fg_X2_22 X hw 0 rfl rfl dX2_nearestOf_40 ?_
            refine lv_iload hx hb dX2_nearestOf_43 (lv_at hl 4 rfl) ?_
            obtain ⟨b1, h⟩ := chk_inv h
            refine r_iald X hw 1 rfl b1 rfl dX2_nearestOf_45 ?_
            refine lv_istore_n (lv' := [(3, .int (nears_ (x3).toNatClampNeg)), (2, .int x3), (0, .ref h0), (1, .int p1), (4, .int x3)]) hx hb dX2_nearestOf_46 rfl hl (by decide) rfl (fun ls hl => ?_)
            exact J47 x3 (nears_ (x3).toNatClampNeg) _ _ _ h hw (lv_sub hl [2, 3, 1, 0, 4] rfl)
  exact L7 (fun x10 => f_X2_nearestOf_E53 x10) (fun x10 H locs ls h hw hl => E53 x10 H locs ls h hw hl) N (0 : Int32) (-1 : Int32) (0 : Int32) _ _ _ h hw (lv_sub hl [3, 4, 2, 1, 0] rfl)
def rmX2_swallowAll : Room := { frames := 2, cells := 0, slots := 0, locals := 45 }
section
variable {p : Program} {l : Launch} {e : Env} {R : Room} {s : State} {m : MethodId} {args : Array Value} {below : List Frame} {meth : Method} {c : Code} {H : Heap} {locs : List Loc} {cells slots : Nat} {Q : State → Prop}
variable {cc : ByteArray} {pc nL : Nat} {ls : Array Slot} {rest : List Value} {D : va_G} {cI cC cO : ClassId} {A : Nat → Prop} {ws : va_W} {H0 : Heap}
theorem cs_X2_67 (X : Ctx p m c cc nL s args RX2 D cI cC cO) (hR : rmX2_lumpsIn.frames + 1 ≤ R.frames ∧ 8 + (2 + 11) + rmX2_lumpsIn.locals ≤ R.locals) : CallW R s args RX2 RX2 67 yX2_lumpsIn cX2_lumpsIn 2 (some .int) (Wy yX2_lumpsIn cX2_lumpsIn 2 (some .int)) rmX2_lumpsIn 0 0 1 := cwV 1 X.1.2.2.2.2 (gi_V tw_298 tw_299 tw_300 tw_5 tw_301) rfl rfl rfl (by decide +kernel) hR
theorem cs_X2_70 (X : Ctx p m c cc nL s args RX2 D cI cC cO) (hR : rmX2_drawNearer.frames + 1 ≤ R.frames ∧ 8 + (4 + 11) + rmX2_drawNearer.locals ≤ R.locals) : CallW R s args RX2 RX2 70 yX2_drawNearer cX2_drawNearer 4 none (Wy yX2_drawNearer cX2_drawNearer 4 none) rmX2_drawNearer 0 0 2 := cwV 2 X.1.2.2.2.2 (gi_V tw_302 tw_304 sw_yX2_drawNearer tw_5 tw_305) rfl rfl rfl (by decide +kernel) hR
theorem cs_X2_73 (X : Ctx p m c cc nL s args RX2 D cI cC cO) (hR : rmX2_nearestOf.frames + 1 ≤ R.frames ∧ 8 + (5 + 11) + rmX2_nearestOf.locals ≤ R.locals) : CallW R s args RX2 RX2 73 yX2_nearestOf cX2_nearestOf 5 (some .int) (Wy yX2_nearestOf cX2_nearestOf 5 (some .int)) rmX2_nearestOf 0 0 1 := cwV 1 X.1.2.2.2.2 (gi_V tw_306 tw_308 sw_yX2_nearestOf tw_5 tw_309) rfl rfl rfl (by decide +kernel) hR
end
set_option maxHeartbeats 4000000 in
set_option maxRecDepth 100000 in
theorem c_X2_swallowAll (l : Launch) (D : va_G) (cI cC cO : ClassId) (N : Nat) (h0 h_this_members h_this_ties h_this_nears h_this_names h_this_nearnesses h_this_partings h_this_unions : Nat) (p1 p2 places_ : Int32) (members_ ties_ nears_ names_ nearnesses_ : Nat → Int32) (nears_' : Nat → Int32) (names_' : Nat → Int32) (nearnesses_' : Nat → Int32) (h : f_X2_swallowAll N p1 p2 places_ members_ ties_ nears_ names_ nearnesses_ = some (nears_', names_', nearnesses_')) : CV l yX2_swallowAll (Wy yX2_swallowAll cX2_swallowAll 6 none) rmX2_swallowAll D cI cC cO [.ref h0, .int p1, .int p2] [(h0, .inr (2, [.int places_, .ref h_this_members, .ref h_this_ties, .ref h_this_nears, .ref h_this_names, .ref h_this_nearnesses, .ref h_this_partings, .ref h_this_unions])), (h_this_members, .inl (cI, 10, .inl members_)), (h_this_ties, .inl (cI, 100, .inl ties_)), (h_this_nears, .inl (cI, 10, .inl nears_)), (h_this_names, .inl (cI, 90, .inl names_)), (h_this_nearnesses, .inl (cI, 90, .inl nearnesses_))] [(h0, .inr (2, [.int places_, .ref h_this_members, .ref h_this_ties, .ref h_this_nears, .ref h_this_names, .ref h_this_nearnesses, .ref h_this_partings, .ref h_this_unions])), (h_this_members, .inl (cI, 10, .inl members_)), (h_this_ties, .inl (cI, 100, .inl ties_)), (h_this_nears, .inl (cI, 10, .inl nears_')), (h_this_names, .inl (cI, 90, .inl names_')), (h_this_nearnesses, .inl (cI, 90, .inl nearnesses_'))] := by
  refine enter_v RX2 (by decide) rfl (Nat.le_of_ble_eq_true rfl) ?_
  intro p e s m below meth c A X hr hlk hw ls hl
  have hx := X.1.1
  have hb := X.1.2.1
  have hl : lv_has ls 6 [(0, .ref h0), (1, .int p1), (2, .int p2)] := hl
  unfold f_X2_swallowAll at h
  refine lv_iconst (v := 0) hx hb dX2_swallowAll_0 (by decide) ?_
  refine lv_istore_n (lv' := [(3, .int (0 : Int32)), (0, .ref h0), (1, .int p1), (2, .int p2)]) hx hb dX2_swallowAll_1 rfl hl (by decide) rfl (fun ls hl => ?_)
  refine lv_iconst (v := 0) hx hb dX2_swallowAll_2 (by decide) ?_
  refine lv_istore (lv' := [(4, .int (0 : Int32)), (3, .int (0 : Int32)), (0, .ref h0), (1, .int p1), (2, .int p2)]) hx hb dX2_swallowAll_3 hl (by decide) rfl (fun ls hl => ?_)
  have E45 : ∀ (x8 : Int32) (a9 : Nat → Int32) (H : Heap) (locs : List Loc) (ls : Array Slot), f_X2_swallowAll_E45 N p1 places_ ties_ p2 names_ nearnesses_ x8 a9 = some (nears_', names_', nearnesses_') → Wd D A s.heap [(h0, .inr (2, [.int places_, .ref h_this_members, .ref h_this_ties, .ref h_this_nears, .ref h_this_names, .ref h_this_nearnesses, .ref h_this_partings, .ref h_this_unions])), (h_this_members, .inl (cI, 10, .inl members_)), (h_this_ties, .inl (cI, 100, .inl ties_)), (h_this_nears, .inl (cI, 10, .inl a9)), (h_this_names, .inl (cI, 90, .inl names_)), (h_this_nearnesses, .inl (cI, 90, .inl nearnesses_))] H locs → lv_has ls 6 [(0, .ref h0), (1, .int p1), (2, .int p2), (3, .int x8)] → W p l e rmX2_swallowAll s m ([.ref h0, .int p1, .int p2] : List Value).toArray below meth c H locs 0 0 (MQ below (Qv D [(h0, .inr (2, [.int places_, .ref h_this_members, .ref h_this_ties, .ref h_this_nears, .ref h_this_names, .ref h_this_nearnesses, .ref h_this_partings, .ref h_this_unions])), (h_this_members, .inl (cI, 10, .inl members_)), (h_this_ties, .inl (cI, 100, .inl ties_)), (h_this_nears, .inl (cI, 10, .inl nears_')), (h_this_names, .inl (cI, 90, .inl names_')), (h_this_nearnesses, .inl (cI, 90, .inl nearnesses_'))] A) ([.ref h0, .int p1, .int p2] : List Value).toArray s 0 0 A) (F0 m 45 ls []) := by
    intro x8 a9 H locs ls h hw hl
    unfold f_X2_swallowAll_E45 at h
    refine lv_iload_n hx hb dX2_swallowAll_45 rfl (lv_at hl 2 rfl) ?_
    refine lv_istore (lv' := [(4, .int p2), (0, .ref h0), (1, .int p1), (2, .int p2), (3, .int x8)]) hx hb dX2_swallowAll_46 hl (by decide) rfl (fun ls hl => ?_)
    refine lv_iconst (v := 0) hx hb dX2_swallowAll_48 (by decide) ?_
    refine lv_istore (lv' := [(5, .int (0 : Int32)), (4, .int p2), (0, .ref h0), (1, .int p1), (2, .int p2), (3, .int x8)]) hx hb dX2_swallowAll_49 hl (by decide) rfl (fun ls hl => ?_)
    have E123 : ∀ (a22 a23 a24 : Nat → Int32) (H : Heap) (locs : List Loc) (ls : Array Slot), f_X2_swallowAll_E123 a22 a23 a24 = some (nears_', names_', nearnesses_') → Wd D A s.heap [(h0, .inr (2, [.int places_, .ref h_this_members, .ref h_this_ties, .ref h_this_nears, .ref h_this_names, .ref h_this_nearnesses, .ref h_this_partings, .ref h_this_unions])), (h_this_members, .inl (cI, 10, .inl members_)), (h_this_ties, .inl (cI, 100, .inl ties_)), (h_this_nears, .inl (cI, 10, .inl a22)), (h_this_names, .inl (cI, 90, .inl a23)), (h_this_nearnesses, .inl (cI, 90, .inl a24))] H locs → lv_has ls 6 [] → W p l e rmX2_swallowAll s m ([.ref h0, .int p1, .int p2] : List Value).toArray below meth c H locs 0 0 (MQ below (Qv D [(h0, .inr (2, [.int places_, .ref h_this_members, .ref h_this_ties, .ref h_this_nears, .ref h_this_names, .ref h_this_nearnesses, .ref h_this_partings, .ref h_this_unions])), (h_this_members, .inl (cI, 10, .inl members_)), (h_this_ties, .inl (cI, 100, .inl ties_)), (h_this_nears, .inl (cI, 10, .inl nears_')), (h_this_names, .inl (cI, 90, .inl names_')), (h_this_nearnesses, .inl (cI, 90, .inl nearnesses_'))] A) ([.ref h0, .int p1, .int p2] : List Value).toArray s 0 0 A) (F0 m 123 ls []) := by
      intro a22 a23 a24 H locs ls h hw hl
      unfold f_X2_swallowAll_E123 at h
      obtain ⟨rfl, rfl, rfl⟩ := oi3 h
      exact r_retv X hw hr hlk dX2_swallowAll_123
    have L51 : ∀ (k19 : (Nat → Int32) → (Nat → Int32) → (Nat → Int32) → Option ((Nat → Int32) × (Nat → Int32) × (Nat → Int32))), (∀ (a22 a23 a24 : Nat → Int32) (H : Heap) (locs : List Loc) (ls : Array Slot), k19 a22 a23 a24 = some (nears_', names_', nearnesses_') → Wd D A s.heap [(h0, .inr (2, [.int places_, .ref h_this_members, .ref h_this_ties, .ref h_this_nears, .ref h_this_names, .ref h_this_nearnesses, .ref h_this_partings, .ref h_this_unions])), (h_this_members, .inl (cI, 10, .inl members_)), (h_this_ties, .inl (cI, 100, .inl ties_)), (h_this_nears, .inl (cI, 10, .inl a22)), (h_this_names, .inl (cI, 90, .inl a23)), (h_this_nearnesses, .inl (cI, 90, .inl a24))] H locs → lv_has ls 6 [] → W p l e rmX2_swallowAll s m ([.ref h0, .int p1, .int p2] : List Value).toArray below meth c H locs 0 0 (MQ below (Qv D [(h0, .inr (2, [.int places_, .ref h_this_members, .ref h_this_ties, .ref h_this_nears, .ref h_this_names, .ref h_this_nearnesses, .ref h_this_partings, .ref h_this_unions])), (h_this_members, .inl (cI, 10, .inl members_)), (h_this_ties, .inl (cI, 100, .inl ties_)), (h_this_nears, .inl (cI, 10, .inl nears_')), (h_this_names, .inl (cI, 90, .inl names_')), (h_this_nearnesses, .inl (cI, 90, .inl nearnesses_'))] A) ([.ref h0, .int p1, .int p2] : List Value).toArray s 0 0 A) (F0 m 123 ls [])) → ∀ (n21 : Nat), ∀ (x10 x11 x12 : Int32) (a13 a14 a15 : Nat → Int32) (H : Heap) (locs : List Loc) (ls : Array Slot), f_X2_swallowAll_L51 N p1 places_ ties_ k19 n21 x10 x11 x12 a13 a14 a15 = some (nears_', names_', nearnesses_') → Wd D A s.heap [(h0, .inr (2, [.int places_, .ref h_this_members, .ref h_this_ties, .ref h_this_nears, .ref h_this_names, .ref h_this_nearnesses, .ref h_this_partings, .ref h_this_unions])), (h_this_members, .inl (cI, 10, .inl members_)), (h_this_ties, .inl (cI, 100, .inl ties_)), (h_this_nears, .inl (cI, 10, .inl a13)), (h_this_names, .inl (cI, 90, .inl a14)), (h_this_nearnesses, .inl (cI, 90, .inl a15))] H locs → lv_has ls 6 [(0, .ref h0), (1, .int p1), (3, .int x10), (4, .int x11), (5, .int x12)] → W p l e rmX2_swallowAll s m ([.ref h0, .int p1, .int p2] : List Value).toArray below meth c H locs 0 0 (MQ below (Qv D [(h0, .inr (2, [.int places_, .ref h_this_members, .ref h_this_ties, .ref h_this_nears, .ref h_this_names, .ref h_this_nearnesses, .ref h_this_partings, .ref h_this_unions])), (h_this_members, .inl (cI, 10, .inl members_)), (h_this_ties, .inl (cI, 100, .inl ties_)), (h_this_nears, .inl (cI, 10, .inl nears_')), (h_this_names, .inl (cI, 90, .inl names_')), (h_this_nearnesses, .inl (cI, 90, .inl nearnesses_'))] A) ([.ref h0, .int p1, .int p2] : List Value).toArray s 0 0 A) (F0 m 51 ls []) := by
      intro k19 hk51 n21
      induction n21 with
      | zero => intro x10 x11 x12 a13 a14 a15 H locs ls h; cases h
      | succ n21 ih51 =>
        intro x10 x11 x12 a13 a14 a15 H locs ls h hw hl
        rw [f_X2_swallowAll_L51] at h
        refine lv_iload hx hb dX2_swallowAll_51 (lv_at hl 4 rfl) ?_
        refine lv_aload_n hx hb dX2_swallowAll_53 rfl (lv_at hl 0 rfl) ?_
        refine lv_iload_n hx hb dX2_swallowAll_54 rfl (lv_at hl 1 rfl) ?_
        obtain ⟨r16, hc, h⟩ := bd1_inv h
        refine r_cVi X hw (As := [.int p1]) (rest := [.int x12]) (wr := [(h_this_members, .inl (cI, 10, .inl members_)), (h_this_ties, .inl (cI, 100, .inl ties_)), (h_this_nears, .inl (cI, 10, .inl a13)), (h_this_names, .inl (cI, 90, .inl a14)), (h_this_nearnesses, .inl (cI, 90, .inl a15))]) (ws' := [(h0, .inr (2, [.int places_, .ref h_this_members, .ref h_this_ties, .ref h_this_nears, .ref h_this_names, .ref h_this_nearnesses, .ref h_this_partings, .ref h_this_unions])), (h_this_members, .inl (cI, 10, .inl members_)), (h_this_ties, .inl (cI, 100, .inl ties_)), (h_this_nears, .inl (cI, 10, .inl a13)), (h_this_names, .inl (cI, 90, .inl a14)), (h_this_nearnesses, .inl (cI, 90, .inl a15))]) (c_X2_lumpsIn l D cI cC cO h0 h_this_members h_this_ties h_this_nears h_this_names h_this_nearnesses h_this_partings h_this_unions p1 places_ r16 hc) (cs_X2_67 X (by decide)) [0] [1, 2, 3, 4, 5] [5, 0, 1, 2, 3, 4] rfl rfl rfl rfl (by decide) rfl rfl 0 rfl rfl rfl rfl hl.1 rfl (Nat.le_of_ble_eq_true rfl) dX2_swallowAll_55 ⟨Nat.zero_le _, Nat.zero_le _⟩ (fun H locs hw => ?_)
        refine lv_icmp_ge (tgt := 123) hx hb dX2_swallowAll_58 (by decide) (fun c1 => ?_) (fun c1 => ?_)
        · replace h := ip c1 h
          exact hk51 a13 a14 a15 _ _ _ h hw (lv_sub hl [] rfl)
        · replace h := ig c1 h
          refine lv_aload_n hx hb dX2_swallowAll_61 rfl (lv_at hl 0 rfl) ?_
          refine fg_X2_25 X hw 0 rfl rfl dX2_swallowAll_62 ?_
          refine lv_iload_n hx hb dX2_swallowAll_65 rfl (lv_at hl 1 rfl) ?_
          refine lv_bipush (v := 10) hx hb dX2_swallowAll_66 (by decide) ?_
          refine lv_imul hx hb dX2_swallowAll_68 ?_
          refine lv_iload hx hb dX2_swallowAll_69 (lv_at hl 4 rfl) ?_
          refine lv_iadd hx hb dX2_swallowAll_71 ?_
          refine lv_iload hx hb dX2_swallowAll_72 (lv_at hl 3 rfl) ?_
          obtain ⟨b1, h⟩ := chk_inv h
          refine r_iast X hw 4 rfl b1 rfl dX2_swallowAll_74 (fun H locs hw => ?_)
          have hw : Wd D A s.heap [(h0, .inr (2, [.int places_, .ref h_this_members, .ref h_this_ties, .ref h_this_nears, .ref h_this_names, .ref h_this_nearnesses, .ref h_this_partings, .ref h_this_unions])), (h_this_members, .inl (cI, 10, .inl members_)), (h_this_ties, .inl (cI, 100, .inl ties_)), (h_this_nears, .inl (cI, 10, .inl a13)), (h_this_names, .inl (cI, 90, .inl (upd a14 (((p1 * (10 : Int32)) + x12)).toNatClampNeg x11))), (h_this_nearnesses, .inl (cI, 90, .inl a15))] H locs := hw
          refine lv_aload_n hx hb dX2_swallowAll_75 rfl (lv_at hl 0 rfl) ?_
          refine fg_X2_28 X hw 0 rfl rfl dX2_swallowAll_76 ?_
          refine lv_iload_n hx hb dX2_swallowAll_79 rfl (lv_at hl 1 rfl) ?_
          refine lv_bipush (v := 10) hx hb dX2_swallowAll_80 (by decide) ?_
          refine lv_imul hx hb dX2_swallowAll_82 ?_
          refine lv_iload hx hb dX2_swallowAll_83 (lv_at hl 4 rfl) ?_
          refine lv_iadd hx hb dX2_swallowAll_85 ?_
          refine lv_aload_n hx hb dX2_swallowAll_86 rfl (lv_at hl 0 rfl) ?_
          refine fg_X2_22 X hw 0 rfl rfl dX2_swallowAll_87 ?_
          refine lv_iload hx hb dX2_swallowAll_90 (lv_at hl 3 rfl) ?_
          obtain ⟨b1, h⟩ := chk_inv h
          refine r_iald X hw 3 rfl b1 rfl dX2_swallowAll_92 ?_
          obtain ⟨b1, h⟩ := chk_inv h
          refine r_iast X hw 5 rfl b1 rfl dX2_swallowAll_93 (fun H locs hw => ?_)
          have hw : Wd D A s.heap [(h0, .inr (2, [.int places_, .ref h_this_members, .ref h_this_ties, .ref h_this_nears, .ref h_this_names, .ref h_this_nearnesses, .ref h_this_partings, .ref h_this_unions])), (h_this_members, .inl (cI, 10, .inl members_)), (h_this_ties, .inl (cI, 100, .inl ties_)), (h_this_nears, .inl (cI, 10, .inl a13)), (h_this_names, .inl (cI, 90, .inl (upd a14 (((p1 * (10 : Int32)) + x12)).toNatClampNeg x11))), (h_this_nearnesses, .inl (cI, 90, .inl (upd a15 (((p1 * (10 : Int32)) + x12)).toNatClampNeg (a13 (x11).toNatClampNeg))))] H locs := hw
          refine lv_iload_n hx hb dX2_swallowAll_94 rfl (lv_at hl 2 rfl) ?_
          refine lv_iconst (v := 1) hx hb dX2_swallowAll_95 (by decide) ?_
          refine lv_iload hx hb dX2_swallowAll_96 (lv_at hl 3 rfl) ?_
          refine lv_ishl hx hb dX2_swallowAll_98 ?_
          refine lv_iconst (v := -1) hx hb dX2_swallowAll_99 (by decide) ?_
          refine lv_ixor hx hb dX2_swallowAll_100 ?_
          refine lv_iand hx hb dX2_swallowAll_101 ?_
          refine lv_istore_n (lv' := [(3, .int (x10 &&& (((1 : Int32) <<< (x11 &&& (31 : Int32))) ^^^ (-1 : Int32)))), (0, .ref h0), (1, .int p1), (4, .int x11), (5, .int x12)]) hx hb dX2_swallowAll_102 rfl hl (by decide) rfl (fun ls hl => ?_)
          refine lv_aload_n hx hb dX2_swallowAll_103 rfl (lv_at hl 1 rfl) ?_
          refine lv_iload_n hx hb dX2_swallowAll_104 rfl (lv_at hl 0 rfl) ?_
          refine lv_iload hx hb dX2_swallowAll_105 (lv_at hl 3 rfl) ?_
          obtain ⟨a17, hc, h⟩ := bd1_inv h
          refine r_cVv X hw (As := [.int (x10 &&& (((1 : Int32) <<< (x11 &&& (31 : Int32))) ^^^ (-1 : Int32))), .int x11]) (rest := []) (wr := [(h_this_members, .inl (cI, 10, .inl members_)), (h_this_names, .inl (cI, 90, .inl (upd a14 (((p1 * (10 : Int32)) + x12)).toNatClampNeg x11))), (h_this_nearnesses, .inl (cI, 90, .inl (upd a15 (((p1 * (10 : Int32)) + x12)).toNatClampNeg (a13 (x11).toNatClampNeg))))]) (ws' := [(h0, .inr (2, [.int places_, .ref h_this_members, .ref h_this_ties, .ref h_this_nears, .ref h_this_names, .ref h_this_nearnesses, .ref h_this_partings, .ref h_this_unions])), (h_this_members, .inl (cI, 10, .inl members_)), (h_this_ties, .inl (cI, 100, .inl ties_)), (h_this_nears, .inl (cI, 10, .inl a17)), (h_this_names, .inl (cI, 90, .inl (upd a14 (((p1 * (10 : Int32)) + x12)).toNatClampNeg x11))), (h_this_nearnesses, .inl (cI, 90, .inl (upd a15 (((p1 * (10 : Int32)) + x12)).toNatClampNeg (a13 (x11).toNatClampNeg))))]) (c_X2_drawNearer l D cI cC cO N h0 h_this_members h_this_ties h_this_nears h_this_names h_this_nearnesses h_this_partings h_this_unions (x10 &&& (((1 : Int32) <<< (x11 &&& (31 : Int32))) ^^^ (-1 : Int32))) x11 places_ ties_ a13 a17 hc) (cs_X2_70 X (by decide)) [0, 2, 3] [1, 4, 5] [3, 0, 4, 5, 1, 2] rfl rfl rfl rfl (by decide) rfl rfl 0 rfl rfl rfl rfl hl.1 rfl (Nat.le_of_ble_eq_true rfl) dX2_swallowAll_107 ⟨Nat.zero_le _, Nat.zero_le _⟩ (fun H locs hw => ?_)
          refine lv_aload_n hx hb dX2_swallowAll_110 rfl (lv_at hl 1 rfl) ?_
          refine lv_iload_n hx hb dX2_swallowAll_111 rfl (lv_at hl 0 rfl) ?_
          obtain ⟨r18, hc, h⟩ := bd1_inv h
          refine r_cVi X hw (As := [.int (x10 &&& (((1 : Int32) <<< (x11 &&& (31 : Int32))) ^^^ (-1 : Int32)))]) (rest := []) (wr := [(h_this_members, .inl (cI, 10, .inl members_)), (h_this_ties, .inl (cI, 100, .inl ties_)), (h_this_names, .inl (cI, 90, .inl (upd a14 (((p1 * (10 : Int32)) + x12)).toNatClampNeg x11))), (h_this_nearnesses, .inl (cI, 90, .inl (upd a15 (((p1 * (10 : Int32)) + x12)).toNatClampNeg (a13 (x11).toNatClampNeg))))]) (ws' := [(h0, .inr (2, [.int places_, .ref h_this_members, .ref h_this_ties, .ref h_this_nears, .ref h_this_names, .ref h_this_nearnesses, .ref h_this_partings, .ref h_this_unions])), (h_this_members, .inl (cI, 10, .inl members_)), (h_this_ties, .inl (cI, 100, .inl ties_)), (h_this_nears, .inl (cI, 10, .inl a17)), (h_this_names, .inl (cI, 90, .inl (upd a14 (((p1 * (10 : Int32)) + x12)).toNatClampNeg x11))), (h_this_nearnesses, .inl (cI, 90, .inl (upd a15 (((p1 * (10 : Int32)) + x12)).toNatClampNeg (a13 (x11).toNatClampNeg))))]) (c_X2_nearestOf l D cI cC cO N h0 h_this_members h_this_ties h_this_nears h_this_names h_this_nearnesses h_this_partings h_this_unions (x10 &&& (((1 : Int32) <<< (x11 &&& (31 : Int32))) ^^^ (-1 : Int32))) places_ a17 r18 hc) (cs_X2_73 X (by decide)) [0, 3] [1, 2, 4, 5] [4, 0, 1, 5, 2, 3] rfl rfl rfl rfl (by decide) rfl rfl 0 rfl rfl rfl rfl hl.1 rfl (Nat.le_of_ble_eq_true rfl) dX2_swallowAll_112 ⟨Nat.zero_le _, Nat.zero_le _⟩ (fun H locs hw => ?_)
          refine lv_istore (lv' := [(4, .int r18), (3, .int (x10 &&& (((1 : Int32) <<< (x11 &&& (31 : Int32))) ^^^ (-1 : Int32)))), (0, .ref h0), (1, .int p1), (5, .int x12)]) hx hb dX2_swallowAll_115 hl (by decide) rfl (fun ls hl => ?_)
          refine lv_iinc (v := (x12 + (1 : Int32))) (lv' := [(5, .int (x12 + (1 : Int32))), (4, .int r18), (3, .int (x10 &&& (((1 : Int32) <<< (x11 &&& (31 : Int32))) ^^^ (-1 : Int32)))), (0, .ref h0), (1, .int p1)]) hx hb dX2_swallowAll_117 hl (k := 4) rfl rfl (by decide) rfl (fun ls hl => ?_)
          refine lv_goto (tgt := 51) hx hb dX2_swallowAll_120 (by decide) ?_
          exact ih51 (x10 &&& (((1 : Int32) <<< (x11 &&& (31 : Int32))) ^^^ (-1 : Int32))) r18 (x12 + (1 : Int32)) a17 (upd a14 (((p1 * (10 : Int32)) + x12)).toNatClampNeg x11) (upd a15 (((p1 * (10 : Int32)) + x12)).toNatClampNeg (a13 (x11).toNatClampNeg)) _ _ _ h hw (lv_sub hl [3, 4, 2, 1, 0] rfl)
    exact L51 (fun a22 a23 a24 => f_X2_swallowAll_E123 a22 a23 a24) (fun a22 a23 a24 H locs ls h hw hl => E123 a22 a23 a24 H locs ls h hw hl) N x8 p2 (0 : Int32) a9 names_ nearnesses_ _ _ _ h hw (lv_sub hl [2, 3, 5, 1, 0] rfl)
  have L5 : ∀ (k5 : Int32 → (Nat → Int32) → Option ((Nat → Int32) × (Nat → Int32) × (Nat → Int32))), (∀ (x8 : Int32) (a9 : Nat → Int32) (H : Heap) (locs : List Loc) (ls : Array Slot), k5 x8 a9 = some (nears_', names_', nearnesses_') → Wd D A s.heap [(h0, .inr (2, [.int places_, .ref h_this_members, .ref h_this_ties, .ref h_this_nears, .ref h_this_names, .ref h_this_nearnesses, .ref h_this_partings, .ref h_this_unions])), (h_this_members, .inl (cI, 10, .inl members_)), (h_this_ties, .inl (cI, 100, .inl ties_)), (h_this_nears, .inl (cI, 10, .inl a9)), (h_this_names, .inl (cI, 90, .inl names_)), (h_this_nearnesses, .inl (cI, 90, .inl nearnesses_))] H locs → lv_has ls 6 [(0, .ref h0), (1, .int p1), (2, .int p2), (3, .int x8)] → W p l e rmX2_swallowAll s m ([.ref h0, .int p1, .int p2] : List Value).toArray below meth c H locs 0 0 (MQ below (Qv D [(h0, .inr (2, [.int places_, .ref h_this_members, .ref h_this_ties, .ref h_this_nears, .ref h_this_names, .ref h_this_nearnesses, .ref h_this_partings, .ref h_this_unions])), (h_this_members, .inl (cI, 10, .inl members_)), (h_this_ties, .inl (cI, 100, .inl ties_)), (h_this_nears, .inl (cI, 10, .inl nears_')), (h_this_names, .inl (cI, 90, .inl names_')), (h_this_nearnesses, .inl (cI, 90, .inl nearnesses_'))] A) ([.ref h0, .int p1, .int p2] : List Value).toArray s 0 0 A) (F0 m 45 ls [])) → ∀ (n7 : Nat), ∀ (x1 x2 : Int32) (a3 : Nat → Int32) (H : Heap) (locs : List Loc) (ls : Array Slot), f_X2_swallowAll_L5 places_ members_ k5 n7 x1 x2 a3 = some (nears_', names_', nearnesses_') → Wd D A s.heap [(h0, .inr (2, [.int places_, .ref h_this_members, .ref h_this_ties, .ref h_this_nears, .ref h_this_names, .ref h_this_nearnesses, .ref h_this_partings, .ref h_this_unions])), (h_this_members, .inl (cI, 10, .inl members_)), (h_this_ties, .inl (cI, 100, .inl ties_)), (h_this_nears, .inl (cI, 10, .inl a3)), (h_this_names, .inl (cI, 90, .inl names_)), (h_this_nearnesses, .inl (cI, 90, .inl nearnesses_))] H locs → lv_has ls 6 [(0, .ref h0), (1, .int p1), (2, .int p2), (3, .int x1), (4, .int x2)] → W p l e rmX2_swallowAll s m ([.ref h0, .int p1, .int p2] : List Value).toArray below meth c H locs 0 0 (MQ below (Qv D [(h0, .inr (2, [.int places_, .ref h_this_members, .ref h_this_ties, .ref h_this_nears, .ref h_this_names, .ref h_this_nearnesses, .ref h_this_partings, .ref h_this_unions])), (h_this_members, .inl (cI, 10, .inl members_)), (h_this_ties, .inl (cI, 100, .inl ties_)), (h_this_nears, .inl (cI, 10, .inl nears_')), (h_this_names, .inl (cI, 90, .inl names_')), (h_this_nearnesses, .inl (cI, 90, .inl nearnesses_'))] A) ([.ref h0, .int p1, .int p2] : List Value).toArray s 0 0 A) (F0 m 5 ls []) := by
    intro k5 hk5 n7
    induction n7 with
    | zero => intro x1 x2 a3 H locs ls h; cases h
    | succ n7 ih5 =>
      intro x1 x2 a3 H locs ls h hw hl
      rw [f_X2_swallowAll_L5] at h
      refine lv_iload hx hb dX2_swallowAll_5 (lv_at hl 4 rfl) ?_
      refine lv_aload_n hx hb dX2_swallowAll_7 rfl (lv_at hl 0 rfl) ?_
      refine fg_X2_9 X hw 0 rfl rfl dX2_swallowAll_8 ?_
      refine lv_icmp_ge (tgt := 45) hx hb dX2_swallowAll_11 (by decide) (fun c1 => ?_) (fun c1 => ?_)
      · replace h := ip c1 h
        exact hk5 x1 a3 _ _ _ h hw (lv_sub hl [0, 1, 2, 3] rfl)
      · replace h := ig c1 h
        refine lv_aload_n hx hb dX2_swallowAll_14 rfl (lv_at hl 0 rfl) ?_
        refine fg_X2_22 X hw 0 rfl rfl dX2_swallowAll_15 ?_
        refine lv_iload hx hb dX2_swallowAll_18 (lv_at hl 4 rfl) ?_
        refine lv_iconst (v := 0) hx hb dX2_swallowAll_20 (by decide) ?_
        obtain ⟨b1, h⟩ := chk_inv h
        refine r_iast X hw 3 rfl b1 rfl dX2_swallowAll_21 (fun H locs hw => ?_)
        have hw : Wd D A s.heap [(h0, .inr (2, [.int places_, .ref h_this_members, .ref h_this_ties, .ref h_this_nears, .ref h_this_names, .ref h_this_nearnesses, .ref h_this_partings, .ref h_this_unions])), (h_this_members, .inl (cI, 10, .inl members_)), (h_this_ties, .inl (cI, 100, .inl ties_)), (h_this_nears, .inl (cI, 10, .inl (upd a3 (x2).toNatClampNeg (0 : Int32)))), (h_this_names, .inl (cI, 90, .inl names_)), (h_this_nearnesses, .inl (cI, 90, .inl nearnesses_))] H locs := hw
        refine lv_aload_n hx hb dX2_swallowAll_22 rfl (lv_at hl 0 rfl) ?_
        refine fg_X2_15 X hw 0 rfl rfl dX2_swallowAll_23 ?_
        refine lv_iload hx hb dX2_swallowAll_26 (lv_at hl 4 rfl) ?_
        obtain ⟨b1, h⟩ := chk_inv h
        refine r_iald X hw 1 rfl b1 rfl dX2_swallowAll_28 ?_
        have J39 : ∀ (x4 : Int32) (H : Heap) (locs : List Loc) (ls : Array Slot), f_X2_swallowAll_J39 (f_X2_swallowAll_L5 places_ members_ k5 n7) x2 a3 x4 = some (nears_', names_', nearnesses_') → Wd D A s.heap [(h0, .inr (2, [.int places_, .ref h_this_members, .ref h_this_ties, .ref h_this_nears, .ref h_this_names, .ref h_this_nearnesses, .ref h_this_partings, .ref h_this_unions])), (h_this_members, .inl (cI, 10, .inl members_)), (h_this_ties, .inl (cI, 100, .inl ties_)), (h_this_nears, .inl (cI, 10, .inl (upd a3 (x2).toNatClampNeg (0 : Int32)))), (h_this_names, .inl (cI, 90, .inl names_)), (h_this_nearnesses, .inl (cI, 90, .inl nearnesses_))] H locs → lv_has ls 6 [(0, .ref h0), (1, .int p1), (2, .int p2), (3, .int x4), (4, .int x2)] → W p l e rmX2_swallowAll s m ([.ref h0, .int p1, .int p2] : List Value).toArray below meth c H locs 0 0 (MQ below (Qv D [(h0, .inr (2, [.int places_, .ref h_this_members, .ref h_this_ties, .ref h_this_nears, .ref h_this_names, .ref h_this_nearnesses, .ref h_this_partings, .ref h_this_unions])), (h_this_members, .inl (cI, 10, .inl members_)), (h_this_ties, .inl (cI, 100, .inl ties_)), (h_this_nears, .inl (cI, 10, .inl nears_')), (h_this_names, .inl (cI, 90, .inl names_')), (h_this_nearnesses, .inl (cI, 90, .inl nearnesses_'))] A) ([.ref h0, .int p1, .int p2] : List Value).toArray s 0 0 A) (F0 m 39 ls []) := by
          intro x4 H locs ls h hw hl
          unfold f_X2_swallowAll_J39 at h
          refine lv_iinc (v := (x2 + (1 : Int32))) (lv' := [(4, .int (x2 + (1 : Int32))), (0, .ref h0), (1, .int p1), (2, .int p2), (3, .int x4)]) hx hb dX2_swallowAll_39 hl (k := 4) rfl rfl (by decide) rfl (fun ls hl => ?_)
          refine lv_goto (tgt := 5) hx hb dX2_swallowAll_42 (by decide) ?_
          exact ih5 x4 (x2 + (1 : Int32)) (upd a3 (x2).toNatClampNeg (0 : Int32)) _ _ _ h hw (lv_sub hl [1, 2, 3, 4, 0] rfl)
        refine lv_if_eq (tgt := 39) hx hb dX2_swallowAll_29 (by decide) (fun c1 => ?_) (fun c1 => ?_)
        · replace h := ip c1 h
          exact J39 x1 _ _ _ h hw (lv_sub hl [0, 1, 2, 3, 4] rfl)
        · replace h := ig c1 h
          refine lv_iload_n hx hb dX2_swallowAll_32 rfl (lv_at hl 3 rfl) ?_
          refine lv_iconst (v := 1) hx hb dX2_swallowAll_33 (by decide) ?_
          refine lv_iload hx hb dX2_swallowAll_34 (lv_at hl 4 rfl) ?_
          refine lv_ishl hx hb dX2_swallowAll_36 ?_
          refine lv_ior hx hb dX2_swallowAll_37 ?_
          refine lv_istore_n (lv' := [(3, .int (x1 ||| ((1 : Int32) <<< (x2 &&& (31 : Int32))))), (0, .ref h0), (1, .int p1), (2, .int p2), (4, .int x2)]) hx hb dX2_swallowAll_38 rfl hl (by decide) rfl (fun ls hl => ?_)
          exact J39 (x1 ||| ((1 : Int32) <<< (x2 &&& (31 : Int32)))) _ _ _ h hw (lv_sub hl [1, 2, 3, 0, 4] rfl)
  exact L5 (fun x8 a9 => f_X2_swallowAll_E45 N p1 places_ ties_ p2 names_ nearnesses_ x8 a9) (fun x8 a9 H locs ls h hw hl => E45 x8 a9 H locs ls h hw hl) N (0 : Int32) (0 : Int32) nears_ _ _ _ h hw (lv_sub hl [2, 3, 4, 1, 0] rfl)
def rmX2_isPhase : Room := { frames := 0, cells := 0, slots := 0, locals := 0 }
set_option maxHeartbeats 4000000 in
set_option maxRecDepth 100000 in
theorem c_X2_isPhase (l : Launch) (D : va_G) (cI cC cO : ClassId) (h0 h_this_members h_this_ties h_this_nears h_this_names h_this_nearnesses h_this_partings h_this_unions : Nat) (p1 places_ : Int32) (r_ : Int32) (h : f_X2_isPhase p1 places_ = some r_) : CI l yX2_isPhase (Wy yX2_isPhase cX2_isPhase 2 (some .boolean)) rmX2_isPhase D cI cC cO [.ref h0, .int p1] [(h0, .inr (2, [.int places_, .ref h_this_members, .ref h_this_ties, .ref h_this_nears, .ref h_this_names, .ref h_this_nearnesses, .ref h_this_partings, .ref h_this_unions]))] r_ [(h0, .inr (2, [.int places_, .ref h_this_members, .ref h_this_ties, .ref h_this_nears, .ref h_this_names, .ref h_this_nearnesses, .ref h_this_partings, .ref h_this_unions]))] := by
  refine enter_i RX2 (by decide) rfl (Nat.le_of_ble_eq_true rfl) ?_
  intro p e s m below meth c A X hr hlk hw ls hl
  have hx := X.1.1
  have hb := X.1.2.1
  have hl : lv_has ls 2 [(0, .ref h0), (1, .int p1)] := hl
  unfold f_X2_isPhase at h
  refine lv_iload_n hx hb dX2_isPhase_0 rfl (lv_at hl 1 rfl) ?_
  refine lv_if_lt (tgt := 18) hx hb dX2_isPhase_1 (by decide) (fun c1 => ?_) (fun c1 => ?_)
  · replace h := ip c1 h
    refine lv_iconst (v := 0) hx hb dX2_isPhase_18 (by decide) ?_
    obtain rfl := oi1 h
    exact r_retz X hw hr (Or.inl rfl) hlk dX2_isPhase_19
  · replace h := ig c1 h
    refine lv_iload_n hx hb dX2_isPhase_4 rfl (lv_at hl 1 rfl) ?_
    refine lv_aload_n hx hb dX2_isPhase_5 rfl (lv_at hl 0 rfl) ?_
    refine fg_X2_9 X hw 0 rfl rfl dX2_isPhase_6 ?_
    refine lv_iconst (v := 1) hx hb dX2_isPhase_9 (by decide) ?_
    refine lv_isub hx hb dX2_isPhase_10 ?_
    refine lv_icmp_ge (tgt := 18) hx hb dX2_isPhase_11 (by decide) (fun c1 => ?_) (fun c1 => ?_)
    · replace h := ip c1 h
      refine lv_iconst (v := 0) hx hb dX2_isPhase_18 (by decide) ?_
      obtain rfl := oi1 h
      exact r_retz X hw hr (Or.inl rfl) hlk dX2_isPhase_19
    · replace h := ig c1 h
      refine lv_iconst (v := 1) hx hb dX2_isPhase_14 (by decide) ?_
      refine lv_goto (tgt := 19) hx hb dX2_isPhase_15 (by decide) ?_
      obtain rfl := oi1 h
      exact r_retz X hw hr (Or.inr rfl) hlk dX2_isPhase_19
def rmX2_isRank : Room := { frames := 1, cells := 0, slots := 0, locals := 21 }
section
variable {p : Program} {l : Launch} {e : Env} {R : Room} {s : State} {m : MethodId} {args : Array Value} {below : List Frame} {meth : Method} {c : Code} {H : Heap} {locs : List Loc} {cells slots : Nat} {Q : State → Prop}
variable {cc : ByteArray} {pc nL : Nat} {ls : Array Slot} {rest : List Value} {D : va_G} {cI cC cO : ClassId} {A : Nat → Prop} {ws : va_W} {H0 : Heap}
theorem cs_X2_90 (X : Ctx p m c cc nL s args RX2 D cI cC cO) (hR : rmX2_isPhase.frames + 1 ≤ R.frames ∧ 8 + (2 + 11) + rmX2_isPhase.locals ≤ R.locals) : CallW R s args RX2 RX2 90 yX2_isPhase cX2_isPhase 2 (some .boolean) (Wy yX2_isPhase cX2_isPhase 2 (some .boolean)) rmX2_isPhase 0 0 1 := cwV 1 X.1.2.2.2.2 (gi_V tw_322 tw_324 sw_yX2_isPhase tw_5 tw_325) rfl rfl rfl (by decide +kernel) hR
end
set_option maxHeartbeats 4000000 in
set_option maxRecDepth 100000 in
theorem c_X2_isRank (l : Launch) (D : va_G) (cI cC cO : ClassId) (h0 h_this_members h_this_ties h_this_nears h_this_names h_this_nearnesses h_this_partings h_this_unions : Nat) (p1 p2 places_ : Int32) (r_ : Int32) (h : f_X2_isRank p1 p2 places_ = some r_) : CI l yX2_isRank (Wy yX2_isRank cX2_isRank 3 (some .boolean)) rmX2_isRank D cI cC cO [.ref h0, .int p1, .int p2] [(h0, .inr (2, [.int places_, .ref h_this_members, .ref h_this_ties, .ref h_this_nears, .ref h_this_names, .ref h_this_nearnesses, .ref h_this_partings, .ref h_this_unions]))] r_ [(h0, .inr (2, [.int places_, .ref h_this_members, .ref h_this_ties, .ref h_this_nears, .ref h_this_names, .ref h_this_nearnesses, .ref h_this_partings, .ref h_this_unions]))] := by
  refine enter_i RX2 (by decide) rfl (Nat.le_of_ble_eq_true rfl) ?_
  intro p e s m below meth c A X hr hlk hw ls hl
  have hx := X.1.1
  have hb := X.1.2.1
  have hl : lv_has ls 3 [(0, .ref h0), (1, .int p1), (2, .int p2)] := hl
  unfold f_X2_isRank at h
  refine lv_aload_n hx hb dX2_isRank_0 rfl (lv_at hl 0 rfl) ?_
  refine lv_iload_n hx hb dX2_isRank_1 rfl (lv_at hl 1 rfl) ?_
  obtain ⟨r1, hc, h⟩ := bd1_inv h
  refine r_cVi X hw (As := [.int p1]) (rest := []) (wr := []) (ws' := [(h0, .inr (2, [.int places_, .ref h_this_members, .ref h_this_ties, .ref h_this_nears, .ref h_this_names, .ref h_this_nearnesses, .ref h_this_partings, .ref h_this_unions]))]) (c_X2_isPhase l D cI cC cO h0 h_this_members h_this_ties h_this_nears h_this_names h_this_nearnesses h_this_partings h_this_unions p1 places_ r1 hc) (cs_X2_90 X (by decide)) [0] [] [0] rfl rfl rfl rfl (by decide) rfl rfl 0 rfl rfl rfl rfl hl.1 rfl (Nat.le_of_ble_eq_true rfl) dX2_isRank_2 ⟨Nat.zero_le _, Nat.zero_le _⟩ (fun H locs hw => ?_)
  refine lv_if_eq (tgt := 25) hx hb dX2_isRank_5 (by decide) (fun c1 => ?_) (fun c1 => ?_)
  · replace h := ip c1 h
    refine lv_iconst (v := 0) hx hb dX2_isRank_25 (by decide) ?_
    obtain rfl := oi1 h
    exact r_retz X hw hr (Or.inl rfl) hlk dX2_isRank_26
  · replace h := ig c1 h
    refine lv_iload_n hx hb dX2_isRank_8 rfl (lv_at hl 2 rfl) ?_
    refine lv_if_lt (tgt := 25) hx hb dX2_isRank_9 (by decide) (fun c1 => ?_) (fun c1 => ?_)
    · replace h := ip c1 h
      refine lv_iconst (v := 0) hx hb dX2_isRank_25 (by decide) ?_
      obtain rfl := oi1 h
      exact r_retz X hw hr (Or.inl rfl) hlk dX2_isRank_26
    · replace h := ig c1 h
      refine lv_iload_n hx hb dX2_isRank_12 rfl (lv_at hl 2 rfl) ?_
      refine lv_aload_n hx hb dX2_isRank_13 rfl (lv_at hl 0 rfl) ?_
      refine lv_iload_n hx hb dX2_isRank_14 rfl (lv_at hl 1 rfl) ?_
      obtain ⟨r2, hc, h⟩ := bd1_inv h
      refine r_cVi X hw (As := [.int p1]) (rest := [.int p2]) (wr := []) (ws' := [(h0, .inr (2, [.int places_, .ref h_this_members, .ref h_this_ties, .ref h_this_nears, .ref h_this_names, .ref h_this_nearnesses, .ref h_this_partings, .ref h_this_unions]))]) (c_X2_lumpsIn l D cI cC cO h0 h_this_members h_this_ties h_this_nears h_this_names h_this_nearnesses h_this_partings h_this_unions p1 places_ r2 hc) (cs_X2_67 X (by decide)) [0] [] [0] rfl rfl rfl rfl (by decide) rfl rfl 0 rfl rfl rfl rfl hl.1 rfl (Nat.le_of_ble_eq_true rfl) dX2_isRank_15 ⟨Nat.zero_le _, Nat.zero_le _⟩ (fun H locs hw => ?_)
      refine lv_icmp_ge (tgt := 25) hx hb dX2_isRank_18 (by decide) (fun c1 => ?_) (fun c1 => ?_)
      · replace h := ip c1 h
        refine lv_iconst (v := 0) hx hb dX2_isRank_25 (by decide) ?_
        obtain rfl := oi1 h
        exact r_retz X hw hr (Or.inl rfl) hlk dX2_isRank_26
      · replace h := ig c1 h
        refine lv_iconst (v := 1) hx hb dX2_isRank_21 (by decide) ?_
        refine lv_goto (tgt := 26) hx hb dX2_isRank_22 (by decide) ?_
        obtain rfl := oi1 h
        exact r_retz X hw hr (Or.inr rfl) hlk dX2_isRank_26
def rmX2_nameAt : Room := { frames := 2, cells := 0, slots := 0, locals := 43 }
section
variable {p : Program} {l : Launch} {e : Env} {R : Room} {s : State} {m : MethodId} {args : Array Value} {below : List Frame} {meth : Method} {c : Code} {H : Heap} {locs : List Loc} {cells slots : Nat} {Q : State → Prop}
variable {cc : ByteArray} {pc nL : Nat} {ls : Array Slot} {rest : List Value} {D : va_G} {cI cC cO : ClassId} {A : Nat → Prop} {ws : va_W} {H0 : Heap}
theorem cs_X2_97 (X : Ctx p m c cc nL s args RX2 D cI cC cO) (hR : rmX2_isRank.frames + 1 ≤ R.frames ∧ 8 + (3 + 11) + rmX2_isRank.locals ≤ R.locals) : CallW R s args RX2 RX2 97 yX2_isRank cX2_isRank 3 (some .boolean) (Wy yX2_isRank cX2_isRank 3 (some .boolean)) rmX2_isRank 0 0 2 := cwV 2 X.1.2.2.2.2 (gi_V tw_318 tw_320 sw_yX2_isRank tw_5 tw_321) rfl rfl rfl (by decide +kernel) hR
end
set_option maxHeartbeats 4000000 in
set_option maxRecDepth 100000 in
theorem c_X2_nameAt (l : Launch) (D : va_G) (cI cC cO : ClassId) (h0 h_this_members h_this_ties h_this_nears h_this_names h_this_nearnesses h_this_partings h_this_unions : Nat) (p1 p2 places_ : Int32) (names_ : Nat → Int32) (r_ : Int32) (h : f_X2_nameAt p1 p2 places_ names_ = some r_) : CI l yX2_nameAt (Wy yX2_nameAt cX2_nameAt 3 (some .int)) rmX2_nameAt D cI cC cO [.ref h0, .int p1, .int p2] [(h0, .inr (2, [.int places_, .ref h_this_members, .ref h_this_ties, .ref h_this_nears, .ref h_this_names, .ref h_this_nearnesses, .ref h_this_partings, .ref h_this_unions])), (h_this_names, .inl (cI, 90, .inl names_))] r_ [(h0, .inr (2, [.int places_, .ref h_this_members, .ref h_this_ties, .ref h_this_nears, .ref h_this_names, .ref h_this_nearnesses, .ref h_this_partings, .ref h_this_unions])), (h_this_names, .inl (cI, 90, .inl names_))] := by
  refine enter_i RX2 (by decide) rfl (Nat.le_of_ble_eq_true rfl) ?_
  intro p e s m below meth c A X hr hlk hw ls hl
  have hx := X.1.1
  have hb := X.1.2.1
  have hl : lv_has ls 3 [(0, .ref h0), (1, .int p1), (2, .int p2)] := hl
  unfold f_X2_nameAt at h
  refine lv_aload_n hx hb dX2_nameAt_0 rfl (lv_at hl 0 rfl) ?_
  refine lv_iload_n hx hb dX2_nameAt_1 rfl (lv_at hl 1 rfl) ?_
  refine lv_iload_n hx hb dX2_nameAt_2 rfl (lv_at hl 2 rfl) ?_
  obtain ⟨r1, hc, h⟩ := bd1_inv h
  refine r_cVi X hw (As := [.int p1, .int p2]) (rest := []) (wr := [(h_this_names, .inl (cI, 90, .inl names_))]) (ws' := [(h0, .inr (2, [.int places_, .ref h_this_members, .ref h_this_ties, .ref h_this_nears, .ref h_this_names, .ref h_this_nearnesses, .ref h_this_partings, .ref h_this_unions])), (h_this_names, .inl (cI, 90, .inl names_))]) (c_X2_isRank l D cI cC cO h0 h_this_members h_this_ties h_this_nears h_this_names h_this_nearnesses h_this_partings h_this_unions p1 p2 places_ r1 hc) (cs_X2_97 X (by decide)) [0] [1] [1, 0] rfl rfl rfl rfl (by decide) rfl rfl 0 rfl rfl rfl rfl hl.1 rfl (Nat.le_of_ble_eq_true rfl) dX2_nameAt_3 ⟨Nat.zero_le _, Nat.zero_le _⟩ (fun H locs hw => ?_)
  refine lv_if_eq (tgt := 23) hx hb dX2_nameAt_6 (by decide) (fun c1 => ?_) (fun c1 => ?_)
  · replace h := ip c1 h
    refine lv_iconst (v := 0) hx hb dX2_nameAt_23 (by decide) ?_
    obtain rfl := oi1 h
    exact r_ret X hw hr hlk dX2_nameAt_24
  · replace h := ig c1 h
    refine lv_aload_n hx hb dX2_nameAt_9 rfl (lv_at hl 0 rfl) ?_
    refine fg_X2_25 X hw 0 rfl rfl dX2_nameAt_10 ?_
    refine lv_iload_n hx hb dX2_nameAt_13 rfl (lv_at hl 1 rfl) ?_
    refine lv_bipush (v := 10) hx hb dX2_nameAt_14 (by decide) ?_
    refine lv_imul hx hb dX2_nameAt_16 ?_
    refine lv_iload_n hx hb dX2_nameAt_17 rfl (lv_at hl 2 rfl) ?_
    refine lv_iadd hx hb dX2_nameAt_18 ?_
    obtain ⟨b1, h⟩ := chk_inv h
    refine r_iald X hw 1 rfl b1 rfl dX2_nameAt_19 ?_
    refine lv_goto (tgt := 24) hx hb dX2_nameAt_20 (by decide) ?_
    obtain rfl := oi1 h
    exact r_ret X hw hr hlk dX2_nameAt_24
def rmX2_unite : Room := { frames := 0, cells := 0, slots := 0, locals := 0 }
set_option maxHeartbeats 4000000 in
set_option maxRecDepth 100000 in
theorem c_X2_unite (l : Launch) (D : va_G) (cI cC cO : ClassId) (N : Nat) (h0 h_this_members h_this_ties h_this_nears h_this_names h_this_nearnesses h_this_partings h_this_unions : Nat) (p1 p2 places_ : Int32) (members_ ties_ : Nat → Int32) (members_' : Nat → Int32) (ties_' : Nat → Int32) (h : f_X2_unite N p1 p2 places_ members_ ties_ = some (members_', ties_')) : CV l yX2_unite (Wy yX2_unite cX2_unite 5 none) rmX2_unite D cI cC cO [.ref h0, .int p1, .int p2] [(h0, .inr (2, [.int places_, .ref h_this_members, .ref h_this_ties, .ref h_this_nears, .ref h_this_names, .ref h_this_nearnesses, .ref h_this_partings, .ref h_this_unions])), (h_this_members, .inl (cI, 10, .inl members_)), (h_this_ties, .inl (cI, 100, .inl ties_))] [(h0, .inr (2, [.int places_, .ref h_this_members, .ref h_this_ties, .ref h_this_nears, .ref h_this_names, .ref h_this_nearnesses, .ref h_this_partings, .ref h_this_unions])), (h_this_members, .inl (cI, 10, .inl members_')), (h_this_ties, .inl (cI, 100, .inl ties_'))] := by
  refine enter_v RX2 (by decide) rfl (Nat.le_of_ble_eq_true rfl) ?_
  intro p e s m below meth c A X hr hlk hw ls hl
  have hx := X.1.1
  have hb := X.1.2.1
  have hl : lv_has ls 5 [(0, .ref h0), (1, .int p1), (2, .int p2)] := hl
  unfold f_X2_unite at h
  refine lv_aload_n hx hb dX2_unite_0 rfl (lv_at hl 0 rfl) ?_
  refine fg_X2_15 X hw 0 rfl rfl dX2_unite_1 ?_
  refine lv_iload_n hx hb dX2_unite_4 rfl (lv_at hl 1 rfl) ?_
  refine lv_dup2_11 hx hb dX2_unite_5 rfl rfl ?_
  obtain ⟨b1, h⟩ := chk_inv h
  refine r_iald X hw 1 rfl b1 rfl dX2_unite_6 ?_
  refine lv_aload_n hx hb dX2_unite_7 rfl (lv_at hl 0 rfl) ?_
  refine fg_X2_15 X hw 0 rfl rfl dX2_unite_8 ?_
  refine lv_iload_n hx hb dX2_unite_11 rfl (lv_at hl 2 rfl) ?_
  obtain ⟨b1, h⟩ := chk_inv h
  refine r_iald X hw 1 rfl b1 rfl dX2_unite_12 ?_
  refine lv_ior hx hb dX2_unite_13 ?_
  obtain ⟨b1, h⟩ := chk_inv h
  refine r_iast X hw 1 rfl b1 rfl dX2_unite_14 (fun H locs hw => ?_)
  have hw : Wd D A s.heap [(h0, .inr (2, [.int places_, .ref h_this_members, .ref h_this_ties, .ref h_this_nears, .ref h_this_names, .ref h_this_nearnesses, .ref h_this_partings, .ref h_this_unions])), (h_this_members, .inl (cI, 10, .inl (upd members_ (p1).toNatClampNeg ((members_ (p1).toNatClampNeg) ||| (members_ (p2).toNatClampNeg))))), (h_this_ties, .inl (cI, 100, .inl ties_))] H locs := hw
  refine lv_aload_n hx hb dX2_unite_15 rfl (lv_at hl 0 rfl) ?_
  refine fg_X2_15 X hw 0 rfl rfl dX2_unite_16 ?_
  refine lv_iload_n hx hb dX2_unite_19 rfl (lv_at hl 2 rfl) ?_
  refine lv_iconst (v := 0) hx hb dX2_unite_20 (by decide) ?_
  obtain ⟨b1, h⟩ := chk_inv h
  refine r_iast X hw 1 rfl b1 rfl dX2_unite_21 (fun H locs hw => ?_)
  have hw : Wd D A s.heap [(h0, .inr (2, [.int places_, .ref h_this_members, .ref h_this_ties, .ref h_this_nears, .ref h_this_names, .ref h_this_nearnesses, .ref h_this_partings, .ref h_this_unions])), (h_this_members, .inl (cI, 10, .inl (upd (upd members_ (p1).toNatClampNeg ((members_ (p1).toNatClampNeg) ||| (members_ (p2).toNatClampNeg))) (p2).toNatClampNeg (0 : Int32)))), (h_this_ties, .inl (cI, 100, .inl ties_))] H locs := hw
  refine lv_iconst (v := 0) hx hb dX2_unite_22 (by decide) ?_
  refine lv_istore_n (lv' := [(3, .int (0 : Int32)), (0, .ref h0), (1, .int p1), (2, .int p2)]) hx hb dX2_unite_23 rfl hl (by decide) rfl (fun ls hl => ?_)
  have E89 : ∀ (a6 : Nat → Int32) (H : Heap) (locs : List Loc) (ls : Array Slot), f_X2_unite_E89 members_ p1 p2 a6 = some (members_', ties_') → Wd D A s.heap [(h0, .inr (2, [.int places_, .ref h_this_members, .ref h_this_ties, .ref h_this_nears, .ref h_this_names, .ref h_this_nearnesses, .ref h_this_partings, .ref h_this_unions])), (h_this_members, .inl (cI, 10, .inl (upd (upd members_ (p1).toNatClampNeg ((members_ (p1).toNatClampNeg) ||| (members_ (p2).toNatClampNeg))) (p2).toNatClampNeg (0 : Int32)))), (h_this_ties, .inl (cI, 100, .inl a6))] H locs → lv_has ls 5 [] → W p l e rmX2_unite s m ([.ref h0, .int p1, .int p2] : List Value).toArray below meth c H locs 0 0 (MQ below (Qv D [(h0, .inr (2, [.int places_, .ref h_this_members, .ref h_this_ties, .ref h_this_nears, .ref h_this_names, .ref h_this_nearnesses, .ref h_this_partings, .ref h_this_unions])), (h_this_members, .inl (cI, 10, .inl members_')), (h_this_ties, .inl (cI, 100, .inl ties_'))] A) ([.ref h0, .int p1, .int p2] : List Value).toArray s 0 0 A) (F0 m 89 ls []) := by
    intro a6 H locs ls h hw hl
    unfold f_X2_unite_E89 at h
    obtain ⟨rfl, rfl⟩ := oi2 h
    exact r_retv X hw hr hlk dX2_unite_89
  have L24 : ∀ (k3 : (Nat → Int32) → Option ((Nat → Int32) × (Nat → Int32))), (∀ (a6 : Nat → Int32) (H : Heap) (locs : List Loc) (ls : Array Slot), k3 a6 = some (members_', ties_') → Wd D A s.heap [(h0, .inr (2, [.int places_, .ref h_this_members, .ref h_this_ties, .ref h_this_nears, .ref h_this_names, .ref h_this_nearnesses, .ref h_this_partings, .ref h_this_unions])), (h_this_members, .inl (cI, 10, .inl (upd (upd members_ (p1).toNatClampNeg ((members_ (p1).toNatClampNeg) ||| (members_ (p2).toNatClampNeg))) (p2).toNatClampNeg (0 : Int32)))), (h_this_ties, .inl (cI, 100, .inl a6))] H locs → lv_has ls 5 [] → W p l e rmX2_unite s m ([.ref h0, .int p1, .int p2] : List Value).toArray below meth c H locs 0 0 (MQ below (Qv D [(h0, .inr (2, [.int places_, .ref h_this_members, .ref h_this_ties, .ref h_this_nears, .ref h_this_names, .ref h_this_nearnesses, .ref h_this_partings, .ref h_this_unions])), (h_this_members, .inl (cI, 10, .inl members_')), (h_this_ties, .inl (cI, 100, .inl ties_'))] A) ([.ref h0, .int p1, .int p2] : List Value).toArray s 0 0 A) (F0 m 89 ls [])) → ∀ (n5 : Nat), ∀ (x1 : Int32) (a2 : Nat → Int32) (H : Heap) (locs : List Loc) (ls : Array Slot), f_X2_unite_L24 places_ p1 p2 k3 n5 x1 a2 = some (members_', ties_') → Wd D A s.heap [(h0, .inr (2, [.int places_, .ref h_this_members, .ref h_this_ties, .ref h_this_nears, .ref h_this_names, .ref h_this_nearnesses, .ref h_this_partings, .ref h_this_unions])), (h_this_members, .inl (cI, 10, .inl (upd (upd members_ (p1).toNatClampNeg ((members_ (p1).toNatClampNeg) ||| (members_ (p2).toNatClampNeg))) (p2).toNatClampNeg (0 : Int32)))), (h_this_ties, .inl (cI, 100, .inl a2))] H locs → lv_has ls 5 [(0, .ref h0), (1, .int p1), (2, .int p2), (3, .int x1)] → W p l e rmX2_unite s m ([.ref h0, .int p1, .int p2] : List Value).toArray below meth c H locs 0 0 (MQ below (Qv D [(h0, .inr (2, [.int places_, .ref h_this_members, .ref h_this_ties, .ref h_this_nears, .ref h_this_names, .ref h_this_nearnesses, .ref h_this_partings, .ref h_this_unions])), (h_this_members, .inl (cI, 10, .inl members_')), (h_this_ties, .inl (cI, 100, .inl ties_'))] A) ([.ref h0, .int p1, .int p2] : List Value).toArray s 0 0 A) (F0 m 24 ls []) := by
    intro k3 hk24 n5
    induction n5 with
    | zero => intro x1 a2 H locs ls h; cases h
    | succ n5 ih24 =>
      intro x1 a2 H locs ls h hw hl
      rw [f_X2_unite_L24] at h
      refine lv_iload_n hx hb dX2_unite_24 rfl (lv_at hl 3 rfl) ?_
      refine lv_aload_n hx hb dX2_unite_25 rfl (lv_at hl 0 rfl) ?_
      refine fg_X2_9 X hw 0 rfl rfl dX2_unite_26 ?_
      refine lv_icmp_ge (tgt := 89) hx hb dX2_unite_29 (by decide) (fun c1 => ?_) (fun c1 => ?_)
      · replace h := ip c1 h
        exact hk24 a2 _ _ _ h hw (lv_sub hl [] rfl)
      · replace h := ig c1 h
        refine lv_aload_n hx hb dX2_unite_32 rfl (lv_at hl 0 rfl) ?_
        refine fg_X2_19 X hw 0 rfl rfl dX2_unite_33 ?_
        refine lv_iload_n hx hb dX2_unite_36 rfl (lv_at hl 1 rfl) ?_
        refine lv_bipush (v := 10) hx hb dX2_unite_37 (by decide) ?_
        refine lv_imul hx hb dX2_unite_39 ?_
        refine lv_iload_n hx hb dX2_unite_40 rfl (lv_at hl 3 rfl) ?_
        refine lv_iadd hx hb dX2_unite_41 ?_
        obtain ⟨b1, h⟩ := chk_inv h
        refine r_iald X hw 2 rfl b1 rfl dX2_unite_42 ?_
        refine lv_aload_n hx hb dX2_unite_43 rfl (lv_at hl 0 rfl) ?_
        refine fg_X2_19 X hw 0 rfl rfl dX2_unite_44 ?_
        refine lv_iload_n hx hb dX2_unite_47 rfl (lv_at hl 2 rfl) ?_
        refine lv_bipush (v := 10) hx hb dX2_unite_48 (by decide) ?_
        refine lv_imul hx hb dX2_unite_50 ?_
        refine lv_iload_n hx hb dX2_unite_51 rfl (lv_at hl 3 rfl) ?_
        refine lv_iadd hx hb dX2_unite_52 ?_
        obtain ⟨b1, h⟩ := chk_inv h
        refine r_iald X hw 2 rfl b1 rfl dX2_unite_53 ?_
        refine lv_iadd hx hb dX2_unite_54 ?_
        refine lv_istore (lv' := [(4, .int ((a2 (((p1 * (10 : Int32)) + x1)).toNatClampNeg) + (a2 (((p2 * (10 : Int32)) + x1)).toNatClampNeg))), (0, .ref h0), (1, .int p1), (2, .int p2), (3, .int x1)]) hx hb dX2_unite_55 hl (by decide) rfl (fun ls hl => ?_)
        refine lv_aload_n hx hb dX2_unite_57 rfl (lv_at hl 1 rfl) ?_
        refine fg_X2_19 X hw 0 rfl rfl dX2_unite_58 ?_
        refine lv_iload_n hx hb dX2_unite_61 rfl (lv_at hl 2 rfl) ?_
        refine lv_bipush (v := 10) hx hb dX2_unite_62 (by decide) ?_
        refine lv_imul hx hb dX2_unite_64 ?_
        refine lv_iload_n hx hb dX2_unite_65 rfl (lv_at hl 4 rfl) ?_
        refine lv_iadd hx hb dX2_unite_66 ?_
        refine lv_iload hx hb dX2_unite_67 (lv_at hl 0 rfl) ?_
        obtain ⟨b1, h⟩ := chk_inv h
        refine r_iast X hw 2 rfl b1 rfl dX2_unite_69 (fun H locs hw => ?_)
        have hw : Wd D A s.heap [(h0, .inr (2, [.int places_, .ref h_this_members, .ref h_this_ties, .ref h_this_nears, .ref h_this_names, .ref h_this_nearnesses, .ref h_this_partings, .ref h_this_unions])), (h_this_members, .inl (cI, 10, .inl (upd (upd members_ (p1).toNatClampNeg ((members_ (p1).toNatClampNeg) ||| (members_ (p2).toNatClampNeg))) (p2).toNatClampNeg (0 : Int32)))), (h_this_ties, .inl (cI, 100, .inl (upd a2 (((p1 * (10 : Int32)) + x1)).toNatClampNeg ((a2 (((p1 * (10 : Int32)) + x1)).toNatClampNeg) + (a2 (((p2 * (10 : Int32)) + x1)).toNatClampNeg)))))] H locs := hw
        refine lv_aload_n hx hb dX2_unite_70 rfl (lv_at hl 1 rfl) ?_
        refine fg_X2_19 X hw 0 rfl rfl dX2_unite_71 ?_
        refine lv_iload_n hx hb dX2_unite_74 rfl (lv_at hl 4 rfl) ?_
        refine lv_bipush (v := 10) hx hb dX2_unite_75 (by decide) ?_
        refine lv_imul hx hb dX2_unite_77 ?_
        refine lv_iload_n hx hb dX2_unite_78 rfl (lv_at hl 2 rfl) ?_
        refine lv_iadd hx hb dX2_unite_79 ?_
        refine lv_iload hx hb dX2_unite_80 (lv_at hl 0 rfl) ?_
        obtain ⟨b1, h⟩ := chk_inv h
        refine r_iast X hw 2 rfl b1 rfl dX2_unite_82 (fun H locs hw => ?_)
        have hw : Wd D A s.heap [(h0, .inr (2, [.int places_, .ref h_this_members, .ref h_this_ties, .ref h_this_nears, .ref h_this_names, .ref h_this_nearnesses, .ref h_this_partings, .ref h_this_unions])), (h_this_members, .inl (cI, 10, .inl (upd (upd members_ (p1).toNatClampNeg ((members_ (p1).toNatClampNeg) ||| (members_ (p2).toNatClampNeg))) (p2).toNatClampNeg (0 : Int32)))), (h_this_ties, .inl (cI, 100, .inl (upd (upd a2 (((p1 * (10 : Int32)) + x1)).toNatClampNeg ((a2 (((p1 * (10 : Int32)) + x1)).toNatClampNeg) + (a2 (((p2 * (10 : Int32)) + x1)).toNatClampNeg))) (((x1 * (10 : Int32)) + p1)).toNatClampNeg ((a2 (((p1 * (10 : Int32)) + x1)).toNatClampNeg) + (a2 (((p2 * (10 : Int32)) + x1)).toNatClampNeg)))))] H locs := hw
        refine lv_iinc (v := (x1 + (1 : Int32))) (lv' := [(3, .int (x1 + (1 : Int32))), (4, .int ((a2 (((p1 * (10 : Int32)) + x1)).toNatClampNeg) + (a2 (((p2 * (10 : Int32)) + x1)).toNatClampNeg))), (0, .ref h0), (1, .int p1), (2, .int p2)]) hx hb dX2_unite_83 hl (k := 4) rfl rfl (by decide) rfl (fun ls hl => ?_)
        refine lv_goto (tgt := 24) hx hb dX2_unite_86 (by decide) ?_
        exact ih24 (x1 + (1 : Int32)) (upd (upd a2 (((p1 * (10 : Int32)) + x1)).toNatClampNeg ((a2 (((p1 * (10 : Int32)) + x1)).toNatClampNeg) + (a2 (((p2 * (10 : Int32)) + x1)).toNatClampNeg))) (((x1 * (10 : Int32)) + p1)).toNatClampNeg ((a2 (((p1 * (10 : Int32)) + x1)).toNatClampNeg) + (a2 (((p2 * (10 : Int32)) + x1)).toNatClampNeg))) _ _ _ h hw (lv_sub hl [2, 3, 4, 0] rfl)
  exact L24 (fun a6 => f_X2_unite_E89 members_ p1 p2 a6) (fun a6 H locs ls h hw hl => E89 a6 H locs ls h hw hl) N (0 : Int32) ties_ _ _ _ h hw (lv_sub hl [1, 2, 3, 0] rfl)
def rmX2_endPhase : Room := { frames := 3, cells := 0, slots := 0, locals := 65 }
section
variable {p : Program} {l : Launch} {e : Env} {R : Room} {s : State} {m : MethodId} {args : Array Value} {below : List Frame} {meth : Method} {c : Code} {H : Heap} {locs : List Loc} {cells slots : Nat} {Q : State → Prop}
variable {cc : ByteArray} {pc nL : Nat} {ls : Array Slot} {rest : List Value} {D : va_G} {cI cC cO : ClassId} {A : Nat → Prop} {ws : va_W} {H0 : Heap}
theorem cs_X2_76 (X : Ctx p m c cc nL s args RX2 D cI cC cO) (hR : rmX2_nameAt.frames + 1 ≤ R.frames ∧ 8 + (3 + 11) + rmX2_nameAt.locals ≤ R.locals) : CallW R s args RX2 RX2 76 yX2_nameAt cX2_nameAt 3 (some .int) (Wy yX2_nameAt cX2_nameAt 3 (some .int)) rmX2_nameAt 0 0 2 := cwV 2 X.1.2.2.2.2 (gi_V tw_314 tw_315 tw_316 tw_5 tw_317) rfl rfl rfl (by decide +kernel) hR
theorem cs_X2_87 (X : Ctx p m c cc nL s args RX2 D cI cC cO) (hR : rmX2_unite.frames + 1 ≤ R.frames ∧ 8 + (5 + 11) + rmX2_unite.locals ≤ R.locals) : CallW R s args RX2 RX2 87 yX2_unite cX2_unite 5 none (Wy yX2_unite cX2_unite 5 none) rmX2_unite 0 0 2 := cwV 2 X.1.2.2.2.2 (gi_V tw_328 tw_330 sw_yX2_unite tw_5 tw_331) rfl rfl rfl (by decide +kernel) hR
end
set_option maxHeartbeats 4000000 in
set_option maxRecDepth 100000 in
theorem c_X2_endPhase (l : Launch) (D : va_G) (cI cC cO : ClassId) (N : Nat) (h0 h_this_members h_this_ties h_this_nears h_this_names h_this_nearnesses h_this_partings h_this_unions : Nat) (p1 places_ : Int32) (members_ ties_ names_ partings_ unions_ : Nat → Int32) (members_' : Nat → Int32) (ties_' : Nat → Int32) (partings_' : Nat → Int32) (unions_' : Nat → Int32) (h : f_X2_endPhase N p1 places_ members_ ties_ names_ partings_ unions_ = some (members_', ties_', partings_', unions_')) : CV l yX2_endPhase (Wy yX2_endPhase cX2_endPhase 5 none) rmX2_endPhase D cI cC cO [.ref h0, .int p1] [(h0, .inr (2, [.int places_, .ref h_this_members, .ref h_this_ties, .ref h_this_nears, .ref h_this_names, .ref h_this_nearnesses, .ref h_this_partings, .ref h_this_unions])), (h_this_members, .inl (cI, 10, .inl members_)), (h_this_ties, .inl (cI, 100, .inl ties_)), (h_this_names, .inl (cI, 90, .inl names_)), (h_this_partings, .inl (cI, 9, .inl partings_)), (h_this_unions, .inl (cI, 9, .inl unions_))] [(h0, .inr (2, [.int places_, .ref h_this_members, .ref h_this_ties, .ref h_this_nears, .ref h_this_names, .ref h_this_nearnesses, .ref h_this_partings, .ref h_this_unions])), (h_this_members, .inl (cI, 10, .inl members_')), (h_this_ties, .inl (cI, 100, .inl ties_')), (h_this_names, .inl (cI, 90, .inl names_)), (h_this_partings, .inl (cI, 9, .inl partings_')), (h_this_unions, .inl (cI, 9, .inl unions_'))] := by
  refine enter_v RX2 (by decide) rfl (Nat.le_of_ble_eq_true rfl) ?_
  intro p e s m below meth c A X hr hlk hw ls hl
  have hx := X.1.1
  have hb := X.1.2.1
  have hl : lv_has ls 5 [(0, .ref h0), (1, .int p1)] := hl
  unfold f_X2_endPhase at h
  refine lv_aload_n hx hb dX2_endPhase_0 rfl (lv_at hl 0 rfl) ?_
  refine lv_iload_n hx hb dX2_endPhase_1 rfl (lv_at hl 1 rfl) ?_
  refine lv_aload_n hx hb dX2_endPhase_2 rfl (lv_at hl 0 rfl) ?_
  refine lv_iload_n hx hb dX2_endPhase_3 rfl (lv_at hl 1 rfl) ?_
  obtain ⟨r1, hc, h⟩ := bd1_inv h
  refine r_cVi X hw (As := [.int p1]) (rest := [.int p1, .ref h0]) (wr := [(h_this_members, .inl (cI, 10, .inl members_)), (h_this_ties, .inl (cI, 100, .inl ties_)), (h_this_names, .inl (cI, 90, .inl names_)), (h_this_partings, .inl (cI, 9, .inl partings_)), (h_this_unions, .inl (cI, 9, .inl unions_))]) (ws' := [(h0, .inr (2, [.int places_, .ref h_this_members, .ref h_this_ties, .ref h_this_nears, .ref h_this_names, .ref h_this_nearnesses, .ref h_this_partings, .ref h_this_unions])), (h_this_members, .inl (cI, 10, .inl members_)), (h_this_ties, .inl (cI, 100, .inl ties_)), (h_this_names, .inl (cI, 90, .inl names_)), (h_this_partings, .inl (cI, 9, .inl partings_)), (h_this_unions, .inl (cI, 9, .inl unions_))]) (c_X2_lumpsIn l D cI cC cO h0 h_this_members h_this_ties h_this_nears h_this_names h_this_nearnesses h_this_partings h_this_unions p1 places_ r1 hc) (cs_X2_67 X (by decide)) [0] [1, 2, 3, 4, 5] [5, 0, 1, 2, 3, 4] rfl rfl rfl rfl (by decide) rfl rfl 0 rfl rfl rfl rfl hl.1 rfl (Nat.le_of_ble_eq_true rfl) dX2_endPhase_4 ⟨Nat.zero_le _, Nat.zero_le _⟩ (fun H locs hw => ?_)
  refine lv_iconst (v := 1) hx hb dX2_endPhase_7 (by decide) ?_
  refine lv_isub hx hb dX2_endPhase_8 ?_
  obtain ⟨r2, hc, h⟩ := bd1_inv h
  refine r_cVi X hw (As := [.int p1, .int (r1 - (1 : Int32))]) (rest := []) (wr := [(h_this_members, .inl (cI, 10, .inl members_)), (h_this_ties, .inl (cI, 100, .inl ties_)), (h_this_partings, .inl (cI, 9, .inl partings_)), (h_this_unions, .inl (cI, 9, .inl unions_))]) (ws' := [(h0, .inr (2, [.int places_, .ref h_this_members, .ref h_this_ties, .ref h_this_nears, .ref h_this_names, .ref h_this_nearnesses, .ref h_this_partings, .ref h_this_unions])), (h_this_members, .inl (cI, 10, .inl members_)), (h_this_ties, .inl (cI, 100, .inl ties_)), (h_this_names, .inl (cI, 90, .inl names_)), (h_this_partings, .inl (cI, 9, .inl partings_)), (h_this_unions, .inl (cI, 9, .inl unions_))]) (c_X2_nameAt l D cI cC cO h0 h_this_members h_this_ties h_this_nears h_this_names h_this_nearnesses h_this_partings h_this_unions p1 (r1 - (1 : Int32)) places_ names_ r2 hc) (cs_X2_76 X (by decide)) [0, 3] [1, 2, 4, 5] [4, 0, 1, 5, 2, 3] rfl rfl rfl rfl (by decide) rfl rfl 0 rfl rfl rfl rfl hl.1 rfl (Nat.le_of_ble_eq_true rfl) dX2_endPhase_9 ⟨Nat.zero_le _, Nat.zero_le _⟩ (fun H locs hw => ?_)
  refine lv_istore_n (lv' := [(2, .int r2), (0, .ref h0), (1, .int p1)]) hx hb dX2_endPhase_12 rfl hl (by decide) rfl (fun ls hl => ?_)
  refine lv_aload_n hx hb dX2_endPhase_13 rfl (lv_at hl 1 rfl) ?_
  refine lv_iload_n hx hb dX2_endPhase_14 rfl (lv_at hl 2 rfl) ?_
  refine lv_aload_n hx hb dX2_endPhase_15 rfl (lv_at hl 1 rfl) ?_
  refine lv_iload_n hx hb dX2_endPhase_16 rfl (lv_at hl 2 rfl) ?_
  obtain ⟨r3, hc, h⟩ := bd1_inv h
  refine r_cVi X hw (As := [.int p1]) (rest := [.int p1, .ref h0]) (wr := [(h_this_members, .inl (cI, 10, .inl members_)), (h_this_ties, .inl (cI, 100, .inl ties_)), (h_this_names, .inl (cI, 90, .inl names_)), (h_this_partings, .inl (cI, 9, .inl partings_)), (h_this_unions, .inl (cI, 9, .inl unions_))]) (ws' := [(h0, .inr (2, [.int places_, .ref h_this_members, .ref h_this_ties, .ref h_this_nears, .ref h_this_names, .ref h_this_nearnesses, .ref h_this_partings, .ref h_this_unions])), (h_this_members, .inl (cI, 10, .inl members_)), (h_this_ties, .inl (cI, 100, .inl ties_)), (h_this_names, .inl (cI, 90, .inl names_)), (h_this_partings, .inl (cI, 9, .inl partings_)), (h_this_unions, .inl (cI, 9, .inl unions_))]) (c_X2_lumpsIn l D cI cC cO h0 h_this_members h_this_ties h_this_nears h_this_names h_this_nearnesses h_this_partings h_this_unions p1 places_ r3 hc) (cs_X2_67 X (by decide)) [0] [1, 2, 3, 4, 5] [5, 0, 1, 2, 3, 4] rfl rfl rfl rfl (by decide) rfl rfl 0 rfl rfl rfl rfl hl.1 rfl (Nat.le_of_ble_eq_true rfl) dX2_endPhase_17 ⟨Nat.zero_le _, Nat.zero_le _⟩ (fun H locs hw => ?_)
  refine lv_iconst (v := 2) hx hb dX2_endPhase_20 (by decide) ?_
  refine lv_isub hx hb dX2_endPhase_21 ?_
  obtain ⟨r4, hc, h⟩ := bd1_inv h
  refine r_cVi X hw (As := [.int p1, .int (r3 - (2 : Int32))]) (rest := []) (wr := [(h_this_members, .inl (cI, 10, .inl members_)), (h_this_ties, .inl (cI, 100, .inl ties_)), (h_this_partings, .inl (cI, 9, .inl partings_)), (h_this_unions, .inl (cI, 9, .inl unions_))]) (ws' := [(h0, .inr (2, [.int places_, .ref h_this_members, .ref h_this_ties, .ref h_this_nears, .ref h_this_names, .ref h_this_nearnesses, .ref h_this_partings, .ref h_this_unions])), (h_this_members, .inl (cI, 10, .inl members_)), (h_this_ties, .inl (cI, 100, .inl ties_)), (h_this_names, .inl (cI, 90, .inl names_)), (h_this_partings, .inl (cI, 9, .inl partings_)), (h_this_unions, .inl (cI, 9, .inl unions_))]) (c_X2_nameAt l D cI cC cO h0 h_this_members h_this_ties h_this_nears h_this_names h_this_nearnesses h_this_partings h_this_unions p1 (r3 - (2 : Int32)) places_ names_ r4 hc) (cs_X2_76 X (by decide)) [0, 3] [1, 2, 4, 5] [4, 0, 1, 5, 2, 3] rfl rfl rfl rfl (by decide) rfl rfl 0 rfl rfl rfl rfl hl.1 rfl (Nat.le_of_ble_eq_true rfl) dX2_endPhase_22 ⟨Nat.zero_le _, Nat.zero_le _⟩ (fun H locs hw => ?_)
  refine lv_istore_n (lv' := [(3, .int r4), (2, .int r2), (0, .ref h0), (1, .int p1)]) hx hb dX2_endPhase_25 rfl hl (by decide) rfl (fun ls hl => ?_)
  refine lv_iconst (v := 1) hx hb dX2_endPhase_26 (by decide) ?_
  refine lv_aload_n hx hb dX2_endPhase_27 rfl (lv_at hl 2 rfl) ?_
  refine fg_X2_9 X hw 0 rfl rfl dX2_endPhase_28 ?_
  refine lv_ishl hx hb dX2_endPhase_31 ?_
  refine lv_iconst (v := 1) hx hb dX2_endPhase_32 (by decide) ?_
  refine lv_isub hx hb dX2_endPhase_33 ?_
  refine lv_istore (lv' := [(4, .int (((1 : Int32) <<< (places_ &&& (31 : Int32))) - (1 : Int32))), (3, .int r4), (2, .int r2), (0, .ref h0), (1, .int p1)]) hx hb dX2_endPhase_34 hl (by decide) rfl (fun ls hl => ?_)
  refine lv_aload_n hx hb dX2_endPhase_36 rfl (lv_at hl 3 rfl) ?_
  refine fg_X2_31 X hw 0 rfl rfl dX2_endPhase_37 ?_
  refine lv_iload_n hx hb dX2_endPhase_40 rfl (lv_at hl 4 rfl) ?_
  refine lv_aload_n hx hb dX2_endPhase_41 rfl (lv_at hl 3 rfl) ?_
  refine fg_X2_15 X hw 0 rfl rfl dX2_endPhase_42 ?_
  refine lv_iload_n hx hb dX2_endPhase_45 rfl (lv_at hl 2 rfl) ?_
  obtain ⟨b1, h⟩ := chk_inv h
  refine r_iald X hw 1 rfl b1 rfl dX2_endPhase_46 ?_
  refine lv_iconst (v := 0) hx hb dX2_endPhase_47 (by decide) ?_
  obtain ⟨r5, hc, h⟩ := bd1_inv h
  refine r_cNi X hw (As := [.int (members_ (r2).toNatClampNeg), .int (0 : Int32)]) (rest := [.int p1, .ref h_this_partings]) (c_X5_holds l D cI cC cO (members_ (r2).toNatClampNeg) (0 : Int32) r5 hc) (cs_X2_63 X (by decide)) rfl hl.1 rfl (Nat.le_of_ble_eq_true rfl) dX2_endPhase_48 ⟨Nat.zero_le _, Nat.zero_le _⟩ (fun H locs hw => ?_)
  have J74 : ∀ (x6 : Int32) (H : Heap) (locs : List Loc) (ls : Array Slot), f_X2_endPhase_J74 N p1 r4 r2 places_ members_ ties_ partings_ unions_ x6 = some (members_', ties_', partings_', unions_') → Wd D A s.heap [(h0, .inr (2, [.int places_, .ref h_this_members, .ref h_this_ties, .ref h_this_nears, .ref h_this_names, .ref h_this_nearnesses, .ref h_this_partings, .ref h_this_unions])), (h_this_members, .inl (cI, 10, .inl members_)), (h_this_ties, .inl (cI, 100, .inl ties_)), (h_this_names, .inl (cI, 90, .inl names_)), (h_this_partings, .inl (cI, 9, .inl partings_)), (h_this_unions, .inl (cI, 9, .inl unions_))] H locs → lv_has ls 5 [(0, .ref h0), (1, .int p1), (2, .int r2), (3, .int r4)] → W p l e rmX2_endPhase s m ([.ref h0, .int p1] : List Value).toArray below meth c H locs 0 0 (MQ below (Qv D [(h0, .inr (2, [.int places_, .ref h_this_members, .ref h_this_ties, .ref h_this_nears, .ref h_this_names, .ref h_this_nearnesses, .ref h_this_partings, .ref h_this_unions])), (h_this_members, .inl (cI, 10, .inl members_')), (h_this_ties, .inl (cI, 100, .inl ties_')), (h_this_names, .inl (cI, 90, .inl names_)), (h_this_partings, .inl (cI, 9, .inl partings_')), (h_this_unions, .inl (cI, 9, .inl unions_'))] A) ([.ref h0, .int p1] : List Value).toArray s 0 0 A) (F0 m 74 ls [.int x6, .int p1, .ref h_this_partings]) := by
    intro x6 H locs ls h hw hl
    unfold f_X2_endPhase_J74 at h
    obtain ⟨b1, h⟩ := chk_inv h
    refine r_iast X hw 4 rfl b1 rfl dX2_endPhase_74 (fun H locs hw => ?_)
    have hw : Wd D A s.heap [(h0, .inr (2, [.int places_, .ref h_this_members, .ref h_this_ties, .ref h_this_nears, .ref h_this_names, .ref h_this_nearnesses, .ref h_this_partings, .ref h_this_unions])), (h_this_members, .inl (cI, 10, .inl members_)), (h_this_ties, .inl (cI, 100, .inl ties_)), (h_this_names, .inl (cI, 90, .inl names_)), (h_this_partings, .inl (cI, 9, .inl (upd partings_ (p1).toNatClampNeg x6))), (h_this_unions, .inl (cI, 9, .inl unions_))] H locs := hw
    refine lv_aload_n hx hb dX2_endPhase_75 rfl (lv_at hl 0 rfl) ?_
    refine lv_iload_n hx hb dX2_endPhase_76 rfl (lv_at hl 2 rfl) ?_
    refine lv_iload_n hx hb dX2_endPhase_77 rfl (lv_at hl 3 rfl) ?_
    refine r_mmin X hl.1 tw_326 dX2_endPhase_78 (by decide) (Nat.le_of_ble_eq_true rfl) (by decide) (by decide) ?_
    refine lv_iload_n hx hb dX2_endPhase_81 rfl (lv_at hl 2 rfl) ?_
    refine lv_iload_n hx hb dX2_endPhase_82 rfl (lv_at hl 3 rfl) ?_
    refine r_mmax X hl.1 tw_327 dX2_endPhase_83 (by decide) (Nat.le_of_ble_eq_true rfl) (by decide) (by decide) ?_
    obtain ⟨a7, a8, hc, h⟩ := bd2_inv h
    refine r_cVv X hw (As := [.int (if r4 < r2 then r4 else r2), .int (if r2 < r4 then r4 else r2)]) (rest := []) (wr := [(h_this_names, .inl (cI, 90, .inl names_)), (h_this_partings, .inl (cI, 9, .inl (upd partings_ (p1).toNatClampNeg x6))), (h_this_unions, .inl (cI, 9, .inl unions_))]) (ws' := [(h0, .inr (2, [.int places_, .ref h_this_members, .ref h_this_ties, .ref h_this_nears, .ref h_this_names, .ref h_this_nearnesses, .ref h_this_partings, .ref h_this_unions])), (h_this_members, .inl (cI, 10, .inl a7)), (h_this_ties, .inl (cI, 100, .inl a8)), (h_this_names, .inl (cI, 90, .inl names_)), (h_this_partings, .inl (cI, 9, .inl (upd partings_ (p1).toNatClampNeg x6))), (h_this_unions, .inl (cI, 9, .inl unions_))]) (c_X2_unite l D cI cC cO N h0 h_this_members h_this_ties h_this_nears h_this_names h_this_nearnesses h_this_partings h_this_unions (if r4 < r2 then r4 else r2) (if r2 < r4 then r4 else r2) places_ members_ ties_ a7 a8 hc) (cs_X2_87 X (by decide)) [0, 1, 2] [3, 4, 5] [3, 4, 5, 0, 1, 2] rfl rfl rfl rfl (by decide) rfl rfl 0 rfl rfl rfl rfl hl.1 rfl (Nat.le_of_ble_eq_true rfl) dX2_endPhase_86 ⟨Nat.zero_le _, Nat.zero_le _⟩ (fun H locs hw => ?_)
    refine lv_aload_n hx hb dX2_endPhase_89 rfl (lv_at hl 0 rfl) ?_
    refine fg_X2_34 X hw 0 rfl rfl dX2_endPhase_90 ?_
    refine lv_iload_n hx hb dX2_endPhase_93 rfl (lv_at hl 1 rfl) ?_
    refine lv_aload_n hx hb dX2_endPhase_94 rfl (lv_at hl 0 rfl) ?_
    refine fg_X2_15 X hw 0 rfl rfl dX2_endPhase_95 ?_
    refine lv_iload_n hx hb dX2_endPhase_98 rfl (lv_at hl 2 rfl) ?_
    refine lv_iload_n hx hb dX2_endPhase_99 rfl (lv_at hl 3 rfl) ?_
    refine r_mmin X hl.1 tw_326 dX2_endPhase_100 (by decide) (Nat.le_of_ble_eq_true rfl) (by decide) (by decide) ?_
    obtain ⟨b1, h⟩ := chk_inv h
    refine r_iald X hw 1 rfl b1 rfl dX2_endPhase_103 ?_
    obtain ⟨b1, h⟩ := chk_inv h
    refine r_iast X hw 5 rfl b1 rfl dX2_endPhase_104 (fun H locs hw => ?_)
    have hw : Wd D A s.heap [(h0, .inr (2, [.int places_, .ref h_this_members, .ref h_this_ties, .ref h_this_nears, .ref h_this_names, .ref h_this_nearnesses, .ref h_this_partings, .ref h_this_unions])), (h_this_members, .inl (cI, 10, .inl a7)), (h_this_ties, .inl (cI, 100, .inl a8)), (h_this_names, .inl (cI, 90, .inl names_)), (h_this_partings, .inl (cI, 9, .inl (upd partings_ (p1).toNatClampNeg x6))), (h_this_unions, .inl (cI, 9, .inl (upd unions_ (p1).toNatClampNeg (a7 ((if r4 < r2 then r4 else r2)).toNatClampNeg))))] H locs := hw
    obtain ⟨rfl, rfl, rfl, rfl⟩ := oi4 h
    exact r_retv X hw hr hlk dX2_endPhase_105
  refine lv_if_eq (tgt := 68) hx hb dX2_endPhase_51 (by decide) (fun c1 => ?_) (fun c1 => ?_)
  · replace h := ip c1 h
    refine lv_aload_n hx hb dX2_endPhase_68 rfl (lv_at hl 3 rfl) ?_
    refine fg_X2_15 X hw 0 rfl rfl dX2_endPhase_69 ?_
    refine lv_iload_n hx hb dX2_endPhase_72 rfl (lv_at hl 2 rfl) ?_
    obtain ⟨b1, h⟩ := chk_inv h
    refine r_iald X hw 1 rfl b1 rfl dX2_endPhase_73 ?_
    exact J74 (members_ (r2).toNatClampNeg) _ _ _ h hw (lv_sub hl [3, 4, 2, 1] rfl)
  · replace h := ig c1 h
    refine lv_iload hx hb dX2_endPhase_54 (lv_at hl 0 rfl) ?_
    refine lv_aload_n hx hb dX2_endPhase_56 rfl (lv_at hl 3 rfl) ?_
    refine fg_X2_15 X hw 0 rfl rfl dX2_endPhase_57 ?_
    refine lv_iload_n hx hb dX2_endPhase_60 rfl (lv_at hl 2 rfl) ?_
    obtain ⟨b1, h⟩ := chk_inv h
    refine r_iald X hw 1 rfl b1 rfl dX2_endPhase_61 ?_
    refine lv_iconst (v := -1) hx hb dX2_endPhase_62 (by decide) ?_
    refine lv_ixor hx hb dX2_endPhase_63 ?_
    refine lv_iand hx hb dX2_endPhase_64 ?_
    refine lv_goto (tgt := 74) hx hb dX2_endPhase_65 (by decide) ?_
    exact J74 ((((1 : Int32) <<< (places_ &&& (31 : Int32))) - (1 : Int32)) &&& ((members_ (r2).toNatClampNeg) ^^^ (-1 : Int32))) _ _ _ h hw (lv_sub hl [3, 4, 2, 1] rfl)
def rmX2_run : Room := { frames := 4, cells := 0, slots := 0, locals := 89 }
section
variable {p : Program} {l : Launch} {e : Env} {R : Room} {s : State} {m : MethodId} {args : Array Value} {below : List Frame} {meth : Method} {c : Code} {H : Heap} {locs : List Loc} {cells slots : Nat} {Q : State → Prop}
variable {cc : ByteArray} {pc nL : Nat} {ls : Array Slot} {rest : List Value} {D : va_G} {cI cC cO : ClassId} {A : Nat → Prop} {ws : va_W} {H0 : Heap}
theorem cs_X2_37 (X : Ctx p m c cc nL s args RX2 D cI cC cO) (hR : rmX2_begin.frames + 1 ≤ R.frames ∧ 8 + (4 + 11) + rmX2_begin.locals ≤ R.locals) : CallW R s args RX2 RX2 37 yX2_begin cX2_begin 4 none (Wy yX2_begin cX2_begin 4 none) rmX2_begin 0 0 1 := cwV 1 X.1.2.2.2.2 (gi_V tw_282 tw_284 sw_yX2_begin tw_5 tw_285) rfl rfl rfl (by decide +kernel) hR
theorem cs_X2_46 (X : Ctx p m c cc nL s args RX2 D cI cC cO) (hR : rmX2_nameOfLumpWith.frames + 1 ≤ R.frames ∧ 8 + (3 + 11) + rmX2_nameOfLumpWith.locals ≤ R.locals) : CallW R s args RX2 RX2 46 yX2_nameOfLumpWith cX2_nameOfLumpWith 3 (some .int) (Wy yX2_nameOfLumpWith cX2_nameOfLumpWith 3 (some .int)) rmX2_nameOfLumpWith 0 0 1 := cwV 1 X.1.2.2.2.2 (gi_V tw_287 tw_289 sw_yX2_nameOfLumpWith tw_5 tw_290) rfl rfl rfl (by decide +kernel) hR
theorem cs_X2_50 (X : Ctx p m c cc nL s args RX2 D cI cC cO) (hR : rmX2_swallowAll.frames + 1 ≤ R.frames ∧ 8 + (6 + 11) + rmX2_swallowAll.locals ≤ R.locals) : CallW R s args RX2 RX2 50 yX2_swallowAll cX2_swallowAll 6 none (Wy yX2_swallowAll cX2_swallowAll 6 none) rmX2_swallowAll 0 0 2 := cwV 2 X.1.2.2.2.2 (gi_V tw_294 tw_296 sw_yX2_swallowAll tw_5 tw_297) rfl rfl rfl (by decide +kernel) hR
theorem cs_X2_54 (X : Ctx p m c cc nL s args RX2 D cI cC cO) (hR : rmX2_endPhase.frames + 1 ≤ R.frames ∧ 8 + (5 + 11) + rmX2_endPhase.locals ≤ R.locals) : CallW R s args RX2 RX2 54 yX2_endPhase cX2_endPhase 5 none (Wy yX2_endPhase cX2_endPhase 5 none) rmX2_endPhase 0 0 1 := cwV 1 X.1.2.2.2.2 (gi_V tw_310 tw_312 sw_yX2_endPhase tw_5 tw_313) rfl rfl rfl (by decide +kernel) hR
end
set_option maxHeartbeats 4000000 in
set_option maxRecDepth 100000 in
theorem c_X2_run (l : Launch) (D : va_G) (cI cC cO : ClassId) (N : Nat) (h0 h_p1 h_this_members h_this_ties h_this_nears h_this_names h_this_nearnesses h_this_partings h_this_unions h_p1_weights : Nat) (places_ : Int32) (members_ ties_ nears_ names_ nearnesses_ partings_ unions_ : Nat → Int32) (p1_places_ p1_start_ p1_fairPlaces_ : Int32) (p1_weights_ : Nat → Int32) (places_' : Int32) (members_' : Nat → Int32) (ties_' : Nat → Int32) (nears_' : Nat → Int32) (names_' : Nat → Int32) (nearnesses_' : Nat → Int32) (partings_' : Nat → Int32) (unions_' : Nat → Int32) (h : f_X2_run N members_ ties_ nears_ names_ nearnesses_ partings_ unions_ p1_places_ p1_start_ p1_weights_ = some (places_', members_', ties_', nears_', names_', nearnesses_', partings_', unions_')) : CV l yX2_run (Wy yX2_run cX2_run 3 none) rmX2_run D cI cC cO [.ref h0, .ref h_p1] [(h0, .inr (2, [.int places_, .ref h_this_members, .ref h_this_ties, .ref h_this_nears, .ref h_this_names, .ref h_this_nearnesses, .ref h_this_partings, .ref h_this_unions])), (h_this_members, .inl (cI, 10, .inl members_)), (h_this_ties, .inl (cI, 100, .inl ties_)), (h_this_nears, .inl (cI, 10, .inl nears_)), (h_this_names, .inl (cI, 90, .inl names_)), (h_this_nearnesses, .inl (cI, 90, .inl nearnesses_)), (h_this_partings, .inl (cI, 9, .inl partings_)), (h_this_unions, .inl (cI, 9, .inl unions_)), (h_p1, .inr (4, [.int p1_places_, .int p1_start_, .int p1_fairPlaces_, .ref h_p1_weights])), (h_p1_weights, .inl (cI, 100, .inl p1_weights_))] [(h0, .inr (2, [.int places_', .ref h_this_members, .ref h_this_ties, .ref h_this_nears, .ref h_this_names, .ref h_this_nearnesses, .ref h_this_partings, .ref h_this_unions])), (h_this_members, .inl (cI, 10, .inl members_')), (h_this_ties, .inl (cI, 100, .inl ties_')), (h_this_nears, .inl (cI, 10, .inl nears_')), (h_this_names, .inl (cI, 90, .inl names_')), (h_this_nearnesses, .inl (cI, 90, .inl nearnesses_')), (h_this_partings, .inl (cI, 9, .inl partings_')), (h_this_unions, .inl (cI, 9, .inl unions_')), (h_p1, .inr (4, [.int p1_places_, .int p1_start_, .int p1_fairPlaces_, .ref h_p1_weights])), (h_p1_weights, .inl (cI, 100, .inl p1_weights_))] := by
  refine enter_v RX2 (by decide) rfl (Nat.le_of_ble_eq_true rfl) ?_
  intro p e s m below meth c A X hr hlk hw ls hl
  have hx := X.1.1
  have hb := X.1.2.1
  have hl : lv_has ls 3 [(0, .ref h0), (1, .ref h_p1)] := hl
  unfold f_X2_run at h
  refine lv_aload_n hx hb dX2_run_0 rfl (lv_at hl 0 rfl) ?_
  refine lv_aload_n hx hb dX2_run_1 rfl (lv_at hl 1 rfl) ?_
  obtain ⟨x1, a2, a3, hc, h⟩ := bd3_inv h
  refine r_cVv X hw (As := [.ref h_p1]) (rest := []) (wr := [(h_this_nears, .inl (cI, 10, .inl nears_)), (h_this_names, .inl (cI, 90, .inl names_)), (h_this_nearnesses, .inl (cI, 90, .inl nearnesses_)), (h_this_partings, .inl (cI, 9, .inl partings_)), (h_this_unions, .inl (cI, 9, .inl unions_))]) (ws' := [(h0, .inr (2, [.int x1, .ref h_this_members, .ref h_this_ties, .ref h_this_nears, .ref h_this_names, .ref h_this_nearnesses, .ref h_this_partings, .ref h_this_unions])), (h_this_members, .inl (cI, 10, .inl a2)), (h_this_ties, .inl (cI, 100, .inl a3)), (h_this_nears, .inl (cI, 10, .inl nears_)), (h_this_names, .inl (cI, 90, .inl names_)), (h_this_nearnesses, .inl (cI, 90, .inl nearnesses_)), (h_this_partings, .inl (cI, 9, .inl partings_)), (h_this_unions, .inl (cI, 9, .inl unions_)), (h_p1, .inr (4, [.int p1_places_, .int p1_start_, .int p1_fairPlaces_, .ref h_p1_weights])), (h_p1_weights, .inl (cI, 100, .inl p1_weights_))]) (c_X2_begin l D cI cC cO N h0 h_p1 h_this_members h_this_ties h_this_nears h_this_names h_this_nearnesses h_this_partings h_this_unions h_p1_weights places_ members_ ties_ p1_places_ p1_start_ p1_fairPlaces_ p1_weights_ x1 a2 a3 hc) (cs_X2_37 X (by decide)) [0, 1, 2, 8, 9] [3, 4, 5, 6, 7] [5, 6, 7, 0, 1, 2, 3, 4, 8, 9] rfl rfl rfl rfl (by decide) rfl rfl 0 rfl rfl rfl rfl hl.1 rfl (Nat.le_of_ble_eq_true rfl) dX2_run_2 ⟨Nat.zero_le _, Nat.zero_le _⟩ (fun H locs hw => ?_)
  refine lv_iconst (v := 0) hx hb dX2_run_5 (by decide) ?_
  refine lv_istore_n (lv' := [(2, .int (0 : Int32)), (0, .ref h0), (1, .ref h_p1)]) hx hb dX2_run_6 rfl hl (by decide) rfl (fun ls hl => ?_)
  have E41 : ∀ (a23 a24 a25 a26 a27 a28 a29 : Nat → Int32) (H : Heap) (locs : List Loc) (ls : Array Slot), f_X2_run_E41 x1 a23 a24 a25 a26 a27 a28 a29 = some (places_', members_', ties_', nears_', names_', nearnesses_', partings_', unions_') → Wd D A s.heap [(h0, .inr (2, [.int x1, .ref h_this_members, .ref h_this_ties, .ref h_this_nears, .ref h_this_names, .ref h_this_nearnesses, .ref h_this_partings, .ref h_this_unions])), (h_this_members, .inl (cI, 10, .inl a23)), (h_this_ties, .inl (cI, 100, .inl a24)), (h_this_nears, .inl (cI, 10, .inl a25)), (h_this_names, .inl (cI, 90, .inl a26)), (h_this_nearnesses, .inl (cI, 90, .inl a27)), (h_this_partings, .inl (cI, 9, .inl a28)), (h_this_unions, .inl (cI, 9, .inl a29)), (h_p1, .inr (4, [.int p1_places_, .int p1_start_, .int p1_fairPlaces_, .ref h_p1_weights])), (h_p1_weights, .inl (cI, 100, .inl p1_weights_))] H locs → lv_has ls 3 [] → W p l e rmX2_run s m ([.ref h0, .ref h_p1] : List Value).toArray below meth c H locs 0 0 (MQ below (Qv D [(h0, .inr (2, [.int places_', .ref h_this_members, .ref h_this_ties, .ref h_this_nears, .ref h_this_names, .ref h_this_nearnesses, .ref h_this_partings, .ref h_this_unions])), (h_this_members, .inl (cI, 10, .inl members_')), (h_this_ties, .inl (cI, 100, .inl ties_')), (h_this_nears, .inl (cI, 10, .inl nears_')), (h_this_names, .inl (cI, 90, .inl names_')), (h_this_nearnesses, .inl (cI, 90, .inl nearnesses_')), (h_this_partings, .inl (cI, 9, .inl partings_')), (h_this_unions, .inl (cI, 9, .inl unions_')), (h_p1, .inr (4, [.int p1_places_, .int p1_start_, .int p1_fairPlaces_, .ref h_p1_weights])), (h_p1_weights, .inl (cI, 100, .inl p1_weights_))] A) ([.ref h0, .ref h_p1] : List Value).toArray s 0 0 A) (F0 m 41 ls []) := by
    intro a23 a24 a25 a26 a27 a28 a29 H locs ls h hw hl
    unfold f_X2_run_E41 at h
    obtain ⟨rfl, rfl, rfl, rfl, rfl, rfl, rfl, rfl⟩ := oi8 h
    exact r_retv X hw hr hlk dX2_run_41
  have L7 : ∀ (k20 : (Nat → Int32) → (Nat → Int32) → (Nat → Int32) → (Nat → Int32) → (Nat → Int32) → (Nat → Int32) → (Nat → Int32) → Option (Int32 × (Nat → Int32) × (Nat → Int32) × (Nat → Int32) × (Nat → Int32) × (Nat → Int32) × (Nat → Int32) × (Nat → Int32))), (∀ (a23 a24 a25 a26 a27 a28 a29 : Nat → Int32) (H : Heap) (locs : List Loc) (ls : Array Slot), k20 a23 a24 a25 a26 a27 a28 a29 = some (places_', members_', ties_', nears_', names_', nearnesses_', partings_', unions_') → Wd D A s.heap [(h0, .inr (2, [.int x1, .ref h_this_members, .ref h_this_ties, .ref h_this_nears, .ref h_this_names, .ref h_this_nearnesses, .ref h_this_partings, .ref h_this_unions])), (h_this_members, .inl (cI, 10, .inl a23)), (h_this_ties, .inl (cI, 100, .inl a24)), (h_this_nears, .inl (cI, 10, .inl a25)), (h_this_names, .inl (cI, 90, .inl a26)), (h_this_nearnesses, .inl (cI, 90, .inl a27)), (h_this_partings, .inl (cI, 9, .inl a28)), (h_this_unions, .inl (cI, 9, .inl a29)), (h_p1, .inr (4, [.int p1_places_, .int p1_start_, .int p1_fairPlaces_, .ref h_p1_weights])), (h_p1_weights, .inl (cI, 100, .inl p1_weights_))] H locs → lv_has ls 3 [] → W p l e rmX2_run s m ([.ref h0, .ref h_p1] : List Value).toArray below meth c H locs 0 0 (MQ below (Qv D [(h0, .inr (2, [.int places_', .ref h_this_members, .ref h_this_ties, .ref h_this_nears, .ref h_this_names, .ref h_this_nearnesses, .ref h_this_partings, .ref h_this_unions])), (h_this_members, .inl (cI, 10, .inl members_')), (h_this_ties, .inl (cI, 100, .inl ties_')), (h_this_nears, .inl (cI, 10, .inl nears_')), (h_this_names, .inl (cI, 90, .inl names_')), (h_this_nearnesses, .inl (cI, 90, .inl nearnesses_')), (h_this_partings, .inl (cI, 9, .inl partings_')), (h_this_unions, .inl (cI, 9, .inl unions_')), (h_p1, .inr (4, [.int p1_places_, .int p1_start_, .int p1_fairPlaces_, .ref h_p1_weights])), (h_p1_weights, .inl (cI, 100, .inl p1_weights_))] A) ([.ref h0, .ref h_p1] : List Value).toArray s 0 0 A) (F0 m 41 ls [])) → ∀ (n22 : Nat), ∀ (x4 : Int32) (a5 a6 a7 a8 a9 a10 a11 : Nat → Int32) (H : Heap) (locs : List Loc) (ls : Array Slot), f_X2_run_L7 N x1 p1_start_ k20 n22 x4 a5 a6 a7 a8 a9 a10 a11 = some (places_', members_', ties_', nears_', names_', nearnesses_', partings_', unions_') → Wd D A s.heap [(h0, .inr (2, [.int x1, .ref h_this_members, .ref h_this_ties, .ref h_this_nears, .ref h_this_names, .ref h_this_nearnesses, .ref h_this_partings, .ref h_this_unions])), (h_this_members, .inl (cI, 10, .inl a5)), (h_this_ties, .inl (cI, 100, .inl a6)), (h_this_nears, .inl (cI, 10, .inl a7)), (h_this_names, .inl (cI, 90, .inl a8)), (h_this_nearnesses, .inl (cI, 90, .inl a9)), (h_this_partings, .inl (cI, 9, .inl a10)), (h_this_unions, .inl (cI, 9, .inl a11)), (h_p1, .inr (4, [.int p1_places_, .int p1_start_, .int p1_fairPlaces_, .ref h_p1_weights])), (h_p1_weights, .inl (cI, 100, .inl p1_weights_))] H locs → lv_has ls 3 [(0, .ref h0), (1, .ref h_p1), (2, .int x4)] → W p l e rmX2_run s m ([.ref h0, .ref h_p1] : List Value).toArray below meth c H locs 0 0 (MQ below (Qv D [(h0, .inr (2, [.int places_', .ref h_this_members, .ref h_this_ties, .ref h_this_nears, .ref h_this_names, .ref h_this_nearnesses, .ref h_this_partings, .ref h_this_unions])), (h_this_members, .inl (cI, 10, .inl members_')), (h_this_ties, .inl (cI, 100, .inl ties_')), (h_this_nears, .inl (cI, 10, .inl nears_')), (h_this_names, .inl (cI, 90, .inl names_')), (h_this_nearnesses, .inl (cI, 90, .inl nearnesses_')), (h_this_partings, .inl (cI, 9, .inl partings_')), (h_this_unions, .inl (cI, 9, .inl unions_')), (h_p1, .inr (4, [.int p1_places_, .int p1_start_, .int p1_fairPlaces_, .ref h_p1_weights])), (h_p1_weights, .inl (cI, 100, .inl p1_weights_))] A) ([.ref h0, .ref h_p1] : List Value).toArray s 0 0 A) (F0 m 7 ls []) := by
    intro k20 hk7 n22
    induction n22 with
    | zero => intro x4 a5 a6 a7 a8 a9 a10 a11 H locs ls h; cases h
    | succ n22 ih7 =>
      intro x4 a5 a6 a7 a8 a9 a10 a11 H locs ls h hw hl
      rw [f_X2_run_L7] at h
      refine lv_iload_n hx hb dX2_run_7 rfl (lv_at hl 2 rfl) ?_
      refine lv_aload_n hx hb dX2_run_8 rfl (lv_at hl 0 rfl) ?_
      refine fg_X2_9 X hw 0 rfl rfl dX2_run_9 ?_
      refine lv_iconst (v := 1) hx hb dX2_run_12 (by decide) ?_
      refine lv_isub hx hb dX2_run_13 ?_
      refine lv_icmp_ge (tgt := 41) hx hb dX2_run_14 (by decide) (fun c1 => ?_) (fun c1 => ?_)
      · replace h := ip c1 h
        exact hk7 a5 a6 a7 a8 a9 a10 a11 _ _ _ h hw (lv_sub hl [] rfl)
      · replace h := ig c1 h
        refine lv_aload_n hx hb dX2_run_17 rfl (lv_at hl 0 rfl) ?_
        refine lv_iload_n hx hb dX2_run_18 rfl (lv_at hl 2 rfl) ?_
        refine lv_aload_n hx hb dX2_run_19 rfl (lv_at hl 0 rfl) ?_
        refine lv_aload_n hx hb dX2_run_20 rfl (lv_at hl 1 rfl) ?_
        refine fg_X2_41 X hw 8 rfl rfl dX2_run_21 ?_
        obtain ⟨r12, hc, h⟩ := bd1_inv h
        refine r_cVi X hw (As := [.int p1_start_]) (rest := [.int x4, .ref h0]) (wr := [(h_this_ties, .inl (cI, 100, .inl a6)), (h_this_nears, .inl (cI, 10, .inl a7)), (h_this_names, .inl (cI, 90, .inl a8)), (h_this_nearnesses, .inl (cI, 90, .inl a9)), (h_this_partings, .inl (cI, 9, .inl a10)), (h_this_unions, .inl (cI, 9, .inl a11)), (h_p1, .inr (4, [.int p1_places_, .int p1_start_, .int p1_fairPlaces_, .ref h_p1_weights])), (h_p1_weights, .inl (cI, 100, .inl p1_weights_))]) (ws' := [(h0, .inr (2, [.int x1, .ref h_this_members, .ref h_this_ties, .ref h_this_nears, .ref h_this_names, .ref h_this_nearnesses, .ref h_this_partings, .ref h_this_unions])), (h_this_members, .inl (cI, 10, .inl a5)), (h_this_ties, .inl (cI, 100, .inl a6)), (h_this_nears, .inl (cI, 10, .inl a7)), (h_this_names, .inl (cI, 90, .inl a8)), (h_this_nearnesses, .inl (cI, 90, .inl a9)), (h_this_partings, .inl (cI, 9, .inl a10)), (h_this_unions, .inl (cI, 9, .inl a11)), (h_p1, .inr (4, [.int p1_places_, .int p1_start_, .int p1_fairPlaces_, .ref h_p1_weights])), (h_p1_weights, .inl (cI, 100, .inl p1_weights_))]) (c_X2_nameOfLumpWith l D cI cC cO N h0 h_this_members h_this_ties h_this_nears h_this_names h_this_nearnesses h_this_partings h_this_unions p1_start_ x1 a5 r12 hc) (cs_X2_46 X (by decide)) [0, 1] [2, 3, 4, 5, 6, 7, 8, 9] [8, 9, 0, 1, 2, 3, 4, 5, 6, 7] rfl rfl rfl rfl (by decide) rfl rfl 0 rfl rfl rfl rfl hl.1 rfl (Nat.le_of_ble_eq_true rfl) dX2_run_24 ⟨Nat.zero_le _, Nat.zero_le _⟩ (fun H locs hw => ?_)
        obtain ⟨a13, a14, a15, hc, h⟩ := bd3_inv h
        refine r_cVv X hw (As := [.int x4, .int r12]) (rest := []) (wr := [(h_this_partings, .inl (cI, 9, .inl a10)), (h_this_unions, .inl (cI, 9, .inl a11)), (h_p1, .inr (4, [.int p1_places_, .int p1_start_, .int p1_fairPlaces_, .ref h_p1_weights])), (h_p1_weights, .inl (cI, 100, .inl p1_weights_))]) (ws' := [(h0, .inr (2, [.int x1, .ref h_this_members, .ref h_this_ties, .ref h_this_nears, .ref h_this_names, .ref h_this_nearnesses, .ref h_this_partings, .ref h_this_unions])), (h_this_members, .inl (cI, 10, .inl a5)), (h_this_ties, .inl (cI, 100, .inl a6)), (h_this_nears, .inl (cI, 10, .inl a13)), (h_this_names, .inl (cI, 90, .inl a14)), (h_this_nearnesses, .inl (cI, 90, .inl a15)), (h_this_partings, .inl (cI, 9, .inl a10)), (h_this_unions, .inl (cI, 9, .inl a11)), (h_p1, .inr (4, [.int p1_places_, .int p1_start_, .int p1_fairPlaces_, .ref h_p1_weights])), (h_p1_weights, .inl (cI, 100, .inl p1_weights_))]) (c_X2_swallowAll l D cI cC cO N h0 h_this_members h_this_ties h_this_nears h_this_names h_this_nearnesses h_this_partings h_this_unions x4 r12 x1 a5 a6 a7 a8 a9 a13 a14 a15 hc) (cs_X2_50 X (by decide)) [0, 1, 2, 3, 4, 5] [6, 7, 8, 9] [4, 5, 6, 7, 8, 9, 0, 1, 2, 3] rfl rfl rfl rfl (by decide) rfl rfl 0 rfl rfl rfl rfl hl.1 rfl (Nat.le_of_ble_eq_true rfl) dX2_run_27 ⟨Nat.zero_le _, Nat.zero_le _⟩ (fun H locs hw => ?_)
        refine lv_aload_n hx hb dX2_run_30 rfl (lv_at hl 0 rfl) ?_
        refine lv_iload_n hx hb dX2_run_31 rfl (lv_at hl 2 rfl) ?_
        obtain ⟨a16, a17, a18, a19, hc, h⟩ := bd4_inv h
        refine r_cVv X hw (As := [.int x4]) (rest := []) (wr := [(h_this_nears, .inl (cI, 10, .inl a13)), (h_this_nearnesses, .inl (cI, 90, .inl a15)), (h_p1, .inr (4, [.int p1_places_, .int p1_start_, .int p1_fairPlaces_, .ref h_p1_weights])), (h_p1_weights, .inl (cI, 100, .inl p1_weights_))]) (ws' := [(h0, .inr (2, [.int x1, .ref h_this_members, .ref h_this_ties, .ref h_this_nears, .ref h_this_names, .ref h_this_nearnesses, .ref h_this_partings, .ref h_this_unions])), (h_this_members, .inl (cI, 10, .inl a16)), (h_this_ties, .inl (cI, 100, .inl a17)), (h_this_nears, .inl (cI, 10, .inl a13)), (h_this_names, .inl (cI, 90, .inl a14)), (h_this_nearnesses, .inl (cI, 90, .inl a15)), (h_this_partings, .inl (cI, 9, .inl a18)), (h_this_unions, .inl (cI, 9, .inl a19)), (h_p1, .inr (4, [.int p1_places_, .int p1_start_, .int p1_fairPlaces_, .ref h_p1_weights])), (h_p1_weights, .inl (cI, 100, .inl p1_weights_))]) (c_X2_endPhase l D cI cC cO N h0 h_this_members h_this_ties h_this_nears h_this_names h_this_nearnesses h_this_partings h_this_unions x4 x1 a5 a6 a14 a10 a11 a16 a17 a18 a19 hc) (cs_X2_54 X (by decide)) [0, 1, 2, 4, 6, 7] [3, 5, 8, 9] [4, 5, 6, 0, 7, 1, 8, 9, 2, 3] rfl rfl rfl rfl (by decide) rfl rfl 0 rfl rfl rfl rfl hl.1 rfl (Nat.le_of_ble_eq_true rfl) dX2_run_32 ⟨Nat.zero_le _, Nat.zero_le _⟩ (fun H locs hw => ?_)
        refine lv_iinc (v := (x4 + (1 : Int32))) (lv' := [(2, .int (x4 + (1 : Int32))), (0, .ref h0), (1, .ref h_p1)]) hx hb dX2_run_35 hl (k := 2) rfl rfl (by decide) rfl (fun ls hl => ?_)
        refine lv_goto (tgt := 7) hx hb dX2_run_38 (by decide) ?_
        exact ih7 (x4 + (1 : Int32)) a16 a17 a13 a14 a15 a18 a19 _ _ _ h hw (lv_sub hl [1, 2, 0] rfl)
  exact L7 (fun a23 a24 a25 a26 a27 a28 a29 => f_X2_run_E41 x1 a23 a24 a25 a26 a27 a28 a29) (fun a23 a24 a25 a26 a27 a28 a29 H locs ls h hw hl => E41 a23 a24 a25 a26 a27 a28 a29 H locs ls h hw hl) N (0 : Int32) a2 a3 nears_ names_ nearnesses_ partings_ unions_ _ _ _ h hw (lv_sub hl [1, 2, 0] rfl)
def rmX2_partingOf : Room := { frames := 1, cells := 0, slots := 0, locals := 21 }
set_option maxHeartbeats 4000000 in
set_option maxRecDepth 100000 in
theorem c_X2_partingOf (l : Launch) (D : va_G) (cI cC cO : ClassId) (h0 h_this_members h_this_ties h_this_nears h_this_names h_this_nearnesses h_this_partings h_this_unions : Nat) (p1 places_ : Int32) (partings_ : Nat → Int32) (r_ : Int32) (h : f_X2_partingOf p1 places_ partings_ = some r_) : CI l yX2_partingOf (Wy yX2_partingOf cX2_partingOf 2 (some .int)) rmX2_partingOf D cI cC cO [.ref h0, .int p1] [(h0, .inr (2, [.int places_, .ref h_this_members, .ref h_this_ties, .ref h_this_nears, .ref h_this_names, .ref h_this_nearnesses, .ref h_this_partings, .ref h_this_unions])), (h_this_partings, .inl (cI, 9, .inl partings_))] r_ [(h0, .inr (2, [.int places_, .ref h_this_members, .ref h_this_ties, .ref h_this_nears, .ref h_this_names, .ref h_this_nearnesses, .ref h_this_partings, .ref h_this_unions])), (h_this_partings, .inl (cI, 9, .inl partings_))] := by
  refine enter_i RX2 (by decide) rfl (Nat.le_of_ble_eq_true rfl) ?_
  intro p e s m below meth c A X hr hlk hw ls hl
  have hx := X.1.1
  have hb := X.1.2.1
  have hl : lv_has ls 2 [(0, .ref h0), (1, .int p1)] := hl
  unfold f_X2_partingOf at h
  refine lv_aload_n hx hb dX2_partingOf_0 rfl (lv_at hl 0 rfl) ?_
  refine lv_iload_n hx hb dX2_partingOf_1 rfl (lv_at hl 1 rfl) ?_
  obtain ⟨r1, hc, h⟩ := bd1_inv h
  refine r_cVi X hw (As := [.int p1]) (rest := []) (wr := [(h_this_partings, .inl (cI, 9, .inl partings_))]) (ws' := [(h0, .inr (2, [.int places_, .ref h_this_members, .ref h_this_ties, .ref h_this_nears, .ref h_this_names, .ref h_this_nearnesses, .ref h_this_partings, .ref h_this_unions])), (h_this_partings, .inl (cI, 9, .inl partings_))]) (c_X2_isPhase l D cI cC cO h0 h_this_members h_this_ties h_this_nears h_this_names h_this_nearnesses h_this_partings h_this_unions p1 places_ r1 hc) (cs_X2_90 X (by decide)) [0] [1] [1, 0] rfl rfl rfl rfl (by decide) rfl rfl 0 rfl rfl rfl rfl hl.1 rfl (Nat.le_of_ble_eq_true rfl) dX2_partingOf_2 ⟨Nat.zero_le _, Nat.zero_le _⟩ (fun H locs hw => ?_)
  refine lv_if_eq (tgt := 17) hx hb dX2_partingOf_5 (by decide) (fun c1 => ?_) (fun c1 => ?_)
  · replace h := ip c1 h
    refine lv_iconst (v := 0) hx hb dX2_partingOf_17 (by decide) ?_
    obtain rfl := oi1 h
    exact r_ret X hw hr hlk dX2_partingOf_18
  · replace h := ig c1 h
    refine lv_aload_n hx hb dX2_partingOf_8 rfl (lv_at hl 0 rfl) ?_
    refine fg_X2_31 X hw 0 rfl rfl dX2_partingOf_9 ?_
    refine lv_iload_n hx hb dX2_partingOf_12 rfl (lv_at hl 1 rfl) ?_
    obtain ⟨b1, h⟩ := chk_inv h
    refine r_iald X hw 1 rfl b1 rfl dX2_partingOf_13 ?_
    refine lv_goto (tgt := 18) hx hb dX2_partingOf_14 (by decide) ?_
    obtain rfl := oi1 h
    exact r_ret X hw hr hlk dX2_partingOf_18
def rmX2_unionIn : Room := { frames := 1, cells := 0, slots := 0, locals := 21 }
set_option maxHeartbeats 4000000 in
set_option maxRecDepth 100000 in
theorem c_X2_unionIn (l : Launch) (D : va_G) (cI cC cO : ClassId) (h0 h_this_members h_this_ties h_this_nears h_this_names h_this_nearnesses h_this_partings h_this_unions : Nat) (p1 places_ : Int32) (unions_ : Nat → Int32) (r_ : Int32) (h : f_X2_unionIn p1 places_ unions_ = some r_) : CI l yX2_unionIn (Wy yX2_unionIn cX2_unionIn 2 (some .int)) rmX2_unionIn D cI cC cO [.ref h0, .int p1] [(h0, .inr (2, [.int places_, .ref h_this_members, .ref h_this_ties, .ref h_this_nears, .ref h_this_names, .ref h_this_nearnesses, .ref h_this_partings, .ref h_this_unions])), (h_this_unions, .inl (cI, 9, .inl unions_))] r_ [(h0, .inr (2, [.int places_, .ref h_this_members, .ref h_this_ties, .ref h_this_nears, .ref h_this_names, .ref h_this_nearnesses, .ref h_this_partings, .ref h_this_unions])), (h_this_unions, .inl (cI, 9, .inl unions_))] := by
  refine enter_i RX2 (by decide) rfl (Nat.le_of_ble_eq_true rfl) ?_
  intro p e s m below meth c A X hr hlk hw ls hl
  have hx := X.1.1
  have hb := X.1.2.1
  have hl : lv_has ls 2 [(0, .ref h0), (1, .int p1)] := hl
  unfold f_X2_unionIn at h
  refine lv_aload_n hx hb dX2_unionIn_0 rfl (lv_at hl 0 rfl) ?_
  refine lv_iload_n hx hb dX2_unionIn_1 rfl (lv_at hl 1 rfl) ?_
  obtain ⟨r1, hc, h⟩ := bd1_inv h
  refine r_cVi X hw (As := [.int p1]) (rest := []) (wr := [(h_this_unions, .inl (cI, 9, .inl unions_))]) (ws' := [(h0, .inr (2, [.int places_, .ref h_this_members, .ref h_this_ties, .ref h_this_nears, .ref h_this_names, .ref h_this_nearnesses, .ref h_this_partings, .ref h_this_unions])), (h_this_unions, .inl (cI, 9, .inl unions_))]) (c_X2_isPhase l D cI cC cO h0 h_this_members h_this_ties h_this_nears h_this_names h_this_nearnesses h_this_partings h_this_unions p1 places_ r1 hc) (cs_X2_90 X (by decide)) [0] [1] [1, 0] rfl rfl rfl rfl (by decide) rfl rfl 0 rfl rfl rfl rfl hl.1 rfl (Nat.le_of_ble_eq_true rfl) dX2_unionIn_2 ⟨Nat.zero_le _, Nat.zero_le _⟩ (fun H locs hw => ?_)
  refine lv_if_eq (tgt := 17) hx hb dX2_unionIn_5 (by decide) (fun c1 => ?_) (fun c1 => ?_)
  · replace h := ip c1 h
    refine lv_iconst (v := 0) hx hb dX2_unionIn_17 (by decide) ?_
    obtain rfl := oi1 h
    exact r_ret X hw hr hlk dX2_unionIn_18
  · replace h := ig c1 h
    refine lv_aload_n hx hb dX2_unionIn_8 rfl (lv_at hl 0 rfl) ?_
    refine fg_X2_34 X hw 0 rfl rfl dX2_unionIn_9 ?_
    refine lv_iload_n hx hb dX2_unionIn_12 rfl (lv_at hl 1 rfl) ?_
    obtain ⟨b1, h⟩ := chk_inv h
    refine r_iald X hw 1 rfl b1 rfl dX2_unionIn_13 ?_
    refine lv_goto (tgt := 18) hx hb dX2_unionIn_14 (by decide) ?_
    obtain rfl := oi1 h
    exact r_ret X hw hr hlk dX2_unionIn_18
def rmX2_nearnessAt : Room := { frames := 2, cells := 0, slots := 0, locals := 43 }
set_option maxHeartbeats 4000000 in
set_option maxRecDepth 100000 in
theorem c_X2_nearnessAt (l : Launch) (D : va_G) (cI cC cO : ClassId) (h0 h_this_members h_this_ties h_this_nears h_this_names h_this_nearnesses h_this_partings h_this_unions : Nat) (p1 p2 places_ : Int32) (nearnesses_ : Nat → Int32) (r_ : Int32) (h : f_X2_nearnessAt p1 p2 places_ nearnesses_ = some r_) : CI l yX2_nearnessAt (Wy yX2_nearnessAt cX2_nearnessAt 3 (some .int)) rmX2_nearnessAt D cI cC cO [.ref h0, .int p1, .int p2] [(h0, .inr (2, [.int places_, .ref h_this_members, .ref h_this_ties, .ref h_this_nears, .ref h_this_names, .ref h_this_nearnesses, .ref h_this_partings, .ref h_this_unions])), (h_this_nearnesses, .inl (cI, 90, .inl nearnesses_))] r_ [(h0, .inr (2, [.int places_, .ref h_this_members, .ref h_this_ties, .ref h_this_nears, .ref h_this_names, .ref h_this_nearnesses, .ref h_this_partings, .ref h_this_unions])), (h_this_nearnesses, .inl (cI, 90, .inl nearnesses_))] := by
  refine enter_i RX2 (by decide) rfl (Nat.le_of_ble_eq_true rfl) ?_
  intro p e s m below meth c A X hr hlk hw ls hl
  have hx := X.1.1
  have hb := X.1.2.1
  have hl : lv_has ls 3 [(0, .ref h0), (1, .int p1), (2, .int p2)] := hl
  unfold f_X2_nearnessAt at h
  refine lv_aload_n hx hb dX2_nearnessAt_0 rfl (lv_at hl 0 rfl) ?_
  refine lv_iload_n hx hb dX2_nearnessAt_1 rfl (lv_at hl 1 rfl) ?_
  refine lv_iload_n hx hb dX2_nearnessAt_2 rfl (lv_at hl 2 rfl) ?_
  obtain ⟨r1, hc, h⟩ := bd1_inv h
  refine r_cVi X hw (As := [.int p1, .int p2]) (rest := []) (wr := [(h_this_nearnesses, .inl (cI, 90, .inl nearnesses_))]) (ws' := [(h0, .inr (2, [.int places_, .ref h_this_members, .ref h_this_ties, .ref h_this_nears, .ref h_this_names, .ref h_this_nearnesses, .ref h_this_partings, .ref h_this_unions])), (h_this_nearnesses, .inl (cI, 90, .inl nearnesses_))]) (c_X2_isRank l D cI cC cO h0 h_this_members h_this_ties h_this_nears h_this_names h_this_nearnesses h_this_partings h_this_unions p1 p2 places_ r1 hc) (cs_X2_97 X (by decide)) [0] [1] [1, 0] rfl rfl rfl rfl (by decide) rfl rfl 0 rfl rfl rfl rfl hl.1 rfl (Nat.le_of_ble_eq_true rfl) dX2_nearnessAt_3 ⟨Nat.zero_le _, Nat.zero_le _⟩ (fun H locs hw => ?_)
  refine lv_if_eq (tgt := 23) hx hb dX2_nearnessAt_6 (by decide) (fun c1 => ?_) (fun c1 => ?_)
  · replace h := ip c1 h
    refine lv_iconst (v := 0) hx hb dX2_nearnessAt_23 (by decide) ?_
    obtain rfl := oi1 h
    exact r_ret X hw hr hlk dX2_nearnessAt_24
  · replace h := ig c1 h
    refine lv_aload_n hx hb dX2_nearnessAt_9 rfl (lv_at hl 0 rfl) ?_
    refine fg_X2_28 X hw 0 rfl rfl dX2_nearnessAt_10 ?_
    refine lv_iload_n hx hb dX2_nearnessAt_13 rfl (lv_at hl 1 rfl) ?_
    refine lv_bipush (v := 10) hx hb dX2_nearnessAt_14 (by decide) ?_
    refine lv_imul hx hb dX2_nearnessAt_16 ?_
    refine lv_iload_n hx hb dX2_nearnessAt_17 rfl (lv_at hl 2 rfl) ?_
    refine lv_iadd hx hb dX2_nearnessAt_18 ?_
    obtain ⟨b1, h⟩ := chk_inv h
    refine r_iald X hw 1 rfl b1 rfl dX2_nearnessAt_19 ?_
    refine lv_goto (tgt := 24) hx hb dX2_nearnessAt_20 (by decide) ?_
    obtain rfl := oi1 h
    exact r_ret X hw hr hlk dX2_nearnessAt_24
def rmX2_weightIn : Room := { frames := 3, cells := 0, slots := 0, locals := 65 }
section
variable {p : Program} {l : Launch} {e : Env} {R : Room} {s : State} {m : MethodId} {args : Array Value} {below : List Frame} {meth : Method} {c : Code} {H : Heap} {locs : List Loc} {cells slots : Nat} {Q : State → Prop}
variable {cc : ByteArray} {pc nL : Nat} {ls : Array Slot} {rest : List Value} {D : va_G} {cI cC cO : ClassId} {A : Nat → Prop} {ws : va_W} {H0 : Heap}
theorem cs_X2_94 (X : Ctx p m c cc nL s args RX2 D cI cC cO) (hR : rmX2_nearnessAt.frames + 1 ≤ R.frames ∧ 8 + (3 + 11) + rmX2_nearnessAt.locals ≤ R.locals) : CallW R s args RX2 RX2 94 yX2_nearnessAt cX2_nearnessAt 3 (some .int) (Wy yX2_nearnessAt cX2_nearnessAt 3 (some .int)) rmX2_nearnessAt 0 0 2 := cwV 2 X.1.2.2.2.2 (gi_V tw_340 tw_341 tw_342 tw_5 tw_343) rfl rfl rfl (by decide +kernel) hR
end
set_option maxHeartbeats 4000000 in
set_option maxRecDepth 100000 in
theorem c_X2_weightIn (l : Launch) (D : va_G) (cI cC cO : ClassId) (h0 h_this_members h_this_ties h_this_nears h_this_names h_this_nearnesses h_this_partings h_this_unions : Nat) (p1 places_ : Int32) (nearnesses_ : Nat → Int32) (r_ : Int32) (h : f_X2_weightIn p1 places_ nearnesses_ = some r_) : CI l yX2_weightIn (Wy yX2_weightIn cX2_weightIn 2 (some .int)) rmX2_weightIn D cI cC cO [.ref h0, .int p1] [(h0, .inr (2, [.int places_, .ref h_this_members, .ref h_this_ties, .ref h_this_nears, .ref h_this_names, .ref h_this_nearnesses, .ref h_this_partings, .ref h_this_unions])), (h_this_nearnesses, .inl (cI, 90, .inl nearnesses_))] r_ [(h0, .inr (2, [.int places_, .ref h_this_members, .ref h_this_ties, .ref h_this_nears, .ref h_this_names, .ref h_this_nearnesses, .ref h_this_partings, .ref h_this_unions])), (h_this_nearnesses, .inl (cI, 90, .inl nearnesses_))] := by
  refine enter_i RX2 (by decide) rfl (Nat.le_of_ble_eq_true rfl) ?_
  intro p e s m below meth c A X hr hlk hw ls hl
  have hx := X.1.1
  have hb := X.1.2.1
  have hl : lv_has ls 2 [(0, .ref h0), (1, .int p1)] := hl
  unfold f_X2_weightIn at h
  refine lv_aload_n hx hb dX2_weightIn_0 rfl (lv_at hl 0 rfl) ?_
  refine lv_iload_n hx hb dX2_weightIn_1 rfl (lv_at hl 1 rfl) ?_
  refine lv_aload_n hx hb dX2_weightIn_2 rfl (lv_at hl 0 rfl) ?_
  refine lv_iload_n hx hb dX2_weightIn_3 rfl (lv_at hl 1 rfl) ?_
  obtain ⟨r1, hc, h⟩ := bd1_inv h
  refine r_cVi X hw (As := [.int p1]) (rest := [.int p1, .ref h0]) (wr := [(h_this_nearnesses, .inl (cI, 90, .inl nearnesses_))]) (ws' := [(h0, .inr (2, [.int places_, .ref h_this_members, .ref h_this_ties, .ref h_this_nears, .ref h_this_names, .ref h_this_nearnesses, .ref h_this_partings, .ref h_this_unions])), (h_this_nearnesses, .inl (cI, 90, .inl nearnesses_))]) (c_X2_lumpsIn l D cI cC cO h0 h_this_members h_this_ties h_this_nears h_this_names h_this_nearnesses h_this_partings h_this_unions p1 places_ r1 hc) (cs_X2_67 X (by decide)) [0] [1] [1, 0] rfl rfl rfl rfl (by decide) rfl rfl 0 rfl rfl rfl rfl hl.1 rfl (Nat.le_of_ble_eq_true rfl) dX2_weightIn_4 ⟨Nat.zero_le _, Nat.zero_le _⟩ (fun H locs hw => ?_)
  refine lv_iconst (v := 1) hx hb dX2_weightIn_7 (by decide) ?_
  refine lv_isub hx hb dX2_weightIn_8 ?_
  obtain ⟨r2, hc, h⟩ := bd1_inv h
  refine r_cVi X hw (As := [.int p1, .int (r1 - (1 : Int32))]) (rest := []) (wr := []) (ws' := [(h0, .inr (2, [.int places_, .ref h_this_members, .ref h_this_ties, .ref h_this_nears, .ref h_this_names, .ref h_this_nearnesses, .ref h_this_partings, .ref h_this_unions])), (h_this_nearnesses, .inl (cI, 90, .inl nearnesses_))]) (c_X2_nearnessAt l D cI cC cO h0 h_this_members h_this_ties h_this_nears h_this_names h_this_nearnesses h_this_partings h_this_unions p1 (r1 - (1 : Int32)) places_ nearnesses_ r2 hc) (cs_X2_94 X (by decide)) [0, 1] [] [0, 1] rfl rfl rfl rfl (by decide) rfl rfl 0 rfl rfl rfl rfl hl.1 rfl (Nat.le_of_ble_eq_true rfl) dX2_weightIn_9 ⟨Nat.zero_le _, Nat.zero_le _⟩ (fun H locs hw => ?_)
  obtain rfl := oi1 h
  exact r_ret X hw hr hlk dX2_weightIn_12
def rmX2_firstRankOf : Room := { frames := 3, cells := 0, slots := 0, locals := 65 }
set_option maxHeartbeats 4000000 in
set_option maxRecDepth 100000 in
theorem c_X2_firstRankOf (l : Launch) (D : va_G) (cI cC cO : ClassId) (N : Nat) (h0 h_this_members h_this_ties h_this_nears h_this_names h_this_nearnesses h_this_partings h_this_unions : Nat) (p1 places_ : Int32) (names_ : Nat → Int32) (r_ : Int32) (h : f_X2_firstRankOf N p1 places_ names_ = some r_) : CI l yX2_firstRankOf (Wy yX2_firstRankOf cX2_firstRankOf 4 (some .int)) rmX2_firstRankOf D cI cC cO [.ref h0, .int p1] [(h0, .inr (2, [.int places_, .ref h_this_members, .ref h_this_ties, .ref h_this_nears, .ref h_this_names, .ref h_this_nearnesses, .ref h_this_partings, .ref h_this_unions])), (h_this_names, .inl (cI, 90, .inl names_))] r_ [(h0, .inr (2, [.int places_, .ref h_this_members, .ref h_this_ties, .ref h_this_nears, .ref h_this_names, .ref h_this_nearnesses, .ref h_this_partings, .ref h_this_unions])), (h_this_names, .inl (cI, 90, .inl names_))] := by
  refine enter_i RX2 (by decide) rfl (Nat.le_of_ble_eq_true rfl) ?_
  intro p e s m below meth c A X hr hlk hw ls hl
  have hx := X.1.1
  have hb := X.1.2.1
  have hl : lv_has ls 4 [(0, .ref h0), (1, .int p1)] := hl
  unfold f_X2_firstRankOf at h
  refine lv_iconst (v := 0) hx hb dX2_firstRankOf_0 (by decide) ?_
  refine lv_istore_n (lv' := [(2, .int (0 : Int32)), (0, .ref h0), (1, .int p1)]) hx hb dX2_firstRankOf_1 rfl hl (by decide) rfl (fun ls hl => ?_)
  refine lv_iconst (v := 0) hx hb dX2_firstRankOf_2 (by decide) ?_
  refine lv_istore_n (lv' := [(3, .int (0 : Int32)), (2, .int (0 : Int32)), (0, .ref h0), (1, .int p1)]) hx hb dX2_firstRankOf_3 rfl hl (by decide) rfl (fun ls hl => ?_)
  have E30 : ∀ (x8 : Int32) (H : Heap) (locs : List Loc) (ls : Array Slot), f_X2_firstRankOf_E30 x8 = some r_ → Wd D A s.heap [(h0, .inr (2, [.int places_, .ref h_this_members, .ref h_this_ties, .ref h_this_nears, .ref h_this_names, .ref h_this_nearnesses, .ref h_this_partings, .ref h_this_unions])), (h_this_names, .inl (cI, 90, .inl names_))] H locs → lv_has ls 4 [(2, .int x8)] → W p l e rmX2_firstRankOf s m ([.ref h0, .int p1] : List Value).toArray below meth c H locs 0 0 (MQ below (Qi D r_ [(h0, .inr (2, [.int places_, .ref h_this_members, .ref h_this_ties, .ref h_this_nears, .ref h_this_names, .ref h_this_nearnesses, .ref h_this_partings, .ref h_this_unions])), (h_this_names, .inl (cI, 90, .inl names_))] A) ([.ref h0, .int p1] : List Value).toArray s 0 0 A) (F0 m 30 ls []) := by
    intro x8 H locs ls h hw hl
    unfold f_X2_firstRankOf_E30 at h
    refine lv_iload_n hx hb dX2_firstRankOf_30 rfl (lv_at hl 0 rfl) ?_
    obtain rfl := oi1 h
    exact r_ret X hw hr hlk dX2_firstRankOf_31
  have L4 : ∀ (k5 : Int32 → Option (Int32)), (∀ (x8 : Int32) (H : Heap) (locs : List Loc) (ls : Array Slot), k5 x8 = some r_ → Wd D A s.heap [(h0, .inr (2, [.int places_, .ref h_this_members, .ref h_this_ties, .ref h_this_nears, .ref h_this_names, .ref h_this_nearnesses, .ref h_this_partings, .ref h_this_unions])), (h_this_names, .inl (cI, 90, .inl names_))] H locs → lv_has ls 4 [(2, .int x8)] → W p l e rmX2_firstRankOf s m ([.ref h0, .int p1] : List Value).toArray below meth c H locs 0 0 (MQ below (Qi D r_ [(h0, .inr (2, [.int places_, .ref h_this_members, .ref h_this_ties, .ref h_this_nears, .ref h_this_names, .ref h_this_nearnesses, .ref h_this_partings, .ref h_this_unions])), (h_this_names, .inl (cI, 90, .inl names_))] A) ([.ref h0, .int p1] : List Value).toArray s 0 0 A) (F0 m 30 ls [])) → ∀ (n7 : Nat), ∀ (x1 x2 : Int32) (H : Heap) (locs : List Loc) (ls : Array Slot), f_X2_firstRankOf_L4 places_ names_ p1 k5 n7 x1 x2 = some r_ → Wd D A s.heap [(h0, .inr (2, [.int places_, .ref h_this_members, .ref h_this_ties, .ref h_this_nears, .ref h_this_names, .ref h_this_nearnesses, .ref h_this_partings, .ref h_this_unions])), (h_this_names, .inl (cI, 90, .inl names_))] H locs → lv_has ls 4 [(0, .ref h0), (1, .int p1), (2, .int x1), (3, .int x2)] → W p l e rmX2_firstRankOf s m ([.ref h0, .int p1] : List Value).toArray below meth c H locs 0 0 (MQ below (Qi D r_ [(h0, .inr (2, [.int places_, .ref h_this_members, .ref h_this_ties, .ref h_this_nears, .ref h_this_names, .ref h_this_nearnesses, .ref h_this_partings, .ref h_this_unions])), (h_this_names, .inl (cI, 90, .inl names_))] A) ([.ref h0, .int p1] : List Value).toArray s 0 0 A) (F0 m 4 ls []) := by
    intro k5 hk4 n7
    induction n7 with
    | zero => intro x1 x2 H locs ls h; cases h
    | succ n7 ih4 =>
      intro x1 x2 H locs ls h hw hl
      rw [f_X2_firstRankOf_L4] at h
      refine lv_iload_n hx hb dX2_firstRankOf_4 rfl (lv_at hl 3 rfl) ?_
      refine lv_aload_n hx hb dX2_firstRankOf_5 rfl (lv_at hl 0 rfl) ?_
      refine fg_X2_9 X hw 0 rfl rfl dX2_firstRankOf_6 ?_
      refine lv_icmp_ge (tgt := 30) hx hb dX2_firstRankOf_9 (by decide) (fun c1 => ?_) (fun c1 => ?_)
      · replace h := ip c1 h
        exact hk4 x1 _ _ _ h hw (lv_sub hl [2] rfl)
      · replace h := ig c1 h
        refine lv_aload_n hx hb dX2_firstRankOf_12 rfl (lv_at hl 0 rfl) ?_
        refine lv_iconst (v := 0) hx hb dX2_firstRankOf_13 (by decide) ?_
        refine lv_iload_n hx hb dX2_firstRankOf_14 rfl (lv_at hl 3 rfl) ?_
        obtain ⟨r3, hc, h⟩ := bd1_inv h
        refine r_cVi X hw (As := [.int (0 : Int32), .int x2]) (rest := []) (wr := []) (ws' := [(h0, .inr (2, [.int places_, .ref h_this_members, .ref h_this_ties, .ref h_this_nears, .ref h_this_names, .ref h_this_nearnesses, .ref h_this_partings, .ref h_this_unions])), (h_this_names, .inl (cI, 90, .inl names_))]) (c_X2_nameAt l D cI cC cO h0 h_this_members h_this_ties h_this_nears h_this_names h_this_nearnesses h_this_partings h_this_unions (0 : Int32) x2 places_ names_ r3 hc) (cs_X2_76 X (by decide)) [0, 1] [] [0, 1] rfl rfl rfl rfl (by decide) rfl rfl 0 rfl rfl rfl rfl hl.1 rfl (Nat.le_of_ble_eq_true rfl) dX2_firstRankOf_15 ⟨Nat.zero_le _, Nat.zero_le _⟩ (fun H locs hw => ?_)
        refine lv_iload_n hx hb dX2_firstRankOf_18 rfl (lv_at hl 1 rfl) ?_
        have J24 : ∀ (x4 : Int32) (H : Heap) (locs : List Loc) (ls : Array Slot), f_X2_firstRankOf_J24 (f_X2_firstRankOf_L4 places_ names_ p1 k5 n7) x2 x4 = some r_ → Wd D A s.heap [(h0, .inr (2, [.int places_, .ref h_this_members, .ref h_this_ties, .ref h_this_nears, .ref h_this_names, .ref h_this_nearnesses, .ref h_this_partings, .ref h_this_unions])), (h_this_names, .inl (cI, 90, .inl names_))] H locs → lv_has ls 4 [(0, .ref h0), (1, .int p1), (2, .int x4), (3, .int x2)] → W p l e rmX2_firstRankOf s m ([.ref h0, .int p1] : List Value).toArray below meth c H locs 0 0 (MQ below (Qi D r_ [(h0, .inr (2, [.int places_, .ref h_this_members, .ref h_this_ties, .ref h_this_nears, .ref h_this_names, .ref h_this_nearnesses, .ref h_this_partings, .ref h_this_unions])), (h_this_names, .inl (cI, 90, .inl names_))] A) ([.ref h0, .int p1] : List Value).toArray s 0 0 A) (F0 m 24 ls []) := by
          intro x4 H locs ls h hw hl
          unfold f_X2_firstRankOf_J24 at h
          refine lv_iinc (v := (x2 + (1 : Int32))) (lv' := [(3, .int (x2 + (1 : Int32))), (0, .ref h0), (1, .int p1), (2, .int x4)]) hx hb dX2_firstRankOf_24 hl (k := 3) rfl rfl (by decide) rfl (fun ls hl => ?_)
          refine lv_goto (tgt := 4) hx hb dX2_firstRankOf_27 (by decide) ?_
          exact ih4 x4 (x2 + (1 : Int32)) _ _ _ h hw (lv_sub hl [1, 2, 3, 0] rfl)
        refine lv_icmp_ne (tgt := 24) hx hb dX2_firstRankOf_19 (by decide) (fun c1 => ?_) (fun c1 => ?_)
        · replace h := ig c1 h
          exact J24 x1 _ _ _ h hw (lv_sub hl [0, 1, 2, 3] rfl)
        · replace h := ip c1 h
          refine lv_iload_n hx hb dX2_firstRankOf_22 rfl (lv_at hl 3 rfl) ?_
          refine lv_istore_n (lv' := [(2, .int x2), (0, .ref h0), (1, .int p1), (3, .int x2)]) hx hb dX2_firstRankOf_23 rfl hl (by decide) rfl (fun ls hl => ?_)
          exact J24 x2 _ _ _ h hw (lv_sub hl [1, 2, 0, 3] rfl)
  exact L4 (fun x8 => f_X2_firstRankOf_E30 x8) (fun x8 H locs ls h hw hl => E30 x8 H locs ls h hw hl) N (0 : Int32) (0 : Int32) _ _ _ h hw (lv_sub hl [2, 3, 1, 0] rfl)
def rmX2_leastPhase : Room := { frames := 4, cells := 0, slots := 0, locals := 86 }
section
variable {p : Program} {l : Launch} {e : Env} {R : Room} {s : State} {m : MethodId} {args : Array Value} {below : List Frame} {meth : Method} {c : Code} {H : Heap} {locs : List Loc} {cells slots : Nat} {Q : State → Prop}
variable {cc : ByteArray} {pc nL : Nat} {ls : Array Slot} {rest : List Value} {D : va_G} {cI cC cO : ClassId} {A : Nat → Prop} {ws : va_W} {H0 : Heap}
theorem cs_X2_100 (X : Ctx p m c cc nL s args RX2 D cI cC cO) (hR : rmX2_weightIn.frames + 1 ≤ R.frames ∧ 8 + (2 + 11) + rmX2_weightIn.locals ≤ R.locals) : CallW R s args RX2 RX2 100 yX2_weightIn cX2_weightIn 2 (some .int) (Wy yX2_weightIn cX2_weightIn 2 (some .int)) rmX2_weightIn 0 0 1 := cwV 1 X.1.2.2.2.2 (gi_V tw_336 tw_337 tw_338 tw_5 tw_339) rfl rfl rfl (by decide +kernel) hR
end
set_option maxHeartbeats 4000000 in
set_option maxRecDepth 100000 in
theorem c_X2_leastPhase (l : Launch) (D : va_G) (cI cC cO : ClassId) (N : Nat) (h0 h_this_members h_this_ties h_this_nears h_this_names h_this_nearnesses h_this_partings h_this_unions : Nat) (places_ : Int32) (nearnesses_ : Nat → Int32) (r_ : Int32) (h : f_X2_leastPhase N places_ nearnesses_ = some r_) : CI l yX2_leastPhase (Wy yX2_leastPhase cX2_leastPhase 3 (some .int)) rmX2_leastPhase D cI cC cO [.ref h0] [(h0, .inr (2, [.int places_, .ref h_this_members, .ref h_this_ties, .ref h_this_nears, .ref h_this_names, .ref h_this_nearnesses, .ref h_this_partings, .ref h_this_unions])), (h_this_nearnesses, .inl (cI, 90, .inl nearnesses_))] r_ [(h0, .inr (2, [.int places_, .ref h_this_members, .ref h_this_ties, .ref h_this_nears, .ref h_this_names, .ref h_this_nearnesses, .ref h_this_partings, .ref h_this_unions])), (h_this_nearnesses, .inl (cI, 90, .inl nearnesses_))] := by
  refine enter_i RX2 (by decide) rfl (Nat.le_of_ble_eq_true rfl) ?_
  intro p e s m below meth c A X hr hlk hw ls hl
  have hx := X.1.1
  have hb := X.1.2.1
  have hl : lv_has ls 3 [(0, .ref h0)] := hl
  unfold f_X2_leastPhase at h
  refine lv_iconst (v := 0) hx hb dX2_leastPhase_0 (by decide) ?_
  refine lv_istore_n (lv' := [(1, .int (0 : Int32)), (0, .ref h0)]) hx hb dX2_leastPhase_1 rfl hl (by decide) rfl (fun ls hl => ?_)
  refine lv_iconst (v := 1) hx hb dX2_leastPhase_2 (by decide) ?_
  refine lv_istore_n (lv' := [(2, .int (1 : Int32)), (1, .int (0 : Int32)), (0, .ref h0)]) hx hb dX2_leastPhase_3 rfl hl (by decide) rfl (fun ls hl => ?_)
  have E35 : ∀ (x9 : Int32) (H : Heap) (locs : List Loc) (ls : Array Slot), f_X2_leastPhase_E35 x9 = some r_ → Wd D A s.heap [(h0, .inr (2, [.int places_, .ref h_this_members, .ref h_this_ties, .ref h_this_nears, .ref h_this_names, .ref h_this_nearnesses, .ref h_this_partings, .ref h_this_unions])), (h_this_nearnesses, .inl (cI, 90, .inl nearnesses_))] H locs → lv_has ls 3 [(1, .int x9)] → W p l e rmX2_leastPhase s m ([.ref h0] : List Value).toArray below meth c H locs 0 0 (MQ below (Qi D r_ [(h0, .inr (2, [.int places_, .ref h_this_members, .ref h_this_ties, .ref h_this_nears, .ref h_this_names, .ref h_this_nearnesses, .ref h_this_partings, .ref h_this_unions])), (h_this_nearnesses, .inl (cI, 90, .inl nearnesses_))] A) ([.ref h0] : List Value).toArray s 0 0 A) (F0 m 35 ls []) := by
    intro x9 H locs ls h hw hl
    unfold f_X2_leastPhase_E35 at h
    refine lv_iload_n hx hb dX2_leastPhase_35 rfl (lv_at hl 0 rfl) ?_
    obtain rfl := oi1 h
    exact r_ret X hw hr hlk dX2_leastPhase_36
  have L4 : ∀ (k6 : Int32 → Option (Int32)), (∀ (x9 : Int32) (H : Heap) (locs : List Loc) (ls : Array Slot), k6 x9 = some r_ → Wd D A s.heap [(h0, .inr (2, [.int places_, .ref h_this_members, .ref h_this_ties, .ref h_this_nears, .ref h_this_names, .ref h_this_nearnesses, .ref h_this_partings, .ref h_this_unions])), (h_this_nearnesses, .inl (cI, 90, .inl nearnesses_))] H locs → lv_has ls 3 [(1, .int x9)] → W p l e rmX2_leastPhase s m ([.ref h0] : List Value).toArray below meth c H locs 0 0 (MQ below (Qi D r_ [(h0, .inr (2, [.int places_, .ref h_this_members, .ref h_this_ties, .ref h_this_nears, .ref h_this_names, .ref h_this_nearnesses, .ref h_this_partings, .ref h_this_unions])), (h_this_nearnesses, .inl (cI, 90, .inl nearnesses_))] A) ([.ref h0] : List Value).toArray s 0 0 A) (F0 m 35 ls [])) → ∀ (n8 : Nat), ∀ (x1 x2 : Int32) (H : Heap) (locs : List Loc) (ls : Array Slot), f_X2_leastPhase_L4 places_ nearnesses_ k6 n8 x1 x2 = some r_ → Wd D A s.heap [(h0, .inr (2, [.int places_, .ref h_this_members, .ref h_this_ties, .ref h_this_nears, .ref h_this_names, .ref h_this_nearnesses, .ref h_this_partings, .ref h_this_unions])), (h_this_nearnesses, .inl (cI, 90, .inl nearnesses_))] H locs → lv_has ls 3 [(0, .ref h0), (1, .int x1), (2, .int x2)] → W p l e rmX2_leastPhase s m ([.ref h0] : List Value).toArray below meth c H locs 0 0 (MQ below (Qi D r_ [(h0, .inr (2, [.int places_, .ref h_this_members, .ref h_this_ties, .ref h_this_nears, .ref h_this_names, .ref h_this_nearnesses, .ref h_this_partings, .ref h_this_unions])), (h_this_nearnesses, .inl (cI, 90, .inl nearnesses_))] A) ([.ref h0] : List Value).toArray s 0 0 A) (F0 m 4 ls []) := by
    intro k6 hk4 n8
    induction n8 with
    | zero => intro x1 x2 H locs ls h; cases h
    | succ n8 ih4 =>
      intro x1 x2 H locs ls h hw hl
      rw [f_X2_leastPhase_L4] at h
      refine lv_iload_n hx hb dX2_leastPhase_4 rfl (lv_at hl 2 rfl) ?_
      refine lv_aload_n hx hb dX2_leastPhase_5 rfl (lv_at hl 0 rfl) ?_
      refine fg_X2_9 X hw 0 rfl rfl dX2_leastPhase_6 ?_
      refine lv_iconst (v := 1) hx hb dX2_leastPhase_9 (by decide) ?_
      refine lv_isub hx hb dX2_leastPhase_10 ?_
      refine lv_icmp_ge (tgt := 35) hx hb dX2_leastPhase_11 (by decide) (fun c1 => ?_) (fun c1 => ?_)
      · replace h := ip c1 h
        exact hk4 x1 _ _ _ h hw (lv_sub hl [1] rfl)
      · replace h := ig c1 h
        refine lv_aload_n hx hb dX2_leastPhase_14 rfl (lv_at hl 0 rfl) ?_
        refine lv_iload_n hx hb dX2_leastPhase_15 rfl (lv_at hl 2 rfl) ?_
        obtain ⟨r3, hc, h⟩ := bd1_inv h
        refine r_cVi X hw (As := [.int x2]) (rest := []) (wr := []) (ws' := [(h0, .inr (2, [.int places_, .ref h_this_members, .ref h_this_ties, .ref h_this_nears, .ref h_this_names, .ref h_this_nearnesses, .ref h_this_partings, .ref h_this_unions])), (h_this_nearnesses, .inl (cI, 90, .inl nearnesses_))]) (c_X2_weightIn l D cI cC cO h0 h_this_members h_this_ties h_this_nears h_this_names h_this_nearnesses h_this_partings h_this_unions x2 places_ nearnesses_ r3 hc) (cs_X2_100 X (by decide)) [0, 1] [] [0, 1] rfl rfl rfl rfl (by decide) rfl rfl 0 rfl rfl rfl rfl hl.1 rfl (Nat.le_of_ble_eq_true rfl) dX2_leastPhase_16 ⟨Nat.zero_le _, Nat.zero_le _⟩ (fun H locs hw => ?_)
        refine lv_aload_n hx hb dX2_leastPhase_19 rfl (lv_at hl 0 rfl) ?_
        refine lv_iload_n hx hb dX2_leastPhase_20 rfl (lv_at hl 1 rfl) ?_
        obtain ⟨r4, hc, h⟩ := bd1_inv h
        refine r_cVi X hw (As := [.int x1]) (rest := [.int r3]) (wr := []) (ws' := [(h0, .inr (2, [.int places_, .ref h_this_members, .ref h_this_ties, .ref h_this_nears, .ref h_this_names, .ref h_this_nearnesses, .ref h_this_partings, .ref h_this_unions])), (h_this_nearnesses, .inl (cI, 90, .inl nearnesses_))]) (c_X2_weightIn l D cI cC cO h0 h_this_members h_this_ties h_this_nears h_this_names h_this_nearnesses h_this_partings h_this_unions x1 places_ nearnesses_ r4 hc) (cs_X2_100 X (by decide)) [0, 1] [] [0, 1] rfl rfl rfl rfl (by decide) rfl rfl 0 rfl rfl rfl rfl hl.1 rfl (Nat.le_of_ble_eq_true rfl) dX2_leastPhase_21 ⟨Nat.zero_le _, Nat.zero_le _⟩ (fun H locs hw => ?_)
        have J29 : ∀ (x5 : Int32) (H : Heap) (locs : List Loc) (ls : Array Slot), f_X2_leastPhase_J29 (f_X2_leastPhase_L4 places_ nearnesses_ k6 n8) x2 x5 = some r_ → Wd D A s.heap [(h0, .inr (2, [.int places_, .ref h_this_members, .ref h_this_ties, .ref h_this_nears, .ref h_this_names, .ref h_this_nearnesses, .ref h_this_partings, .ref h_this_unions])), (h_this_nearnesses, .inl (cI, 90, .inl nearnesses_))] H locs → lv_has ls 3 [(0, .ref h0), (1, .int x5), (2, .int x2)] → W p l e rmX2_leastPhase s m ([.ref h0] : List Value).toArray below meth c H locs 0 0 (MQ below (Qi D r_ [(h0, .inr (2, [.int places_, .ref h_this_members, .ref h_this_ties, .ref h_this_nears, .ref h_this_names, .ref h_this_nearnesses, .ref h_this_partings, .ref h_this_unions])), (h_this_nearnesses, .inl (cI, 90, .inl nearnesses_))] A) ([.ref h0] : List Value).toArray s 0 0 A) (F0 m 29 ls []) := by
          intro x5 H locs ls h hw hl
          unfold f_X2_leastPhase_J29 at h
          refine lv_iinc (v := (x2 + (1 : Int32))) (lv' := [(2, .int (x2 + (1 : Int32))), (0, .ref h0), (1, .int x5)]) hx hb dX2_leastPhase_29 hl (k := 2) rfl rfl (by decide) rfl (fun ls hl => ?_)
          refine lv_goto (tgt := 4) hx hb dX2_leastPhase_32 (by decide) ?_
          exact ih4 x5 (x2 + (1 : Int32)) _ _ _ h hw (lv_sub hl [1, 2, 0] rfl)
        refine lv_icmp_ge (tgt := 29) hx hb dX2_leastPhase_24 (by decide) (fun c1 => ?_) (fun c1 => ?_)
        · replace h := ip c1 h
          exact J29 x1 _ _ _ h hw (lv_sub hl [0, 1, 2] rfl)
        · replace h := ig c1 h
          refine lv_iload_n hx hb dX2_leastPhase_27 rfl (lv_at hl 2 rfl) ?_
          refine lv_istore_n (lv' := [(1, .int x2), (0, .ref h0), (2, .int x2)]) hx hb dX2_leastPhase_28 rfl hl (by decide) rfl (fun ls hl => ?_)
          exact J29 x2 _ _ _ h hw (lv_sub hl [1, 0, 2] rfl)
  exact L4 (fun x9 => f_X2_leastPhase_E35 x9) (fun x9 H locs ls h hw hl => E35 x9 H locs ls h hw hl) N (0 : Int32) (1 : Int32) _ _ _ h hw (lv_sub hl [2, 1, 0] rfl)
