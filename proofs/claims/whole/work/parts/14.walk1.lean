def rmX1_measurePulls : Room := { frames := 2, cells := 0, slots := 0, locals := 43 }
section
variable {p : Program} {l : Launch} {e : Env} {R : Room} {s : State} {m : MethodId} {args : Array Value} {below : List Frame} {meth : Method} {c : Code} {H : Heap} {locs : List Loc} {cells slots : Nat} {Q : State → Prop}
variable {cc : ByteArray} {pc nL : Nat} {ls : Array Slot} {rest : List Value} {D : va_G} {cI cC cO : ClassId} {A : Nat → Prop} {ws : va_W} {H0 : Heap}
theorem cs_X1_57 (X : Ctx p m c cc nL s args RX1 D cI cC cO) (hR : rmX4_tieOf.frames + 1 ≤ R.frames ∧ 8 + (3 + 11) + rmX4_tieOf.locals ≤ R.locals) : CallW R s args RX1 RX4 57 yX4_tieOf cX4_tieOf 3 (some .int) (Wy yX4_tieOf cX4_tieOf 3 (some .int)) rmX4_tieOf 0 0 2 := cwV 2 X.1.2.2.2.2 (gi_V tw_414 tw_184 tw_185 tw_2 tw_186) rfl rfl rfl (by decide +kernel) hR
end
set_option maxHeartbeats 4000000 in
set_option maxRecDepth 100000 in
theorem c_X1_measurePulls (l : Launch) (D : va_G) (cI cC cO : ClassId) (N : Nat) (h0 h_p1 h_this_weights h_this_pulls h_this_leastSets h_this_tightPairs h_p1_weights : Nat) (p2 places_ end_ leastWeight_ leastCount_ tightCount_ : Int32) (pulls_ : Nat → Int32) (p1_places_ p1_start_ p1_fairPlaces_ : Int32) (p1_weights_ : Nat → Int32) (pulls_' : Nat → Int32) (h : f_X1_measurePulls N p2 pulls_ p1_places_ p1_weights_ = some pulls_') : CV l yX1_measurePulls (Wy yX1_measurePulls cX1_measurePulls 6 none) rmX1_measurePulls D cI cC cO [.ref h0, .ref h_p1, .int p2] [(h0, .inr (1, [.int places_, .int end_, .ref h_this_weights, .ref h_this_pulls, .int leastWeight_, .int leastCount_, .ref h_this_leastSets, .int tightCount_, .ref h_this_tightPairs])), (h_this_pulls, .inl (cI, 512, .inl pulls_)), (h_p1, .inr (4, [.int p1_places_, .int p1_start_, .int p1_fairPlaces_, .ref h_p1_weights])), (h_p1_weights, .inl (cI, 100, .inl p1_weights_))] [(h0, .inr (1, [.int places_, .int end_, .ref h_this_weights, .ref h_this_pulls, .int leastWeight_, .int leastCount_, .ref h_this_leastSets, .int tightCount_, .ref h_this_tightPairs])), (h_this_pulls, .inl (cI, 512, .inl pulls_')), (h_p1, .inr (4, [.int p1_places_, .int p1_start_, .int p1_fairPlaces_, .ref h_p1_weights])), (h_p1_weights, .inl (cI, 100, .inl p1_weights_))] := by
  refine enter_v RX1 (by decide) rfl (Nat.le_of_ble_eq_true rfl) ?_
  intro p e s m below meth c A X hr hlk hw ls hl
  have hx := X.1.1
  have hb := X.1.2.1
  have hl : lv_has ls 6 [(0, .ref h0), (1, .ref h_p1), (2, .int p2)] := hl
  unfold f_X1_measurePulls at h
  refine lv_iconst (v := 1) hx hb dX1_measurePulls_0 (by decide) ?_
  refine lv_istore_n (lv' := [(3, .int (1 : Int32)), (0, .ref h0), (1, .ref h_p1), (2, .int p2)]) hx hb dX1_measurePulls_1 rfl hl (by decide) rfl (fun ls hl => ?_)
  have E59 : ∀ (a13 : Nat → Int32) (H : Heap) (locs : List Loc) (ls : Array Slot), f_X1_measurePulls_E59 a13 = some pulls_' → Wd D A s.heap [(h0, .inr (1, [.int places_, .int end_, .ref h_this_weights, .ref h_this_pulls, .int leastWeight_, .int leastCount_, .ref h_this_leastSets, .int tightCount_, .ref h_this_tightPairs])), (h_this_pulls, .inl (cI, 512, .inl a13)), (h_p1, .inr (4, [.int p1_places_, .int p1_start_, .int p1_fairPlaces_, .ref h_p1_weights])), (h_p1_weights, .inl (cI, 100, .inl p1_weights_))] H locs → lv_has ls 6 [] → W p l e rmX1_measurePulls s m ([.ref h0, .ref h_p1, .int p2] : List Value).toArray below meth c H locs 0 0 (MQ below (Qv D [(h0, .inr (1, [.int places_, .int end_, .ref h_this_weights, .ref h_this_pulls, .int leastWeight_, .int leastCount_, .ref h_this_leastSets, .int tightCount_, .ref h_this_tightPairs])), (h_this_pulls, .inl (cI, 512, .inl pulls_')), (h_p1, .inr (4, [.int p1_places_, .int p1_start_, .int p1_fairPlaces_, .ref h_p1_weights])), (h_p1_weights, .inl (cI, 100, .inl p1_weights_))] A) ([.ref h0, .ref h_p1, .int p2] : List Value).toArray s 0 0 A) (F0 m 59 ls []) := by
    intro a13 H locs ls h hw hl
    unfold f_X1_measurePulls_E59 at h
    obtain rfl := oi1 h
    exact r_retv X hw hr hlk dX1_measurePulls_59
  have L2 : ∀ (k10 : (Nat → Int32) → Option ((Nat → Int32))), (∀ (a13 : Nat → Int32) (H : Heap) (locs : List Loc) (ls : Array Slot), k10 a13 = some pulls_' → Wd D A s.heap [(h0, .inr (1, [.int places_, .int end_, .ref h_this_weights, .ref h_this_pulls, .int leastWeight_, .int leastCount_, .ref h_this_leastSets, .int tightCount_, .ref h_this_tightPairs])), (h_this_pulls, .inl (cI, 512, .inl a13)), (h_p1, .inr (4, [.int p1_places_, .int p1_start_, .int p1_fairPlaces_, .ref h_p1_weights])), (h_p1_weights, .inl (cI, 100, .inl p1_weights_))] H locs → lv_has ls 6 [] → W p l e rmX1_measurePulls s m ([.ref h0, .ref h_p1, .int p2] : List Value).toArray below meth c H locs 0 0 (MQ below (Qv D [(h0, .inr (1, [.int places_, .int end_, .ref h_this_weights, .ref h_this_pulls, .int leastWeight_, .int leastCount_, .ref h_this_leastSets, .int tightCount_, .ref h_this_tightPairs])), (h_this_pulls, .inl (cI, 512, .inl pulls_')), (h_p1, .inr (4, [.int p1_places_, .int p1_start_, .int p1_fairPlaces_, .ref h_p1_weights])), (h_p1_weights, .inl (cI, 100, .inl p1_weights_))] A) ([.ref h0, .ref h_p1, .int p2] : List Value).toArray s 0 0 A) (F0 m 59 ls [])) → ∀ (n12 : Nat), ∀ (x1 : Int32) (a2 : Nat → Int32) (H : Heap) (locs : List Loc) (ls : Array Slot), f_X1_measurePulls_L2 N p2 p1_places_ p1_weights_ k10 n12 x1 a2 = some pulls_' → Wd D A s.heap [(h0, .inr (1, [.int places_, .int end_, .ref h_this_weights, .ref h_this_pulls, .int leastWeight_, .int leastCount_, .ref h_this_leastSets, .int tightCount_, .ref h_this_tightPairs])), (h_this_pulls, .inl (cI, 512, .inl a2)), (h_p1, .inr (4, [.int p1_places_, .int p1_start_, .int p1_fairPlaces_, .ref h_p1_weights])), (h_p1_weights, .inl (cI, 100, .inl p1_weights_))] H locs → lv_has ls 6 [(0, .ref h0), (1, .ref h_p1), (2, .int p2), (3, .int x1)] → W p l e rmX1_measurePulls s m ([.ref h0, .ref h_p1, .int p2] : List Value).toArray below meth c H locs 0 0 (MQ below (Qv D [(h0, .inr (1, [.int places_, .int end_, .ref h_this_weights, .ref h_this_pulls, .int leastWeight_, .int leastCount_, .ref h_this_leastSets, .int tightCount_, .ref h_this_tightPairs])), (h_this_pulls, .inl (cI, 512, .inl pulls_')), (h_p1, .inr (4, [.int p1_places_, .int p1_start_, .int p1_fairPlaces_, .ref h_p1_weights])), (h_p1_weights, .inl (cI, 100, .inl p1_weights_))] A) ([.ref h0, .ref h_p1, .int p2] : List Value).toArray s 0 0 A) (F0 m 2 ls []) := by
    intro k10 hk2 n12
    induction n12 with
    | zero => intro x1 a2 H locs ls h; cases h
    | succ n12 ih2 =>
      intro x1 a2 H locs ls h hw hl
      rw [f_X1_measurePulls_L2] at h
      refine lv_iload_n hx hb dX1_measurePulls_2 rfl (lv_at hl 3 rfl) ?_
      refine lv_iload_n hx hb dX1_measurePulls_3 rfl (lv_at hl 2 rfl) ?_
      refine lv_icmp_ge (tgt := 59) hx hb dX1_measurePulls_4 (by decide) (fun c1 => ?_) (fun c1 => ?_)
      · replace h := ip c1 h
        exact hk2 a2 _ _ _ h hw (lv_sub hl [] rfl)
      · replace h := ig c1 h
        refine lv_aload_n hx hb dX1_measurePulls_7 rfl (lv_at hl 1 rfl) ?_
        refine lv_iload_n hx hb dX1_measurePulls_8 rfl (lv_at hl 3 rfl) ?_
        refine lv_iload_n hx hb dX1_measurePulls_9 rfl (lv_at hl 2 rfl) ?_
        obtain ⟨r3, hc, h⟩ := bd1_inv h
        refine r_cVi X hw (As := [.int x1, .int p2]) (rest := []) (wr := [(h0, .inr (1, [.int places_, .int end_, .ref h_this_weights, .ref h_this_pulls, .int leastWeight_, .int leastCount_, .ref h_this_leastSets, .int tightCount_, .ref h_this_tightPairs])), (h_this_pulls, .inl (cI, 512, .inl a2))]) (ws' := [(h0, .inr (1, [.int places_, .int end_, .ref h_this_weights, .ref h_this_pulls, .int leastWeight_, .int leastCount_, .ref h_this_leastSets, .int tightCount_, .ref h_this_tightPairs])), (h_this_pulls, .inl (cI, 512, .inl a2)), (h_p1, .inr (4, [.int p1_places_, .int p1_start_, .int p1_fairPlaces_, .ref h_p1_weights])), (h_p1_weights, .inl (cI, 100, .inl p1_weights_))]) (c_X4_tieOf l D cI cC cO h_p1 h_p1_weights x1 p2 p1_places_ p1_start_ p1_fairPlaces_ p1_weights_ r3 hc) (cs_X1_57 X (by decide)) [2, 3] [0, 1] [0, 1, 2, 3] rfl rfl rfl rfl (by decide) rfl rfl 2 rfl rfl rfl rfl hl.1 rfl (Nat.le_of_ble_eq_true rfl) dX1_measurePulls_10 ⟨Nat.zero_le _, Nat.zero_le _⟩ (fun H locs hw => ?_)
        refine lv_istore (lv' := [(4, .int r3), (0, .ref h0), (1, .ref h_p1), (2, .int p2), (3, .int x1)]) hx hb dX1_measurePulls_13 hl (by decide) rfl (fun ls hl => ?_)
        refine lv_iconst (v := 0) hx hb dX1_measurePulls_15 (by decide) ?_
        refine lv_istore (lv' := [(5, .int (0 : Int32)), (4, .int r3), (0, .ref h0), (1, .ref h_p1), (2, .int p2), (3, .int x1)]) hx hb dX1_measurePulls_16 hl (by decide) rfl (fun ls hl => ?_)
        have E53 : ∀ (a9 : Nat → Int32) (H : Heap) (locs : List Loc) (ls : Array Slot), f_X1_measurePulls_E53 (f_X1_measurePulls_L2 N p2 p1_places_ p1_weights_ k10 n12) x1 a9 = some pulls_' → Wd D A s.heap [(h0, .inr (1, [.int places_, .int end_, .ref h_this_weights, .ref h_this_pulls, .int leastWeight_, .int leastCount_, .ref h_this_leastSets, .int tightCount_, .ref h_this_tightPairs])), (h_this_pulls, .inl (cI, 512, .inl a9)), (h_p1, .inr (4, [.int p1_places_, .int p1_start_, .int p1_fairPlaces_, .ref h_p1_weights])), (h_p1_weights, .inl (cI, 100, .inl p1_weights_))] H locs → lv_has ls 6 [(0, .ref h0), (1, .ref h_p1), (2, .int p2), (3, .int x1)] → W p l e rmX1_measurePulls s m ([.ref h0, .ref h_p1, .int p2] : List Value).toArray below meth c H locs 0 0 (MQ below (Qv D [(h0, .inr (1, [.int places_, .int end_, .ref h_this_weights, .ref h_this_pulls, .int leastWeight_, .int leastCount_, .ref h_this_leastSets, .int tightCount_, .ref h_this_tightPairs])), (h_this_pulls, .inl (cI, 512, .inl pulls_')), (h_p1, .inr (4, [.int p1_places_, .int p1_start_, .int p1_fairPlaces_, .ref h_p1_weights])), (h_p1_weights, .inl (cI, 100, .inl p1_weights_))] A) ([.ref h0, .ref h_p1, .int p2] : List Value).toArray s 0 0 A) (F0 m 53 ls []) := by
          intro a9 H locs ls h hw hl
          unfold f_X1_measurePulls_E53 at h
          refine lv_iinc (v := (x1 + (1 : Int32))) (lv' := [(3, .int (x1 + (1 : Int32))), (0, .ref h0), (1, .ref h_p1), (2, .int p2)]) hx hb dX1_measurePulls_53 hl (k := 3) rfl rfl (by decide) rfl (fun ls hl => ?_)
          refine lv_goto (tgt := 2) hx hb dX1_measurePulls_56 (by decide) ?_
          exact ih2 (x1 + (1 : Int32)) a9 _ _ _ h hw (lv_sub hl [1, 2, 3, 0] rfl)
        have L18 : ∀ (k6 : (Nat → Int32) → Option ((Nat → Int32))), (∀ (a9 : Nat → Int32) (H : Heap) (locs : List Loc) (ls : Array Slot), k6 a9 = some pulls_' → Wd D A s.heap [(h0, .inr (1, [.int places_, .int end_, .ref h_this_weights, .ref h_this_pulls, .int leastWeight_, .int leastCount_, .ref h_this_leastSets, .int tightCount_, .ref h_this_tightPairs])), (h_this_pulls, .inl (cI, 512, .inl a9)), (h_p1, .inr (4, [.int p1_places_, .int p1_start_, .int p1_fairPlaces_, .ref h_p1_weights])), (h_p1_weights, .inl (cI, 100, .inl p1_weights_))] H locs → lv_has ls 6 [(0, .ref h0), (1, .ref h_p1), (2, .int p2), (3, .int x1)] → W p l e rmX1_measurePulls s m ([.ref h0, .ref h_p1, .int p2] : List Value).toArray below meth c H locs 0 0 (MQ below (Qv D [(h0, .inr (1, [.int places_, .int end_, .ref h_this_weights, .ref h_this_pulls, .int leastWeight_, .int leastCount_, .ref h_this_leastSets, .int tightCount_, .ref h_this_tightPairs])), (h_this_pulls, .inl (cI, 512, .inl pulls_')), (h_p1, .inr (4, [.int p1_places_, .int p1_start_, .int p1_fairPlaces_, .ref h_p1_weights])), (h_p1_weights, .inl (cI, 100, .inl p1_weights_))] A) ([.ref h0, .ref h_p1, .int p2] : List Value).toArray s 0 0 A) (F0 m 53 ls [])) → ∀ (n8 : Nat), ∀ (x4 : Int32) (a5 : Nat → Int32) (H : Heap) (locs : List Loc) (ls : Array Slot), f_X1_measurePulls_L18 x1 r3 k6 n8 x4 a5 = some pulls_' → Wd D A s.heap [(h0, .inr (1, [.int places_, .int end_, .ref h_this_weights, .ref h_this_pulls, .int leastWeight_, .int leastCount_, .ref h_this_leastSets, .int tightCount_, .ref h_this_tightPairs])), (h_this_pulls, .inl (cI, 512, .inl a5)), (h_p1, .inr (4, [.int p1_places_, .int p1_start_, .int p1_fairPlaces_, .ref h_p1_weights])), (h_p1_weights, .inl (cI, 100, .inl p1_weights_))] H locs → lv_has ls 6 [(0, .ref h0), (1, .ref h_p1), (2, .int p2), (3, .int x1), (4, .int r3), (5, .int x4)] → W p l e rmX1_measurePulls s m ([.ref h0, .ref h_p1, .int p2] : List Value).toArray below meth c H locs 0 0 (MQ below (Qv D [(h0, .inr (1, [.int places_, .int end_, .ref h_this_weights, .ref h_this_pulls, .int leastWeight_, .int leastCount_, .ref h_this_leastSets, .int tightCount_, .ref h_this_tightPairs])), (h_this_pulls, .inl (cI, 512, .inl pulls_')), (h_p1, .inr (4, [.int p1_places_, .int p1_start_, .int p1_fairPlaces_, .ref h_p1_weights])), (h_p1_weights, .inl (cI, 100, .inl p1_weights_))] A) ([.ref h0, .ref h_p1, .int p2] : List Value).toArray s 0 0 A) (F0 m 18 ls []) := by
          intro k6 hk18 n8
          induction n8 with
          | zero => intro x4 a5 H locs ls h; cases h
          | succ n8 ih18 =>
            intro x4 a5 H locs ls h hw hl
            rw [f_X1_measurePulls_L18] at h
            refine lv_iload hx hb dX1_measurePulls_18 (lv_at hl 5 rfl) ?_
            refine lv_iconst (v := 1) hx hb dX1_measurePulls_20 (by decide) ?_
            refine lv_iload_n hx hb dX1_measurePulls_21 rfl (lv_at hl 3 rfl) ?_
            refine lv_ishl hx hb dX1_measurePulls_22 ?_
            refine lv_icmp_ge (tgt := 53) hx hb dX1_measurePulls_23 (by decide) (fun c1 => ?_) (fun c1 => ?_)
            · replace h := ip c1 h
              exact hk18 a5 _ _ _ h hw (lv_sub hl [0, 1, 2, 3] rfl)
            · replace h := ig c1 h
              refine lv_aload_n hx hb dX1_measurePulls_26 rfl (lv_at hl 0 rfl) ?_
              refine fg_X1_22 X hw 0 rfl rfl dX1_measurePulls_27 ?_
              refine lv_iload hx hb dX1_measurePulls_30 (lv_at hl 5 rfl) ?_
              refine lv_iconst (v := 1) hx hb dX1_measurePulls_32 (by decide) ?_
              refine lv_iload_n hx hb dX1_measurePulls_33 rfl (lv_at hl 3 rfl) ?_
              refine lv_ishl hx hb dX1_measurePulls_34 ?_
              refine lv_ior hx hb dX1_measurePulls_35 ?_
              refine lv_aload_n hx hb dX1_measurePulls_36 rfl (lv_at hl 0 rfl) ?_
              refine fg_X1_22 X hw 0 rfl rfl dX1_measurePulls_37 ?_
              refine lv_iload hx hb dX1_measurePulls_40 (lv_at hl 5 rfl) ?_
              obtain ⟨b1, h⟩ := chk_inv h
              refine r_iald X hw 1 rfl b1 rfl dX1_measurePulls_42 ?_
              refine lv_iload hx hb dX1_measurePulls_43 (lv_at hl 4 rfl) ?_
              refine lv_iadd hx hb dX1_measurePulls_45 ?_
              obtain ⟨b1, h⟩ := chk_inv h
              refine r_iast X hw 1 rfl b1 rfl dX1_measurePulls_46 (fun H locs hw => ?_)
              have hw : Wd D A s.heap [(h0, .inr (1, [.int places_, .int end_, .ref h_this_weights, .ref h_this_pulls, .int leastWeight_, .int leastCount_, .ref h_this_leastSets, .int tightCount_, .ref h_this_tightPairs])), (h_this_pulls, .inl (cI, 512, .inl (upd a5 ((x4 ||| ((1 : Int32) <<< (x1 &&& (31 : Int32))))).toNatClampNeg ((a5 (x4).toNatClampNeg) + r3)))), (h_p1, .inr (4, [.int p1_places_, .int p1_start_, .int p1_fairPlaces_, .ref h_p1_weights])), (h_p1_weights, .inl (cI, 100, .inl p1_weights_))] H locs := hw
              refine lv_iinc (v := (x4 + (2 : Int32))) (lv' := [(5, .int (x4 + (2 : Int32))), (0, .ref h0), (1, .ref h_p1), (2, .int p2), (3, .int x1), (4, .int r3)]) hx hb dX1_measurePulls_47 hl (k := 5) rfl rfl (by decide) rfl (fun ls hl => ?_)
              refine lv_goto (tgt := 18) hx hb dX1_measurePulls_50 (by decide) ?_
              exact ih18 (x4 + (2 : Int32)) (upd a5 ((x4 ||| ((1 : Int32) <<< (x1 &&& (31 : Int32))))).toNatClampNeg ((a5 (x4).toNatClampNeg) + r3)) _ _ _ h hw (lv_sub hl [1, 2, 3, 4, 5, 0] rfl)
        exact L18 (fun a9 => f_X1_measurePulls_E53 (f_X1_measurePulls_L2 N p2 p1_places_ p1_weights_ k10 n12) x1 a9) (fun a9 H locs ls h hw hl => E53 a9 H locs ls h hw hl) N (0 : Int32) a2 _ _ _ h hw (lv_sub hl [2, 3, 4, 5, 1, 0] rfl)
  exact L2 (fun a13 => f_X1_measurePulls_E59 a13) (fun a13 H locs ls h hw hl => E59 a13 H locs ls h hw hl) N (1 : Int32) pulls_ _ _ _ h hw (lv_sub hl [1, 2, 3, 0] rfl)
def rmX1_measureWith : Room := { frames := 3, cells := 0, slots := 0, locals := 66 }
section
variable {p : Program} {l : Launch} {e : Env} {R : Room} {s : State} {m : MethodId} {args : Array Value} {below : List Frame} {meth : Method} {c : Code} {H : Heap} {locs : List Loc} {cells slots : Nat} {Q : State → Prop}
variable {cc : ByteArray} {pc nL : Nat} {ls : Array Slot} {rest : List Value} {D : va_G} {cI cC cO : ClassId} {A : Nat → Prop} {ws : va_W} {H0 : Heap}
theorem cs_X1_61 (X : Ctx p m c cc nL s args RX1 D cI cC cO) (hR : rmX4_weightsOf.frames + 1 ≤ R.frames ∧ 8 + (4 + 11) + rmX4_weightsOf.locals ≤ R.locals) : CallW R s args RX1 RX4 61 yX4_weightsOf cX4_weightsOf 4 (some .int) (Wy yX4_weightsOf cX4_weightsOf 4 (some .int)) rmX4_weightsOf 0 0 1 := cwV 1 X.1.2.2.2.2 (gi_V tw_419 tw_393 tw_394 tw_2 tw_395) rfl rfl rfl (by decide +kernel) hR
end
set_option maxHeartbeats 4000000 in
set_option maxRecDepth 100000 in
theorem c_X1_measureWith (l : Launch) (D : va_G) (cI cC cO : ClassId) (N : Nat) (h0 h_p1 h_this_weights h_this_pulls h_this_leastSets h_this_tightPairs h_p1_weights : Nat) (p2 places_ end_ leastWeight_ leastCount_ tightCount_ : Int32) (weights_ pulls_ : Nat → Int32) (p1_places_ p1_start_ p1_fairPlaces_ : Int32) (p1_weights_ : Nat → Int32) (weights_' : Nat → Int32) (h : f_X1_measureWith N p2 weights_ pulls_ p1_places_ p1_weights_ = some weights_') : CV l yX1_measureWith (Wy yX1_measureWith cX1_measureWith 5 none) rmX1_measureWith D cI cC cO [.ref h0, .ref h_p1, .int p2] [(h0, .inr (1, [.int places_, .int end_, .ref h_this_weights, .ref h_this_pulls, .int leastWeight_, .int leastCount_, .ref h_this_leastSets, .int tightCount_, .ref h_this_tightPairs])), (h_this_weights, .inl (cI, 1024, .inl weights_)), (h_this_pulls, .inl (cI, 512, .inl pulls_)), (h_p1, .inr (4, [.int p1_places_, .int p1_start_, .int p1_fairPlaces_, .ref h_p1_weights])), (h_p1_weights, .inl (cI, 100, .inl p1_weights_))] [(h0, .inr (1, [.int places_, .int end_, .ref h_this_weights, .ref h_this_pulls, .int leastWeight_, .int leastCount_, .ref h_this_leastSets, .int tightCount_, .ref h_this_tightPairs])), (h_this_weights, .inl (cI, 1024, .inl weights_')), (h_this_pulls, .inl (cI, 512, .inl pulls_)), (h_p1, .inr (4, [.int p1_places_, .int p1_start_, .int p1_fairPlaces_, .ref h_p1_weights])), (h_p1_weights, .inl (cI, 100, .inl p1_weights_))] := by
  refine enter_v RX1 (by decide) rfl (Nat.le_of_ble_eq_true rfl) ?_
  intro p e s m below meth c A X hr hlk hw ls hl
  have hx := X.1.1
  have hb := X.1.2.1
  have hl : lv_has ls 5 [(0, .ref h0), (1, .ref h_p1), (2, .int p2)] := hl
  unfold f_X1_measureWith at h
  refine lv_aload_n hx hb dX1_measureWith_0 rfl (lv_at hl 1 rfl) ?_
  refine lv_iload_n hx hb dX1_measureWith_1 rfl (lv_at hl 2 rfl) ?_
  obtain ⟨r1, hc, h⟩ := bd1_inv h
  refine r_cVi X hw (As := [.int p2]) (rest := []) (wr := [(h0, .inr (1, [.int places_, .int end_, .ref h_this_weights, .ref h_this_pulls, .int leastWeight_, .int leastCount_, .ref h_this_leastSets, .int tightCount_, .ref h_this_tightPairs])), (h_this_weights, .inl (cI, 1024, .inl weights_)), (h_this_pulls, .inl (cI, 512, .inl pulls_))]) (ws' := [(h0, .inr (1, [.int places_, .int end_, .ref h_this_weights, .ref h_this_pulls, .int leastWeight_, .int leastCount_, .ref h_this_leastSets, .int tightCount_, .ref h_this_tightPairs])), (h_this_weights, .inl (cI, 1024, .inl weights_)), (h_this_pulls, .inl (cI, 512, .inl pulls_)), (h_p1, .inr (4, [.int p1_places_, .int p1_start_, .int p1_fairPlaces_, .ref h_p1_weights])), (h_p1_weights, .inl (cI, 100, .inl p1_weights_))]) (c_X4_weightsOf l D cI cC cO N h_p1 h_p1_weights p2 p1_places_ p1_start_ p1_fairPlaces_ p1_weights_ r1 hc) (cs_X1_61 X (by decide)) [3, 4] [0, 1, 2] [0, 1, 2, 3, 4] rfl rfl rfl rfl (by decide) rfl rfl 3 rfl rfl rfl rfl hl.1 rfl (Nat.le_of_ble_eq_true rfl) dX1_measureWith_2 ⟨Nat.zero_le _, Nat.zero_le _⟩ (fun H locs hw => ?_)
  refine lv_istore_n (lv' := [(3, .int r1), (0, .ref h0), (1, .ref h_p1), (2, .int p2)]) hx hb dX1_measureWith_5 rfl hl (by decide) rfl (fun ls hl => ?_)
  refine lv_iconst (v := 0) hx hb dX1_measureWith_6 (by decide) ?_
  refine lv_istore (lv' := [(4, .int (0 : Int32)), (3, .int r1), (0, .ref h0), (1, .ref h_p1), (2, .int p2)]) hx hb dX1_measureWith_7 hl (by decide) rfl (fun ls hl => ?_)
  have E53 : ∀ (a7 : Nat → Int32) (H : Heap) (locs : List Loc) (ls : Array Slot), f_X1_measureWith_E53 a7 = some weights_' → Wd D A s.heap [(h0, .inr (1, [.int places_, .int end_, .ref h_this_weights, .ref h_this_pulls, .int leastWeight_, .int leastCount_, .ref h_this_leastSets, .int tightCount_, .ref h_this_tightPairs])), (h_this_weights, .inl (cI, 1024, .inl a7)), (h_this_pulls, .inl (cI, 512, .inl pulls_)), (h_p1, .inr (4, [.int p1_places_, .int p1_start_, .int p1_fairPlaces_, .ref h_p1_weights])), (h_p1_weights, .inl (cI, 100, .inl p1_weights_))] H locs → lv_has ls 5 [] → W p l e rmX1_measureWith s m ([.ref h0, .ref h_p1, .int p2] : List Value).toArray below meth c H locs 0 0 (MQ below (Qv D [(h0, .inr (1, [.int places_, .int end_, .ref h_this_weights, .ref h_this_pulls, .int leastWeight_, .int leastCount_, .ref h_this_leastSets, .int tightCount_, .ref h_this_tightPairs])), (h_this_weights, .inl (cI, 1024, .inl weights_')), (h_this_pulls, .inl (cI, 512, .inl pulls_)), (h_p1, .inr (4, [.int p1_places_, .int p1_start_, .int p1_fairPlaces_, .ref h_p1_weights])), (h_p1_weights, .inl (cI, 100, .inl p1_weights_))] A) ([.ref h0, .ref h_p1, .int p2] : List Value).toArray s 0 0 A) (F0 m 53 ls []) := by
    intro a7 H locs ls h hw hl
    unfold f_X1_measureWith_E53 at h
    obtain rfl := oi1 h
    exact r_retv X hw hr hlk dX1_measureWith_53
  have L9 : ∀ (k4 : (Nat → Int32) → Option ((Nat → Int32))), (∀ (a7 : Nat → Int32) (H : Heap) (locs : List Loc) (ls : Array Slot), k4 a7 = some weights_' → Wd D A s.heap [(h0, .inr (1, [.int places_, .int end_, .ref h_this_weights, .ref h_this_pulls, .int leastWeight_, .int leastCount_, .ref h_this_leastSets, .int tightCount_, .ref h_this_tightPairs])), (h_this_weights, .inl (cI, 1024, .inl a7)), (h_this_pulls, .inl (cI, 512, .inl pulls_)), (h_p1, .inr (4, [.int p1_places_, .int p1_start_, .int p1_fairPlaces_, .ref h_p1_weights])), (h_p1_weights, .inl (cI, 100, .inl p1_weights_))] H locs → lv_has ls 5 [] → W p l e rmX1_measureWith s m ([.ref h0, .ref h_p1, .int p2] : List Value).toArray below meth c H locs 0 0 (MQ below (Qv D [(h0, .inr (1, [.int places_, .int end_, .ref h_this_weights, .ref h_this_pulls, .int leastWeight_, .int leastCount_, .ref h_this_leastSets, .int tightCount_, .ref h_this_tightPairs])), (h_this_weights, .inl (cI, 1024, .inl weights_')), (h_this_pulls, .inl (cI, 512, .inl pulls_)), (h_p1, .inr (4, [.int p1_places_, .int p1_start_, .int p1_fairPlaces_, .ref h_p1_weights])), (h_p1_weights, .inl (cI, 100, .inl p1_weights_))] A) ([.ref h0, .ref h_p1, .int p2] : List Value).toArray s 0 0 A) (F0 m 53 ls [])) → ∀ (n6 : Nat), ∀ (x2 : Int32) (a3 : Nat → Int32) (H : Heap) (locs : List Loc) (ls : Array Slot), f_X1_measureWith_L9 p2 r1 pulls_ k4 n6 x2 a3 = some weights_' → Wd D A s.heap [(h0, .inr (1, [.int places_, .int end_, .ref h_this_weights, .ref h_this_pulls, .int leastWeight_, .int leastCount_, .ref h_this_leastSets, .int tightCount_, .ref h_this_tightPairs])), (h_this_weights, .inl (cI, 1024, .inl a3)), (h_this_pulls, .inl (cI, 512, .inl pulls_)), (h_p1, .inr (4, [.int p1_places_, .int p1_start_, .int p1_fairPlaces_, .ref h_p1_weights])), (h_p1_weights, .inl (cI, 100, .inl p1_weights_))] H locs → lv_has ls 5 [(0, .ref h0), (2, .int p2), (3, .int r1), (4, .int x2)] → W p l e rmX1_measureWith s m ([.ref h0, .ref h_p1, .int p2] : List Value).toArray below meth c H locs 0 0 (MQ below (Qv D [(h0, .inr (1, [.int places_, .int end_, .ref h_this_weights, .ref h_this_pulls, .int leastWeight_, .int leastCount_, .ref h_this_leastSets, .int tightCount_, .ref h_this_tightPairs])), (h_this_weights, .inl (cI, 1024, .inl weights_')), (h_this_pulls, .inl (cI, 512, .inl pulls_)), (h_p1, .inr (4, [.int p1_places_, .int p1_start_, .int p1_fairPlaces_, .ref h_p1_weights])), (h_p1_weights, .inl (cI, 100, .inl p1_weights_))] A) ([.ref h0, .ref h_p1, .int p2] : List Value).toArray s 0 0 A) (F0 m 9 ls []) := by
    intro k4 hk9 n6
    induction n6 with
    | zero => intro x2 a3 H locs ls h; cases h
    | succ n6 ih9 =>
      intro x2 a3 H locs ls h hw hl
      rw [f_X1_measureWith_L9] at h
      refine lv_iload hx hb dX1_measureWith_9 (lv_at hl 3 rfl) ?_
      refine lv_iconst (v := 1) hx hb dX1_measureWith_11 (by decide) ?_
      refine lv_iload_n hx hb dX1_measureWith_12 rfl (lv_at hl 1 rfl) ?_
      refine lv_ishl hx hb dX1_measureWith_13 ?_
      refine lv_icmp_ge (tgt := 53) hx hb dX1_measureWith_14 (by decide) (fun c1 => ?_) (fun c1 => ?_)
      · replace h := ip c1 h
        exact hk9 a3 _ _ _ h hw (lv_sub hl [] rfl)
      · replace h := ig c1 h
        refine lv_aload_n hx hb dX1_measureWith_17 rfl (lv_at hl 0 rfl) ?_
        refine fg_X1_18 X hw 0 rfl rfl dX1_measureWith_18 ?_
        refine lv_iload hx hb dX1_measureWith_21 (lv_at hl 3 rfl) ?_
        refine lv_iconst (v := 1) hx hb dX1_measureWith_23 (by decide) ?_
        refine lv_iload_n hx hb dX1_measureWith_24 rfl (lv_at hl 1 rfl) ?_
        refine lv_ishl hx hb dX1_measureWith_25 ?_
        refine lv_ior hx hb dX1_measureWith_26 ?_
        refine lv_aload_n hx hb dX1_measureWith_27 rfl (lv_at hl 0 rfl) ?_
        refine fg_X1_18 X hw 0 rfl rfl dX1_measureWith_28 ?_
        refine lv_iload hx hb dX1_measureWith_31 (lv_at hl 3 rfl) ?_
        obtain ⟨b1, h⟩ := chk_inv h
        refine r_iald X hw 1 rfl b1 rfl dX1_measureWith_33 ?_
        refine lv_iload_n hx hb dX1_measureWith_34 rfl (lv_at hl 2 rfl) ?_
        refine lv_iadd hx hb dX1_measureWith_35 ?_
        refine lv_iconst (v := 2) hx hb dX1_measureWith_36 (by decide) ?_
        refine lv_aload_n hx hb dX1_measureWith_37 rfl (lv_at hl 0 rfl) ?_
        refine fg_X1_22 X hw 0 rfl rfl dX1_measureWith_38 ?_
        refine lv_iload hx hb dX1_measureWith_41 (lv_at hl 3 rfl) ?_
        obtain ⟨b1, h⟩ := chk_inv h
        refine r_iald X hw 2 rfl b1 rfl dX1_measureWith_43 ?_
        refine lv_imul hx hb dX1_measureWith_44 ?_
        refine lv_isub hx hb dX1_measureWith_45 ?_
        obtain ⟨b1, h⟩ := chk_inv h
        refine r_iast X hw 1 rfl b1 rfl dX1_measureWith_46 (fun H locs hw => ?_)
        have hw : Wd D A s.heap [(h0, .inr (1, [.int places_, .int end_, .ref h_this_weights, .ref h_this_pulls, .int leastWeight_, .int leastCount_, .ref h_this_leastSets, .int tightCount_, .ref h_this_tightPairs])), (h_this_weights, .inl (cI, 1024, .inl (upd a3 ((x2 ||| ((1 : Int32) <<< (p2 &&& (31 : Int32))))).toNatClampNeg (((a3 (x2).toNatClampNeg) + r1) - ((2 : Int32) * (pulls_ (x2).toNatClampNeg)))))), (h_this_pulls, .inl (cI, 512, .inl pulls_)), (h_p1, .inr (4, [.int p1_places_, .int p1_start_, .int p1_fairPlaces_, .ref h_p1_weights])), (h_p1_weights, .inl (cI, 100, .inl p1_weights_))] H locs := hw
        refine lv_iinc (v := (x2 + (2 : Int32))) (lv' := [(4, .int (x2 + (2 : Int32))), (0, .ref h0), (2, .int p2), (3, .int r1)]) hx hb dX1_measureWith_47 hl (k := 3) rfl rfl (by decide) rfl (fun ls hl => ?_)
        refine lv_goto (tgt := 9) hx hb dX1_measureWith_50 (by decide) ?_
        exact ih9 (x2 + (2 : Int32)) (upd a3 ((x2 ||| ((1 : Int32) <<< (p2 &&& (31 : Int32))))).toNatClampNeg (((a3 (x2).toNatClampNeg) + r1) - ((2 : Int32) * (pulls_ (x2).toNatClampNeg)))) _ _ _ h hw (lv_sub hl [1, 2, 3, 0] rfl)
  exact L9 (fun a7 => f_X1_measureWith_E53 a7) (fun a7 H locs ls h hw hl => E53 a7 H locs ls h hw hl) N (0 : Int32) weights_ _ _ _ h hw (lv_sub hl [2, 4, 1, 0] rfl)
def rmX1_findLeast : Room := { frames := 0, cells := 0, slots := 0, locals := 0 }
set_option maxHeartbeats 4000000 in
set_option maxRecDepth 100000 in
theorem c_X1_findLeast (l : Launch) (D : va_G) (cI cC cO : ClassId) (N : Nat) (h0 h_this_weights h_this_pulls h_this_leastSets h_this_tightPairs : Nat) (places_ end_ leastWeight_ leastCount_ tightCount_ : Int32) (weights_ leastSets_ : Nat → Int32) (leastWeight_' : Int32) (leastCount_' : Int32) (leastSets_' : Nat → Int32) (h : f_X1_findLeast N end_ leastWeight_ weights_ leastSets_ = some (leastWeight_', leastCount_', leastSets_')) : CV l yX1_findLeast (Wy yX1_findLeast cX1_findLeast 2 none) rmX1_findLeast D cI cC cO [.ref h0] [(h0, .inr (1, [.int places_, .int end_, .ref h_this_weights, .ref h_this_pulls, .int leastWeight_, .int leastCount_, .ref h_this_leastSets, .int tightCount_, .ref h_this_tightPairs])), (h_this_weights, .inl (cI, 1024, .inl weights_)), (h_this_leastSets, .inl (cI, 511, .inl leastSets_))] [(h0, .inr (1, [.int places_, .int end_, .ref h_this_weights, .ref h_this_pulls, .int leastWeight_', .int leastCount_', .ref h_this_leastSets, .int tightCount_, .ref h_this_tightPairs])), (h_this_weights, .inl (cI, 1024, .inl weights_)), (h_this_leastSets, .inl (cI, 511, .inl leastSets_'))] := by
  refine enter_v RX1 (by decide) rfl (Nat.le_of_ble_eq_true rfl) ?_
  intro p e s m below meth c A X hr hlk hw ls hl
  have hx := X.1.1
  have hb := X.1.2.1
  have hl : lv_has ls 2 [(0, .ref h0)] := hl
  unfold f_X1_findLeast at h
  refine lv_aload_n hx hb dX1_findLeast_0 rfl (lv_at hl 0 rfl) ?_
  refine lv_iconst (v := 0) hx hb dX1_findLeast_1 (by decide) ?_
  refine fp_X1_28 X hw 0 rfl rfl dX1_findLeast_2 (fun H locs hw => ?_)
  have hw : Wd D A s.heap [(h0, .inr (1, [.int places_, .int end_, .ref h_this_weights, .ref h_this_pulls, .int leastWeight_, .int (0 : Int32), .ref h_this_leastSets, .int tightCount_, .ref h_this_tightPairs])), (h_this_weights, .inl (cI, 1024, .inl weights_)), (h_this_leastSets, .inl (cI, 511, .inl leastSets_))] H locs := hw
  refine lv_iconst (v := 2) hx hb dX1_findLeast_5 (by decide) ?_
  refine lv_istore_n (lv' := [(1, .int (2 : Int32)), (0, .ref h0)]) hx hb dX1_findLeast_6 rfl hl (by decide) rfl (fun ls hl => ?_)
  have E89 : ∀ (x12 x13 : Int32) (a14 : Nat → Int32) (H : Heap) (locs : List Loc) (ls : Array Slot), f_X1_findLeast_E89 x12 x13 a14 = some (leastWeight_', leastCount_', leastSets_') → Wd D A s.heap [(h0, .inr (1, [.int places_, .int end_, .ref h_this_weights, .ref h_this_pulls, .int x12, .int x13, .ref h_this_leastSets, .int tightCount_, .ref h_this_tightPairs])), (h_this_weights, .inl (cI, 1024, .inl weights_)), (h_this_leastSets, .inl (cI, 511, .inl a14))] H locs → lv_has ls 2 [] → W p l e rmX1_findLeast s m ([.ref h0] : List Value).toArray below meth c H locs 0 0 (MQ below (Qv D [(h0, .inr (1, [.int places_, .int end_, .ref h_this_weights, .ref h_this_pulls, .int leastWeight_', .int leastCount_', .ref h_this_leastSets, .int tightCount_, .ref h_this_tightPairs])), (h_this_weights, .inl (cI, 1024, .inl weights_)), (h_this_leastSets, .inl (cI, 511, .inl leastSets_'))] A) ([.ref h0] : List Value).toArray s 0 0 A) (F0 m 89 ls []) := by
    intro x12 x13 a14 H locs ls h hw hl
    unfold f_X1_findLeast_E89 at h
    obtain ⟨rfl, rfl, rfl⟩ := oi3 h
    exact r_retv X hw hr hlk dX1_findLeast_89
  have L7 : ∀ (k9 : Int32 → Int32 → (Nat → Int32) → Option (Int32 × Int32 × (Nat → Int32))), (∀ (x12 x13 : Int32) (a14 : Nat → Int32) (H : Heap) (locs : List Loc) (ls : Array Slot), k9 x12 x13 a14 = some (leastWeight_', leastCount_', leastSets_') → Wd D A s.heap [(h0, .inr (1, [.int places_, .int end_, .ref h_this_weights, .ref h_this_pulls, .int x12, .int x13, .ref h_this_leastSets, .int tightCount_, .ref h_this_tightPairs])), (h_this_weights, .inl (cI, 1024, .inl weights_)), (h_this_leastSets, .inl (cI, 511, .inl a14))] H locs → lv_has ls 2 [] → W p l e rmX1_findLeast s m ([.ref h0] : List Value).toArray below meth c H locs 0 0 (MQ below (Qv D [(h0, .inr (1, [.int places_, .int end_, .ref h_this_weights, .ref h_this_pulls, .int leastWeight_', .int leastCount_', .ref h_this_leastSets, .int tightCount_, .ref h_this_tightPairs])), (h_this_weights, .inl (cI, 1024, .inl weights_)), (h_this_leastSets, .inl (cI, 511, .inl leastSets_'))] A) ([.ref h0] : List Value).toArray s 0 0 A) (F0 m 89 ls [])) → ∀ (n11 : Nat), ∀ (x1 x2 x3 : Int32) (a4 : Nat → Int32) (H : Heap) (locs : List Loc) (ls : Array Slot), f_X1_findLeast_L7 end_ weights_ k9 n11 x1 x2 x3 a4 = some (leastWeight_', leastCount_', leastSets_') → Wd D A s.heap [(h0, .inr (1, [.int places_, .int end_, .ref h_this_weights, .ref h_this_pulls, .int x2, .int x3, .ref h_this_leastSets, .int tightCount_, .ref h_this_tightPairs])), (h_this_weights, .inl (cI, 1024, .inl weights_)), (h_this_leastSets, .inl (cI, 511, .inl a4))] H locs → lv_has ls 2 [(0, .ref h0), (1, .int x1)] → W p l e rmX1_findLeast s m ([.ref h0] : List Value).toArray below meth c H locs 0 0 (MQ below (Qv D [(h0, .inr (1, [.int places_, .int end_, .ref h_this_weights, .ref h_this_pulls, .int leastWeight_', .int leastCount_', .ref h_this_leastSets, .int tightCount_, .ref h_this_tightPairs])), (h_this_weights, .inl (cI, 1024, .inl weights_)), (h_this_leastSets, .inl (cI, 511, .inl leastSets_'))] A) ([.ref h0] : List Value).toArray s 0 0 A) (F0 m 7 ls []) := by
    intro k9 hk7 n11
    induction n11 with
    | zero => intro x1 x2 x3 a4 H locs ls h; cases h
    | succ n11 ih7 =>
      intro x1 x2 x3 a4 H locs ls h hw hl
      rw [f_X1_findLeast_L7] at h
      refine lv_iload_n hx hb dX1_findLeast_7 rfl (lv_at hl 1 rfl) ?_
      refine lv_aload_n hx hb dX1_findLeast_8 rfl (lv_at hl 0 rfl) ?_
      refine fg_X1_15 X hw 0 rfl rfl dX1_findLeast_9 ?_
      refine lv_icmp_ge (tgt := 89) hx hb dX1_findLeast_12 (by decide) (fun c1 => ?_) (fun c1 => ?_)
      · replace h := ip c1 h
        exact hk7 x2 x3 a4 _ _ _ h hw (lv_sub hl [] rfl)
      · replace h := ig c1 h
        refine lv_aload_n hx hb dX1_findLeast_15 rfl (lv_at hl 0 rfl) ?_
        refine fg_X1_28 X hw 0 rfl rfl dX1_findLeast_16 ?_
        have J50 : ∀ (x5 x6 : Int32) (H : Heap) (locs : List Loc) (ls : Array Slot), f_X1_findLeast_J50 x1 weights_ (f_X1_findLeast_L7 end_ weights_ k9 n11) a4 x5 x6 = some (leastWeight_', leastCount_', leastSets_') → Wd D A s.heap [(h0, .inr (1, [.int places_, .int end_, .ref h_this_weights, .ref h_this_pulls, .int x5, .int x6, .ref h_this_leastSets, .int tightCount_, .ref h_this_tightPairs])), (h_this_weights, .inl (cI, 1024, .inl weights_)), (h_this_leastSets, .inl (cI, 511, .inl a4))] H locs → lv_has ls 2 [(0, .ref h0), (1, .int x1)] → W p l e rmX1_findLeast s m ([.ref h0] : List Value).toArray below meth c H locs 0 0 (MQ below (Qv D [(h0, .inr (1, [.int places_, .int end_, .ref h_this_weights, .ref h_this_pulls, .int leastWeight_', .int leastCount_', .ref h_this_leastSets, .int tightCount_, .ref h_this_tightPairs])), (h_this_weights, .inl (cI, 1024, .inl weights_)), (h_this_leastSets, .inl (cI, 511, .inl leastSets_'))] A) ([.ref h0] : List Value).toArray s 0 0 A) (F0 m 50 ls []) := by
          intro x5 x6 H locs ls h hw hl
          unfold f_X1_findLeast_J50 at h
          refine lv_aload_n hx hb dX1_findLeast_50 rfl (lv_at hl 0 rfl) ?_
          refine fg_X1_18 X hw 0 rfl rfl dX1_findLeast_51 ?_
          refine lv_iload_n hx hb dX1_findLeast_54 rfl (lv_at hl 1 rfl) ?_
          obtain ⟨b1, h⟩ := chk_inv h
          refine r_iald X hw 1 rfl b1 rfl dX1_findLeast_55 ?_
          refine lv_aload_n hx hb dX1_findLeast_56 rfl (lv_at hl 0 rfl) ?_
          refine fg_X1_25 X hw 0 rfl rfl dX1_findLeast_57 ?_
          have J83 : ∀ (x7 : Int32) (a8 : Nat → Int32) (H : Heap) (locs : List Loc) (ls : Array Slot), f_X1_findLeast_J83 (f_X1_findLeast_L7 end_ weights_ k9 n11) x1 x5 x7 a8 = some (leastWeight_', leastCount_', leastSets_') → Wd D A s.heap [(h0, .inr (1, [.int places_, .int end_, .ref h_this_weights, .ref h_this_pulls, .int x5, .int x7, .ref h_this_leastSets, .int tightCount_, .ref h_this_tightPairs])), (h_this_weights, .inl (cI, 1024, .inl weights_)), (h_this_leastSets, .inl (cI, 511, .inl a8))] H locs → lv_has ls 2 [(0, .ref h0), (1, .int x1)] → W p l e rmX1_findLeast s m ([.ref h0] : List Value).toArray below meth c H locs 0 0 (MQ below (Qv D [(h0, .inr (1, [.int places_, .int end_, .ref h_this_weights, .ref h_this_pulls, .int leastWeight_', .int leastCount_', .ref h_this_leastSets, .int tightCount_, .ref h_this_tightPairs])), (h_this_weights, .inl (cI, 1024, .inl weights_)), (h_this_leastSets, .inl (cI, 511, .inl leastSets_'))] A) ([.ref h0] : List Value).toArray s 0 0 A) (F0 m 83 ls []) := by
            intro x7 a8 H locs ls h hw hl
            unfold f_X1_findLeast_J83 at h
            refine lv_iinc (v := (x1 + (2 : Int32))) (lv' := [(1, .int (x1 + (2 : Int32))), (0, .ref h0)]) hx hb dX1_findLeast_83 hl (k := 1) rfl rfl (by decide) rfl (fun ls hl => ?_)
            refine lv_goto (tgt := 7) hx hb dX1_findLeast_86 (by decide) ?_
            exact ih7 (x1 + (2 : Int32)) x5 x7 a8 _ _ _ h hw (lv_sub hl [1, 0] rfl)
          refine lv_icmp_ne (tgt := 83) hx hb dX1_findLeast_60 (by decide) (fun c1 => ?_) (fun c1 => ?_)
          · replace h := ig c1 h
            exact J83 x6 a4 _ _ _ h hw (lv_sub hl [0, 1] rfl)
          · replace h := ip c1 h
            refine lv_aload_n hx hb dX1_findLeast_63 rfl (lv_at hl 0 rfl) ?_
            refine fg_X1_31 X hw 0 rfl rfl dX1_findLeast_64 ?_
            refine lv_aload_n hx hb dX1_findLeast_67 rfl (lv_at hl 0 rfl) ?_
            refine fg_X1_28 X hw 0 rfl rfl dX1_findLeast_68 ?_
            refine lv_iload_n hx hb dX1_findLeast_71 rfl (lv_at hl 1 rfl) ?_
            obtain ⟨b1, h⟩ := chk_inv h
            refine r_iast X hw 2 rfl b1 rfl dX1_findLeast_72 (fun H locs hw => ?_)
            have hw : Wd D A s.heap [(h0, .inr (1, [.int places_, .int end_, .ref h_this_weights, .ref h_this_pulls, .int x5, .int x6, .ref h_this_leastSets, .int tightCount_, .ref h_this_tightPairs])), (h_this_weights, .inl (cI, 1024, .inl weights_)), (h_this_leastSets, .inl (cI, 511, .inl (upd a4 (x6).toNatClampNeg x1)))] H locs := hw
            refine lv_aload_n hx hb dX1_findLeast_73 rfl (lv_at hl 0 rfl) ?_
            refine lv_dup hx hb dX1_findLeast_74 rfl ?_
            refine fg_X1_28 X hw 0 rfl rfl dX1_findLeast_75 ?_
            refine lv_iconst (v := 1) hx hb dX1_findLeast_78 (by decide) ?_
            refine lv_iadd hx hb dX1_findLeast_79 ?_
            refine fp_X1_28 X hw 0 rfl rfl dX1_findLeast_80 (fun H locs hw => ?_)
            have hw : Wd D A s.heap [(h0, .inr (1, [.int places_, .int end_, .ref h_this_weights, .ref h_this_pulls, .int x5, .int (x6 + (1 : Int32)), .ref h_this_leastSets, .int tightCount_, .ref h_this_tightPairs])), (h_this_weights, .inl (cI, 1024, .inl weights_)), (h_this_leastSets, .inl (cI, 511, .inl (upd a4 (x6).toNatClampNeg x1)))] H locs := hw
            exact J83 (x6 + (1 : Int32)) (upd a4 (x6).toNatClampNeg x1) _ _ _ h hw (lv_sub hl [0, 1] rfl)
        refine lv_if_eq (tgt := 35) hx hb dX1_findLeast_19 (by decide) (fun c1 => ?_) (fun c1 => ?_)
        · replace h := ip c1 h
          refine lv_aload_n hx hb dX1_findLeast_35 rfl (lv_at hl 0 rfl) ?_
          refine lv_aload_n hx hb dX1_findLeast_36 rfl (lv_at hl 0 rfl) ?_
          refine fg_X1_18 X hw 0 rfl rfl dX1_findLeast_37 ?_
          refine lv_iload_n hx hb dX1_findLeast_40 rfl (lv_at hl 1 rfl) ?_
          obtain ⟨b1, h⟩ := chk_inv h
          refine r_iald X hw 1 rfl b1 rfl dX1_findLeast_41 ?_
          refine fp_X1_25 X hw 0 rfl rfl dX1_findLeast_42 (fun H locs hw => ?_)
          have hw : Wd D A s.heap [(h0, .inr (1, [.int places_, .int end_, .ref h_this_weights, .ref h_this_pulls, .int (weights_ (x1).toNatClampNeg), .int x3, .ref h_this_leastSets, .int tightCount_, .ref h_this_tightPairs])), (h_this_weights, .inl (cI, 1024, .inl weights_)), (h_this_leastSets, .inl (cI, 511, .inl a4))] H locs := hw
          refine lv_aload_n hx hb dX1_findLeast_45 rfl (lv_at hl 0 rfl) ?_
          refine lv_iconst (v := 0) hx hb dX1_findLeast_46 (by decide) ?_
          refine fp_X1_28 X hw 0 rfl rfl dX1_findLeast_47 (fun H locs hw => ?_)
          have hw : Wd D A s.heap [(h0, .inr (1, [.int places_, .int end_, .ref h_this_weights, .ref h_this_pulls, .int (weights_ (x1).toNatClampNeg), .int (0 : Int32), .ref h_this_leastSets, .int tightCount_, .ref h_this_tightPairs])), (h_this_weights, .inl (cI, 1024, .inl weights_)), (h_this_leastSets, .inl (cI, 511, .inl a4))] H locs := hw
          exact J50 (weights_ (x1).toNatClampNeg) (0 : Int32) _ _ _ h hw (lv_sub hl [0, 1] rfl)
        · replace h := ig c1 h
          refine lv_aload_n hx hb dX1_findLeast_22 rfl (lv_at hl 0 rfl) ?_
          refine fg_X1_18 X hw 0 rfl rfl dX1_findLeast_23 ?_
          refine lv_iload_n hx hb dX1_findLeast_26 rfl (lv_at hl 1 rfl) ?_
          obtain ⟨b1, h⟩ := chk_inv h
          refine r_iald X hw 1 rfl b1 rfl dX1_findLeast_27 ?_
          refine lv_aload_n hx hb dX1_findLeast_28 rfl (lv_at hl 0 rfl) ?_
          refine fg_X1_25 X hw 0 rfl rfl dX1_findLeast_29 ?_
          refine lv_icmp_ge (tgt := 50) hx hb dX1_findLeast_32 (by decide) (fun c1 => ?_) (fun c1 => ?_)
          · replace h := ip c1 h
            exact J50 x2 x3 _ _ _ h hw (lv_sub hl [0, 1] rfl)
          · replace h := ig c1 h
            refine lv_aload_n hx hb dX1_findLeast_35 rfl (lv_at hl 0 rfl) ?_
            refine lv_aload_n hx hb dX1_findLeast_36 rfl (lv_at hl 0 rfl) ?_
            refine fg_X1_18 X hw 0 rfl rfl dX1_findLeast_37 ?_
            refine lv_iload_n hx hb dX1_findLeast_40 rfl (lv_at hl 1 rfl) ?_
            obtain ⟨b1, h⟩ := chk_inv h
            refine r_iald X hw 1 rfl b1 rfl dX1_findLeast_41 ?_
            refine fp_X1_25 X hw 0 rfl rfl dX1_findLeast_42 (fun H locs hw => ?_)
            have hw : Wd D A s.heap [(h0, .inr (1, [.int places_, .int end_, .ref h_this_weights, .ref h_this_pulls, .int (weights_ (x1).toNatClampNeg), .int x3, .ref h_this_leastSets, .int tightCount_, .ref h_this_tightPairs])), (h_this_weights, .inl (cI, 1024, .inl weights_)), (h_this_leastSets, .inl (cI, 511, .inl a4))] H locs := hw
            refine lv_aload_n hx hb dX1_findLeast_45 rfl (lv_at hl 0 rfl) ?_
            refine lv_iconst (v := 0) hx hb dX1_findLeast_46 (by decide) ?_
            refine fp_X1_28 X hw 0 rfl rfl dX1_findLeast_47 (fun H locs hw => ?_)
            have hw : Wd D A s.heap [(h0, .inr (1, [.int places_, .int end_, .ref h_this_weights, .ref h_this_pulls, .int (weights_ (x1).toNatClampNeg), .int (0 : Int32), .ref h_this_leastSets, .int tightCount_, .ref h_this_tightPairs])), (h_this_weights, .inl (cI, 1024, .inl weights_)), (h_this_leastSets, .inl (cI, 511, .inl a4))] H locs := hw
            exact J50 (weights_ (x1).toNatClampNeg) (0 : Int32) _ _ _ h hw (lv_sub hl [0, 1] rfl)
  exact L7 (fun x12 x13 a14 => f_X1_findLeast_E89 x12 x13 a14) (fun x12 x13 a14 H locs ls h hw hl => E89 x12 x13 a14 H locs ls h hw hl) N (2 : Int32) leastWeight_ (0 : Int32) leastSets_ _ _ _ h hw (lv_sub hl [1, 0] rfl)
def rmX1_partedByAllLeast : Room := { frames := 2, cells := 0, slots := 0, locals := 43 }
section
variable {p : Program} {l : Launch} {e : Env} {R : Room} {s : State} {m : MethodId} {args : Array Value} {below : List Frame} {meth : Method} {c : Code} {H : Heap} {locs : List Loc} {cells slots : Nat} {Q : State → Prop}
variable {cc : ByteArray} {pc nL : Nat} {ls : Array Slot} {rest : List Value} {D : va_G} {cI cC cO : ClassId} {A : Nat → Prop} {ws : va_W} {H0 : Heap}
theorem cs_X1_72 (X : Ctx p m c cc nL s args RX1 D cI cC cO) (hR : rmX5_parts.frames + 1 ≤ R.frames ∧ 8 + (3 + 11) + rmX5_parts.locals ≤ R.locals) : va_CN R s args RX1 72 yX5_parts RX5 cX5_parts 3 (some .boolean) (Wy yX5_parts cX5_parts 3 (some .boolean)) rmX5_parts 0 0 3 ∧ (Cond.static yX5_parts).before args s = true ∧ True := ⟨va_cnB 3 X.1.2.2.2.2 (gi_all tw_350) rfl rfl rfl X.2.2.1.g13 (X.1.2.2.2.2 _ tw_1) (by decide +kernel) hR, X.1.2.2.2.2 _ tw_349, trivial⟩
end
set_option maxHeartbeats 4000000 in
set_option maxRecDepth 100000 in
theorem c_X1_partedByAllLeast (l : Launch) (D : va_G) (cI cC cO : ClassId) (N : Nat) (h0 h_this_weights h_this_pulls h_this_leastSets h_this_tightPairs : Nat) (p1 p2 places_ end_ leastWeight_ leastCount_ tightCount_ : Int32) (leastSets_ : Nat → Int32) (r_ : Int32) (h : f_X1_partedByAllLeast N p1 p2 leastCount_ leastSets_ = some r_) : CI l yX1_partedByAllLeast (Wy yX1_partedByAllLeast cX1_partedByAllLeast 4 (some .boolean)) rmX1_partedByAllLeast D cI cC cO [.ref h0, .int p1, .int p2] [(h0, .inr (1, [.int places_, .int end_, .ref h_this_weights, .ref h_this_pulls, .int leastWeight_, .int leastCount_, .ref h_this_leastSets, .int tightCount_, .ref h_this_tightPairs])), (h_this_leastSets, .inl (cI, 511, .inl leastSets_))] r_ [(h0, .inr (1, [.int places_, .int end_, .ref h_this_weights, .ref h_this_pulls, .int leastWeight_, .int leastCount_, .ref h_this_leastSets, .int tightCount_, .ref h_this_tightPairs])), (h_this_leastSets, .inl (cI, 511, .inl leastSets_))] := by
  refine enter_i RX1 (by decide) rfl (Nat.le_of_ble_eq_true rfl) ?_
  intro p e s m below meth c A X hr hlk hw ls hl
  have hx := X.1.1
  have hb := X.1.2.1
  have hl : lv_has ls 4 [(0, .ref h0), (1, .int p1), (2, .int p2)] := hl
  unfold f_X1_partedByAllLeast at h
  refine lv_iconst (v := 0) hx hb dX1_partedByAllLeast_0 (by decide) ?_
  refine lv_istore_n (lv' := [(3, .int (0 : Int32)), (0, .ref h0), (1, .int p1), (2, .int p2)]) hx hb dX1_partedByAllLeast_1 rfl hl (by decide) rfl (fun ls hl => ?_)
  have E32 : ∀ (H : Heap) (locs : List Loc) (ls : Array Slot), f_X1_partedByAllLeast_E32 = some r_ → Wd D A s.heap [(h0, .inr (1, [.int places_, .int end_, .ref h_this_weights, .ref h_this_pulls, .int leastWeight_, .int leastCount_, .ref h_this_leastSets, .int tightCount_, .ref h_this_tightPairs])), (h_this_leastSets, .inl (cI, 511, .inl leastSets_))] H locs → lv_has ls 4 [] → W p l e rmX1_partedByAllLeast s m ([.ref h0, .int p1, .int p2] : List Value).toArray below meth c H locs 0 0 (MQ below (Qi D r_ [(h0, .inr (1, [.int places_, .int end_, .ref h_this_weights, .ref h_this_pulls, .int leastWeight_, .int leastCount_, .ref h_this_leastSets, .int tightCount_, .ref h_this_tightPairs])), (h_this_leastSets, .inl (cI, 511, .inl leastSets_))] A) ([.ref h0, .int p1, .int p2] : List Value).toArray s 0 0 A) (F0 m 32 ls []) := by
    intro H locs ls h hw hl
    unfold f_X1_partedByAllLeast_E32 at h
    refine lv_iconst (v := 1) hx hb dX1_partedByAllLeast_32 (by decide) ?_
    obtain rfl := oi1 h
    exact r_retz X hw hr (Or.inr rfl) hlk dX1_partedByAllLeast_33
  have L2 : ∀ (k3 : Option (Int32)), (∀ (H : Heap) (locs : List Loc) (ls : Array Slot), k3 = some r_ → Wd D A s.heap [(h0, .inr (1, [.int places_, .int end_, .ref h_this_weights, .ref h_this_pulls, .int leastWeight_, .int leastCount_, .ref h_this_leastSets, .int tightCount_, .ref h_this_tightPairs])), (h_this_leastSets, .inl (cI, 511, .inl leastSets_))] H locs → lv_has ls 4 [] → W p l e rmX1_partedByAllLeast s m ([.ref h0, .int p1, .int p2] : List Value).toArray below meth c H locs 0 0 (MQ below (Qi D r_ [(h0, .inr (1, [.int places_, .int end_, .ref h_this_weights, .ref h_this_pulls, .int leastWeight_, .int leastCount_, .ref h_this_leastSets, .int tightCount_, .ref h_this_tightPairs])), (h_this_leastSets, .inl (cI, 511, .inl leastSets_))] A) ([.ref h0, .int p1, .int p2] : List Value).toArray s 0 0 A) (F0 m 32 ls [])) → ∀ (n5 : Nat), ∀ (x1 : Int32) (H : Heap) (locs : List Loc) (ls : Array Slot), f_X1_partedByAllLeast_L2 leastCount_ leastSets_ p1 p2 k3 n5 x1 = some r_ → Wd D A s.heap [(h0, .inr (1, [.int places_, .int end_, .ref h_this_weights, .ref h_this_pulls, .int leastWeight_, .int leastCount_, .ref h_this_leastSets, .int tightCount_, .ref h_this_tightPairs])), (h_this_leastSets, .inl (cI, 511, .inl leastSets_))] H locs → lv_has ls 4 [(0, .ref h0), (1, .int p1), (2, .int p2), (3, .int x1)] → W p l e rmX1_partedByAllLeast s m ([.ref h0, .int p1, .int p2] : List Value).toArray below meth c H locs 0 0 (MQ below (Qi D r_ [(h0, .inr (1, [.int places_, .int end_, .ref h_this_weights, .ref h_this_pulls, .int leastWeight_, .int leastCount_, .ref h_this_leastSets, .int tightCount_, .ref h_this_tightPairs])), (h_this_leastSets, .inl (cI, 511, .inl leastSets_))] A) ([.ref h0, .int p1, .int p2] : List Value).toArray s 0 0 A) (F0 m 2 ls []) := by
    intro k3 hk2 n5
    induction n5 with
    | zero => intro x1 H locs ls h; cases h
    | succ n5 ih2 =>
      intro x1 H locs ls h hw hl
      rw [f_X1_partedByAllLeast_L2] at h
      refine lv_iload_n hx hb dX1_partedByAllLeast_2 rfl (lv_at hl 3 rfl) ?_
      refine lv_aload_n hx hb dX1_partedByAllLeast_3 rfl (lv_at hl 0 rfl) ?_
      refine fg_X1_28 X hw 0 rfl rfl dX1_partedByAllLeast_4 ?_
      refine lv_icmp_ge (tgt := 32) hx hb dX1_partedByAllLeast_7 (by decide) (fun c1 => ?_) (fun c1 => ?_)
      · replace h := ip c1 h
        exact hk2 _ _ _ h hw (lv_sub hl [] rfl)
      · replace h := ig c1 h
        refine lv_aload_n hx hb dX1_partedByAllLeast_10 rfl (lv_at hl 0 rfl) ?_
        refine fg_X1_31 X hw 0 rfl rfl dX1_partedByAllLeast_11 ?_
        refine lv_iload_n hx hb dX1_partedByAllLeast_14 rfl (lv_at hl 3 rfl) ?_
        obtain ⟨b1, h⟩ := chk_inv h
        refine r_iald X hw 1 rfl b1 rfl dX1_partedByAllLeast_15 ?_
        refine lv_iload_n hx hb dX1_partedByAllLeast_16 rfl (lv_at hl 1 rfl) ?_
        refine lv_iload_n hx hb dX1_partedByAllLeast_17 rfl (lv_at hl 2 rfl) ?_
        obtain ⟨r2, hc, h⟩ := bd1_inv h
        refine r_cNi X hw (As := [.int (leastSets_ (x1).toNatClampNeg), .int p1, .int p2]) (rest := []) (c_X5_parts l D cI cC cO (leastSets_ (x1).toNatClampNeg) p1 p2 r2 hc) (cs_X1_72 X (by decide)) rfl hl.1 rfl (Nat.le_of_ble_eq_true rfl) dX1_partedByAllLeast_18 ⟨Nat.zero_le _, Nat.zero_le _⟩ (fun H locs hw => ?_)
        refine lv_if_ne (tgt := 26) hx hb dX1_partedByAllLeast_21 (by decide) (fun c1 => ?_) (fun c1 => ?_)
        · replace h := ig c1 h
          refine lv_iinc (v := (x1 + (1 : Int32))) (lv' := [(3, .int (x1 + (1 : Int32))), (0, .ref h0), (1, .int p1), (2, .int p2)]) hx hb dX1_partedByAllLeast_26 hl (k := 3) rfl rfl (by decide) rfl (fun ls hl => ?_)
          refine lv_goto (tgt := 2) hx hb dX1_partedByAllLeast_29 (by decide) ?_
          exact ih2 (x1 + (1 : Int32)) _ _ _ h hw (lv_sub hl [1, 2, 3, 0] rfl)
        · replace h := ip c1 h
          refine lv_iconst (v := 0) hx hb dX1_partedByAllLeast_24 (by decide) ?_
          obtain rfl := oi1 h
          exact r_retz X hw hr (Or.inl rfl) hlk dX1_partedByAllLeast_25
  exact L2 (f_X1_partedByAllLeast_E32) (fun H locs ls h hw hl => E32 H locs ls h hw hl) N (0 : Int32) _ _ _ h hw (lv_sub hl [1, 2, 3, 0] rfl)
def rmX1_findTight : Room := { frames := 3, cells := 0, slots := 0, locals := 66 }
section
variable {p : Program} {l : Launch} {e : Env} {R : Room} {s : State} {m : MethodId} {args : Array Value} {below : List Frame} {meth : Method} {c : Code} {H : Heap} {locs : List Loc} {cells slots : Nat} {Q : State → Prop}
variable {cc : ByteArray} {pc nL : Nat} {ls : Array Slot} {rest : List Value} {D : va_G} {cI cC cO : ClassId} {A : Nat → Prop} {ws : va_W} {H0 : Heap}
theorem cs_X1_65 (X : Ctx p m c cc nL s args RX1 D cI cC cO) (hR : rmX1_partedByAllLeast.frames + 1 ≤ R.frames ∧ 8 + (4 + 11) + rmX1_partedByAllLeast.locals ≤ R.locals) : CallW R s args RX1 RX1 65 yX1_partedByAllLeast cX1_partedByAllLeast 4 (some .boolean) (Wy yX1_partedByAllLeast cX1_partedByAllLeast 4 (some .boolean)) rmX1_partedByAllLeast 0 0 2 := cwV 2 X.1.2.2.2.2 (gi_V tw_428 tw_430 sw_yX1_partedByAllLeast tw_6 tw_431) rfl rfl rfl (by decide +kernel) hR
theorem cs_X1_69 (X : Ctx p m c cc nL s args RX1 D cI cC cO) (hR : rmX5_pairNumber.frames + 1 ≤ R.frames ∧ 8 + (2 + 11) + rmX5_pairNumber.locals ≤ R.locals) : va_CN R s args RX1 69 yX5_pairNumber RX5 cX5_pairNumber 2 (some .int) (Wy yX5_pairNumber cX5_pairNumber 2 (some .int)) rmX5_pairNumber 0 0 2 ∧ (Cond.static yX5_pairNumber).before args s = true ∧ True := ⟨va_cnB 2 X.1.2.2.2.2 (gi_all tw_354) rfl rfl rfl X.2.2.1.g14 (X.1.2.2.2.2 _ tw_1) (by decide +kernel) hR, X.1.2.2.2.2 _ tw_353, trivial⟩
end
set_option maxHeartbeats 4000000 in
set_option maxRecDepth 100000 in
theorem c_X1_findTight (l : Launch) (D : va_G) (cI cC cO : ClassId) (N : Nat) (h0 h_p1 h_this_weights h_this_pulls h_this_leastSets h_this_tightPairs h_p1_weights : Nat) (places_ end_ leastWeight_ leastCount_ tightCount_ : Int32) (leastSets_ tightPairs_ : Nat → Int32) (p1_places_ p1_start_ p1_fairPlaces_ : Int32) (p1_weights_ : Nat → Int32) (tightCount_' : Int32) (tightPairs_' : Nat → Int32) (h : f_X1_findTight N places_ leastCount_ leastSets_ tightPairs_ p1_places_ p1_weights_ = some (tightCount_', tightPairs_')) : CV l yX1_findTight (Wy yX1_findTight cX1_findTight 4 none) rmX1_findTight D cI cC cO [.ref h0, .ref h_p1] [(h0, .inr (1, [.int places_, .int end_, .ref h_this_weights, .ref h_this_pulls, .int leastWeight_, .int leastCount_, .ref h_this_leastSets, .int tightCount_, .ref h_this_tightPairs])), (h_this_leastSets, .inl (cI, 511, .inl leastSets_)), (h_this_tightPairs, .inl (cI, 45, .inl tightPairs_)), (h_p1, .inr (4, [.int p1_places_, .int p1_start_, .int p1_fairPlaces_, .ref h_p1_weights])), (h_p1_weights, .inl (cI, 100, .inl p1_weights_))] [(h0, .inr (1, [.int places_, .int end_, .ref h_this_weights, .ref h_this_pulls, .int leastWeight_, .int leastCount_, .ref h_this_leastSets, .int tightCount_', .ref h_this_tightPairs])), (h_this_leastSets, .inl (cI, 511, .inl leastSets_)), (h_this_tightPairs, .inl (cI, 45, .inl tightPairs_')), (h_p1, .inr (4, [.int p1_places_, .int p1_start_, .int p1_fairPlaces_, .ref h_p1_weights])), (h_p1_weights, .inl (cI, 100, .inl p1_weights_))] := by
  refine enter_v RX1 (by decide) rfl (Nat.le_of_ble_eq_true rfl) ?_
  intro p e s m below meth c A X hr hlk hw ls hl
  have hx := X.1.1
  have hb := X.1.2.1
  have hl : lv_has ls 4 [(0, .ref h0), (1, .ref h_p1)] := hl
  unfold f_X1_findTight at h
  refine lv_aload_n hx hb dX1_findTight_0 rfl (lv_at hl 0 rfl) ?_
  refine lv_iconst (v := 0) hx hb dX1_findTight_1 (by decide) ?_
  refine fp_X1_34 X hw 0 rfl rfl dX1_findTight_2 (fun H locs hw => ?_)
  have hw : Wd D A s.heap [(h0, .inr (1, [.int places_, .int end_, .ref h_this_weights, .ref h_this_pulls, .int leastWeight_, .int leastCount_, .ref h_this_leastSets, .int (0 : Int32), .ref h_this_tightPairs])), (h_this_leastSets, .inl (cI, 511, .inl leastSets_)), (h_this_tightPairs, .inl (cI, 45, .inl tightPairs_)), (h_p1, .inr (4, [.int p1_places_, .int p1_start_, .int p1_fairPlaces_, .ref h_p1_weights])), (h_p1_weights, .inl (cI, 100, .inl p1_weights_))] H locs := hw
  refine lv_iconst (v := 0) hx hb dX1_findTight_5 (by decide) ?_
  refine lv_istore_n (lv' := [(2, .int (0 : Int32)), (0, .ref h0), (1, .ref h_p1)]) hx hb dX1_findTight_6 rfl hl (by decide) rfl (fun ls hl => ?_)
  have E81 : ∀ (x20 : Int32) (a21 : Nat → Int32) (H : Heap) (locs : List Loc) (ls : Array Slot), f_X1_findTight_E81 x20 a21 = some (tightCount_', tightPairs_') → Wd D A s.heap [(h0, .inr (1, [.int places_, .int end_, .ref h_this_weights, .ref h_this_pulls, .int leastWeight_, .int leastCount_, .ref h_this_leastSets, .int x20, .ref h_this_tightPairs])), (h_this_leastSets, .inl (cI, 511, .inl leastSets_)), (h_this_tightPairs, .inl (cI, 45, .inl a21)), (h_p1, .inr (4, [.int p1_places_, .int p1_start_, .int p1_fairPlaces_, .ref h_p1_weights])), (h_p1_weights, .inl (cI, 100, .inl p1_weights_))] H locs → lv_has ls 4 [] → W p l e rmX1_findTight s m ([.ref h0, .ref h_p1] : List Value).toArray below meth c H locs 0 0 (MQ below (Qv D [(h0, .inr (1, [.int places_, .int end_, .ref h_this_weights, .ref h_this_pulls, .int leastWeight_, .int leastCount_, .ref h_this_leastSets, .int tightCount_', .ref h_this_tightPairs])), (h_this_leastSets, .inl (cI, 511, .inl leastSets_)), (h_this_tightPairs, .inl (cI, 45, .inl tightPairs_')), (h_p1, .inr (4, [.int p1_places_, .int p1_start_, .int p1_fairPlaces_, .ref h_p1_weights])), (h_p1_weights, .inl (cI, 100, .inl p1_weights_))] A) ([.ref h0, .ref h_p1] : List Value).toArray s 0 0 A) (F0 m 81 ls []) := by
    intro x20 a21 H locs ls h hw hl
    unfold f_X1_findTight_E81 at h
    obtain ⟨rfl, rfl⟩ := oi2 h
    exact r_retv X hw hr hlk dX1_findTight_81
  have L7 : ∀ (k17 : Int32 → (Nat → Int32) → Option (Int32 × (Nat → Int32))), (∀ (x20 : Int32) (a21 : Nat → Int32) (H : Heap) (locs : List Loc) (ls : Array Slot), k17 x20 a21 = some (tightCount_', tightPairs_') → Wd D A s.heap [(h0, .inr (1, [.int places_, .int end_, .ref h_this_weights, .ref h_this_pulls, .int leastWeight_, .int leastCount_, .ref h_this_leastSets, .int x20, .ref h_this_tightPairs])), (h_this_leastSets, .inl (cI, 511, .inl leastSets_)), (h_this_tightPairs, .inl (cI, 45, .inl a21)), (h_p1, .inr (4, [.int p1_places_, .int p1_start_, .int p1_fairPlaces_, .ref h_p1_weights])), (h_p1_weights, .inl (cI, 100, .inl p1_weights_))] H locs → lv_has ls 4 [] → W p l e rmX1_findTight s m ([.ref h0, .ref h_p1] : List Value).toArray below meth c H locs 0 0 (MQ below (Qv D [(h0, .inr (1, [.int places_, .int end_, .ref h_this_weights, .ref h_this_pulls, .int leastWeight_, .int leastCount_, .ref h_this_leastSets, .int tightCount_', .ref h_this_tightPairs])), (h_this_leastSets, .inl (cI, 511, .inl leastSets_)), (h_this_tightPairs, .inl (cI, 45, .inl tightPairs_')), (h_p1, .inr (4, [.int p1_places_, .int p1_start_, .int p1_fairPlaces_, .ref h_p1_weights])), (h_p1_weights, .inl (cI, 100, .inl p1_weights_))] A) ([.ref h0, .ref h_p1] : List Value).toArray s 0 0 A) (F0 m 81 ls [])) → ∀ (n19 : Nat), ∀ (x1 x2 : Int32) (a3 : Nat → Int32) (H : Heap) (locs : List Loc) (ls : Array Slot), f_X1_findTight_L7 N places_ p1_places_ p1_weights_ leastCount_ leastSets_ k17 n19 x1 x2 a3 = some (tightCount_', tightPairs_') → Wd D A s.heap [(h0, .inr (1, [.int places_, .int end_, .ref h_this_weights, .ref h_this_pulls, .int leastWeight_, .int leastCount_, .ref h_this_leastSets, .int x2, .ref h_this_tightPairs])), (h_this_leastSets, .inl (cI, 511, .inl leastSets_)), (h_this_tightPairs, .inl (cI, 45, .inl a3)), (h_p1, .inr (4, [.int p1_places_, .int p1_start_, .int p1_fairPlaces_, .ref h_p1_weights])), (h_p1_weights, .inl (cI, 100, .inl p1_weights_))] H locs → lv_has ls 4 [(0, .ref h0), (1, .ref h_p1), (2, .int x1)] → W p l e rmX1_findTight s m ([.ref h0, .ref h_p1] : List Value).toArray below meth c H locs 0 0 (MQ below (Qv D [(h0, .inr (1, [.int places_, .int end_, .ref h_this_weights, .ref h_this_pulls, .int leastWeight_, .int leastCount_, .ref h_this_leastSets, .int tightCount_', .ref h_this_tightPairs])), (h_this_leastSets, .inl (cI, 511, .inl leastSets_)), (h_this_tightPairs, .inl (cI, 45, .inl tightPairs_')), (h_p1, .inr (4, [.int p1_places_, .int p1_start_, .int p1_fairPlaces_, .ref h_p1_weights])), (h_p1_weights, .inl (cI, 100, .inl p1_weights_))] A) ([.ref h0, .ref h_p1] : List Value).toArray s 0 0 A) (F0 m 7 ls []) := by
    intro k17 hk7 n19
    induction n19 with
    | zero => intro x1 x2 a3 H locs ls h; cases h
    | succ n19 ih7 =>
      intro x1 x2 a3 H locs ls h hw hl
      rw [f_X1_findTight_L7] at h
      refine lv_iload_n hx hb dX1_findTight_7 rfl (lv_at hl 2 rfl) ?_
      refine lv_aload_n hx hb dX1_findTight_8 rfl (lv_at hl 0 rfl) ?_
      refine fg_X1_9 X hw 0 rfl rfl dX1_findTight_9 ?_
      refine lv_icmp_ge (tgt := 81) hx hb dX1_findTight_12 (by decide) (fun c1 => ?_) (fun c1 => ?_)
      · replace h := ip c1 h
        exact hk7 x2 a3 _ _ _ h hw (lv_sub hl [] rfl)
      · replace h := ig c1 h
        refine lv_iload_n hx hb dX1_findTight_15 rfl (lv_at hl 2 rfl) ?_
        refine lv_iconst (v := 1) hx hb dX1_findTight_16 (by decide) ?_
        refine lv_iadd hx hb dX1_findTight_17 ?_
        refine lv_istore_n (lv' := [(3, .int (x1 + (1 : Int32))), (0, .ref h0), (1, .ref h_p1), (2, .int x1)]) hx hb dX1_findTight_18 rfl hl (by decide) rfl (fun ls hl => ?_)
        have E75 : ∀ (x15 : Int32) (a16 : Nat → Int32) (H : Heap) (locs : List Loc) (ls : Array Slot), f_X1_findTight_E75 (f_X1_findTight_L7 N places_ p1_places_ p1_weights_ leastCount_ leastSets_ k17 n19) x1 x15 a16 = some (tightCount_', tightPairs_') → Wd D A s.heap [(h0, .inr (1, [.int places_, .int end_, .ref h_this_weights, .ref h_this_pulls, .int leastWeight_, .int leastCount_, .ref h_this_leastSets, .int x15, .ref h_this_tightPairs])), (h_this_leastSets, .inl (cI, 511, .inl leastSets_)), (h_this_tightPairs, .inl (cI, 45, .inl a16)), (h_p1, .inr (4, [.int p1_places_, .int p1_start_, .int p1_fairPlaces_, .ref h_p1_weights])), (h_p1_weights, .inl (cI, 100, .inl p1_weights_))] H locs → lv_has ls 4 [(0, .ref h0), (1, .ref h_p1), (2, .int x1)] → W p l e rmX1_findTight s m ([.ref h0, .ref h_p1] : List Value).toArray below meth c H locs 0 0 (MQ below (Qv D [(h0, .inr (1, [.int places_, .int end_, .ref h_this_weights, .ref h_this_pulls, .int leastWeight_, .int leastCount_, .ref h_this_leastSets, .int tightCount_', .ref h_this_tightPairs])), (h_this_leastSets, .inl (cI, 511, .inl leastSets_)), (h_this_tightPairs, .inl (cI, 45, .inl tightPairs_')), (h_p1, .inr (4, [.int p1_places_, .int p1_start_, .int p1_fairPlaces_, .ref h_p1_weights])), (h_p1_weights, .inl (cI, 100, .inl p1_weights_))] A) ([.ref h0, .ref h_p1] : List Value).toArray s 0 0 A) (F0 m 75 ls []) := by
          intro x15 a16 H locs ls h hw hl
          unfold f_X1_findTight_E75 at h
          refine lv_iinc (v := (x1 + (1 : Int32))) (lv' := [(2, .int (x1 + (1 : Int32))), (0, .ref h0), (1, .ref h_p1)]) hx hb dX1_findTight_75 hl (k := 2) rfl rfl (by decide) rfl (fun ls hl => ?_)
          refine lv_goto (tgt := 7) hx hb dX1_findTight_78 (by decide) ?_
          exact ih7 (x1 + (1 : Int32)) x15 a16 _ _ _ h hw (lv_sub hl [1, 2, 0] rfl)
        have L19 : ∀ (k12 : Int32 → (Nat → Int32) → Option (Int32 × (Nat → Int32))), (∀ (x15 : Int32) (a16 : Nat → Int32) (H : Heap) (locs : List Loc) (ls : Array Slot), k12 x15 a16 = some (tightCount_', tightPairs_') → Wd D A s.heap [(h0, .inr (1, [.int places_, .int end_, .ref h_this_weights, .ref h_this_pulls, .int leastWeight_, .int leastCount_, .ref h_this_leastSets, .int x15, .ref h_this_tightPairs])), (h_this_leastSets, .inl (cI, 511, .inl leastSets_)), (h_this_tightPairs, .inl (cI, 45, .inl a16)), (h_p1, .inr (4, [.int p1_places_, .int p1_start_, .int p1_fairPlaces_, .ref h_p1_weights])), (h_p1_weights, .inl (cI, 100, .inl p1_weights_))] H locs → lv_has ls 4 [(0, .ref h0), (1, .ref h_p1), (2, .int x1)] → W p l e rmX1_findTight s m ([.ref h0, .ref h_p1] : List Value).toArray below meth c H locs 0 0 (MQ below (Qv D [(h0, .inr (1, [.int places_, .int end_, .ref h_this_weights, .ref h_this_pulls, .int leastWeight_, .int leastCount_, .ref h_this_leastSets, .int tightCount_', .ref h_this_tightPairs])), (h_this_leastSets, .inl (cI, 511, .inl leastSets_)), (h_this_tightPairs, .inl (cI, 45, .inl tightPairs_')), (h_p1, .inr (4, [.int p1_places_, .int p1_start_, .int p1_fairPlaces_, .ref h_p1_weights])), (h_p1_weights, .inl (cI, 100, .inl p1_weights_))] A) ([.ref h0, .ref h_p1] : List Value).toArray s 0 0 A) (F0 m 75 ls [])) → ∀ (n14 : Nat), ∀ (x4 x5 : Int32) (a6 : Nat → Int32) (H : Heap) (locs : List Loc) (ls : Array Slot), f_X1_findTight_L19 N places_ x1 p1_places_ p1_weights_ leastCount_ leastSets_ k12 n14 x4 x5 a6 = some (tightCount_', tightPairs_') → Wd D A s.heap [(h0, .inr (1, [.int places_, .int end_, .ref h_this_weights, .ref h_this_pulls, .int leastWeight_, .int leastCount_, .ref h_this_leastSets, .int x5, .ref h_this_tightPairs])), (h_this_leastSets, .inl (cI, 511, .inl leastSets_)), (h_this_tightPairs, .inl (cI, 45, .inl a6)), (h_p1, .inr (4, [.int p1_places_, .int p1_start_, .int p1_fairPlaces_, .ref h_p1_weights])), (h_p1_weights, .inl (cI, 100, .inl p1_weights_))] H locs → lv_has ls 4 [(0, .ref h0), (1, .ref h_p1), (2, .int x1), (3, .int x4)] → W p l e rmX1_findTight s m ([.ref h0, .ref h_p1] : List Value).toArray below meth c H locs 0 0 (MQ below (Qv D [(h0, .inr (1, [.int places_, .int end_, .ref h_this_weights, .ref h_this_pulls, .int leastWeight_, .int leastCount_, .ref h_this_leastSets, .int tightCount_', .ref h_this_tightPairs])), (h_this_leastSets, .inl (cI, 511, .inl leastSets_)), (h_this_tightPairs, .inl (cI, 45, .inl tightPairs_')), (h_p1, .inr (4, [.int p1_places_, .int p1_start_, .int p1_fairPlaces_, .ref h_p1_weights])), (h_p1_weights, .inl (cI, 100, .inl p1_weights_))] A) ([.ref h0, .ref h_p1] : List Value).toArray s 0 0 A) (F0 m 19 ls []) := by
          intro k12 hk19 n14
          induction n14 with
          | zero => intro x4 x5 a6 H locs ls h; cases h
          | succ n14 ih19 =>
            intro x4 x5 a6 H locs ls h hw hl
            rw [f_X1_findTight_L19] at h
            refine lv_iload_n hx hb dX1_findTight_19 rfl (lv_at hl 3 rfl) ?_
            refine lv_aload_n hx hb dX1_findTight_20 rfl (lv_at hl 0 rfl) ?_
            refine fg_X1_9 X hw 0 rfl rfl dX1_findTight_21 ?_
            refine lv_icmp_ge (tgt := 75) hx hb dX1_findTight_24 (by decide) (fun c1 => ?_) (fun c1 => ?_)
            · replace h := ip c1 h
              exact hk19 x5 a6 _ _ _ h hw (lv_sub hl [0, 1, 2] rfl)
            · replace h := ig c1 h
              refine lv_aload_n hx hb dX1_findTight_27 rfl (lv_at hl 1 rfl) ?_
              refine lv_iload_n hx hb dX1_findTight_28 rfl (lv_at hl 2 rfl) ?_
              refine lv_iload_n hx hb dX1_findTight_29 rfl (lv_at hl 3 rfl) ?_
              obtain ⟨r7, hc, h⟩ := bd1_inv h
              refine r_cVi X hw (As := [.int x1, .int x4]) (rest := []) (wr := [(h0, .inr (1, [.int places_, .int end_, .ref h_this_weights, .ref h_this_pulls, .int leastWeight_, .int leastCount_, .ref h_this_leastSets, .int x5, .ref h_this_tightPairs])), (h_this_leastSets, .inl (cI, 511, .inl leastSets_)), (h_this_tightPairs, .inl (cI, 45, .inl a6))]) (ws' := [(h0, .inr (1, [.int places_, .int end_, .ref h_this_weights, .ref h_this_pulls, .int leastWeight_, .int leastCount_, .ref h_this_leastSets, .int x5, .ref h_this_tightPairs])), (h_this_leastSets, .inl (cI, 511, .inl leastSets_)), (h_this_tightPairs, .inl (cI, 45, .inl a6)), (h_p1, .inr (4, [.int p1_places_, .int p1_start_, .int p1_fairPlaces_, .ref h_p1_weights])), (h_p1_weights, .inl (cI, 100, .inl p1_weights_))]) (c_X4_tieOf l D cI cC cO h_p1 h_p1_weights x1 x4 p1_places_ p1_start_ p1_fairPlaces_ p1_weights_ r7 hc) (cs_X1_57 X (by decide)) [3, 4] [0, 1, 2] [0, 1, 2, 3, 4] rfl rfl rfl rfl (by decide) rfl rfl 3 rfl rfl rfl rfl hl.1 rfl (Nat.le_of_ble_eq_true rfl) dX1_findTight_30 ⟨Nat.zero_le _, Nat.zero_le _⟩ (fun H locs hw => ?_)
              have J69 : ∀ (x10 : Int32) (a11 : Nat → Int32) (H : Heap) (locs : List Loc) (ls : Array Slot), f_X1_findTight_J69 (f_X1_findTight_L19 N places_ x1 p1_places_ p1_weights_ leastCount_ leastSets_ k12 n14) x4 x10 a11 = some (tightCount_', tightPairs_') → Wd D A s.heap [(h0, .inr (1, [.int places_, .int end_, .ref h_this_weights, .ref h_this_pulls, .int leastWeight_, .int leastCount_, .ref h_this_leastSets, .int x10, .ref h_this_tightPairs])), (h_this_leastSets, .inl (cI, 511, .inl leastSets_)), (h_this_tightPairs, .inl (cI, 45, .inl a11)), (h_p1, .inr (4, [.int p1_places_, .int p1_start_, .int p1_fairPlaces_, .ref h_p1_weights])), (h_p1_weights, .inl (cI, 100, .inl p1_weights_))] H locs → lv_has ls 4 [(0, .ref h0), (1, .ref h_p1), (2, .int x1), (3, .int x4)] → W p l e rmX1_findTight s m ([.ref h0, .ref h_p1] : List Value).toArray below meth c H locs 0 0 (MQ below (Qv D [(h0, .inr (1, [.int places_, .int end_, .ref h_this_weights, .ref h_this_pulls, .int leastWeight_, .int leastCount_, .ref h_this_leastSets, .int tightCount_', .ref h_this_tightPairs])), (h_this_leastSets, .inl (cI, 511, .inl leastSets_)), (h_this_tightPairs, .inl (cI, 45, .inl tightPairs_')), (h_p1, .inr (4, [.int p1_places_, .int p1_start_, .int p1_fairPlaces_, .ref h_p1_weights])), (h_p1_weights, .inl (cI, 100, .inl p1_weights_))] A) ([.ref h0, .ref h_p1] : List Value).toArray s 0 0 A) (F0 m 69 ls []) := by
                intro x10 a11 H locs ls h hw hl
                unfold f_X1_findTight_J69 at h
                refine lv_iinc (v := (x4 + (1 : Int32))) (lv' := [(3, .int (x4 + (1 : Int32))), (0, .ref h0), (1, .ref h_p1), (2, .int x1)]) hx hb dX1_findTight_69 hl (k := 3) rfl rfl (by decide) rfl (fun ls hl => ?_)
                refine lv_goto (tgt := 19) hx hb dX1_findTight_72 (by decide) ?_
                exact ih19 (x4 + (1 : Int32)) x10 a11 _ _ _ h hw (lv_sub hl [1, 2, 3, 0] rfl)
              refine lv_if_le (tgt := 69) hx hb dX1_findTight_33 (by decide) (fun c1 => ?_) (fun c1 => ?_)
              · replace h := ip c1 h
                exact J69 x5 a6 _ _ _ h hw (lv_sub hl [0, 1, 2, 3] rfl)
              · replace h := ig c1 h
                refine lv_aload_n hx hb dX1_findTight_36 rfl (lv_at hl 0 rfl) ?_
                refine lv_iload_n hx hb dX1_findTight_37 rfl (lv_at hl 2 rfl) ?_
                refine lv_iload_n hx hb dX1_findTight_38 rfl (lv_at hl 3 rfl) ?_
                obtain ⟨r8, hc, h⟩ := bd1_inv h
                refine r_cVi X hw (As := [.int x1, .int x4]) (rest := []) (wr := [(h_this_tightPairs, .inl (cI, 45, .inl a6)), (h_p1, .inr (4, [.int p1_places_, .int p1_start_, .int p1_fairPlaces_, .ref h_p1_weights])), (h_p1_weights, .inl (cI, 100, .inl p1_weights_))]) (ws' := [(h0, .inr (1, [.int places_, .int end_, .ref h_this_weights, .ref h_this_pulls, .int leastWeight_, .int leastCount_, .ref h_this_leastSets, .int x5, .ref h_this_tightPairs])), (h_this_leastSets, .inl (cI, 511, .inl leastSets_)), (h_this_tightPairs, .inl (cI, 45, .inl a6)), (h_p1, .inr (4, [.int p1_places_, .int p1_start_, .int p1_fairPlaces_, .ref h_p1_weights])), (h_p1_weights, .inl (cI, 100, .inl p1_weights_))]) (c_X1_partedByAllLeast l D cI cC cO N h0 h_this_weights h_this_pulls h_this_leastSets h_this_tightPairs x1 x4 places_ end_ leastWeight_ leastCount_ x5 leastSets_ r8 hc) (cs_X1_65 X (by decide)) [0, 1] [2, 3, 4] [3, 4, 0, 1, 2] rfl rfl rfl rfl (by decide) rfl rfl 0 rfl rfl rfl rfl hl.1 rfl (Nat.le_of_ble_eq_true rfl) dX1_findTight_39 ⟨Nat.zero_le _, Nat.zero_le _⟩ (fun H locs hw => ?_)
                refine lv_if_eq (tgt := 69) hx hb dX1_findTight_42 (by decide) (fun c1 => ?_) (fun c1 => ?_)
                · replace h := ip c1 h
                  exact J69 x5 a6 _ _ _ h hw (lv_sub hl [0, 1, 2, 3] rfl)
                · replace h := ig c1 h
                  refine lv_aload_n hx hb dX1_findTight_45 rfl (lv_at hl 0 rfl) ?_
                  refine fg_X1_37 X hw 0 rfl rfl dX1_findTight_46 ?_
                  refine lv_aload_n hx hb dX1_findTight_49 rfl (lv_at hl 0 rfl) ?_
                  refine fg_X1_34 X hw 0 rfl rfl dX1_findTight_50 ?_
                  refine lv_iload_n hx hb dX1_findTight_53 rfl (lv_at hl 2 rfl) ?_
                  refine lv_iload_n hx hb dX1_findTight_54 rfl (lv_at hl 3 rfl) ?_
                  obtain ⟨r9, hc, h⟩ := bd1_inv h
                  refine r_cNi X hw (As := [.int x1, .int x4]) (rest := [.int x5, .ref h_this_tightPairs]) (c_X5_pairNumber l D cI cC cO x1 x4 r9 hc) (cs_X1_69 X (by decide)) rfl hl.1 rfl (Nat.le_of_ble_eq_true rfl) dX1_findTight_55 ⟨Nat.zero_le _, Nat.zero_le _⟩ (fun H locs hw => ?_)
                  obtain ⟨b1, h⟩ := chk_inv h
                  refine r_iast X hw 2 rfl b1 rfl dX1_findTight_58 (fun H locs hw => ?_)
                  have hw : Wd D A s.heap [(h0, .inr (1, [.int places_, .int end_, .ref h_this_weights, .ref h_this_pulls, .int leastWeight_, .int leastCount_, .ref h_this_leastSets, .int x5, .ref h_this_tightPairs])), (h_this_leastSets, .inl (cI, 511, .inl leastSets_)), (h_this_tightPairs, .inl (cI, 45, .inl (upd a6 (x5).toNatClampNeg r9))), (h_p1, .inr (4, [.int p1_places_, .int p1_start_, .int p1_fairPlaces_, .ref h_p1_weights])), (h_p1_weights, .inl (cI, 100, .inl p1_weights_))] H locs := hw
                  refine lv_aload_n hx hb dX1_findTight_59 rfl (lv_at hl 0 rfl) ?_
                  refine lv_dup hx hb dX1_findTight_60 rfl ?_
                  refine fg_X1_34 X hw 0 rfl rfl dX1_findTight_61 ?_
                  refine lv_iconst (v := 1) hx hb dX1_findTight_64 (by decide) ?_
                  refine lv_iadd hx hb dX1_findTight_65 ?_
                  refine fp_X1_34 X hw 0 rfl rfl dX1_findTight_66 (fun H locs hw => ?_)
                  have hw : Wd D A s.heap [(h0, .inr (1, [.int places_, .int end_, .ref h_this_weights, .ref h_this_pulls, .int leastWeight_, .int leastCount_, .ref h_this_leastSets, .int (x5 + (1 : Int32)), .ref h_this_tightPairs])), (h_this_leastSets, .inl (cI, 511, .inl leastSets_)), (h_this_tightPairs, .inl (cI, 45, .inl (upd a6 (x5).toNatClampNeg r9))), (h_p1, .inr (4, [.int p1_places_, .int p1_start_, .int p1_fairPlaces_, .ref h_p1_weights])), (h_p1_weights, .inl (cI, 100, .inl p1_weights_))] H locs := hw
                  exact J69 (x5 + (1 : Int32)) (upd a6 (x5).toNatClampNeg r9) _ _ _ h hw (lv_sub hl [0, 1, 2, 3] rfl)
        exact L19 (fun x15 a16 => f_X1_findTight_E75 (f_X1_findTight_L7 N places_ p1_places_ p1_weights_ leastCount_ leastSets_ k17 n19) x1 x15 a16) (fun x15 a16 H locs ls h hw hl => E75 x15 a16 H locs ls h hw hl) N (x1 + (1 : Int32)) x2 a3 _ _ _ h hw (lv_sub hl [1, 2, 3, 0] rfl)
  exact L7 (fun x20 a21 => f_X1_findTight_E81 x20 a21) (fun x20 a21 H locs ls h hw hl => E81 x20 a21 H locs ls h hw hl) N (0 : Int32) (0 : Int32) tightPairs_ _ _ _ h hw (lv_sub hl [1, 2, 0] rfl)
def rmX1_measure : Room := { frames := 4, cells := 0, slots := 0, locals := 90 }
section
variable {p : Program} {l : Launch} {e : Env} {R : Room} {s : State} {m : MethodId} {args : Array Value} {below : List Frame} {meth : Method} {c : Code} {H : Heap} {locs : List Loc} {cells slots : Nat} {Q : State → Prop}
variable {cc : ByteArray} {pc nL : Nat} {ls : Array Slot} {rest : List Value} {D : va_G} {cI cC cO : ClassId} {A : Nat → Prop} {ws : va_W} {H0 : Heap}
theorem cs_X1_43 (X : Ctx p m c cc nL s args RX1 D cI cC cO) (hR : rmX1_measurePulls.frames + 1 ≤ R.frames ∧ 8 + (6 + 11) + rmX1_measurePulls.locals ≤ R.locals) : CallW R s args RX1 RX1 43 yX1_measurePulls cX1_measurePulls 6 none (Wy yX1_measurePulls cX1_measurePulls 6 none) rmX1_measurePulls 0 0 2 := cwV 2 X.1.2.2.2.2 (gi_V tw_410 tw_412 sw_yX1_measurePulls tw_6 tw_413) rfl rfl rfl (by decide +kernel) hR
theorem cs_X1_47 (X : Ctx p m c cc nL s args RX1 D cI cC cO) (hR : rmX1_measureWith.frames + 1 ≤ R.frames ∧ 8 + (5 + 11) + rmX1_measureWith.locals ≤ R.locals) : CallW R s args RX1 RX1 47 yX1_measureWith cX1_measureWith 5 none (Wy yX1_measureWith cX1_measureWith 5 none) rmX1_measureWith 0 0 2 := cwV 2 X.1.2.2.2.2 (gi_V tw_415 tw_417 sw_yX1_measureWith tw_6 tw_418) rfl rfl rfl (by decide +kernel) hR
theorem cs_X1_50 (X : Ctx p m c cc nL s args RX1 D cI cC cO) (hR : rmX1_findLeast.frames + 1 ≤ R.frames ∧ 8 + (2 + 11) + rmX1_findLeast.locals ≤ R.locals) : CallW R s args RX1 RX1 50 yX1_findLeast cX1_findLeast 2 none (Wy yX1_findLeast cX1_findLeast 2 none) rmX1_findLeast 0 0 0 := cwV 0 X.1.2.2.2.2 (gi_V tw_420 tw_422 sw_yX1_findLeast tw_6 tw_423) rfl rfl rfl (by decide +kernel) hR
theorem cs_X1_53 (X : Ctx p m c cc nL s args RX1 D cI cC cO) (hR : rmX1_findTight.frames + 1 ≤ R.frames ∧ 8 + (4 + 11) + rmX1_findTight.locals ≤ R.locals) : CallW R s args RX1 RX1 53 yX1_findTight cX1_findTight 4 none (Wy yX1_findTight cX1_findTight 4 none) rmX1_findTight 0 0 1 := cwV 1 X.1.2.2.2.2 (gi_V tw_424 tw_426 sw_yX1_findTight tw_6 tw_427) rfl rfl rfl (by decide +kernel) hR
end
set_option maxHeartbeats 4000000 in
set_option maxRecDepth 100000 in
theorem c_X1_measure (l : Launch) (D : va_G) (cI cC cO : ClassId) (N : Nat) (h0 h_p1 h_this_weights h_this_pulls h_this_leastSets h_this_tightPairs h_p1_weights : Nat) (places_ end_ leastWeight_ leastCount_ tightCount_ : Int32) (weights_ pulls_ leastSets_ tightPairs_ : Nat → Int32) (p1_places_ p1_start_ p1_fairPlaces_ : Int32) (p1_weights_ : Nat → Int32) (places_' : Int32) (end_' : Int32) (leastWeight_' : Int32) (leastCount_' : Int32) (tightCount_' : Int32) (weights_' : Nat → Int32) (pulls_' : Nat → Int32) (leastSets_' : Nat → Int32) (tightPairs_' : Nat → Int32) (h : f_X1_measure N leastWeight_ weights_ pulls_ leastSets_ tightPairs_ p1_places_ p1_weights_ = some (places_', end_', leastWeight_', leastCount_', tightCount_', weights_', pulls_', leastSets_', tightPairs_')) : CV l yX1_measure (Wy yX1_measure cX1_measure 3 none) rmX1_measure D cI cC cO [.ref h0, .ref h_p1] [(h0, .inr (1, [.int places_, .int end_, .ref h_this_weights, .ref h_this_pulls, .int leastWeight_, .int leastCount_, .ref h_this_leastSets, .int tightCount_, .ref h_this_tightPairs])), (h_this_weights, .inl (cI, 1024, .inl weights_)), (h_this_pulls, .inl (cI, 512, .inl pulls_)), (h_this_leastSets, .inl (cI, 511, .inl leastSets_)), (h_this_tightPairs, .inl (cI, 45, .inl tightPairs_)), (h_p1, .inr (4, [.int p1_places_, .int p1_start_, .int p1_fairPlaces_, .ref h_p1_weights])), (h_p1_weights, .inl (cI, 100, .inl p1_weights_))] [(h0, .inr (1, [.int places_', .int end_', .ref h_this_weights, .ref h_this_pulls, .int leastWeight_', .int leastCount_', .ref h_this_leastSets, .int tightCount_', .ref h_this_tightPairs])), (h_this_weights, .inl (cI, 1024, .inl weights_')), (h_this_pulls, .inl (cI, 512, .inl pulls_')), (h_this_leastSets, .inl (cI, 511, .inl leastSets_')), (h_this_tightPairs, .inl (cI, 45, .inl tightPairs_')), (h_p1, .inr (4, [.int p1_places_, .int p1_start_, .int p1_fairPlaces_, .ref h_p1_weights])), (h_p1_weights, .inl (cI, 100, .inl p1_weights_))] := by
  refine enter_v RX1 (by decide) rfl (Nat.le_of_ble_eq_true rfl) ?_
  intro p e s m below meth c A X hr hlk hw ls hl
  have hx := X.1.1
  have hb := X.1.2.1
  have hl : lv_has ls 3 [(0, .ref h0), (1, .ref h_p1)] := hl
  unfold f_X1_measure at h
  refine lv_aload_n hx hb dX1_measure_0 rfl (lv_at hl 0 rfl) ?_
  refine lv_aload_n hx hb dX1_measure_1 rfl (lv_at hl 1 rfl) ?_
  refine fg_X1_40 X hw 5 rfl rfl dX1_measure_2 ?_
  refine fp_X1_9 X hw 0 rfl rfl dX1_measure_5 (fun H locs hw => ?_)
  have hw : Wd D A s.heap [(h0, .inr (1, [.int p1_places_, .int end_, .ref h_this_weights, .ref h_this_pulls, .int leastWeight_, .int leastCount_, .ref h_this_leastSets, .int tightCount_, .ref h_this_tightPairs])), (h_this_weights, .inl (cI, 1024, .inl weights_)), (h_this_pulls, .inl (cI, 512, .inl pulls_)), (h_this_leastSets, .inl (cI, 511, .inl leastSets_)), (h_this_tightPairs, .inl (cI, 45, .inl tightPairs_)), (h_p1, .inr (4, [.int p1_places_, .int p1_start_, .int p1_fairPlaces_, .ref h_p1_weights])), (h_p1_weights, .inl (cI, 100, .inl p1_weights_))] H locs := hw
  refine lv_aload_n hx hb dX1_measure_8 rfl (lv_at hl 0 rfl) ?_
  refine lv_iconst (v := 1) hx hb dX1_measure_9 (by decide) ?_
  refine lv_aload_n hx hb dX1_measure_10 rfl (lv_at hl 0 rfl) ?_
  refine fg_X1_9 X hw 0 rfl rfl dX1_measure_11 ?_
  refine lv_ishl hx hb dX1_measure_14 ?_
  refine fp_X1_15 X hw 0 rfl rfl dX1_measure_15 (fun H locs hw => ?_)
  have hw : Wd D A s.heap [(h0, .inr (1, [.int p1_places_, .int ((1 : Int32) <<< (p1_places_ &&& (31 : Int32))), .ref h_this_weights, .ref h_this_pulls, .int leastWeight_, .int leastCount_, .ref h_this_leastSets, .int tightCount_, .ref h_this_tightPairs])), (h_this_weights, .inl (cI, 1024, .inl weights_)), (h_this_pulls, .inl (cI, 512, .inl pulls_)), (h_this_leastSets, .inl (cI, 511, .inl leastSets_)), (h_this_tightPairs, .inl (cI, 45, .inl tightPairs_)), (h_p1, .inr (4, [.int p1_places_, .int p1_start_, .int p1_fairPlaces_, .ref h_p1_weights])), (h_p1_weights, .inl (cI, 100, .inl p1_weights_))] H locs := hw
  refine lv_iconst (v := 1) hx hb dX1_measure_18 (by decide) ?_
  refine lv_istore_n (lv' := [(2, .int (1 : Int32)), (0, .ref h0), (1, .ref h_p1)]) hx hb dX1_measure_19 rfl hl (by decide) rfl (fun ls hl => ?_)
  have E46 : ∀ (a9 a10 : Nat → Int32) (H : Heap) (locs : List Loc) (ls : Array Slot), f_X1_measure_E46 N p1_places_ leastWeight_ leastSets_ tightPairs_ p1_weights_ a9 a10 = some (places_', end_', leastWeight_', leastCount_', tightCount_', weights_', pulls_', leastSets_', tightPairs_') → Wd D A s.heap [(h0, .inr (1, [.int p1_places_, .int ((1 : Int32) <<< (p1_places_ &&& (31 : Int32))), .ref h_this_weights, .ref h_this_pulls, .int leastWeight_, .int leastCount_, .ref h_this_leastSets, .int tightCount_, .ref h_this_tightPairs])), (h_this_weights, .inl (cI, 1024, .inl a9)), (h_this_pulls, .inl (cI, 512, .inl a10)), (h_this_leastSets, .inl (cI, 511, .inl leastSets_)), (h_this_tightPairs, .inl (cI, 45, .inl tightPairs_)), (h_p1, .inr (4, [.int p1_places_, .int p1_start_, .int p1_fairPlaces_, .ref h_p1_weights])), (h_p1_weights, .inl (cI, 100, .inl p1_weights_))] H locs → lv_has ls 3 [(0, .ref h0), (1, .ref h_p1)] → W p l e rmX1_measure s m ([.ref h0, .ref h_p1] : List Value).toArray below meth c H locs 0 0 (MQ below (Qv D [(h0, .inr (1, [.int places_', .int end_', .ref h_this_weights, .ref h_this_pulls, .int leastWeight_', .int leastCount_', .ref h_this_leastSets, .int tightCount_', .ref h_this_tightPairs])), (h_this_weights, .inl (cI, 1024, .inl weights_')), (h_this_pulls, .inl (cI, 512, .inl pulls_')), (h_this_leastSets, .inl (cI, 511, .inl leastSets_')), (h_this_tightPairs, .inl (cI, 45, .inl tightPairs_')), (h_p1, .inr (4, [.int p1_places_, .int p1_start_, .int p1_fairPlaces_, .ref h_p1_weights])), (h_p1_weights, .inl (cI, 100, .inl p1_weights_))] A) ([.ref h0, .ref h_p1] : List Value).toArray s 0 0 A) (F0 m 46 ls []) := by
    intro a9 a10 H locs ls h hw hl
    unfold f_X1_measure_E46 at h
    refine lv_aload_n hx hb dX1_measure_46 rfl (lv_at hl 0 rfl) ?_
    obtain ⟨x11, x12, a13, hc, h⟩ := bd3_inv h
    refine r_cVv X hw (As := []) (rest := []) (wr := [(h_this_pulls, .inl (cI, 512, .inl a10)), (h_this_tightPairs, .inl (cI, 45, .inl tightPairs_)), (h_p1, .inr (4, [.int p1_places_, .int p1_start_, .int p1_fairPlaces_, .ref h_p1_weights])), (h_p1_weights, .inl (cI, 100, .inl p1_weights_))]) (ws' := [(h0, .inr (1, [.int p1_places_, .int ((1 : Int32) <<< (p1_places_ &&& (31 : Int32))), .ref h_this_weights, .ref h_this_pulls, .int x11, .int x12, .ref h_this_leastSets, .int tightCount_, .ref h_this_tightPairs])), (h_this_weights, .inl (cI, 1024, .inl a9)), (h_this_pulls, .inl (cI, 512, .inl a10)), (h_this_leastSets, .inl (cI, 511, .inl a13)), (h_this_tightPairs, .inl (cI, 45, .inl tightPairs_)), (h_p1, .inr (4, [.int p1_places_, .int p1_start_, .int p1_fairPlaces_, .ref h_p1_weights])), (h_p1_weights, .inl (cI, 100, .inl p1_weights_))]) (c_X1_findLeast l D cI cC cO N h0 h_this_weights h_this_pulls h_this_leastSets h_this_tightPairs p1_places_ ((1 : Int32) <<< (p1_places_ &&& (31 : Int32))) leastWeight_ leastCount_ tightCount_ a9 leastSets_ x11 x12 a13 hc) (cs_X1_50 X (by decide)) [0, 1, 3] [2, 4, 5, 6] [4, 5, 0, 6, 1, 2, 3] rfl rfl rfl rfl (by decide) rfl rfl 0 rfl rfl rfl rfl hl.1 rfl (Nat.le_of_ble_eq_true rfl) dX1_measure_47 ⟨Nat.zero_le _, Nat.zero_le _⟩ (fun H locs hw => ?_)
    refine lv_aload_n hx hb dX1_measure_50 rfl (lv_at hl 0 rfl) ?_
    refine lv_aload_n hx hb dX1_measure_51 rfl (lv_at hl 1 rfl) ?_
    obtain ⟨x14, a15, hc, h⟩ := bd2_inv h
    refine r_cVv X hw (As := [.ref h_p1]) (rest := []) (wr := [(h_this_weights, .inl (cI, 1024, .inl a9)), (h_this_pulls, .inl (cI, 512, .inl a10))]) (ws' := [(h0, .inr (1, [.int p1_places_, .int ((1 : Int32) <<< (p1_places_ &&& (31 : Int32))), .ref h_this_weights, .ref h_this_pulls, .int x11, .int x12, .ref h_this_leastSets, .int x14, .ref h_this_tightPairs])), (h_this_weights, .inl (cI, 1024, .inl a9)), (h_this_pulls, .inl (cI, 512, .inl a10)), (h_this_leastSets, .inl (cI, 511, .inl a13)), (h_this_tightPairs, .inl (cI, 45, .inl a15)), (h_p1, .inr (4, [.int p1_places_, .int p1_start_, .int p1_fairPlaces_, .ref h_p1_weights])), (h_p1_weights, .inl (cI, 100, .inl p1_weights_))]) (c_X1_findTight l D cI cC cO N h0 h_p1 h_this_weights h_this_pulls h_this_leastSets h_this_tightPairs h_p1_weights p1_places_ ((1 : Int32) <<< (p1_places_ &&& (31 : Int32))) x11 x12 tightCount_ a13 tightPairs_ p1_places_ p1_start_ p1_fairPlaces_ p1_weights_ x14 a15 hc) (cs_X1_53 X (by decide)) [0, 3, 4, 5, 6] [1, 2] [2, 0, 1, 3, 4, 5, 6] rfl rfl rfl rfl (by decide) rfl rfl 0 rfl rfl rfl rfl hl.1 rfl (Nat.le_of_ble_eq_true rfl) dX1_measure_52 ⟨Nat.zero_le _, Nat.zero_le _⟩ (fun H locs hw => ?_)
    obtain ⟨rfl, rfl, rfl, rfl, rfl, rfl, rfl, rfl, rfl⟩ := oi9 h
    exact r_retv X hw hr hlk dX1_measure_55
  have L20 : ∀ (k6 : (Nat → Int32) → (Nat → Int32) → Option (Int32 × Int32 × Int32 × Int32 × Int32 × (Nat → Int32) × (Nat → Int32) × (Nat → Int32) × (Nat → Int32))), (∀ (a9 a10 : Nat → Int32) (H : Heap) (locs : List Loc) (ls : Array Slot), k6 a9 a10 = some (places_', end_', leastWeight_', leastCount_', tightCount_', weights_', pulls_', leastSets_', tightPairs_') → Wd D A s.heap [(h0, .inr (1, [.int p1_places_, .int ((1 : Int32) <<< (p1_places_ &&& (31 : Int32))), .ref h_this_weights, .ref h_this_pulls, .int leastWeight_, .int leastCount_, .ref h_this_leastSets, .int tightCount_, .ref h_this_tightPairs])), (h_this_weights, .inl (cI, 1024, .inl a9)), (h_this_pulls, .inl (cI, 512, .inl a10)), (h_this_leastSets, .inl (cI, 511, .inl leastSets_)), (h_this_tightPairs, .inl (cI, 45, .inl tightPairs_)), (h_p1, .inr (4, [.int p1_places_, .int p1_start_, .int p1_fairPlaces_, .ref h_p1_weights])), (h_p1_weights, .inl (cI, 100, .inl p1_weights_))] H locs → lv_has ls 3 [(0, .ref h0), (1, .ref h_p1)] → W p l e rmX1_measure s m ([.ref h0, .ref h_p1] : List Value).toArray below meth c H locs 0 0 (MQ below (Qv D [(h0, .inr (1, [.int places_', .int end_', .ref h_this_weights, .ref h_this_pulls, .int leastWeight_', .int leastCount_', .ref h_this_leastSets, .int tightCount_', .ref h_this_tightPairs])), (h_this_weights, .inl (cI, 1024, .inl weights_')), (h_this_pulls, .inl (cI, 512, .inl pulls_')), (h_this_leastSets, .inl (cI, 511, .inl leastSets_')), (h_this_tightPairs, .inl (cI, 45, .inl tightPairs_')), (h_p1, .inr (4, [.int p1_places_, .int p1_start_, .int p1_fairPlaces_, .ref h_p1_weights])), (h_p1_weights, .inl (cI, 100, .inl p1_weights_))] A) ([.ref h0, .ref h_p1] : List Value).toArray s 0 0 A) (F0 m 46 ls [])) → ∀ (n8 : Nat), ∀ (x1 : Int32) (a2 a3 : Nat → Int32) (H : Heap) (locs : List Loc) (ls : Array Slot), f_X1_measure_L20 N p1_places_ p1_weights_ k6 n8 x1 a2 a3 = some (places_', end_', leastWeight_', leastCount_', tightCount_', weights_', pulls_', leastSets_', tightPairs_') → Wd D A s.heap [(h0, .inr (1, [.int p1_places_, .int ((1 : Int32) <<< (p1_places_ &&& (31 : Int32))), .ref h_this_weights, .ref h_this_pulls, .int leastWeight_, .int leastCount_, .ref h_this_leastSets, .int tightCount_, .ref h_this_tightPairs])), (h_this_weights, .inl (cI, 1024, .inl a2)), (h_this_pulls, .inl (cI, 512, .inl a3)), (h_this_leastSets, .inl (cI, 511, .inl leastSets_)), (h_this_tightPairs, .inl (cI, 45, .inl tightPairs_)), (h_p1, .inr (4, [.int p1_places_, .int p1_start_, .int p1_fairPlaces_, .ref h_p1_weights])), (h_p1_weights, .inl (cI, 100, .inl p1_weights_))] H locs → lv_has ls 3 [(0, .ref h0), (1, .ref h_p1), (2, .int x1)] → W p l e rmX1_measure s m ([.ref h0, .ref h_p1] : List Value).toArray below meth c H locs 0 0 (MQ below (Qv D [(h0, .inr (1, [.int places_', .int end_', .ref h_this_weights, .ref h_this_pulls, .int leastWeight_', .int leastCount_', .ref h_this_leastSets, .int tightCount_', .ref h_this_tightPairs])), (h_this_weights, .inl (cI, 1024, .inl weights_')), (h_this_pulls, .inl (cI, 512, .inl pulls_')), (h_this_leastSets, .inl (cI, 511, .inl leastSets_')), (h_this_tightPairs, .inl (cI, 45, .inl tightPairs_')), (h_p1, .inr (4, [.int p1_places_, .int p1_start_, .int p1_fairPlaces_, .ref h_p1_weights])), (h_p1_weights, .inl (cI, 100, .inl p1_weights_))] A) ([.ref h0, .ref h_p1] : List Value).toArray s 0 0 A) (F0 m 20 ls []) := by
    intro k6 hk20 n8
    induction n8 with
    | zero => intro x1 a2 a3 H locs ls h; cases h
    | succ n8 ih20 =>
      intro x1 a2 a3 H locs ls h hw hl
      rw [f_X1_measure_L20] at h
      refine lv_iload_n hx hb dX1_measure_20 rfl (lv_at hl 2 rfl) ?_
      refine lv_aload_n hx hb dX1_measure_21 rfl (lv_at hl 0 rfl) ?_
      refine fg_X1_9 X hw 0 rfl rfl dX1_measure_22 ?_
      refine lv_icmp_ge (tgt := 46) hx hb dX1_measure_25 (by decide) (fun c1 => ?_) (fun c1 => ?_)
      · replace h := ip c1 h
        exact hk20 a2 a3 _ _ _ h hw (lv_sub hl [0, 1] rfl)
      · replace h := ig c1 h
        refine lv_aload_n hx hb dX1_measure_28 rfl (lv_at hl 0 rfl) ?_
        refine lv_aload_n hx hb dX1_measure_29 rfl (lv_at hl 1 rfl) ?_
        refine lv_iload_n hx hb dX1_measure_30 rfl (lv_at hl 2 rfl) ?_
        obtain ⟨a4, hc, h⟩ := bd1_inv h
        refine r_cVv X hw (As := [.ref h_p1, .int x1]) (rest := []) (wr := [(h_this_weights, .inl (cI, 1024, .inl a2)), (h_this_leastSets, .inl (cI, 511, .inl leastSets_)), (h_this_tightPairs, .inl (cI, 45, .inl tightPairs_))]) (ws' := [(h0, .inr (1, [.int p1_places_, .int ((1 : Int32) <<< (p1_places_ &&& (31 : Int32))), .ref h_this_weights, .ref h_this_pulls, .int leastWeight_, .int leastCount_, .ref h_this_leastSets, .int tightCount_, .ref h_this_tightPairs])), (h_this_weights, .inl (cI, 1024, .inl a2)), (h_this_pulls, .inl (cI, 512, .inl a4)), (h_this_leastSets, .inl (cI, 511, .inl leastSets_)), (h_this_tightPairs, .inl (cI, 45, .inl tightPairs_)), (h_p1, .inr (4, [.int p1_places_, .int p1_start_, .int p1_fairPlaces_, .ref h_p1_weights])), (h_p1_weights, .inl (cI, 100, .inl p1_weights_))]) (c_X1_measurePulls l D cI cC cO N h0 h_p1 h_this_weights h_this_pulls h_this_leastSets h_this_tightPairs h_p1_weights x1 p1_places_ ((1 : Int32) <<< (p1_places_ &&& (31 : Int32))) leastWeight_ leastCount_ tightCount_ a3 p1_places_ p1_start_ p1_fairPlaces_ p1_weights_ a4 hc) (cs_X1_43 X (by decide)) [0, 2, 5, 6] [1, 3, 4] [3, 0, 4, 1, 2, 5, 6] rfl rfl rfl rfl (by decide) rfl rfl 0 rfl rfl rfl rfl hl.1 rfl (Nat.le_of_ble_eq_true rfl) dX1_measure_31 ⟨Nat.zero_le _, Nat.zero_le _⟩ (fun H locs hw => ?_)
        refine lv_aload_n hx hb dX1_measure_34 rfl (lv_at hl 0 rfl) ?_
        refine lv_aload_n hx hb dX1_measure_35 rfl (lv_at hl 1 rfl) ?_
        refine lv_iload_n hx hb dX1_measure_36 rfl (lv_at hl 2 rfl) ?_
        obtain ⟨a5, hc, h⟩ := bd1_inv h
        refine r_cVv X hw (As := [.ref h_p1, .int x1]) (rest := []) (wr := [(h_this_leastSets, .inl (cI, 511, .inl leastSets_)), (h_this_tightPairs, .inl (cI, 45, .inl tightPairs_))]) (ws' := [(h0, .inr (1, [.int p1_places_, .int ((1 : Int32) <<< (p1_places_ &&& (31 : Int32))), .ref h_this_weights, .ref h_this_pulls, .int leastWeight_, .int leastCount_, .ref h_this_leastSets, .int tightCount_, .ref h_this_tightPairs])), (h_this_weights, .inl (cI, 1024, .inl a5)), (h_this_pulls, .inl (cI, 512, .inl a4)), (h_this_leastSets, .inl (cI, 511, .inl leastSets_)), (h_this_tightPairs, .inl (cI, 45, .inl tightPairs_)), (h_p1, .inr (4, [.int p1_places_, .int p1_start_, .int p1_fairPlaces_, .ref h_p1_weights])), (h_p1_weights, .inl (cI, 100, .inl p1_weights_))]) (c_X1_measureWith l D cI cC cO N h0 h_p1 h_this_weights h_this_pulls h_this_leastSets h_this_tightPairs h_p1_weights x1 p1_places_ ((1 : Int32) <<< (p1_places_ &&& (31 : Int32))) leastWeight_ leastCount_ tightCount_ a2 a4 p1_places_ p1_start_ p1_fairPlaces_ p1_weights_ a5 hc) (cs_X1_47 X (by decide)) [0, 1, 2, 5, 6] [3, 4] [2, 3, 4, 0, 1, 5, 6] rfl rfl rfl rfl (by decide) rfl rfl 0 rfl rfl rfl rfl hl.1 rfl (Nat.le_of_ble_eq_true rfl) dX1_measure_37 ⟨Nat.zero_le _, Nat.zero_le _⟩ (fun H locs hw => ?_)
        refine lv_iinc (v := (x1 + (1 : Int32))) (lv' := [(2, .int (x1 + (1 : Int32))), (0, .ref h0), (1, .ref h_p1)]) hx hb dX1_measure_40 hl (k := 2) rfl rfl (by decide) rfl (fun ls hl => ?_)
        refine lv_goto (tgt := 20) hx hb dX1_measure_43 (by decide) ?_
        exact ih20 (x1 + (1 : Int32)) a5 a4 _ _ _ h hw (lv_sub hl [1, 2, 0] rfl)
  exact L20 (fun a9 a10 => f_X1_measure_E46 N p1_places_ leastWeight_ leastSets_ tightPairs_ p1_weights_ a9 a10) (fun a9 a10 H locs ls h hw hl => E46 a9 a10 H locs ls h hw hl) N (1 : Int32) weights_ pulls_ _ _ _ h hw (lv_sub hl [1, 2, 0] rfl)
def rmX1_isParting : Room := { frames := 1, cells := 0, slots := 0, locals := 21 }
section
variable {p : Program} {l : Launch} {e : Env} {R : Room} {s : State} {m : MethodId} {args : Array Value} {below : List Frame} {meth : Method} {c : Code} {H : Heap} {locs : List Loc} {cells slots : Nat} {Q : State → Prop}
variable {cc : ByteArray} {pc nL : Nat} {ls : Array Slot} {rest : List Value} {D : va_G} {cI cC cO : ClassId} {A : Nat → Prop} {ws : va_W} {H0 : Heap}
theorem cs_X1_76 (X : Ctx p m c cc nL s args RX1 D cI cC cO) (hR : rmX5_holds.frames + 1 ≤ R.frames ∧ 8 + (2 + 11) + rmX5_holds.locals ≤ R.locals) : va_CN R s args RX1 76 yX5_holds RX5 cX5_holds 2 (some .boolean) (Wy yX5_holds cX5_holds 2 (some .boolean)) rmX5_holds 0 0 2 ∧ (Cond.static yX5_holds).before args s = true ∧ True := ⟨va_cnB 2 X.1.2.2.2.2 (gi_all tw_293) rfl rfl rfl X.2.2.1.g15 (X.1.2.2.2.2 _ tw_1) (by decide +kernel) hR, X.1.2.2.2.2 _ tw_292, trivial⟩
end
set_option maxHeartbeats 4000000 in
set_option maxRecDepth 100000 in
theorem c_X1_isParting (l : Launch) (D : va_G) (cI cC cO : ClassId) (h0 h_this_weights h_this_pulls h_this_leastSets h_this_tightPairs : Nat) (p1 places_ end_ leastWeight_ leastCount_ tightCount_ : Int32) (r_ : Int32) (h : f_X1_isParting p1 end_ = some r_) : CI l yX1_isParting (Wy yX1_isParting cX1_isParting 2 (some .boolean)) rmX1_isParting D cI cC cO [.ref h0, .int p1] [(h0, .inr (1, [.int places_, .int end_, .ref h_this_weights, .ref h_this_pulls, .int leastWeight_, .int leastCount_, .ref h_this_leastSets, .int tightCount_, .ref h_this_tightPairs]))] r_ [(h0, .inr (1, [.int places_, .int end_, .ref h_this_weights, .ref h_this_pulls, .int leastWeight_, .int leastCount_, .ref h_this_leastSets, .int tightCount_, .ref h_this_tightPairs]))] := by
  refine enter_i RX1 (by decide) rfl (Nat.le_of_ble_eq_true rfl) ?_
  intro p e s m below meth c A X hr hlk hw ls hl
  have hx := X.1.1
  have hb := X.1.2.1
  have hl : lv_has ls 2 [(0, .ref h0), (1, .int p1)] := hl
  unfold f_X1_isParting at h
  refine lv_iload_n hx hb dX1_isParting_0 rfl (lv_at hl 1 rfl) ?_
  refine lv_if_le (tgt := 24) hx hb dX1_isParting_1 (by decide) (fun c1 => ?_) (fun c1 => ?_)
  · replace h := ip c1 h
    refine lv_iconst (v := 0) hx hb dX1_isParting_24 (by decide) ?_
    obtain rfl := oi1 h
    exact r_retz X hw hr (Or.inl rfl) hlk dX1_isParting_25
  · replace h := ig c1 h
    refine lv_iload_n hx hb dX1_isParting_4 rfl (lv_at hl 1 rfl) ?_
    refine lv_aload_n hx hb dX1_isParting_5 rfl (lv_at hl 0 rfl) ?_
    refine fg_X1_15 X hw 0 rfl rfl dX1_isParting_6 ?_
    refine lv_icmp_ge (tgt := 24) hx hb dX1_isParting_9 (by decide) (fun c1 => ?_) (fun c1 => ?_)
    · replace h := ip c1 h
      refine lv_iconst (v := 0) hx hb dX1_isParting_24 (by decide) ?_
      obtain rfl := oi1 h
      exact r_retz X hw hr (Or.inl rfl) hlk dX1_isParting_25
    · replace h := ig c1 h
      refine lv_iload_n hx hb dX1_isParting_12 rfl (lv_at hl 1 rfl) ?_
      refine lv_iconst (v := 0) hx hb dX1_isParting_13 (by decide) ?_
      obtain ⟨r1, hc, h⟩ := bd1_inv h
      refine r_cNi X hw (As := [.int p1, .int (0 : Int32)]) (rest := []) (c_X5_holds l D cI cC cO p1 (0 : Int32) r1 hc) (cs_X1_76 X (by decide)) rfl hl.1 rfl (Nat.le_of_ble_eq_true rfl) dX1_isParting_14 ⟨Nat.zero_le _, Nat.zero_le _⟩ (fun H locs hw => ?_)
      refine lv_if_ne (tgt := 24) hx hb dX1_isParting_17 (by decide) (fun c1 => ?_) (fun c1 => ?_)
      · replace h := ig c1 h
        refine lv_iconst (v := 0) hx hb dX1_isParting_24 (by decide) ?_
        obtain rfl := oi1 h
        exact r_retz X hw hr (Or.inl rfl) hlk dX1_isParting_25
      · replace h := ip c1 h
        refine lv_iconst (v := 1) hx hb dX1_isParting_20 (by decide) ?_
        refine lv_goto (tgt := 25) hx hb dX1_isParting_21 (by decide) ?_
        obtain rfl := oi1 h
        exact r_retz X hw hr (Or.inr rfl) hlk dX1_isParting_25
def rmX1_weightOf : Room := { frames := 2, cells := 0, slots := 0, locals := 42 }
section
variable {p : Program} {l : Launch} {e : Env} {R : Room} {s : State} {m : MethodId} {args : Array Value} {below : List Frame} {meth : Method} {c : Code} {H : Heap} {locs : List Loc} {cells slots : Nat} {Q : State → Prop}
variable {cc : ByteArray} {pc nL : Nat} {ls : Array Slot} {rest : List Value} {D : va_G} {cI cC cO : ClassId} {A : Nat → Prop} {ws : va_W} {H0 : Heap}
theorem cs_X1_79 (X : Ctx p m c cc nL s args RX1 D cI cC cO) (hR : rmX1_isParting.frames + 1 ≤ R.frames ∧ 8 + (2 + 11) + rmX1_isParting.locals ≤ R.locals) : CallW R s args RX1 RX1 79 yX1_isParting cX1_isParting 2 (some .boolean) (Wy yX1_isParting cX1_isParting 2 (some .boolean)) rmX1_isParting 0 0 1 := cwV 1 X.1.2.2.2.2 (gi_V tw_497 tw_489 tw_490 tw_6 tw_491) rfl rfl rfl (by decide +kernel) hR
end
set_option maxHeartbeats 4000000 in
set_option maxRecDepth 100000 in
theorem c_X1_weightOf (l : Launch) (D : va_G) (cI cC cO : ClassId) (h0 h_this_weights h_this_pulls h_this_leastSets h_this_tightPairs : Nat) (p1 places_ end_ leastWeight_ leastCount_ tightCount_ : Int32) (weights_ : Nat → Int32) (r_ : Int32) (h : f_X1_weightOf p1 end_ weights_ = some r_) : CI l yX1_weightOf (Wy yX1_weightOf cX1_weightOf 2 (some .int)) rmX1_weightOf D cI cC cO [.ref h0, .int p1] [(h0, .inr (1, [.int places_, .int end_, .ref h_this_weights, .ref h_this_pulls, .int leastWeight_, .int leastCount_, .ref h_this_leastSets, .int tightCount_, .ref h_this_tightPairs])), (h_this_weights, .inl (cI, 1024, .inl weights_))] r_ [(h0, .inr (1, [.int places_, .int end_, .ref h_this_weights, .ref h_this_pulls, .int leastWeight_, .int leastCount_, .ref h_this_leastSets, .int tightCount_, .ref h_this_tightPairs])), (h_this_weights, .inl (cI, 1024, .inl weights_))] := by
  refine enter_i RX1 (by decide) rfl (Nat.le_of_ble_eq_true rfl) ?_
  intro p e s m below meth c A X hr hlk hw ls hl
  have hx := X.1.1
  have hb := X.1.2.1
  have hl : lv_has ls 2 [(0, .ref h0), (1, .int p1)] := hl
  unfold f_X1_weightOf at h
  refine lv_aload_n hx hb dX1_weightOf_0 rfl (lv_at hl 0 rfl) ?_
  refine lv_iload_n hx hb dX1_weightOf_1 rfl (lv_at hl 1 rfl) ?_
  obtain ⟨r1, hc, h⟩ := bd1_inv h
  refine r_cVi X hw (As := [.int p1]) (rest := []) (wr := [(h_this_weights, .inl (cI, 1024, .inl weights_))]) (ws' := [(h0, .inr (1, [.int places_, .int end_, .ref h_this_weights, .ref h_this_pulls, .int leastWeight_, .int leastCount_, .ref h_this_leastSets, .int tightCount_, .ref h_this_tightPairs])), (h_this_weights, .inl (cI, 1024, .inl weights_))]) (c_X1_isParting l D cI cC cO h0 h_this_weights h_this_pulls h_this_leastSets h_this_tightPairs p1 places_ end_ leastWeight_ leastCount_ tightCount_ r1 hc) (cs_X1_79 X (by decide)) [0] [1] [1, 0] rfl rfl rfl rfl (by decide) rfl rfl 0 rfl rfl rfl rfl hl.1 rfl (Nat.le_of_ble_eq_true rfl) dX1_weightOf_2 ⟨Nat.zero_le _, Nat.zero_le _⟩ (fun H locs hw => ?_)
  refine lv_if_eq (tgt := 17) hx hb dX1_weightOf_5 (by decide) (fun c1 => ?_) (fun c1 => ?_)
  · replace h := ip c1 h
    refine lv_iconst (v := 0) hx hb dX1_weightOf_17 (by decide) ?_
    obtain rfl := oi1 h
    exact r_ret X hw hr hlk dX1_weightOf_18
  · replace h := ig c1 h
    refine lv_aload_n hx hb dX1_weightOf_8 rfl (lv_at hl 0 rfl) ?_
    refine fg_X1_18 X hw 0 rfl rfl dX1_weightOf_9 ?_
    refine lv_iload_n hx hb dX1_weightOf_12 rfl (lv_at hl 1 rfl) ?_
    obtain ⟨b1, h⟩ := chk_inv h
    refine r_iald X hw 1 rfl b1 rfl dX1_weightOf_13 ?_
    refine lv_goto (tgt := 18) hx hb dX1_weightOf_14 (by decide) ?_
    obtain rfl := oi1 h
    exact r_ret X hw hr hlk dX1_weightOf_18
def rmX1_leastAt : Room := { frames := 0, cells := 0, slots := 0, locals := 0 }
set_option maxHeartbeats 4000000 in
set_option maxRecDepth 100000 in
theorem c_X1_leastAt (l : Launch) (D : va_G) (cI cC cO : ClassId) (h0 h_this_weights h_this_pulls h_this_leastSets h_this_tightPairs : Nat) (p1 places_ end_ leastWeight_ leastCount_ tightCount_ : Int32) (leastSets_ : Nat → Int32) (r_ : Int32) (h : f_X1_leastAt p1 leastCount_ leastSets_ = some r_) : CI l yX1_leastAt (Wy yX1_leastAt cX1_leastAt 2 (some .int)) rmX1_leastAt D cI cC cO [.ref h0, .int p1] [(h0, .inr (1, [.int places_, .int end_, .ref h_this_weights, .ref h_this_pulls, .int leastWeight_, .int leastCount_, .ref h_this_leastSets, .int tightCount_, .ref h_this_tightPairs])), (h_this_leastSets, .inl (cI, 511, .inl leastSets_))] r_ [(h0, .inr (1, [.int places_, .int end_, .ref h_this_weights, .ref h_this_pulls, .int leastWeight_, .int leastCount_, .ref h_this_leastSets, .int tightCount_, .ref h_this_tightPairs])), (h_this_leastSets, .inl (cI, 511, .inl leastSets_))] := by
  refine enter_i RX1 (by decide) rfl (Nat.le_of_ble_eq_true rfl) ?_
  intro p e s m below meth c A X hr hlk hw ls hl
  have hx := X.1.1
  have hb := X.1.2.1
  have hl : lv_has ls 2 [(0, .ref h0), (1, .int p1)] := hl
  unfold f_X1_leastAt at h
  refine lv_iload_n hx hb dX1_leastAt_0 rfl (lv_at hl 1 rfl) ?_
  refine lv_if_lt (tgt := 21) hx hb dX1_leastAt_1 (by decide) (fun c1 => ?_) (fun c1 => ?_)
  · replace h := ip c1 h
    refine lv_iconst (v := 0) hx hb dX1_leastAt_21 (by decide) ?_
    obtain rfl := oi1 h
    exact r_ret X hw hr hlk dX1_leastAt_22
  · replace h := ig c1 h
    refine lv_iload_n hx hb dX1_leastAt_4 rfl (lv_at hl 1 rfl) ?_
    refine lv_aload_n hx hb dX1_leastAt_5 rfl (lv_at hl 0 rfl) ?_
    refine fg_X1_28 X hw 0 rfl rfl dX1_leastAt_6 ?_
    refine lv_icmp_ge (tgt := 21) hx hb dX1_leastAt_9 (by decide) (fun c1 => ?_) (fun c1 => ?_)
    · replace h := ip c1 h
      refine lv_iconst (v := 0) hx hb dX1_leastAt_21 (by decide) ?_
      obtain rfl := oi1 h
      exact r_ret X hw hr hlk dX1_leastAt_22
    · replace h := ig c1 h
      refine lv_aload_n hx hb dX1_leastAt_12 rfl (lv_at hl 0 rfl) ?_
      refine fg_X1_31 X hw 0 rfl rfl dX1_leastAt_13 ?_
      refine lv_iload_n hx hb dX1_leastAt_16 rfl (lv_at hl 1 rfl) ?_
      obtain ⟨b1, h⟩ := chk_inv h
      refine r_iald X hw 1 rfl b1 rfl dX1_leastAt_17 ?_
      refine lv_goto (tgt := 22) hx hb dX1_leastAt_18 (by decide) ?_
      obtain rfl := oi1 h
      exact r_ret X hw hr hlk dX1_leastAt_22
def rmX1_tightAt : Room := { frames := 0, cells := 0, slots := 0, locals := 0 }
set_option maxHeartbeats 4000000 in
set_option maxRecDepth 100000 in
theorem c_X1_tightAt (l : Launch) (D : va_G) (cI cC cO : ClassId) (h0 h_this_weights h_this_pulls h_this_leastSets h_this_tightPairs : Nat) (p1 places_ end_ leastWeight_ leastCount_ tightCount_ : Int32) (tightPairs_ : Nat → Int32) (r_ : Int32) (h : f_X1_tightAt p1 tightCount_ tightPairs_ = some r_) : CI l yX1_tightAt (Wy yX1_tightAt cX1_tightAt 2 (some .int)) rmX1_tightAt D cI cC cO [.ref h0, .int p1] [(h0, .inr (1, [.int places_, .int end_, .ref h_this_weights, .ref h_this_pulls, .int leastWeight_, .int leastCount_, .ref h_this_leastSets, .int tightCount_, .ref h_this_tightPairs])), (h_this_tightPairs, .inl (cI, 45, .inl tightPairs_))] r_ [(h0, .inr (1, [.int places_, .int end_, .ref h_this_weights, .ref h_this_pulls, .int leastWeight_, .int leastCount_, .ref h_this_leastSets, .int tightCount_, .ref h_this_tightPairs])), (h_this_tightPairs, .inl (cI, 45, .inl tightPairs_))] := by
  refine enter_i RX1 (by decide) rfl (Nat.le_of_ble_eq_true rfl) ?_
  intro p e s m below meth c A X hr hlk hw ls hl
  have hx := X.1.1
  have hb := X.1.2.1
  have hl : lv_has ls 2 [(0, .ref h0), (1, .int p1)] := hl
  unfold f_X1_tightAt at h
  refine lv_iload_n hx hb dX1_tightAt_0 rfl (lv_at hl 1 rfl) ?_
  refine lv_if_lt (tgt := 21) hx hb dX1_tightAt_1 (by decide) (fun c1 => ?_) (fun c1 => ?_)
  · replace h := ip c1 h
    refine lv_iconst (v := 0) hx hb dX1_tightAt_21 (by decide) ?_
    obtain rfl := oi1 h
    exact r_ret X hw hr hlk dX1_tightAt_22
  · replace h := ig c1 h
    refine lv_iload_n hx hb dX1_tightAt_4 rfl (lv_at hl 1 rfl) ?_
    refine lv_aload_n hx hb dX1_tightAt_5 rfl (lv_at hl 0 rfl) ?_
    refine fg_X1_34 X hw 0 rfl rfl dX1_tightAt_6 ?_
    refine lv_icmp_ge (tgt := 21) hx hb dX1_tightAt_9 (by decide) (fun c1 => ?_) (fun c1 => ?_)
    · replace h := ip c1 h
      refine lv_iconst (v := 0) hx hb dX1_tightAt_21 (by decide) ?_
      obtain rfl := oi1 h
      exact r_ret X hw hr hlk dX1_tightAt_22
    · replace h := ig c1 h
      refine lv_aload_n hx hb dX1_tightAt_12 rfl (lv_at hl 0 rfl) ?_
      refine fg_X1_37 X hw 0 rfl rfl dX1_tightAt_13 ?_
      refine lv_iload_n hx hb dX1_tightAt_16 rfl (lv_at hl 1 rfl) ?_
      obtain ⟨b1, h⟩ := chk_inv h
      refine r_iald X hw 1 rfl b1 rfl dX1_tightAt_17 ?_
      refine lv_goto (tgt := 22) hx hb dX1_tightAt_18 (by decide) ?_
      obtain rfl := oi1 h
      exact r_ret X hw hr hlk dX1_tightAt_22
def rmX1_tightPairsOf : Room := { frames := 0, cells := 0, slots := 0, locals := 0 }
set_option maxHeartbeats 4000000 in
set_option maxRecDepth 100000 in
theorem c_X1_tightPairsOf (l : Launch) (D : va_G) (cI cC cO : ClassId) (N : Nat) (h0 h_this_weights h_this_pulls h_this_leastSets h_this_tightPairs : Nat) (p1 places_ end_ leastWeight_ leastCount_ tightCount_ : Int32) (tightPairs_ : Nat → Int32) (r_ : Int32) (h : f_X1_tightPairsOf N p1 tightCount_ tightPairs_ = some r_) : CI l yX1_tightPairsOf (Wy yX1_tightPairsOf cX1_tightPairsOf 4 (some .int)) rmX1_tightPairsOf D cI cC cO [.ref h0, .int p1] [(h0, .inr (1, [.int places_, .int end_, .ref h_this_weights, .ref h_this_pulls, .int leastWeight_, .int leastCount_, .ref h_this_leastSets, .int tightCount_, .ref h_this_tightPairs])), (h_this_tightPairs, .inl (cI, 45, .inl tightPairs_))] r_ [(h0, .inr (1, [.int places_, .int end_, .ref h_this_weights, .ref h_this_pulls, .int leastWeight_, .int leastCount_, .ref h_this_leastSets, .int tightCount_, .ref h_this_tightPairs])), (h_this_tightPairs, .inl (cI, 45, .inl tightPairs_))] := by
  refine enter_i RX1 (by decide) rfl (Nat.le_of_ble_eq_true rfl) ?_
  intro p e s m below meth c A X hr hlk hw ls hl
  have hx := X.1.1
  have hb := X.1.2.1
  have hl : lv_has ls 4 [(0, .ref h0), (1, .int p1)] := hl
  unfold f_X1_tightPairsOf at h
  refine lv_iconst (v := 0) hx hb dX1_tightPairsOf_0 (by decide) ?_
  refine lv_istore_n (lv' := [(2, .int (0 : Int32)), (0, .ref h0), (1, .int p1)]) hx hb dX1_tightPairsOf_1 rfl hl (by decide) rfl (fun ls hl => ?_)
  refine lv_iconst (v := 0) hx hb dX1_tightPairsOf_2 (by decide) ?_
  refine lv_istore_n (lv' := [(3, .int (0 : Int32)), (2, .int (0 : Int32)), (0, .ref h0), (1, .int p1)]) hx hb dX1_tightPairsOf_3 rfl hl (by decide) rfl (fun ls hl => ?_)
  have E47 : ∀ (x7 : Int32) (H : Heap) (locs : List Loc) (ls : Array Slot), f_X1_tightPairsOf_E47 x7 = some r_ → Wd D A s.heap [(h0, .inr (1, [.int places_, .int end_, .ref h_this_weights, .ref h_this_pulls, .int leastWeight_, .int leastCount_, .ref h_this_leastSets, .int tightCount_, .ref h_this_tightPairs])), (h_this_tightPairs, .inl (cI, 45, .inl tightPairs_))] H locs → lv_has ls 4 [(2, .int x7)] → W p l e rmX1_tightPairsOf s m ([.ref h0, .int p1] : List Value).toArray below meth c H locs 0 0 (MQ below (Qi D r_ [(h0, .inr (1, [.int places_, .int end_, .ref h_this_weights, .ref h_this_pulls, .int leastWeight_, .int leastCount_, .ref h_this_leastSets, .int tightCount_, .ref h_this_tightPairs])), (h_this_tightPairs, .inl (cI, 45, .inl tightPairs_))] A) ([.ref h0, .int p1] : List Value).toArray s 0 0 A) (F0 m 47 ls []) := by
    intro x7 H locs ls h hw hl
    unfold f_X1_tightPairsOf_E47 at h
    refine lv_iload_n hx hb dX1_tightPairsOf_47 rfl (lv_at hl 0 rfl) ?_
    obtain rfl := oi1 h
    exact r_ret X hw hr hlk dX1_tightPairsOf_48
  have L4 : ∀ (k4 : Int32 → Option (Int32)), (∀ (x7 : Int32) (H : Heap) (locs : List Loc) (ls : Array Slot), k4 x7 = some r_ → Wd D A s.heap [(h0, .inr (1, [.int places_, .int end_, .ref h_this_weights, .ref h_this_pulls, .int leastWeight_, .int leastCount_, .ref h_this_leastSets, .int tightCount_, .ref h_this_tightPairs])), (h_this_tightPairs, .inl (cI, 45, .inl tightPairs_))] H locs → lv_has ls 4 [(2, .int x7)] → W p l e rmX1_tightPairsOf s m ([.ref h0, .int p1] : List Value).toArray below meth c H locs 0 0 (MQ below (Qi D r_ [(h0, .inr (1, [.int places_, .int end_, .ref h_this_weights, .ref h_this_pulls, .int leastWeight_, .int leastCount_, .ref h_this_leastSets, .int tightCount_, .ref h_this_tightPairs])), (h_this_tightPairs, .inl (cI, 45, .inl tightPairs_))] A) ([.ref h0, .int p1] : List Value).toArray s 0 0 A) (F0 m 47 ls [])) → ∀ (n6 : Nat), ∀ (x1 x2 : Int32) (H : Heap) (locs : List Loc) (ls : Array Slot), f_X1_tightPairsOf_L4 tightCount_ tightPairs_ p1 k4 n6 x1 x2 = some r_ → Wd D A s.heap [(h0, .inr (1, [.int places_, .int end_, .ref h_this_weights, .ref h_this_pulls, .int leastWeight_, .int leastCount_, .ref h_this_leastSets, .int tightCount_, .ref h_this_tightPairs])), (h_this_tightPairs, .inl (cI, 45, .inl tightPairs_))] H locs → lv_has ls 4 [(0, .ref h0), (1, .int p1), (2, .int x1), (3, .int x2)] → W p l e rmX1_tightPairsOf s m ([.ref h0, .int p1] : List Value).toArray below meth c H locs 0 0 (MQ below (Qi D r_ [(h0, .inr (1, [.int places_, .int end_, .ref h_this_weights, .ref h_this_pulls, .int leastWeight_, .int leastCount_, .ref h_this_leastSets, .int tightCount_, .ref h_this_tightPairs])), (h_this_tightPairs, .inl (cI, 45, .inl tightPairs_))] A) ([.ref h0, .int p1] : List Value).toArray s 0 0 A) (F0 m 4 ls []) := by
    intro k4 hk4 n6
    induction n6 with
    | zero => intro x1 x2 H locs ls h; cases h
    | succ n6 ih4 =>
      intro x1 x2 H locs ls h hw hl
      rw [f_X1_tightPairsOf_L4] at h
      refine lv_iload_n hx hb dX1_tightPairsOf_4 rfl (lv_at hl 3 rfl) ?_
      refine lv_aload_n hx hb dX1_tightPairsOf_5 rfl (lv_at hl 0 rfl) ?_
      refine fg_X1_34 X hw 0 rfl rfl dX1_tightPairsOf_6 ?_
      refine lv_icmp_ge (tgt := 47) hx hb dX1_tightPairsOf_9 (by decide) (fun c1 => ?_) (fun c1 => ?_)
      · replace h := ip c1 h
        exact hk4 x1 _ _ _ h hw (lv_sub hl [2] rfl)
      · replace h := ig c1 h
        refine lv_aload_n hx hb dX1_tightPairsOf_12 rfl (lv_at hl 0 rfl) ?_
        refine fg_X1_37 X hw 0 rfl rfl dX1_tightPairsOf_13 ?_
        refine lv_iload_n hx hb dX1_tightPairsOf_16 rfl (lv_at hl 3 rfl) ?_
        obtain ⟨b1, h⟩ := chk_inv h
        refine r_iald X hw 1 rfl b1 rfl dX1_tightPairsOf_17 ?_
        refine lv_bipush (v := 10) hx hb dX1_tightPairsOf_18 (by decide) ?_
        refine lv_idiv hx hb dX1_tightPairsOf_20 (by decide) ?_
        refine lv_iload_n hx hb dX1_tightPairsOf_21 rfl (lv_at hl 1 rfl) ?_
        have J41 : ∀ (x3 : Int32) (H : Heap) (locs : List Loc) (ls : Array Slot), f_X1_tightPairsOf_J41 (f_X1_tightPairsOf_L4 tightCount_ tightPairs_ p1 k4 n6) x2 x3 = some r_ → Wd D A s.heap [(h0, .inr (1, [.int places_, .int end_, .ref h_this_weights, .ref h_this_pulls, .int leastWeight_, .int leastCount_, .ref h_this_leastSets, .int tightCount_, .ref h_this_tightPairs])), (h_this_tightPairs, .inl (cI, 45, .inl tightPairs_))] H locs → lv_has ls 4 [(0, .ref h0), (1, .int p1), (2, .int x3), (3, .int x2)] → W p l e rmX1_tightPairsOf s m ([.ref h0, .int p1] : List Value).toArray below meth c H locs 0 0 (MQ below (Qi D r_ [(h0, .inr (1, [.int places_, .int end_, .ref h_this_weights, .ref h_this_pulls, .int leastWeight_, .int leastCount_, .ref h_this_leastSets, .int tightCount_, .ref h_this_tightPairs])), (h_this_tightPairs, .inl (cI, 45, .inl tightPairs_))] A) ([.ref h0, .int p1] : List Value).toArray s 0 0 A) (F0 m 41 ls []) := by
          intro x3 H locs ls h hw hl
          unfold f_X1_tightPairsOf_J41 at h
          refine lv_iinc (v := (x2 + (1 : Int32))) (lv' := [(3, .int (x2 + (1 : Int32))), (0, .ref h0), (1, .int p1), (2, .int x3)]) hx hb dX1_tightPairsOf_41 hl (k := 3) rfl rfl (by decide) rfl (fun ls hl => ?_)
          refine lv_goto (tgt := 4) hx hb dX1_tightPairsOf_44 (by decide) ?_
          exact ih4 x3 (x2 + (1 : Int32)) _ _ _ h hw (lv_sub hl [1, 2, 3, 0] rfl)
        refine lv_icmp_eq (tgt := 38) hx hb dX1_tightPairsOf_22 (by decide) (fun c1 => ?_) (fun c1 => ?_)
        · replace h := ip c1 h
          refine lv_iinc (v := (x1 + (1 : Int32))) (lv' := [(2, .int (x1 + (1 : Int32))), (0, .ref h0), (1, .int p1), (3, .int x2)]) hx hb dX1_tightPairsOf_38 hl (k := 2) rfl rfl (by decide) rfl (fun ls hl => ?_)
          exact J41 (x1 + (1 : Int32)) _ _ _ h hw (lv_sub hl [1, 2, 0, 3] rfl)
        · replace h := ig c1 h
          refine lv_aload_n hx hb dX1_tightPairsOf_25 rfl (lv_at hl 0 rfl) ?_
          refine fg_X1_37 X hw 0 rfl rfl dX1_tightPairsOf_26 ?_
          refine lv_iload_n hx hb dX1_tightPairsOf_29 rfl (lv_at hl 3 rfl) ?_
          obtain ⟨b1, h⟩ := chk_inv h
          refine r_iald X hw 1 rfl b1 rfl dX1_tightPairsOf_30 ?_
          refine lv_bipush (v := 10) hx hb dX1_tightPairsOf_31 (by decide) ?_
          refine lv_irem hx hb dX1_tightPairsOf_33 (by decide) ?_
          refine lv_iload_n hx hb dX1_tightPairsOf_34 rfl (lv_at hl 1 rfl) ?_
          refine lv_icmp_ne (tgt := 41) hx hb dX1_tightPairsOf_35 (by decide) (fun c1 => ?_) (fun c1 => ?_)
          · replace h := ig c1 h
            exact J41 x1 _ _ _ h hw (lv_sub hl [0, 1, 2, 3] rfl)
          · replace h := ip c1 h
            refine lv_iinc (v := (x1 + (1 : Int32))) (lv' := [(2, .int (x1 + (1 : Int32))), (0, .ref h0), (1, .int p1), (3, .int x2)]) hx hb dX1_tightPairsOf_38 hl (k := 2) rfl rfl (by decide) rfl (fun ls hl => ?_)
            exact J41 (x1 + (1 : Int32)) _ _ _ h hw (lv_sub hl [1, 2, 0, 3] rfl)
  exact L4 (fun x7 => f_X1_tightPairsOf_E47 x7) (fun x7 H locs ls h hw hl => E47 x7 H locs ls h hw hl) N (0 : Int32) (0 : Int32) _ _ _ h hw (lv_sub hl [2, 3, 1, 0] rfl)
def rmX1_isFair : Room := { frames := 1, cells := 0, slots := 0, locals := 20 }
section
variable {p : Program} {l : Launch} {e : Env} {R : Room} {s : State} {m : MethodId} {args : Array Value} {below : List Frame} {meth : Method} {c : Code} {H : Heap} {locs : List Loc} {cells slots : Nat} {Q : State → Prop}
variable {cc : ByteArray} {pc nL : Nat} {ls : Array Slot} {rest : List Value} {D : va_G} {cI cC cO : ClassId} {A : Nat → Prop} {ws : va_W} {H0 : Heap}
theorem cs_X1_83 (X : Ctx p m c cc nL s args RX1 D cI cC cO) (hR : rmJ6_bitCount_0f7a4.frames + 1 ≤ R.frames ∧ 8 + (1 + 11) + rmJ6_bitCount_0f7a4.locals ≤ R.locals) : CallB R s args RX1 83 yJ6_bitCount_0f7a4 cJ6_bitCount_0f7a4 1 (some .int) (Wy yJ6_bitCount_0f7a4 cJ6_bitCount_0f7a4 1 (some .int)) rmJ6_bitCount_0f7a4 0 0 1 ∧ (Cond.static yJ6_bitCount_0f7a4).before args s = true := va_cwS 1 X.1.2.2.2.2 (gi_S tw_482 tw_483 tw_10 tw_484) rfl rfl rfl (by decide +kernel) hR
end
set_option maxHeartbeats 4000000 in
set_option maxRecDepth 100000 in
theorem c_X1_isFair (l : Launch) (D : va_G) (cI cC cO : ClassId) (h0 h_this_weights h_this_pulls h_this_leastSets h_this_tightPairs : Nat) (p1 p2 places_ end_ leastWeight_ leastCount_ tightCount_ : Int32) (r_ : Int32) (h : f_X1_isFair p1 p2 places_ = some r_) : CI l yX1_isFair (Wy yX1_isFair cX1_isFair 4 (some .boolean)) rmX1_isFair D cI cC cO [.ref h0, .int p1, .int p2] [(h0, .inr (1, [.int places_, .int end_, .ref h_this_weights, .ref h_this_pulls, .int leastWeight_, .int leastCount_, .ref h_this_leastSets, .int tightCount_, .ref h_this_tightPairs]))] r_ [(h0, .inr (1, [.int places_, .int end_, .ref h_this_weights, .ref h_this_pulls, .int leastWeight_, .int leastCount_, .ref h_this_leastSets, .int tightCount_, .ref h_this_tightPairs]))] := by
  refine enter_i RX1 (by decide) rfl (Nat.le_of_ble_eq_true rfl) ?_
  intro p e s m below meth c A X hr hlk hw ls hl
  have hx := X.1.1
  have hb := X.1.2.1
  have hl : lv_has ls 4 [(0, .ref h0), (1, .int p1), (2, .int p2)] := hl
  unfold f_X1_isFair at h
  refine lv_iload_n hx hb dX1_isFair_0 rfl (lv_at hl 1 rfl) ?_
  obtain ⟨r1, hc, h⟩ := bd1_inv h
  refine r_cSi X hw (As := [.int p1]) (rest := []) (c_J6_bitCount_0f7a4 l D cI cC cO p1 r1 hc) (cs_X1_83 X (by decide)) rfl hl.1 rfl (Nat.le_of_ble_eq_true rfl) dX1_isFair_1 ⟨Nat.zero_le _, Nat.zero_le _⟩ (fun H locs hw => ?_)
  refine lv_istore_n (lv' := [(3, .int r1), (0, .ref h0), (1, .int p1), (2, .int p2)]) hx hb dX1_isFair_4 rfl hl (by decide) rfl (fun ls hl => ?_)
  refine lv_iload_n hx hb dX1_isFair_5 rfl (lv_at hl 0 rfl) ?_
  refine lv_iload_n hx hb dX1_isFair_6 rfl (lv_at hl 3 rfl) ?_
  refine lv_icmp_lt (tgt := 24) hx hb dX1_isFair_7 (by decide) (fun c1 => ?_) (fun c1 => ?_)
  · replace h := ip c1 h
    refine lv_iconst (v := 0) hx hb dX1_isFair_24 (by decide) ?_
    obtain rfl := oi1 h
    exact r_retz X hw hr (Or.inl rfl) hlk dX1_isFair_25
  · replace h := ig c1 h
    refine lv_aload_n hx hb dX1_isFair_10 rfl (lv_at hl 1 rfl) ?_
    refine fg_X1_9 X hw 0 rfl rfl dX1_isFair_11 ?_
    refine lv_iload_n hx hb dX1_isFair_14 rfl (lv_at hl 0 rfl) ?_
    refine lv_isub hx hb dX1_isFair_15 ?_
    refine lv_iload_n hx hb dX1_isFair_16 rfl (lv_at hl 3 rfl) ?_
    refine lv_icmp_lt (tgt := 24) hx hb dX1_isFair_17 (by decide) (fun c1 => ?_) (fun c1 => ?_)
    · replace h := ip c1 h
      refine lv_iconst (v := 0) hx hb dX1_isFair_24 (by decide) ?_
      obtain rfl := oi1 h
      exact r_retz X hw hr (Or.inl rfl) hlk dX1_isFair_25
    · replace h := ig c1 h
      refine lv_iconst (v := 1) hx hb dX1_isFair_20 (by decide) ?_
      refine lv_goto (tgt := 25) hx hb dX1_isFair_21 (by decide) ?_
      obtain rfl := oi1 h
      exact r_retz X hw hr (Or.inr rfl) hlk dX1_isFair_25
def rmX1_fairCount : Room := { frames := 2, cells := 0, slots := 0, locals := 43 }
section
variable {p : Program} {l : Launch} {e : Env} {R : Room} {s : State} {m : MethodId} {args : Array Value} {below : List Frame} {meth : Method} {c : Code} {H : Heap} {locs : List Loc} {cells slots : Nat} {Q : State → Prop}
variable {cc : ByteArray} {pc nL : Nat} {ls : Array Slot} {rest : List Value} {D : va_G} {cI cC cO : ClassId} {A : Nat → Prop} {ws : va_W} {H0 : Heap}
theorem cs_X1_88 (X : Ctx p m c cc nL s args RX1 D cI cC cO) (hR : rmX1_isFair.frames + 1 ≤ R.frames ∧ 8 + (4 + 11) + rmX1_isFair.locals ≤ R.locals) : CallW R s args RX1 RX1 88 yX1_isFair cX1_isFair 4 (some .boolean) (Wy yX1_isFair cX1_isFair 4 (some .boolean)) rmX1_isFair 0 0 2 := cwV 2 X.1.2.2.2.2 (gi_V tw_478 tw_480 sw_yX1_isFair tw_6 tw_481) rfl rfl rfl (by decide +kernel) hR
end
set_option maxHeartbeats 4000000 in
set_option maxRecDepth 100000 in
theorem c_X1_fairCount (l : Launch) (D : va_G) (cI cC cO : ClassId) (N : Nat) (h0 h_this_weights h_this_pulls h_this_leastSets h_this_tightPairs : Nat) (p1 places_ end_ leastWeight_ leastCount_ tightCount_ : Int32) (r_ : Int32) (h : f_X1_fairCount N p1 places_ end_ = some r_) : CI l yX1_fairCount (Wy yX1_fairCount cX1_fairCount 4 (some .int)) rmX1_fairCount D cI cC cO [.ref h0, .int p1] [(h0, .inr (1, [.int places_, .int end_, .ref h_this_weights, .ref h_this_pulls, .int leastWeight_, .int leastCount_, .ref h_this_leastSets, .int tightCount_, .ref h_this_tightPairs]))] r_ [(h0, .inr (1, [.int places_, .int end_, .ref h_this_weights, .ref h_this_pulls, .int leastWeight_, .int leastCount_, .ref h_this_leastSets, .int tightCount_, .ref h_this_tightPairs]))] := by
  refine enter_i RX1 (by decide) rfl (Nat.le_of_ble_eq_true rfl) ?_
  intro p e s m below meth c A X hr hlk hw ls hl
  have hx := X.1.1
  have hb := X.1.2.1
  have hl : lv_has ls 4 [(0, .ref h0), (1, .int p1)] := hl
  unfold f_X1_fairCount at h
  refine lv_iconst (v := 0) hx hb dX1_fairCount_0 (by decide) ?_
  refine lv_istore_n (lv' := [(2, .int (0 : Int32)), (0, .ref h0), (1, .int p1)]) hx hb dX1_fairCount_1 rfl hl (by decide) rfl (fun ls hl => ?_)
  refine lv_iconst (v := 2) hx hb dX1_fairCount_2 (by decide) ?_
  refine lv_istore_n (lv' := [(3, .int (2 : Int32)), (2, .int (0 : Int32)), (0, .ref h0), (1, .int p1)]) hx hb dX1_fairCount_3 rfl hl (by decide) rfl (fun ls hl => ?_)
  have E30 : ∀ (x8 : Int32) (H : Heap) (locs : List Loc) (ls : Array Slot), f_X1_fairCount_E30 x8 = some r_ → Wd D A s.heap [(h0, .inr (1, [.int places_, .int end_, .ref h_this_weights, .ref h_this_pulls, .int leastWeight_, .int leastCount_, .ref h_this_leastSets, .int tightCount_, .ref h_this_tightPairs]))] H locs → lv_has ls 4 [(2, .int x8)] → W p l e rmX1_fairCount s m ([.ref h0, .int p1] : List Value).toArray below meth c H locs 0 0 (MQ below (Qi D r_ [(h0, .inr (1, [.int places_, .int end_, .ref h_this_weights, .ref h_this_pulls, .int leastWeight_, .int leastCount_, .ref h_this_leastSets, .int tightCount_, .ref h_this_tightPairs]))] A) ([.ref h0, .int p1] : List Value).toArray s 0 0 A) (F0 m 30 ls []) := by
    intro x8 H locs ls h hw hl
    unfold f_X1_fairCount_E30 at h
    refine lv_iload_n hx hb dX1_fairCount_30 rfl (lv_at hl 0 rfl) ?_
    obtain rfl := oi1 h
    exact r_ret X hw hr hlk dX1_fairCount_31
  have L4 : ∀ (k5 : Int32 → Option (Int32)), (∀ (x8 : Int32) (H : Heap) (locs : List Loc) (ls : Array Slot), k5 x8 = some r_ → Wd D A s.heap [(h0, .inr (1, [.int places_, .int end_, .ref h_this_weights, .ref h_this_pulls, .int leastWeight_, .int leastCount_, .ref h_this_leastSets, .int tightCount_, .ref h_this_tightPairs]))] H locs → lv_has ls 4 [(2, .int x8)] → W p l e rmX1_fairCount s m ([.ref h0, .int p1] : List Value).toArray below meth c H locs 0 0 (MQ below (Qi D r_ [(h0, .inr (1, [.int places_, .int end_, .ref h_this_weights, .ref h_this_pulls, .int leastWeight_, .int leastCount_, .ref h_this_leastSets, .int tightCount_, .ref h_this_tightPairs]))] A) ([.ref h0, .int p1] : List Value).toArray s 0 0 A) (F0 m 30 ls [])) → ∀ (n7 : Nat), ∀ (x1 x2 : Int32) (H : Heap) (locs : List Loc) (ls : Array Slot), f_X1_fairCount_L4 end_ p1 places_ k5 n7 x1 x2 = some r_ → Wd D A s.heap [(h0, .inr (1, [.int places_, .int end_, .ref h_this_weights, .ref h_this_pulls, .int leastWeight_, .int leastCount_, .ref h_this_leastSets, .int tightCount_, .ref h_this_tightPairs]))] H locs → lv_has ls 4 [(0, .ref h0), (1, .int p1), (2, .int x1), (3, .int x2)] → W p l e rmX1_fairCount s m ([.ref h0, .int p1] : List Value).toArray below meth c H locs 0 0 (MQ below (Qi D r_ [(h0, .inr (1, [.int places_, .int end_, .ref h_this_weights, .ref h_this_pulls, .int leastWeight_, .int leastCount_, .ref h_this_leastSets, .int tightCount_, .ref h_this_tightPairs]))] A) ([.ref h0, .int p1] : List Value).toArray s 0 0 A) (F0 m 4 ls []) := by
    intro k5 hk4 n7
    induction n7 with
    | zero => intro x1 x2 H locs ls h; cases h
    | succ n7 ih4 =>
      intro x1 x2 H locs ls h hw hl
      rw [f_X1_fairCount_L4] at h
      refine lv_iload_n hx hb dX1_fairCount_4 rfl (lv_at hl 3 rfl) ?_
      refine lv_aload_n hx hb dX1_fairCount_5 rfl (lv_at hl 0 rfl) ?_
      refine fg_X1_15 X hw 0 rfl rfl dX1_fairCount_6 ?_
      refine lv_icmp_ge (tgt := 30) hx hb dX1_fairCount_9 (by decide) (fun c1 => ?_) (fun c1 => ?_)
      · replace h := ip c1 h
        exact hk4 x1 _ _ _ h hw (lv_sub hl [2] rfl)
      · replace h := ig c1 h
        refine lv_aload_n hx hb dX1_fairCount_12 rfl (lv_at hl 0 rfl) ?_
        refine lv_iload_n hx hb dX1_fairCount_13 rfl (lv_at hl 3 rfl) ?_
        refine lv_iload_n hx hb dX1_fairCount_14 rfl (lv_at hl 1 rfl) ?_
        obtain ⟨r3, hc, h⟩ := bd1_inv h
        refine r_cVi X hw (As := [.int x2, .int p1]) (rest := []) (wr := []) (ws' := [(h0, .inr (1, [.int places_, .int end_, .ref h_this_weights, .ref h_this_pulls, .int leastWeight_, .int leastCount_, .ref h_this_leastSets, .int tightCount_, .ref h_this_tightPairs]))]) (c_X1_isFair l D cI cC cO h0 h_this_weights h_this_pulls h_this_leastSets h_this_tightPairs x2 p1 places_ end_ leastWeight_ leastCount_ tightCount_ r3 hc) (cs_X1_88 X (by decide)) [0] [] [0] rfl rfl rfl rfl (by decide) rfl rfl 0 rfl rfl rfl rfl hl.1 rfl (Nat.le_of_ble_eq_true rfl) dX1_fairCount_15 ⟨Nat.zero_le _, Nat.zero_le _⟩ (fun H locs hw => ?_)
        have J24 : ∀ (x4 : Int32) (H : Heap) (locs : List Loc) (ls : Array Slot), f_X1_fairCount_J24 (f_X1_fairCount_L4 end_ p1 places_ k5 n7) x2 x4 = some r_ → Wd D A s.heap [(h0, .inr (1, [.int places_, .int end_, .ref h_this_weights, .ref h_this_pulls, .int leastWeight_, .int leastCount_, .ref h_this_leastSets, .int tightCount_, .ref h_this_tightPairs]))] H locs → lv_has ls 4 [(0, .ref h0), (1, .int p1), (2, .int x4), (3, .int x2)] → W p l e rmX1_fairCount s m ([.ref h0, .int p1] : List Value).toArray below meth c H locs 0 0 (MQ below (Qi D r_ [(h0, .inr (1, [.int places_, .int end_, .ref h_this_weights, .ref h_this_pulls, .int leastWeight_, .int leastCount_, .ref h_this_leastSets, .int tightCount_, .ref h_this_tightPairs]))] A) ([.ref h0, .int p1] : List Value).toArray s 0 0 A) (F0 m 24 ls []) := by
          intro x4 H locs ls h hw hl
          unfold f_X1_fairCount_J24 at h
          refine lv_iinc (v := (x2 + (2 : Int32))) (lv' := [(3, .int (x2 + (2 : Int32))), (0, .ref h0), (1, .int p1), (2, .int x4)]) hx hb dX1_fairCount_24 hl (k := 3) rfl rfl (by decide) rfl (fun ls hl => ?_)
          refine lv_goto (tgt := 4) hx hb dX1_fairCount_27 (by decide) ?_
          exact ih4 x4 (x2 + (2 : Int32)) _ _ _ h hw (lv_sub hl [1, 2, 3, 0] rfl)
        refine lv_if_eq (tgt := 24) hx hb dX1_fairCount_18 (by decide) (fun c1 => ?_) (fun c1 => ?_)
        · replace h := ip c1 h
          exact J24 x1 _ _ _ h hw (lv_sub hl [0, 1, 2, 3] rfl)
        · replace h := ig c1 h
          refine lv_iinc (v := (x1 + (1 : Int32))) (lv' := [(2, .int (x1 + (1 : Int32))), (0, .ref h0), (1, .int p1), (3, .int x2)]) hx hb dX1_fairCount_21 hl (k := 2) rfl rfl (by decide) rfl (fun ls hl => ?_)
          exact J24 (x1 + (1 : Int32)) _ _ _ h hw (lv_sub hl [1, 2, 0, 3] rfl)
  exact L4 (fun x8 => f_X1_fairCount_E30 x8) (fun x8 H locs ls h hw hl => E30 x8 H locs ls h hw hl) N (0 : Int32) (2 : Int32) _ _ _ h hw (lv_sub hl [2, 3, 1, 0] rfl)
def rmX1_leastFair : Room := { frames := 2, cells := 0, slots := 0, locals := 43 }
set_option maxHeartbeats 4000000 in
set_option maxRecDepth 100000 in
theorem c_X1_leastFair (l : Launch) (D : va_G) (cI cC cO : ClassId) (N : Nat) (h0 h_this_weights h_this_pulls h_this_leastSets h_this_tightPairs : Nat) (p1 places_ end_ leastWeight_ leastCount_ tightCount_ : Int32) (weights_ : Nat → Int32) (r_ : Int32) (h : f_X1_leastFair N p1 places_ end_ weights_ = some r_) : CI l yX1_leastFair (Wy yX1_leastFair cX1_leastFair 4 (some .int)) rmX1_leastFair D cI cC cO [.ref h0, .int p1] [(h0, .inr (1, [.int places_, .int end_, .ref h_this_weights, .ref h_this_pulls, .int leastWeight_, .int leastCount_, .ref h_this_leastSets, .int tightCount_, .ref h_this_tightPairs])), (h_this_weights, .inl (cI, 1024, .inl weights_))] r_ [(h0, .inr (1, [.int places_, .int end_, .ref h_this_weights, .ref h_this_pulls, .int leastWeight_, .int leastCount_, .ref h_this_leastSets, .int tightCount_, .ref h_this_tightPairs])), (h_this_weights, .inl (cI, 1024, .inl weights_))] := by
  refine enter_i RX1 (by decide) rfl (Nat.le_of_ble_eq_true rfl) ?_
  intro p e s m below meth c A X hr hlk hw ls hl
  have hx := X.1.1
  have hb := X.1.2.1
  have hl : lv_has ls 4 [(0, .ref h0), (1, .int p1)] := hl
  unfold f_X1_leastFair at h
  refine lv_iconst (v := 0) hx hb dX1_leastFair_0 (by decide) ?_
  refine lv_istore_n (lv' := [(2, .int (0 : Int32)), (0, .ref h0), (1, .int p1)]) hx hb dX1_leastFair_1 rfl hl (by decide) rfl (fun ls hl => ?_)
  refine lv_iconst (v := 2) hx hb dX1_leastFair_2 (by decide) ?_
  refine lv_istore_n (lv' := [(3, .int (2 : Int32)), (2, .int (0 : Int32)), (0, .ref h0), (1, .int p1)]) hx hb dX1_leastFair_3 rfl hl (by decide) rfl (fun ls hl => ?_)
  have E48 : ∀ (x8 : Int32) (H : Heap) (locs : List Loc) (ls : Array Slot), f_X1_leastFair_E48 x8 = some r_ → Wd D A s.heap [(h0, .inr (1, [.int places_, .int end_, .ref h_this_weights, .ref h_this_pulls, .int leastWeight_, .int leastCount_, .ref h_this_leastSets, .int tightCount_, .ref h_this_tightPairs])), (h_this_weights, .inl (cI, 1024, .inl weights_))] H locs → lv_has ls 4 [(2, .int x8)] → W p l e rmX1_leastFair s m ([.ref h0, .int p1] : List Value).toArray below meth c H locs 0 0 (MQ below (Qi D r_ [(h0, .inr (1, [.int places_, .int end_, .ref h_this_weights, .ref h_this_pulls, .int leastWeight_, .int leastCount_, .ref h_this_leastSets, .int tightCount_, .ref h_this_tightPairs])), (h_this_weights, .inl (cI, 1024, .inl weights_))] A) ([.ref h0, .int p1] : List Value).toArray s 0 0 A) (F0 m 48 ls []) := by
    intro x8 H locs ls h hw hl
    unfold f_X1_leastFair_E48 at h
    refine lv_iload_n hx hb dX1_leastFair_48 rfl (lv_at hl 0 rfl) ?_
    obtain rfl := oi1 h
    exact r_ret X hw hr hlk dX1_leastFair_49
  have L4 : ∀ (k5 : Int32 → Option (Int32)), (∀ (x8 : Int32) (H : Heap) (locs : List Loc) (ls : Array Slot), k5 x8 = some r_ → Wd D A s.heap [(h0, .inr (1, [.int places_, .int end_, .ref h_this_weights, .ref h_this_pulls, .int leastWeight_, .int leastCount_, .ref h_this_leastSets, .int tightCount_, .ref h_this_tightPairs])), (h_this_weights, .inl (cI, 1024, .inl weights_))] H locs → lv_has ls 4 [(2, .int x8)] → W p l e rmX1_leastFair s m ([.ref h0, .int p1] : List Value).toArray below meth c H locs 0 0 (MQ below (Qi D r_ [(h0, .inr (1, [.int places_, .int end_, .ref h_this_weights, .ref h_this_pulls, .int leastWeight_, .int leastCount_, .ref h_this_leastSets, .int tightCount_, .ref h_this_tightPairs])), (h_this_weights, .inl (cI, 1024, .inl weights_))] A) ([.ref h0, .int p1] : List Value).toArray s 0 0 A) (F0 m 48 ls [])) → ∀ (n7 : Nat), ∀ (x1 x2 : Int32) (H : Heap) (locs : List Loc) (ls : Array Slot), f_X1_leastFair_L4 end_ p1 places_ weights_ k5 n7 x1 x2 = some r_ → Wd D A s.heap [(h0, .inr (1, [.int places_, .int end_, .ref h_this_weights, .ref h_this_pulls, .int leastWeight_, .int leastCount_, .ref h_this_leastSets, .int tightCount_, .ref h_this_tightPairs])), (h_this_weights, .inl (cI, 1024, .inl weights_))] H locs → lv_has ls 4 [(0, .ref h0), (1, .int p1), (2, .int x1), (3, .int x2)] → W p l e rmX1_leastFair s m ([.ref h0, .int p1] : List Value).toArray below meth c H locs 0 0 (MQ below (Qi D r_ [(h0, .inr (1, [.int places_, .int end_, .ref h_this_weights, .ref h_this_pulls, .int leastWeight_, .int leastCount_, .ref h_this_leastSets, .int tightCount_, .ref h_this_tightPairs])), (h_this_weights, .inl (cI, 1024, .inl weights_))] A) ([.ref h0, .int p1] : List Value).toArray s 0 0 A) (F0 m 4 ls []) := by
    intro k5 hk4 n7
    induction n7 with
    | zero => intro x1 x2 H locs ls h; cases h
    | succ n7 ih4 =>
      intro x1 x2 H locs ls h hw hl
      rw [f_X1_leastFair_L4] at h
      refine lv_iload_n hx hb dX1_leastFair_4 rfl (lv_at hl 3 rfl) ?_
      refine lv_aload_n hx hb dX1_leastFair_5 rfl (lv_at hl 0 rfl) ?_
      refine fg_X1_15 X hw 0 rfl rfl dX1_leastFair_6 ?_
      refine lv_icmp_ge (tgt := 48) hx hb dX1_leastFair_9 (by decide) (fun c1 => ?_) (fun c1 => ?_)
      · replace h := ip c1 h
        exact hk4 x1 _ _ _ h hw (lv_sub hl [2] rfl)
      · replace h := ig c1 h
        refine lv_aload_n hx hb dX1_leastFair_12 rfl (lv_at hl 0 rfl) ?_
        refine lv_iload_n hx hb dX1_leastFair_13 rfl (lv_at hl 3 rfl) ?_
        refine lv_iload_n hx hb dX1_leastFair_14 rfl (lv_at hl 1 rfl) ?_
        obtain ⟨r3, hc, h⟩ := bd1_inv h
        refine r_cVi X hw (As := [.int x2, .int p1]) (rest := []) (wr := [(h_this_weights, .inl (cI, 1024, .inl weights_))]) (ws' := [(h0, .inr (1, [.int places_, .int end_, .ref h_this_weights, .ref h_this_pulls, .int leastWeight_, .int leastCount_, .ref h_this_leastSets, .int tightCount_, .ref h_this_tightPairs])), (h_this_weights, .inl (cI, 1024, .inl weights_))]) (c_X1_isFair l D cI cC cO h0 h_this_weights h_this_pulls h_this_leastSets h_this_tightPairs x2 p1 places_ end_ leastWeight_ leastCount_ tightCount_ r3 hc) (cs_X1_88 X (by decide)) [0] [1] [1, 0] rfl rfl rfl rfl (by decide) rfl rfl 0 rfl rfl rfl rfl hl.1 rfl (Nat.le_of_ble_eq_true rfl) dX1_leastFair_15 ⟨Nat.zero_le _, Nat.zero_le _⟩ (fun H locs hw => ?_)
        have J42 : ∀ (x4 : Int32) (H : Heap) (locs : List Loc) (ls : Array Slot), f_X1_leastFair_J42 (f_X1_leastFair_L4 end_ p1 places_ weights_ k5 n7) x2 x4 = some r_ → Wd D A s.heap [(h0, .inr (1, [.int places_, .int end_, .ref h_this_weights, .ref h_this_pulls, .int leastWeight_, .int leastCount_, .ref h_this_leastSets, .int tightCount_, .ref h_this_tightPairs])), (h_this_weights, .inl (cI, 1024, .inl weights_))] H locs → lv_has ls 4 [(0, .ref h0), (1, .int p1), (2, .int x4), (3, .int x2)] → W p l e rmX1_leastFair s m ([.ref h0, .int p1] : List Value).toArray below meth c H locs 0 0 (MQ below (Qi D r_ [(h0, .inr (1, [.int places_, .int end_, .ref h_this_weights, .ref h_this_pulls, .int leastWeight_, .int leastCount_, .ref h_this_leastSets, .int tightCount_, .ref h_this_tightPairs])), (h_this_weights, .inl (cI, 1024, .inl weights_))] A) ([.ref h0, .int p1] : List Value).toArray s 0 0 A) (F0 m 42 ls []) := by
          intro x4 H locs ls h hw hl
          unfold f_X1_leastFair_J42 at h
          refine lv_iinc (v := (x2 + (2 : Int32))) (lv' := [(3, .int (x2 + (2 : Int32))), (0, .ref h0), (1, .int p1), (2, .int x4)]) hx hb dX1_leastFair_42 hl (k := 3) rfl rfl (by decide) rfl (fun ls hl => ?_)
          refine lv_goto (tgt := 4) hx hb dX1_leastFair_45 (by decide) ?_
          exact ih4 x4 (x2 + (2 : Int32)) _ _ _ h hw (lv_sub hl [1, 2, 3, 0] rfl)
        refine lv_if_eq (tgt := 42) hx hb dX1_leastFair_18 (by decide) (fun c1 => ?_) (fun c1 => ?_)
        · replace h := ip c1 h
          exact J42 x1 _ _ _ h hw (lv_sub hl [0, 1, 2, 3] rfl)
        · replace h := ig c1 h
          refine lv_iload_n hx hb dX1_leastFair_21 rfl (lv_at hl 2 rfl) ?_
          refine lv_if_eq (tgt := 40) hx hb dX1_leastFair_22 (by decide) (fun c1 => ?_) (fun c1 => ?_)
          · replace h := ip c1 h
            refine lv_iload_n hx hb dX1_leastFair_40 rfl (lv_at hl 3 rfl) ?_
            refine lv_istore_n (lv' := [(2, .int x2), (0, .ref h0), (1, .int p1), (3, .int x2)]) hx hb dX1_leastFair_41 rfl hl (by decide) rfl (fun ls hl => ?_)
            exact J42 x2 _ _ _ h hw (lv_sub hl [1, 2, 0, 3] rfl)
          · replace h := ig c1 h
            refine lv_aload_n hx hb dX1_leastFair_25 rfl (lv_at hl 0 rfl) ?_
            refine fg_X1_18 X hw 0 rfl rfl dX1_leastFair_26 ?_
            refine lv_iload_n hx hb dX1_leastFair_29 rfl (lv_at hl 3 rfl) ?_
            obtain ⟨b1, h⟩ := chk_inv h
            refine r_iald X hw 1 rfl b1 rfl dX1_leastFair_30 ?_
            refine lv_aload_n hx hb dX1_leastFair_31 rfl (lv_at hl 0 rfl) ?_
            refine fg_X1_18 X hw 0 rfl rfl dX1_leastFair_32 ?_
            refine lv_iload_n hx hb dX1_leastFair_35 rfl (lv_at hl 2 rfl) ?_
            obtain ⟨b1, h⟩ := chk_inv h
            refine r_iald X hw 1 rfl b1 rfl dX1_leastFair_36 ?_
            refine lv_icmp_ge (tgt := 42) hx hb dX1_leastFair_37 (by decide) (fun c1 => ?_) (fun c1 => ?_)
            · replace h := ip c1 h
              exact J42 x1 _ _ _ h hw (lv_sub hl [0, 1, 2, 3] rfl)
            · replace h := ig c1 h
              refine lv_iload_n hx hb dX1_leastFair_40 rfl (lv_at hl 3 rfl) ?_
              refine lv_istore_n (lv' := [(2, .int x2), (0, .ref h0), (1, .int p1), (3, .int x2)]) hx hb dX1_leastFair_41 rfl hl (by decide) rfl (fun ls hl => ?_)
              exact J42 x2 _ _ _ h hw (lv_sub hl [1, 2, 0, 3] rfl)
  exact L4 (fun x8 => f_X1_leastFair_E48 x8) (fun x8 H locs ls h hw hl => E48 x8 H locs ls h hw hl) N (0 : Int32) (2 : Int32) _ _ _ h hw (lv_sub hl [2, 3, 1, 0] rfl)
def rmX1_leastBetween : Room := { frames := 2, cells := 0, slots := 0, locals := 43 }
set_option maxHeartbeats 4000000 in
set_option maxRecDepth 100000 in
theorem c_X1_leastBetween (l : Launch) (D : va_G) (cI cC cO : ClassId) (N : Nat) (h0 h_this_weights h_this_pulls h_this_leastSets h_this_tightPairs : Nat) (p1 p2 places_ end_ leastWeight_ leastCount_ tightCount_ : Int32) (weights_ : Nat → Int32) (r_ : Int32) (h : f_X1_leastBetween N p1 p2 end_ weights_ = some r_) : CI l yX1_leastBetween (Wy yX1_leastBetween cX1_leastBetween 5 (some .int)) rmX1_leastBetween D cI cC cO [.ref h0, .int p1, .int p2] [(h0, .inr (1, [.int places_, .int end_, .ref h_this_weights, .ref h_this_pulls, .int leastWeight_, .int leastCount_, .ref h_this_leastSets, .int tightCount_, .ref h_this_tightPairs])), (h_this_weights, .inl (cI, 1024, .inl weights_))] r_ [(h0, .inr (1, [.int places_, .int end_, .ref h_this_weights, .ref h_this_pulls, .int leastWeight_, .int leastCount_, .ref h_this_leastSets, .int tightCount_, .ref h_this_tightPairs])), (h_this_weights, .inl (cI, 1024, .inl weights_))] := by
  refine enter_i RX1 (by decide) rfl (Nat.le_of_ble_eq_true rfl) ?_
  intro p e s m below meth c A X hr hlk hw ls hl
  have hx := X.1.1
  have hb := X.1.2.1
  have hl : lv_has ls 5 [(0, .ref h0), (1, .int p1), (2, .int p2)] := hl
  unfold f_X1_leastBetween at h
  refine lv_iconst (v := 0) hx hb dX1_leastBetween_0 (by decide) ?_
  refine lv_istore_n (lv' := [(3, .int (0 : Int32)), (0, .ref h0), (1, .int p1), (2, .int p2)]) hx hb dX1_leastBetween_1 rfl hl (by decide) rfl (fun ls hl => ?_)
  refine lv_iconst (v := 2) hx hb dX1_leastBetween_2 (by decide) ?_
  refine lv_istore (lv' := [(4, .int (2 : Int32)), (3, .int (0 : Int32)), (0, .ref h0), (1, .int p1), (2, .int p2)]) hx hb dX1_leastBetween_3 hl (by decide) rfl (fun ls hl => ?_)
  have E53 : ∀ (x8 : Int32) (H : Heap) (locs : List Loc) (ls : Array Slot), f_X1_leastBetween_E53 x8 = some r_ → Wd D A s.heap [(h0, .inr (1, [.int places_, .int end_, .ref h_this_weights, .ref h_this_pulls, .int leastWeight_, .int leastCount_, .ref h_this_leastSets, .int tightCount_, .ref h_this_tightPairs])), (h_this_weights, .inl (cI, 1024, .inl weights_))] H locs → lv_has ls 5 [(3, .int x8)] → W p l e rmX1_leastBetween s m ([.ref h0, .int p1, .int p2] : List Value).toArray below meth c H locs 0 0 (MQ below (Qi D r_ [(h0, .inr (1, [.int places_, .int end_, .ref h_this_weights, .ref h_this_pulls, .int leastWeight_, .int leastCount_, .ref h_this_leastSets, .int tightCount_, .ref h_this_tightPairs])), (h_this_weights, .inl (cI, 1024, .inl weights_))] A) ([.ref h0, .int p1, .int p2] : List Value).toArray s 0 0 A) (F0 m 53 ls []) := by
    intro x8 H locs ls h hw hl
    unfold f_X1_leastBetween_E53 at h
    refine lv_iload_n hx hb dX1_leastBetween_53 rfl (lv_at hl 0 rfl) ?_
    obtain rfl := oi1 h
    exact r_ret X hw hr hlk dX1_leastBetween_54
  have L5 : ∀ (k5 : Int32 → Option (Int32)), (∀ (x8 : Int32) (H : Heap) (locs : List Loc) (ls : Array Slot), k5 x8 = some r_ → Wd D A s.heap [(h0, .inr (1, [.int places_, .int end_, .ref h_this_weights, .ref h_this_pulls, .int leastWeight_, .int leastCount_, .ref h_this_leastSets, .int tightCount_, .ref h_this_tightPairs])), (h_this_weights, .inl (cI, 1024, .inl weights_))] H locs → lv_has ls 5 [(3, .int x8)] → W p l e rmX1_leastBetween s m ([.ref h0, .int p1, .int p2] : List Value).toArray below meth c H locs 0 0 (MQ below (Qi D r_ [(h0, .inr (1, [.int places_, .int end_, .ref h_this_weights, .ref h_this_pulls, .int leastWeight_, .int leastCount_, .ref h_this_leastSets, .int tightCount_, .ref h_this_tightPairs])), (h_this_weights, .inl (cI, 1024, .inl weights_))] A) ([.ref h0, .int p1, .int p2] : List Value).toArray s 0 0 A) (F0 m 53 ls [])) → ∀ (n7 : Nat), ∀ (x1 x2 : Int32) (H : Heap) (locs : List Loc) (ls : Array Slot), f_X1_leastBetween_L5 end_ p1 p2 weights_ k5 n7 x1 x2 = some r_ → Wd D A s.heap [(h0, .inr (1, [.int places_, .int end_, .ref h_this_weights, .ref h_this_pulls, .int leastWeight_, .int leastCount_, .ref h_this_leastSets, .int tightCount_, .ref h_this_tightPairs])), (h_this_weights, .inl (cI, 1024, .inl weights_))] H locs → lv_has ls 5 [(0, .ref h0), (1, .int p1), (2, .int p2), (3, .int x1), (4, .int x2)] → W p l e rmX1_leastBetween s m ([.ref h0, .int p1, .int p2] : List Value).toArray below meth c H locs 0 0 (MQ below (Qi D r_ [(h0, .inr (1, [.int places_, .int end_, .ref h_this_weights, .ref h_this_pulls, .int leastWeight_, .int leastCount_, .ref h_this_leastSets, .int tightCount_, .ref h_this_tightPairs])), (h_this_weights, .inl (cI, 1024, .inl weights_))] A) ([.ref h0, .int p1, .int p2] : List Value).toArray s 0 0 A) (F0 m 5 ls []) := by
    intro k5 hk5 n7
    induction n7 with
    | zero => intro x1 x2 H locs ls h; cases h
    | succ n7 ih5 =>
      intro x1 x2 H locs ls h hw hl
      rw [f_X1_leastBetween_L5] at h
      refine lv_iload hx hb dX1_leastBetween_5 (lv_at hl 4 rfl) ?_
      refine lv_aload_n hx hb dX1_leastBetween_7 rfl (lv_at hl 0 rfl) ?_
      refine fg_X1_15 X hw 0 rfl rfl dX1_leastBetween_8 ?_
      refine lv_icmp_ge (tgt := 53) hx hb dX1_leastBetween_11 (by decide) (fun c1 => ?_) (fun c1 => ?_)
      · replace h := ip c1 h
        exact hk5 x1 _ _ _ h hw (lv_sub hl [3] rfl)
      · replace h := ig c1 h
        refine lv_iload hx hb dX1_leastBetween_14 (lv_at hl 4 rfl) ?_
        refine lv_iload_n hx hb dX1_leastBetween_16 rfl (lv_at hl 1 rfl) ?_
        refine lv_iload_n hx hb dX1_leastBetween_17 rfl (lv_at hl 2 rfl) ?_
        obtain ⟨r3, hc, h⟩ := bd1_inv h
        refine r_cNi X hw (As := [.int x2, .int p1, .int p2]) (rest := []) (c_X5_parts l D cI cC cO x2 p1 p2 r3 hc) (cs_X1_72 X (by decide)) rfl hl.1 rfl (Nat.le_of_ble_eq_true rfl) dX1_leastBetween_18 ⟨Nat.zero_le _, Nat.zero_le _⟩ (fun H locs hw => ?_)
        have J47 : ∀ (x4 : Int32) (H : Heap) (locs : List Loc) (ls : Array Slot), f_X1_leastBetween_J47 (f_X1_leastBetween_L5 end_ p1 p2 weights_ k5 n7) x2 x4 = some r_ → Wd D A s.heap [(h0, .inr (1, [.int places_, .int end_, .ref h_this_weights, .ref h_this_pulls, .int leastWeight_, .int leastCount_, .ref h_this_leastSets, .int tightCount_, .ref h_this_tightPairs])), (h_this_weights, .inl (cI, 1024, .inl weights_))] H locs → lv_has ls 5 [(0, .ref h0), (1, .int p1), (2, .int p2), (3, .int x4), (4, .int x2)] → W p l e rmX1_leastBetween s m ([.ref h0, .int p1, .int p2] : List Value).toArray below meth c H locs 0 0 (MQ below (Qi D r_ [(h0, .inr (1, [.int places_, .int end_, .ref h_this_weights, .ref h_this_pulls, .int leastWeight_, .int leastCount_, .ref h_this_leastSets, .int tightCount_, .ref h_this_tightPairs])), (h_this_weights, .inl (cI, 1024, .inl weights_))] A) ([.ref h0, .int p1, .int p2] : List Value).toArray s 0 0 A) (F0 m 47 ls []) := by
          intro x4 H locs ls h hw hl
          unfold f_X1_leastBetween_J47 at h
          refine lv_iinc (v := (x2 + (2 : Int32))) (lv' := [(4, .int (x2 + (2 : Int32))), (0, .ref h0), (1, .int p1), (2, .int p2), (3, .int x4)]) hx hb dX1_leastBetween_47 hl (k := 4) rfl rfl (by decide) rfl (fun ls hl => ?_)
          refine lv_goto (tgt := 5) hx hb dX1_leastBetween_50 (by decide) ?_
          exact ih5 x4 (x2 + (2 : Int32)) _ _ _ h hw (lv_sub hl [1, 2, 3, 4, 0] rfl)
        refine lv_if_eq (tgt := 47) hx hb dX1_leastBetween_21 (by decide) (fun c1 => ?_) (fun c1 => ?_)
        · replace h := ip c1 h
          exact J47 x1 _ _ _ h hw (lv_sub hl [0, 1, 2, 3, 4] rfl)
        · replace h := ig c1 h
          refine lv_iload_n hx hb dX1_leastBetween_24 rfl (lv_at hl 3 rfl) ?_
          refine lv_if_eq (tgt := 44) hx hb dX1_leastBetween_25 (by decide) (fun c1 => ?_) (fun c1 => ?_)
          · replace h := ip c1 h
            refine lv_iload hx hb dX1_leastBetween_44 (lv_at hl 4 rfl) ?_
            refine lv_istore_n (lv' := [(3, .int x2), (0, .ref h0), (1, .int p1), (2, .int p2), (4, .int x2)]) hx hb dX1_leastBetween_46 rfl hl (by decide) rfl (fun ls hl => ?_)
            exact J47 x2 _ _ _ h hw (lv_sub hl [1, 2, 3, 0, 4] rfl)
          · replace h := ig c1 h
            refine lv_aload_n hx hb dX1_leastBetween_28 rfl (lv_at hl 0 rfl) ?_
            refine fg_X1_18 X hw 0 rfl rfl dX1_leastBetween_29 ?_
            refine lv_iload hx hb dX1_leastBetween_32 (lv_at hl 4 rfl) ?_
            obtain ⟨b1, h⟩ := chk_inv h
            refine r_iald X hw 1 rfl b1 rfl dX1_leastBetween_34 ?_
            refine lv_aload_n hx hb dX1_leastBetween_35 rfl (lv_at hl 0 rfl) ?_
            refine fg_X1_18 X hw 0 rfl rfl dX1_leastBetween_36 ?_
            refine lv_iload_n hx hb dX1_leastBetween_39 rfl (lv_at hl 3 rfl) ?_
            obtain ⟨b1, h⟩ := chk_inv h
            refine r_iald X hw 1 rfl b1 rfl dX1_leastBetween_40 ?_
            refine lv_icmp_ge (tgt := 47) hx hb dX1_leastBetween_41 (by decide) (fun c1 => ?_) (fun c1 => ?_)
            · replace h := ip c1 h
              exact J47 x1 _ _ _ h hw (lv_sub hl [0, 1, 2, 3, 4] rfl)
            · replace h := ig c1 h
              refine lv_iload hx hb dX1_leastBetween_44 (lv_at hl 4 rfl) ?_
              refine lv_istore_n (lv' := [(3, .int x2), (0, .ref h0), (1, .int p1), (2, .int p2), (4, .int x2)]) hx hb dX1_leastBetween_46 rfl hl (by decide) rfl (fun ls hl => ?_)
              exact J47 x2 _ _ _ h hw (lv_sub hl [1, 2, 3, 0, 4] rfl)
  exact L5 (fun x8 => f_X1_leastBetween_E53 x8) (fun x8 H locs ls h hw hl => E53 x8 H locs ls h hw hl) N (0 : Int32) (2 : Int32) _ _ _ h hw (lv_sub hl [2, 3, 4, 1, 0] rfl)
def rmX1_leastWeightWith : Room := { frames := 2, cells := 0, slots := 0, locals := 43 }
set_option maxHeartbeats 4000000 in
set_option maxRecDepth 100000 in
theorem c_X1_leastWeightWith (l : Launch) (D : va_G) (cI cC cO : ClassId) (N : Nat) (h0 h_this_weights h_this_pulls h_this_leastSets h_this_tightPairs : Nat) (p1 p2 p3 places_ end_ leastWeight_ leastCount_ tightCount_ : Int32) (weights_ : Nat → Int32) (r_ : Int32) (h : f_X1_leastWeightWith N p1 p2 p3 end_ weights_ = some r_) : CI l yX1_leastWeightWith (Wy yX1_leastWeightWith cX1_leastWeightWith 7 (some .int)) rmX1_leastWeightWith D cI cC cO [.ref h0, .int p1, .int p2, .int p3] [(h0, .inr (1, [.int places_, .int end_, .ref h_this_weights, .ref h_this_pulls, .int leastWeight_, .int leastCount_, .ref h_this_leastSets, .int tightCount_, .ref h_this_tightPairs])), (h_this_weights, .inl (cI, 1024, .inl weights_))] r_ [(h0, .inr (1, [.int places_, .int end_, .ref h_this_weights, .ref h_this_pulls, .int leastWeight_, .int leastCount_, .ref h_this_leastSets, .int tightCount_, .ref h_this_tightPairs])), (h_this_weights, .inl (cI, 1024, .inl weights_))] := by
  refine enter_i RX1 (by decide) rfl (Nat.le_of_ble_eq_true rfl) ?_
  intro p e s m below meth c A X hr hlk hw ls hl
  have hx := X.1.1
  have hb := X.1.2.1
  have hl : lv_has ls 7 [(0, .ref h0), (1, .int p1), (2, .int p2), (3, .int p3)] := hl
  unfold f_X1_leastWeightWith at h
  refine lv_iconst (v := -1) hx hb dX1_leastWeightWith_0 (by decide) ?_
  refine lv_istore (lv' := [(4, .int (-1 : Int32)), (0, .ref h0), (1, .int p1), (2, .int p2), (3, .int p3)]) hx hb dX1_leastWeightWith_1 hl (by decide) rfl (fun ls hl => ?_)
  refine lv_iconst (v := 2) hx hb dX1_leastWeightWith_3 (by decide) ?_
  refine lv_istore (lv' := [(5, .int (2 : Int32)), (4, .int (-1 : Int32)), (0, .ref h0), (1, .int p1), (2, .int p2), (3, .int p3)]) hx hb dX1_leastWeightWith_4 hl (by decide) rfl (fun ls hl => ?_)
  have E68 : ∀ (x9 : Int32) (H : Heap) (locs : List Loc) (ls : Array Slot), f_X1_leastWeightWith_E68 x9 = some r_ → Wd D A s.heap [(h0, .inr (1, [.int places_, .int end_, .ref h_this_weights, .ref h_this_pulls, .int leastWeight_, .int leastCount_, .ref h_this_leastSets, .int tightCount_, .ref h_this_tightPairs])), (h_this_weights, .inl (cI, 1024, .inl weights_))] H locs → lv_has ls 7 [(4, .int x9)] → W p l e rmX1_leastWeightWith s m ([.ref h0, .int p1, .int p2, .int p3] : List Value).toArray below meth c H locs 0 0 (MQ below (Qi D r_ [(h0, .inr (1, [.int places_, .int end_, .ref h_this_weights, .ref h_this_pulls, .int leastWeight_, .int leastCount_, .ref h_this_leastSets, .int tightCount_, .ref h_this_tightPairs])), (h_this_weights, .inl (cI, 1024, .inl weights_))] A) ([.ref h0, .int p1, .int p2, .int p3] : List Value).toArray s 0 0 A) (F0 m 68 ls []) := by
    intro x9 H locs ls h hw hl
    unfold f_X1_leastWeightWith_E68 at h
    refine lv_iload hx hb dX1_leastWeightWith_68 (lv_at hl 0 rfl) ?_
    obtain rfl := oi1 h
    exact r_ret X hw hr hlk dX1_leastWeightWith_70
  have L6 : ∀ (k6 : Int32 → Option (Int32)), (∀ (x9 : Int32) (H : Heap) (locs : List Loc) (ls : Array Slot), k6 x9 = some r_ → Wd D A s.heap [(h0, .inr (1, [.int places_, .int end_, .ref h_this_weights, .ref h_this_pulls, .int leastWeight_, .int leastCount_, .ref h_this_leastSets, .int tightCount_, .ref h_this_tightPairs])), (h_this_weights, .inl (cI, 1024, .inl weights_))] H locs → lv_has ls 7 [(4, .int x9)] → W p l e rmX1_leastWeightWith s m ([.ref h0, .int p1, .int p2, .int p3] : List Value).toArray below meth c H locs 0 0 (MQ below (Qi D r_ [(h0, .inr (1, [.int places_, .int end_, .ref h_this_weights, .ref h_this_pulls, .int leastWeight_, .int leastCount_, .ref h_this_leastSets, .int tightCount_, .ref h_this_tightPairs])), (h_this_weights, .inl (cI, 1024, .inl weights_))] A) ([.ref h0, .int p1, .int p2, .int p3] : List Value).toArray s 0 0 A) (F0 m 68 ls [])) → ∀ (n8 : Nat), ∀ (x1 x2 : Int32) (H : Heap) (locs : List Loc) (ls : Array Slot), f_X1_leastWeightWith_L6 end_ p1 p2 weights_ p3 k6 n8 x1 x2 = some r_ → Wd D A s.heap [(h0, .inr (1, [.int places_, .int end_, .ref h_this_weights, .ref h_this_pulls, .int leastWeight_, .int leastCount_, .ref h_this_leastSets, .int tightCount_, .ref h_this_tightPairs])), (h_this_weights, .inl (cI, 1024, .inl weights_))] H locs → lv_has ls 7 [(0, .ref h0), (1, .int p1), (2, .int p2), (3, .int p3), (4, .int x1), (5, .int x2)] → W p l e rmX1_leastWeightWith s m ([.ref h0, .int p1, .int p2, .int p3] : List Value).toArray below meth c H locs 0 0 (MQ below (Qi D r_ [(h0, .inr (1, [.int places_, .int end_, .ref h_this_weights, .ref h_this_pulls, .int leastWeight_, .int leastCount_, .ref h_this_leastSets, .int tightCount_, .ref h_this_tightPairs])), (h_this_weights, .inl (cI, 1024, .inl weights_))] A) ([.ref h0, .int p1, .int p2, .int p3] : List Value).toArray s 0 0 A) (F0 m 6 ls []) := by
    intro k6 hk6 n8
    induction n8 with
    | zero => intro x1 x2 H locs ls h; cases h
    | succ n8 ih6 =>
      intro x1 x2 H locs ls h hw hl
      rw [f_X1_leastWeightWith_L6] at h
      refine lv_iload hx hb dX1_leastWeightWith_6 (lv_at hl 5 rfl) ?_
      refine lv_aload_n hx hb dX1_leastWeightWith_8 rfl (lv_at hl 0 rfl) ?_
      refine fg_X1_15 X hw 0 rfl rfl dX1_leastWeightWith_9 ?_
      refine lv_icmp_ge (tgt := 68) hx hb dX1_leastWeightWith_12 (by decide) (fun c1 => ?_) (fun c1 => ?_)
      · replace h := ip c1 h
        exact hk6 x1 _ _ _ h hw (lv_sub hl [4] rfl)
      · replace h := ig c1 h
        refine lv_iload hx hb dX1_leastWeightWith_15 (lv_at hl 5 rfl) ?_
        refine lv_iload_n hx hb dX1_leastWeightWith_17 rfl (lv_at hl 1 rfl) ?_
        refine lv_iload_n hx hb dX1_leastWeightWith_18 rfl (lv_at hl 2 rfl) ?_
        obtain ⟨r3, hc, h⟩ := bd1_inv h
        refine r_cNi X hw (As := [.int x2, .int p1, .int p2]) (rest := []) (c_X5_parts l D cI cC cO x2 p1 p2 r3 hc) (cs_X1_72 X (by decide)) rfl hl.1 rfl (Nat.le_of_ble_eq_true rfl) dX1_leastWeightWith_19 ⟨Nat.zero_le _, Nat.zero_le _⟩ (fun H locs hw => ?_)
        have J44 : ∀ (x4 : Int32) (H : Heap) (locs : List Loc) (ls : Array Slot), f_X1_leastWeightWith_J44 x1 (f_X1_leastWeightWith_L6 end_ p1 p2 weights_ p3 k6 n8) x2 x4 = some r_ → Wd D A s.heap [(h0, .inr (1, [.int places_, .int end_, .ref h_this_weights, .ref h_this_pulls, .int leastWeight_, .int leastCount_, .ref h_this_leastSets, .int tightCount_, .ref h_this_tightPairs])), (h_this_weights, .inl (cI, 1024, .inl weights_))] H locs → lv_has ls 7 [(0, .ref h0), (1, .int p1), (2, .int p2), (3, .int p3), (4, .int x1), (5, .int x2)] → W p l e rmX1_leastWeightWith s m ([.ref h0, .int p1, .int p2, .int p3] : List Value).toArray below meth c H locs 0 0 (MQ below (Qi D r_ [(h0, .inr (1, [.int places_, .int end_, .ref h_this_weights, .ref h_this_pulls, .int leastWeight_, .int leastCount_, .ref h_this_leastSets, .int tightCount_, .ref h_this_tightPairs])), (h_this_weights, .inl (cI, 1024, .inl weights_))] A) ([.ref h0, .int p1, .int p2, .int p3] : List Value).toArray s 0 0 A) (F0 m 44 ls [.int x4]) := by
          intro x4 H locs ls h hw hl
          unfold f_X1_leastWeightWith_J44 at h
          refine lv_istore (lv' := [(6, .int x4), (0, .ref h0), (1, .int p1), (2, .int p2), (3, .int p3), (4, .int x1), (5, .int x2)]) hx hb dX1_leastWeightWith_44 hl (by decide) rfl (fun ls hl => ?_)
          refine lv_iload hx hb dX1_leastWeightWith_46 (lv_at hl 5 rfl) ?_
          have J62 : ∀ (x5 : Int32) (H : Heap) (locs : List Loc) (ls : Array Slot), f_X1_leastWeightWith_J62 (f_X1_leastWeightWith_L6 end_ p1 p2 weights_ p3 k6 n8) x2 x5 = some r_ → Wd D A s.heap [(h0, .inr (1, [.int places_, .int end_, .ref h_this_weights, .ref h_this_pulls, .int leastWeight_, .int leastCount_, .ref h_this_leastSets, .int tightCount_, .ref h_this_tightPairs])), (h_this_weights, .inl (cI, 1024, .inl weights_))] H locs → lv_has ls 7 [(0, .ref h0), (1, .int p1), (2, .int p2), (3, .int p3), (4, .int x5), (5, .int x2)] → W p l e rmX1_leastWeightWith s m ([.ref h0, .int p1, .int p2, .int p3] : List Value).toArray below meth c H locs 0 0 (MQ below (Qi D r_ [(h0, .inr (1, [.int places_, .int end_, .ref h_this_weights, .ref h_this_pulls, .int leastWeight_, .int leastCount_, .ref h_this_leastSets, .int tightCount_, .ref h_this_tightPairs])), (h_this_weights, .inl (cI, 1024, .inl weights_))] A) ([.ref h0, .int p1, .int p2, .int p3] : List Value).toArray s 0 0 A) (F0 m 62 ls []) := by
            intro x5 H locs ls h hw hl
            unfold f_X1_leastWeightWith_J62 at h
            refine lv_iinc (v := (x2 + (2 : Int32))) (lv' := [(5, .int (x2 + (2 : Int32))), (0, .ref h0), (1, .int p1), (2, .int p2), (3, .int p3), (4, .int x5)]) hx hb dX1_leastWeightWith_62 hl (k := 5) rfl rfl (by decide) rfl (fun ls hl => ?_)
            refine lv_goto (tgt := 6) hx hb dX1_leastWeightWith_65 (by decide) ?_
            exact ih6 x5 (x2 + (2 : Int32)) _ _ _ h hw (lv_sub hl [1, 2, 3, 4, 5, 0] rfl)
          refine lv_if_lt (tgt := 58) hx hb dX1_leastWeightWith_48 (by decide) (fun c1 => ?_) (fun c1 => ?_)
          · replace h := ip c1 h
            refine lv_iload hx hb dX1_leastWeightWith_58 (lv_at hl 0 rfl) ?_
            refine lv_istore (lv' := [(4, .int x4), (6, .int x4), (0, .ref h0), (1, .int p1), (2, .int p2), (3, .int p3), (5, .int x2)]) hx hb dX1_leastWeightWith_60 hl (by decide) rfl (fun ls hl => ?_)
            exact J62 x4 _ _ _ h hw (lv_sub hl [2, 3, 4, 5, 0, 6] rfl)
          · replace h := ig c1 h
            refine lv_iload hx hb dX1_leastWeightWith_51 (lv_at hl 0 rfl) ?_
            refine lv_iload hx hb dX1_leastWeightWith_53 (lv_at hl 5 rfl) ?_
            refine lv_icmp_ge (tgt := 62) hx hb dX1_leastWeightWith_55 (by decide) (fun c1 => ?_) (fun c1 => ?_)
            · replace h := ip c1 h
              exact J62 x1 _ _ _ h hw (lv_sub hl [1, 2, 3, 4, 5, 6] rfl)
            · replace h := ig c1 h
              refine lv_iload hx hb dX1_leastWeightWith_58 (lv_at hl 0 rfl) ?_
              refine lv_istore (lv' := [(4, .int x4), (6, .int x4), (0, .ref h0), (1, .int p1), (2, .int p2), (3, .int p3), (5, .int x2)]) hx hb dX1_leastWeightWith_60 hl (by decide) rfl (fun ls hl => ?_)
              exact J62 x4 _ _ _ h hw (lv_sub hl [2, 3, 4, 5, 0, 6] rfl)
        refine lv_if_eq (tgt := 37) hx hb dX1_leastWeightWith_22 (by decide) (fun c1 => ?_) (fun c1 => ?_)
        · replace h := ip c1 h
          refine lv_aload_n hx hb dX1_leastWeightWith_37 rfl (lv_at hl 0 rfl) ?_
          refine fg_X1_18 X hw 0 rfl rfl dX1_leastWeightWith_38 ?_
          refine lv_iload hx hb dX1_leastWeightWith_41 (lv_at hl 5 rfl) ?_
          obtain ⟨b1, h⟩ := chk_inv h
          refine r_iald X hw 1 rfl b1 rfl dX1_leastWeightWith_43 ?_
          exact J44 (weights_ (x2).toNatClampNeg) _ _ _ h hw (lv_sub hl [0, 1, 2, 3, 4, 5] rfl)
        · replace h := ig c1 h
          refine lv_aload_n hx hb dX1_leastWeightWith_25 rfl (lv_at hl 0 rfl) ?_
          refine fg_X1_18 X hw 0 rfl rfl dX1_leastWeightWith_26 ?_
          refine lv_iload hx hb dX1_leastWeightWith_29 (lv_at hl 5 rfl) ?_
          obtain ⟨b1, h⟩ := chk_inv h
          refine r_iald X hw 1 rfl b1 rfl dX1_leastWeightWith_31 ?_
          refine lv_iload_n hx hb dX1_leastWeightWith_32 rfl (lv_at hl 3 rfl) ?_
          refine lv_iadd hx hb dX1_leastWeightWith_33 ?_
          refine lv_goto (tgt := 44) hx hb dX1_leastWeightWith_34 (by decide) ?_
          exact J44 ((weights_ (x2).toNatClampNeg) + p3) _ _ _ h hw (lv_sub hl [0, 1, 2, 3, 4, 5] rfl)
  exact L6 (fun x9 => f_X1_leastWeightWith_E68 x9) (fun x9 H locs ls h hw hl => E68 x9 H locs ls h hw hl) N (-1 : Int32) (2 : Int32) _ _ _ h hw (lv_sub hl [2, 3, 4, 5, 1, 0] rfl)
