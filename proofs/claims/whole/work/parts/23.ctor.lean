def CN (l : Launch) (y : MethodName) (ws : List Cond) (rm : Room) (D : va_G) (cI cC cO : ClassId) (args : List Value) (w0 : va_W) (w1 : (Nat → Nat) → va_W) (mc ms : Nat) : Prop := ∀ sz, Met l y ws rm (Pre D cI cC cO args w0 sz) (va_Qv (fun (_ : Nat → Nat) => True) (fun u t => va_P D classes (w1 u) t.heap ∧ va_D (va_A w0 sz) (w1 u)) (va_A w0 sz)) mc ms (va_A w0 sz)
def f4 (a b c d : Nat) : Nat → Nat := fun k => match k with
  | 0 => a
  | 1 => b
  | 2 => c
  | _ => d
theorem hst_mk (a b c d : Nat) : va_up (va_up (va_up (va_up (fun _ => none) 0 (some a)) 1 (some b)) 2 (some c)) 3 (some d) = hst (f4 a b c d) := by
  funext k
  unfold va_up hst
  by_cases h0 : k = 0
  · subst h0; rfl
  by_cases h1 : k = 1
  · subst h1; rfl
  by_cases h2 : k = 2
  · subst h2; rfl
  by_cases h3 : k = 3
  · subst h3; rfl
  rw [if_neg h3, if_neg h2, if_neg h1, if_neg h0, if_neg (by omega)]
section CR
variable {p : Program} {l : Launch} {e : Env} {R : Room} {s : State} {m : MethodId} {args : Array Value} {below : List Frame} {meth : Method} {c : Code} {H : Heap} {locs : List Loc} {cells slots : Nat} {Q : State → Prop}
variable {cc : ByteArray} {pc nL : Nat} {ls : Array Slot} {rest st0 : List Value} {own : String} {D : va_G} {cI cC cO : ClassId} {A : Nat → Prop} {ws : va_W} {H0 : Heap}
theorem r_oinit (X : Ctx p m c cc nL s args own D cI cC cO) (hsz : ls.size = nL) {idx a : Nat} (hlk : Cond.methodLink own idx objectInit ∈ aw) (hdg : decode cc pc = .ok (.invokespecial idx, 3)) (hfr : 1 ≤ R.frames) (hlo : 2 * (F0 m pc ls (.ref a :: rest)).monitorRoom + (rest.map fun v => v.category).sum + 12 ≤ R.locals) (kk : W p l e R s m args below meth c H locs cells slots Q (F0 m (pc + 3) ls rest)) : W p l e R s m args below meth c H locs cells slots Q (F0 m pc ls (.ref a :: rest)) :=
  W.objInit X.1.1 X.1.2.1 X.1.2.2.2.1 (X.1.2.2.2.2 _ hlk) (X.1.2.2.2.2 _ tw_17) (X.1.2.2.2.2 _ tw_18) rfl (hsz.trans X.1.2.2.1.symm) rfl hdg hfr hlo kk
theorem r_putF (X : Ctx p m c cc nL s args own D cI cC cO) (hw : Wd D A H0 ws H locs) (hin2 : meth.name = "<init>") {C ref : String} {T : u_T} {N ci index k : Nat} (hin : ∀ w ∈ u_ws C T N, w ∈ aw) (ty0 : Nat → FieldType) (hty : ∀ k, k < N → parseFieldDescriptor (T k).2.2.1 = some (ty0 k)) (hnm : ∀ a, a < N → ∀ b, b < N → a ≠ b → (T a).2.1 ≠ (T b).2.1) (hc : classes[ci]? = some (C, T, N)) (hk : k < N) (href : (T k).1 = ref) (hdecl : (T k).1 = own) (hl : Cond.fieldLink own index ref (T k).2.1 (T k).2.2.1 ∈ aw) (hfin : (T k).2.2.2 = true) (q0 : Nat) {a : Nat} {fs : List Value} {v v0 : Value} (he : ws[q0]? = some (a, .inr (ci, fs))) (hv : fs[k]? = some v0) (hn : narrow (ty0 k) v = v) (hfit : fits (ty0 k) v = true) (hdg : decode cc pc = .ok (.putfield index, 3))
    (kk : ∀ (H1 : Heap) (locs1 : List Loc), Wd D A H0 (ws.set q0 (a, .inr (ci, fs.set k v))) H1 locs1 → W p l e R s m args below meth c H1 locs1 cells slots Q (F0 m (pc + 3) ls rest)) : W p l e R s m args below meth c H locs cells slots Q (F0 m pc ls (v :: .ref a :: rest)) :=
  va_putF X.1.1 X.1.2.1 X.1.2.2.2.2 hin ty0 hty hnm X.1.2.2.2.1 X.2.1 hw.1 hw.2.1 hw.2.2.1 q0 he hc k hk (X.1.2.2.2.2 _ hl) (fun _ h9 => by rw [← href]; exact h9) hfin hin2 hdecl (hty k hk) hn hfit (List.getElem?_eq_some_iff.mp hv).1 hdg (fun H1 locs1 h1 h2 h3 => kk H1 locs1 ⟨h1, h2, h3, hw.2.2.2⟩)
theorem r_newi (X : Ctx p m c cc nL s args own D cI cC cO) (hw : Wd D A H0 ws H locs) {n : Int32} {N' : Nat} (hn : ¬ n < 0) (hN : n.toNatClampNeg = N') (hby : N' * componentBytes .int ≤ 536870912) (hcells : cells + 1 ≤ R.cells) (hslots : slots + N' ≤ R.slots) (hdg : decode cc pc = .ok (.newarray .int, 2))
    (kk : ∀ (q : Nat) (H1 : Heap), Wd D A H0 (ws ++ [(q, .inl (cI, N', .inl (fun _ => 0)))]) H1 locs → W p l e R s m args below meth c H1 locs (cells + 1) (slots + N') Q (F0 m (pc + 2) ls (.ref q :: rest))) : W p l e R s m args below meth c H locs cells slots Q (F0 m pc ls (.int n :: rest)) := by
  refine va_newa (atype := .int) (ty := .int) (a0 := (N', .inl (fun _ => 0))) X.1.1 X.1.2.1 (X.1.2.2.2.2 _ tw_39) rfl X.2.1 hw.1 hw.2.1 hw.2.2.1 hw.2.2.2 (fun cA => rfl) hn hN hby hcells hslots hdg (fun q cA H1 hK hP hD hS => ?_)
  have e1 := (hK.2 3 _ rfl).2
  have e2 := (X.2.1.2 0 _ rfl).2
  have e3 : cA = cI := Option.some.inj (e1.symm.trans e2)
  subst e3
  exact kk q H1 ⟨hP, hD, hS, hw.2.2.2⟩
theorem r_newc (X : Ctx p m c cc nL s args own D cI cC cO) (hw : Wd D A H0 ws H locs) {n : Int32} {N' : Nat} (hn : ¬ n < 0) (hN : n.toNatClampNeg = N') (hby : N' * componentBytes .char ≤ 536870912) (hcells : cells + 1 ≤ R.cells) (hslots : slots + N' ≤ R.slots) (hdg : decode cc pc = .ok (.newarray .char, 2))
    (kk : ∀ (q : Nat) (H1 : Heap), Wd D A H0 (ws ++ [(q, .inl (cC, N', .inl (fun _ => 0)))]) H1 locs → W p l e R s m args below meth c H1 locs (cells + 1) (slots + N') Q (F0 m (pc + 2) ls (.ref q :: rest))) : W p l e R s m args below meth c H locs cells slots Q (F0 m pc ls (.int n :: rest)) := by
  refine va_newa (atype := .char) (ty := .char) (a0 := (N', .inl (fun _ => 0))) X.1.1 X.1.2.1 (X.1.2.2.2.2 _ tw_80) rfl X.2.1 hw.1 hw.2.1 hw.2.2.1 hw.2.2.2 (fun cA => rfl) hn hN hby hcells hslots hdg (fun q cA H1 hK hP hD hS => ?_)
  have e1 := (hK.2 3 _ rfl).2
  have e2 := (X.2.1.2 1 _ rfl).2
  have e3 : cA = cC := Option.some.inj (e1.symm.trans e2)
  subst e3
  exact kk q H1 ⟨hP, hD, hS, hw.2.2.2⟩
theorem r_newq (X : Ctx p m c cc nL s args own D cI cC cO) (hw : Wd D A H0 ws H locs) {index : Nat} (hlk : Cond.classLink own index "PartedWebs$Web" ∈ aw) {n : Int32} {N' : Nat} (hn : ¬ n < 0) (hN : n.toNatClampNeg = N') (hby : N' * 4 ≤ 536870912) (hcells : cells + 1 ≤ R.cells) (hslots : slots + N' ≤ R.slots) (hdg : decode cc pc = .ok (.anewarray index, 3))
    (kk : ∀ (q : Nat) (H1 : Heap), Wd D A H0 (ws ++ [(q, .inl (cO, N', .inr (.inr (.inr (.inr (fun _ => none))))))]) H1 locs → W p l e R s m args below meth c H1 locs (cells + 1) (slots + N') Q (F0 m (pc + 3) ls (.ref q :: rest))) : W p l e R s m args below meth c H locs cells slots Q (F0 m pc ls (.int n :: rest)) := by
  refine va_newq X.1.1 X.1.2.1 X.1.2.2.2.1 (X.1.2.2.2.2 _ hlk) X.2.2.2 X.2.1 hw.1 hw.2.1 hw.2.2.1 hw.2.2.2 hn hN hby hcells hslots hdg (fun q cA H1 hK hP hD hS => ?_)
  obtain ⟨kA, comp, a1, a2, a3, a4⟩ := (hK.2 3 _ rfl).2
  obtain ⟨kB, comp2, b1, b2, b3, b4⟩ := (X.2.1.2 2 _ rfl).2
  have e3 : cA = cO := Option.some.inj (a4.symm.trans b4)
  subst e3
  exact kk q H1 ⟨hP, hD, hS, hw.2.2.2⟩
theorem r_new (X : Ctx p m c cc nL s args own D cI cC cO) (hw : Wd D A H0 ws H locs) {C : String} {T : u_T} {N ci index : Nat} (hin : ∀ w ∈ u_ws C T N, w ∈ aw) (ty : Nat → FieldType) (hty : ∀ k, k < N → parseFieldDescriptor (T k).2.2.1 = some (ty k)) (hcl : Cond.classLink own index C ∈ aw) (hinst : Cond.instantiable C N ∈ aw) (hini : Cond.initialized C ∈ aw) (hc : classes[ci]? = some (C, T, N)) {fs : List Value} (hfs : ∀ j, j < N → defaultValue (ty j) = vp_V fs j) (hcells : cells + 1 ≤ R.cells) (hslots : slots + N ≤ R.slots) (hdg : decode cc pc = .ok (.new index, 3))
    (kk : ∀ (q : Nat) (H1 : Heap), Wd D A H0 (ws ++ [(q, .inr (ci, fs))]) H1 locs → W p l e R s m args below meth c H1 locs (cells + 1) (slots + N) Q (F0 m (pc + 3) ls (.ref q :: rest))) : W p l e R s m args below meth c H locs cells slots Q (F0 m pc ls rest) :=
  va_new X.1.1 X.1.2.1 X.1.2.2.2.2 hin ty hty X.1.2.2.2.1 (X.1.2.2.2.2 _ hcl) (X.1.2.2.2.2 _ hinst) (X.1.2.2.2.2 _ hini) X.2.1 hw.1 hw.2.1 hw.2.2.1 hw.2.2.2 hc hfs hcells hslots hdg (fun q H1 hP hD hS => kk q H1 ⟨hP, hD, hS, hw.2.2.2⟩)
/-- a constructor's call: the new cells' addresses come as u -/
theorem r_cN (X : Ctx p m c cc nL s args own D cI cC cO) (hw : Wd D A H0 ws H locs) {y : MethodName} {bytes : ByteArray} {maxL index mc ms : Nat} {rm : Room} {b : Addr} {wc wr : va_W} {w1 : (Nat → Nat) → va_W}
    (hM : CN l y (Wy y bytes maxL none) rm D cI cC cO [.ref b] wc w1 mc ms) (cw : CallB R s args own index y bytes maxL none (Wy y bytes maxL none) rm mc ms 0 ∧ y.name = "<init>" ∧ (Cond.instanceMethod y).before args s = true) (isC isR : List Nat) (hC : isC.map (fun i => ws[i]?) = wc.map some) (hR : isR.map (fun i => ws[i]?) = wr.map some) (hnC : va_nd isC = true) (hnR : va_nd isR = true) (hdis : ∀ i ∈ isR, i ∉ isC)
    (hsize : ls.size = nL) (hst : st0 = .ref b :: rest) (hroom : (rest.map fun v => v.category).sum ≤ 8) (hdg : decode cc pc = .ok (.invokespecial index, 3)) (hf : cells + mc ≤ R.cells ∧ slots + ms ≤ R.slots)
    (kk : ∀ (u : Nat → Nat) (H1 : Heap) (locs1 : List Loc), Wd D A H0 (wr ++ w1 u) H1 locs1 → W p l e R s m args below meth c H1 locs1 (cells + mc) (slots + ms) Q (F0 m (pc + 3) ls rest)) : W p l e R s m args below meth c H locs cells slots Q (F0 m pc ls st0) := by
  subst hst
  have hF := va_free (wc := wc) hw.2.1 hw.2.2.1 hw.2.2.2 isC hC
  refine va_callv (va_runI (As := []) (rest := rest) X.1 (hM H.size) cw ⟨Pre.blind, hw.pre X.2 isC hC hnC⟩ rfl rfl hsize rfl (lv_room hroom) hdg hf) hw.2.2.1 (fun q _ h => hF q h) hF (fun u t H1 locs1 ht hvm hr hB hz1 hk1 hS => ?_)
  rw [ht] at hB
  obtain ⟨hP, hD⟩ := va_join (wr := wr) (w1 := w1 u) hw.1 hw.2.1 isC isR hC hR hnR hdis hk1 hF hB.1 hB.2
  exact kk u H1 locs1 ⟨hP, hD, hS, hw.2.2.2⟩
theorem r_retn (X : Ctx p m c cc nL s args own D cI cC cO) {w1 : (Nat → Nat) → va_W} (u : Nat → Nat) (hw : Wd D A s.heap (w1 u) H locs) (hr : meth.sig.returnType = none) (hlk : meth.locks = false) (hdg : decode cc pc = .ok (.return_, 1)) : W p l e R s m args below meth c H locs cells slots (MQ below (va_Qv (fun (_ : Nat → Nat) => True) (fun u t => va_P D classes (w1 u) t.heap ∧ va_D A (w1 u)) A) args s cells slots A) (F0 m pc ls []) :=
  W.vret X.1.1 X.1.2.1 hr (fun t ht _ => ⟨⟨u, rfl, trivial, by rw [ht]; exact hw.1, hw.2.1⟩, hw.2.2.1.F ht⟩) hw.2.2.1.2.2 hdg hlk
end CR
theorem enter_n {l : Launch} {y : MethodName} {cc : ByteArray} {nL mc ms : Nat} {rm : Room} {D : va_G} {cI cC cO : ClassId} {av : List Value} {w0 : va_W} {w1 : (Nat → Nat) → va_W} (own : String) (hy : plainName y.cls = true) (hown : y.cls = own) (hlen : (lg_sl av).length ≤ nL)
    (body : ∀ p e s m below meth c (A : Nat → Prop), Ctx p m c cc nL s av.toArray own D cI cC cO → meth.sig.returnType = none → meth.locks = false → meth.name = y.name → Wd D A s.heap w0 s.heap [] → ∀ ls, lv_has ls nL (lv_args 0 av) → W p l e rm s m av.toArray below meth c s.heap [] 0 0 (MQ below (va_Qv (fun (_ : Nat → Nat) => True) (fun u t => va_P D classes (w1 u) t.heap ∧ va_D A (w1 u)) A) av.toArray s mc ms A) (F0 m 0 ls [])) : CN l y (Wy y cc nL none) rm D cI cC cO av w0 w1 mc ms := by
  intro sz
  refine Met.ofW (cc := cc) (maxL := nL) (ret := none) hy rfl ?_
  intro p e s m args below meth c s₁ B hml hv
  obtain ⟨rfl, hsz, hP, hK, hD0⟩ := hv
  have hts : ∀ w ∈ aw, w.before av.toArray s = true := fun w h => atoms_spec (ws := Wy y cc nL none) B.pre w (List.mem_cons_of_mem _ h)
  have hown2 : s.vm.findClass own = some m.cls := by rw [← hown]; exact findClass_of_methodNamed B.named
  subst hsz
  have hl := lv_entry av hlen
  rw [lg_entry_eq]
  exact body p e s m below meth c (va_A w0 s.heap.size) ⟨⟨B.exec, B.bytes, hml, hown2, hts⟩, hK⟩ B.returns B.notSynchronized (name_of_methodNamed B.named B.method).1 ⟨hP, hD0.self (sz := s.heap.size), va_S.rf, fun q h => Or.inr h⟩ _ hl
def rmX4_init : Room := { frames := 1, cells := 1, slots := 100, locals := 40 }
set_option maxHeartbeats 4000000 in
set_option maxRecDepth 100000 in
theorem c_X4_init (l : Launch) (D : va_G) (cI cC cO : ClassId) (h0 : Nat) : CN l yX4_init (Wy yX4_init cX4_init 1 none) rmX4_init D cI cC cO [.ref h0] [(h0, .inr (4, [.int 0, .int 0, .int 0, .null]))] (fun u => [(h0, .inr (4, [.int (4 : Int32), .int (0 : Int32), .int (1 : Int32), .ref (u 0)])), ((u 0), .inl (cI, 100, .inl (fun _ => 0)))]) 1 100 := by
  refine enter_n RX4 (by decide) rfl (Nat.le_of_ble_eq_true rfl) ?_
  intro p e s m below meth c A X hr hlk hin2 hw ls hl
  have hx := X.1.1
  have hb := X.1.2.1
  have hl : lv_has ls 1 [(0, .ref h0)] := hl
  refine lv_aload_n hx hb dX4_init_0 rfl (lv_at hl 0 rfl) ?_
  refine r_oinit X hl.1 tw_24 dX4_init_1 (by decide) (Nat.le_of_ble_eq_true rfl) ?_
  refine lv_aload_n hx hb dX4_init_4 rfl (lv_at hl 0 rfl) ?_
  refine lv_iconst (v := 4) hx hb dX4_init_5 (by decide) ?_
  refine fp_X4_9 X hw 0 rfl rfl dX4_init_6 (fun H locs hw => ?_)
  have hw : Wd D A s.heap [(h0, .inr (4, [.int (4 : Int32), .int 0, .int 0, .null]))] H locs := hw
  refine lv_aload_n hx hb dX4_init_9 rfl (lv_at hl 0 rfl) ?_
  refine lv_iconst (v := 0) hx hb dX4_init_10 (by decide) ?_
  refine fp_X4_15 X hw 0 rfl rfl dX4_init_11 (fun H locs hw => ?_)
  have hw : Wd D A s.heap [(h0, .inr (4, [.int (4 : Int32), .int (0 : Int32), .int 0, .null]))] H locs := hw
  refine lv_aload_n hx hb dX4_init_14 rfl (lv_at hl 0 rfl) ?_
  refine lv_iconst (v := 1) hx hb dX4_init_15 (by decide) ?_
  refine fp_X4_18 X hw 0 rfl rfl dX4_init_16 (fun H locs hw => ?_)
  have hw : Wd D A s.heap [(h0, .inr (4, [.int (4 : Int32), .int (0 : Int32), .int (1 : Int32), .null]))] H locs := hw
  refine lv_aload_n hx hb dX4_init_19 rfl (lv_at hl 0 rfl) ?_
  refine lv_bipush (v := 100) hx hb dX4_init_20 (by decide) ?_
  refine r_newi X hw (by decide) (N' := 100) rfl (by decide +kernel) (Nat.le_of_ble_eq_true rfl) (Nat.le_of_ble_eq_true rfl) dX4_init_22 (fun q1 H hw => ?_)
  have hw : Wd D A s.heap [(h0, .inr (4, [.int (4 : Int32), .int (0 : Int32), .int (1 : Int32), .null])), (q1, .inl (cI, 100, .inl (fun _ => 0)))] H locs := hw
  refine r_putF (k := 3) X hw hin2 inX4 tyX4 tyX4_ok nmX4 rfl (by decide) rfl rfl tw_34 rfl 0 rfl rfl rfl rfl dX4_init_24 (fun H locs hw => ?_)
  have hw : Wd D A s.heap [(h0, .inr (4, [.int (4 : Int32), .int (0 : Int32), .int (1 : Int32), .ref q1])), (q1, .inl (cI, 100, .inl (fun _ => 0)))] H locs := hw
  exact r_retn X (fun k => match k with | 0 => q1 | _ => 0) hw hr hlk dX4_init_27
def rmX0_init : Room := { frames := 2, cells := 9, slots := 420, locals := 60 }
section
variable {p : Program} {l : Launch} {e : Env} {R : Room} {s : State} {m : MethodId} {args : Array Value} {below : List Frame} {meth : Method} {c : Code} {H : Heap} {locs : List Loc} {cells slots : Nat} {Q : State → Prop}
variable {cc : ByteArray} {pc nL : Nat} {ls : Array Slot} {rest : List Value} {D : va_G} {cI cC cO : ClassId} {A : Nat → Prop} {ws : va_W} {H0 : Heap}
theorem cs_X0_17 (X : Ctx p m c cc nL s args RX0 D cI cC cO) (hR : rmX4_init.frames + 1 ≤ R.frames ∧ 8 + (1 + 11) + rmX4_init.locals ≤ R.locals) : CallB R s args RX0 17 yX4_init cX4_init 1 none (Wy yX4_init cX4_init 1 none) rmX4_init 1 100 0 ∧ yX4_init.name = "<init>" ∧ (Cond.instanceMethod yX4_init).before args s = true := cwI 0 X.1.2.2.2.2 (gi_all tw_23) rfl rfl rfl (X.1.2.2.2.2 _ tw_2) (X.1.2.2.2.2 _ tw_48) (X.1.2.2.2.2 _ tw_22) rfl (by decide +kernel) hR
end
set_option maxHeartbeats 4000000 in
set_option maxRecDepth 100000 in
theorem c_X0_init (l : Launch) (D : va_G) (cI cC cO : ClassId) (h0 : Nat) : CN l yX0_init (Wy yX0_init cX0_init 2 none) rmX0_init D cI cC cO [.ref h0] [(h0, .inr (0, [.null, .int 0]))] (fun u => [(h0, .inr (0, [.ref (u 0), .int (0 : Int32)])), ((u 0), .inl (cO, 4, .inr (.inr (.inr (.inr (hst (f4 (u 1) (u 3) (u 5) (u 7)))))))), ((u 1), .inr (4, [.int (4 : Int32), .int (0 : Int32), .int (1 : Int32), .ref (u 2)])), ((u 2), .inl (cI, 100, .inl (fun _ => 0))), ((u 3), .inr (4, [.int (4 : Int32), .int (0 : Int32), .int (1 : Int32), .ref (u 4)])), ((u 4), .inl (cI, 100, .inl (fun _ => 0))), ((u 5), .inr (4, [.int (4 : Int32), .int (0 : Int32), .int (1 : Int32), .ref (u 6)])), ((u 6), .inl (cI, 100, .inl (fun _ => 0))), ((u 7), .inr (4, [.int (4 : Int32), .int (0 : Int32), .int (1 : Int32), .ref (u 8)])), ((u 8), .inl (cI, 100, .inl (fun _ => 0)))]) 9 420 := by
  refine enter_n RX0 (by decide) rfl (Nat.le_of_ble_eq_true rfl) ?_
  intro p e s m below meth c A X hr hlk hin2 hw ls hl
  have hx := X.1.1
  have hb := X.1.2.1
  have hl : lv_has ls 2 [(0, .ref h0)] := hl
  refine lv_aload_n hx hb dX0_init_0 rfl (lv_at hl 0 rfl) ?_
  refine r_oinit X hl.1 tw_45 dX0_init_1 (by decide) (Nat.le_of_ble_eq_true rfl) ?_
  refine lv_aload_n hx hb dX0_init_4 rfl (lv_at hl 0 rfl) ?_
  refine lv_iconst (v := 4) hx hb dX0_init_5 (by decide) ?_
  refine r_newq X hw tw_46 (by decide) (N' := 4) rfl (by decide) (Nat.le_of_ble_eq_true rfl) (Nat.le_of_ble_eq_true rfl) dX0_init_6 (fun q1 H hw => ?_)
  have hw : Wd D A s.heap [(h0, .inr (0, [.null, .int 0])), (q1, .inl (cO, 4, .inr (.inr (.inr (.inr (fun _ => none))))))] H [] := hw
  refine r_putF (k := 0) X hw hin2 inX0 tyX0 tyX0_ok nmX0 rfl (by decide) rfl rfl tw_49 rfl 0 rfl rfl rfl rfl dX0_init_9 (fun H locs hw => ?_)
  have hw : Wd D A s.heap [(h0, .inr (0, [.ref q1, .int 0])), (q1, .inl (cO, 4, .inr (.inr (.inr (.inr (fun _ => none))))))] H locs := hw
  refine lv_iconst (v := 0) hx hb dX0_init_12 (by decide) ?_
  refine lv_istore_n (lv' := [(1, .int (0 : Int32)), (0, .ref h0)]) hx hb dX0_init_13 rfl hl (by decide) rfl (fun ls hl => ?_)
  refine lv_iload_n hx hb dX0_init_14 rfl (lv_at hl 0 rfl) ?_
  refine lv_iconst (v := 4) hx hb dX0_init_15 (by decide) ?_
  refine lv_icmp_ge (tgt := 38) hx hb dX0_init_16 (by decide) (fun c1 => absurd c1 (by decide)) (fun c1 => ?_)
  refine lv_aload_n hx hb dX0_init_19 rfl (lv_at hl 1 rfl) ?_
  refine fg_X0_11 X hw 0 rfl rfl dX0_init_20 ?_
  refine lv_iload_n hx hb dX0_init_23 rfl (lv_at hl 0 rfl) ?_
  refine r_new (ci := 4) (fs := [.int 0, .int 0, .int 0, .null]) (N := 4) X hw inX4 tyX4 tyX4_ok tw_46 tw_20 tw_2 rfl (fun j hj => by rcases (show j = 0 ∨ j = 1 ∨ j = 2 ∨ j = 3 by omega) with rfl | rfl | rfl | rfl <;> rfl) (Nat.le_of_ble_eq_true rfl) (Nat.le_of_ble_eq_true rfl) dX0_init_24 (fun q2 H hw => ?_)
  have hw : Wd D A s.heap [(h0, .inr (0, [.ref q1, .int 0])), (q1, .inl (cO, 4, .inr (.inr (.inr (.inr (fun _ => none)))))), (q2, .inr (4, [.int 0, .int 0, .int 0, .null]))] H locs := hw
  refine lv_dup hx hb dX0_init_27 rfl ?_
  refine r_cN X hw (wr := [(h0, .inr (0, [.ref q1, .int 0])), (q1, .inl (cO, 4, .inr (.inr (.inr (.inr (fun _ => none))))))]) (c_X4_init l D cI cC cO q2) (cs_X0_17 X (by decide)) [2] [0, 1] rfl rfl rfl (by decide) (by decide) hl.1 rfl (Nat.le_of_ble_eq_true rfl) dX0_init_28 ⟨Nat.le_of_ble_eq_true rfl, Nat.le_of_ble_eq_true rfl⟩ (fun u3 H locs hw => ?_)
  have hw : Wd D A s.heap [(h0, .inr (0, [.ref q1, .int 0])), (q1, .inl (cO, 4, .inr (.inr (.inr (.inr (fun _ => none)))))), (q2, .inr (4, [.int (4 : Int32), .int (0 : Int32), .int (1 : Int32), .ref (u3 0)])), ((u3 0), .inl (cI, 100, .inl (fun _ => 0)))] H locs := hw
  refine r_aast X hw 1 2 4 rfl rfl rfl (vp_lit (by decide)) rfl dX0_init_31 (fun H locs hw => ?_)
  have hw : Wd D A s.heap [(h0, .inr (0, [.ref q1, .int 0])), (q1, .inl (cO, 4, .inr (.inr (.inr (.inr (va_up (fun _ => none) 0 (some q2))))))), (q2, .inr (4, [.int (4 : Int32), .int (0 : Int32), .int (1 : Int32), .ref (u3 0)])), ((u3 0), .inl (cI, 100, .inl (fun _ => 0)))] H locs := hw
  refine lv_iinc (v := (1 : Int32)) (lv' := [(1, .int (1 : Int32)), (0, .ref h0)]) hx hb dX0_init_32 hl (k := 0) rfl (by decide) (by decide) rfl (fun ls hl => ?_)
  refine lv_goto (tgt := 14) hx hb dX0_init_35 (by decide) ?_
  refine lv_iload_n hx hb dX0_init_14 rfl (lv_at hl 0 rfl) ?_
  refine lv_iconst (v := 4) hx hb dX0_init_15 (by decide) ?_
  refine lv_icmp_ge (tgt := 38) hx hb dX0_init_16 (by decide) (fun c1 => absurd c1 (by decide)) (fun c1 => ?_)
  refine lv_aload_n hx hb dX0_init_19 rfl (lv_at hl 1 rfl) ?_
  refine fg_X0_11 X hw 0 rfl rfl dX0_init_20 ?_
  refine lv_iload_n hx hb dX0_init_23 rfl (lv_at hl 0 rfl) ?_
  refine r_new (ci := 4) (fs := [.int 0, .int 0, .int 0, .null]) (N := 4) X hw inX4 tyX4 tyX4_ok tw_46 tw_20 tw_2 rfl (fun j hj => by rcases (show j = 0 ∨ j = 1 ∨ j = 2 ∨ j = 3 by omega) with rfl | rfl | rfl | rfl <;> rfl) (Nat.le_of_ble_eq_true rfl) (Nat.le_of_ble_eq_true rfl) dX0_init_24 (fun q4 H hw => ?_)
  have hw : Wd D A s.heap [(h0, .inr (0, [.ref q1, .int 0])), (q1, .inl (cO, 4, .inr (.inr (.inr (.inr (va_up (fun _ => none) 0 (some q2))))))), (q2, .inr (4, [.int (4 : Int32), .int (0 : Int32), .int (1 : Int32), .ref (u3 0)])), ((u3 0), .inl (cI, 100, .inl (fun _ => 0))), (q4, .inr (4, [.int 0, .int 0, .int 0, .null]))] H locs := hw
  refine lv_dup hx hb dX0_init_27 rfl ?_
  refine r_cN X hw (wr := [(h0, .inr (0, [.ref q1, .int 0])), (q1, .inl (cO, 4, .inr (.inr (.inr (.inr (va_up (fun _ => none) 0 (some q2))))))), (q2, .inr (4, [.int (4 : Int32), .int (0 : Int32), .int (1 : Int32), .ref (u3 0)])), ((u3 0), .inl (cI, 100, .inl (fun _ => 0)))]) (c_X4_init l D cI cC cO q4) (cs_X0_17 X (by decide)) [4] [0, 1, 2, 3] rfl rfl rfl (by decide) (by decide) hl.1 rfl (Nat.le_of_ble_eq_true rfl) dX0_init_28 ⟨Nat.le_of_ble_eq_true rfl, Nat.le_of_ble_eq_true rfl⟩ (fun u5 H locs hw => ?_)
  have hw : Wd D A s.heap [(h0, .inr (0, [.ref q1, .int 0])), (q1, .inl (cO, 4, .inr (.inr (.inr (.inr (va_up (fun _ => none) 0 (some q2))))))), (q2, .inr (4, [.int (4 : Int32), .int (0 : Int32), .int (1 : Int32), .ref (u3 0)])), ((u3 0), .inl (cI, 100, .inl (fun _ => 0))), (q4, .inr (4, [.int (4 : Int32), .int (0 : Int32), .int (1 : Int32), .ref (u5 0)])), ((u5 0), .inl (cI, 100, .inl (fun _ => 0)))] H locs := hw
  refine r_aast X hw 1 4 4 rfl rfl rfl (vp_lit (by decide)) rfl dX0_init_31 (fun H locs hw => ?_)
  have hw : Wd D A s.heap [(h0, .inr (0, [.ref q1, .int 0])), (q1, .inl (cO, 4, .inr (.inr (.inr (.inr (va_up (va_up (fun _ => none) 0 (some q2)) 1 (some q4))))))), (q2, .inr (4, [.int (4 : Int32), .int (0 : Int32), .int (1 : Int32), .ref (u3 0)])), ((u3 0), .inl (cI, 100, .inl (fun _ => 0))), (q4, .inr (4, [.int (4 : Int32), .int (0 : Int32), .int (1 : Int32), .ref (u5 0)])), ((u5 0), .inl (cI, 100, .inl (fun _ => 0)))] H locs := hw
  refine lv_iinc (v := (2 : Int32)) (lv' := [(1, .int (2 : Int32)), (0, .ref h0)]) hx hb dX0_init_32 hl (k := 0) rfl (by decide) (by decide) rfl (fun ls hl => ?_)
  refine lv_goto (tgt := 14) hx hb dX0_init_35 (by decide) ?_
  refine lv_iload_n hx hb dX0_init_14 rfl (lv_at hl 0 rfl) ?_
  refine lv_iconst (v := 4) hx hb dX0_init_15 (by decide) ?_
  refine lv_icmp_ge (tgt := 38) hx hb dX0_init_16 (by decide) (fun c1 => absurd c1 (by decide)) (fun c1 => ?_)
  refine lv_aload_n hx hb dX0_init_19 rfl (lv_at hl 1 rfl) ?_
  refine fg_X0_11 X hw 0 rfl rfl dX0_init_20 ?_
  refine lv_iload_n hx hb dX0_init_23 rfl (lv_at hl 0 rfl) ?_
  refine r_new (ci := 4) (fs := [.int 0, .int 0, .int 0, .null]) (N := 4) X hw inX4 tyX4 tyX4_ok tw_46 tw_20 tw_2 rfl (fun j hj => by rcases (show j = 0 ∨ j = 1 ∨ j = 2 ∨ j = 3 by omega) with rfl | rfl | rfl | rfl <;> rfl) (Nat.le_of_ble_eq_true rfl) (Nat.le_of_ble_eq_true rfl) dX0_init_24 (fun q6 H hw => ?_)
  have hw : Wd D A s.heap [(h0, .inr (0, [.ref q1, .int 0])), (q1, .inl (cO, 4, .inr (.inr (.inr (.inr (va_up (va_up (fun _ => none) 0 (some q2)) 1 (some q4))))))), (q2, .inr (4, [.int (4 : Int32), .int (0 : Int32), .int (1 : Int32), .ref (u3 0)])), ((u3 0), .inl (cI, 100, .inl (fun _ => 0))), (q4, .inr (4, [.int (4 : Int32), .int (0 : Int32), .int (1 : Int32), .ref (u5 0)])), ((u5 0), .inl (cI, 100, .inl (fun _ => 0))), (q6, .inr (4, [.int 0, .int 0, .int 0, .null]))] H locs := hw
  refine lv_dup hx hb dX0_init_27 rfl ?_
  refine r_cN X hw (wr := [(h0, .inr (0, [.ref q1, .int 0])), (q1, .inl (cO, 4, .inr (.inr (.inr (.inr (va_up (va_up (fun _ => none) 0 (some q2)) 1 (some q4))))))), (q2, .inr (4, [.int (4 : Int32), .int (0 : Int32), .int (1 : Int32), .ref (u3 0)])), ((u3 0), .inl (cI, 100, .inl (fun _ => 0))), (q4, .inr (4, [.int (4 : Int32), .int (0 : Int32), .int (1 : Int32), .ref (u5 0)])), ((u5 0), .inl (cI, 100, .inl (fun _ => 0)))]) (c_X4_init l D cI cC cO q6) (cs_X0_17 X (by decide)) [6] [0, 1, 2, 3, 4, 5] rfl rfl rfl (by decide) (by decide) hl.1 rfl (Nat.le_of_ble_eq_true rfl) dX0_init_28 ⟨Nat.le_of_ble_eq_true rfl, Nat.le_of_ble_eq_true rfl⟩ (fun u7 H locs hw => ?_)
  have hw : Wd D A s.heap [(h0, .inr (0, [.ref q1, .int 0])), (q1, .inl (cO, 4, .inr (.inr (.inr (.inr (va_up (va_up (fun _ => none) 0 (some q2)) 1 (some q4))))))), (q2, .inr (4, [.int (4 : Int32), .int (0 : Int32), .int (1 : Int32), .ref (u3 0)])), ((u3 0), .inl (cI, 100, .inl (fun _ => 0))), (q4, .inr (4, [.int (4 : Int32), .int (0 : Int32), .int (1 : Int32), .ref (u5 0)])), ((u5 0), .inl (cI, 100, .inl (fun _ => 0))), (q6, .inr (4, [.int (4 : Int32), .int (0 : Int32), .int (1 : Int32), .ref (u7 0)])), ((u7 0), .inl (cI, 100, .inl (fun _ => 0)))] H locs := hw
  refine r_aast X hw 1 6 4 rfl rfl rfl (vp_lit (by decide)) rfl dX0_init_31 (fun H locs hw => ?_)
  have hw : Wd D A s.heap [(h0, .inr (0, [.ref q1, .int 0])), (q1, .inl (cO, 4, .inr (.inr (.inr (.inr (va_up (va_up (va_up (fun _ => none) 0 (some q2)) 1 (some q4)) 2 (some q6))))))), (q2, .inr (4, [.int (4 : Int32), .int (0 : Int32), .int (1 : Int32), .ref (u3 0)])), ((u3 0), .inl (cI, 100, .inl (fun _ => 0))), (q4, .inr (4, [.int (4 : Int32), .int (0 : Int32), .int (1 : Int32), .ref (u5 0)])), ((u5 0), .inl (cI, 100, .inl (fun _ => 0))), (q6, .inr (4, [.int (4 : Int32), .int (0 : Int32), .int (1 : Int32), .ref (u7 0)])), ((u7 0), .inl (cI, 100, .inl (fun _ => 0)))] H locs := hw
  refine lv_iinc (v := (3 : Int32)) (lv' := [(1, .int (3 : Int32)), (0, .ref h0)]) hx hb dX0_init_32 hl (k := 0) rfl (by decide) (by decide) rfl (fun ls hl => ?_)
  refine lv_goto (tgt := 14) hx hb dX0_init_35 (by decide) ?_
  refine lv_iload_n hx hb dX0_init_14 rfl (lv_at hl 0 rfl) ?_
  refine lv_iconst (v := 4) hx hb dX0_init_15 (by decide) ?_
  refine lv_icmp_ge (tgt := 38) hx hb dX0_init_16 (by decide) (fun c1 => absurd c1 (by decide)) (fun c1 => ?_)
  refine lv_aload_n hx hb dX0_init_19 rfl (lv_at hl 1 rfl) ?_
  refine fg_X0_11 X hw 0 rfl rfl dX0_init_20 ?_
  refine lv_iload_n hx hb dX0_init_23 rfl (lv_at hl 0 rfl) ?_
  refine r_new (ci := 4) (fs := [.int 0, .int 0, .int 0, .null]) (N := 4) X hw inX4 tyX4 tyX4_ok tw_46 tw_20 tw_2 rfl (fun j hj => by rcases (show j = 0 ∨ j = 1 ∨ j = 2 ∨ j = 3 by omega) with rfl | rfl | rfl | rfl <;> rfl) (Nat.le_of_ble_eq_true rfl) (Nat.le_of_ble_eq_true rfl) dX0_init_24 (fun q8 H hw => ?_)
  have hw : Wd D A s.heap [(h0, .inr (0, [.ref q1, .int 0])), (q1, .inl (cO, 4, .inr (.inr (.inr (.inr (va_up (va_up (va_up (fun _ => none) 0 (some q2)) 1 (some q4)) 2 (some q6))))))), (q2, .inr (4, [.int (4 : Int32), .int (0 : Int32), .int (1 : Int32), .ref (u3 0)])), ((u3 0), .inl (cI, 100, .inl (fun _ => 0))), (q4, .inr (4, [.int (4 : Int32), .int (0 : Int32), .int (1 : Int32), .ref (u5 0)])), ((u5 0), .inl (cI, 100, .inl (fun _ => 0))), (q6, .inr (4, [.int (4 : Int32), .int (0 : Int32), .int (1 : Int32), .ref (u7 0)])), ((u7 0), .inl (cI, 100, .inl (fun _ => 0))), (q8, .inr (4, [.int 0, .int 0, .int 0, .null]))] H locs := hw
  refine lv_dup hx hb dX0_init_27 rfl ?_
  refine r_cN X hw (wr := [(h0, .inr (0, [.ref q1, .int 0])), (q1, .inl (cO, 4, .inr (.inr (.inr (.inr (va_up (va_up (va_up (fun _ => none) 0 (some q2)) 1 (some q4)) 2 (some q6))))))), (q2, .inr (4, [.int (4 : Int32), .int (0 : Int32), .int (1 : Int32), .ref (u3 0)])), ((u3 0), .inl (cI, 100, .inl (fun _ => 0))), (q4, .inr (4, [.int (4 : Int32), .int (0 : Int32), .int (1 : Int32), .ref (u5 0)])), ((u5 0), .inl (cI, 100, .inl (fun _ => 0))), (q6, .inr (4, [.int (4 : Int32), .int (0 : Int32), .int (1 : Int32), .ref (u7 0)])), ((u7 0), .inl (cI, 100, .inl (fun _ => 0)))]) (c_X4_init l D cI cC cO q8) (cs_X0_17 X (by decide)) [8] [0, 1, 2, 3, 4, 5, 6, 7] rfl rfl rfl (by decide) (by decide) hl.1 rfl (Nat.le_of_ble_eq_true rfl) dX0_init_28 ⟨Nat.le_of_ble_eq_true rfl, Nat.le_of_ble_eq_true rfl⟩ (fun u9 H locs hw => ?_)
  have hw : Wd D A s.heap [(h0, .inr (0, [.ref q1, .int 0])), (q1, .inl (cO, 4, .inr (.inr (.inr (.inr (va_up (va_up (va_up (fun _ => none) 0 (some q2)) 1 (some q4)) 2 (some q6))))))), (q2, .inr (4, [.int (4 : Int32), .int (0 : Int32), .int (1 : Int32), .ref (u3 0)])), ((u3 0), .inl (cI, 100, .inl (fun _ => 0))), (q4, .inr (4, [.int (4 : Int32), .int (0 : Int32), .int (1 : Int32), .ref (u5 0)])), ((u5 0), .inl (cI, 100, .inl (fun _ => 0))), (q6, .inr (4, [.int (4 : Int32), .int (0 : Int32), .int (1 : Int32), .ref (u7 0)])), ((u7 0), .inl (cI, 100, .inl (fun _ => 0))), (q8, .inr (4, [.int (4 : Int32), .int (0 : Int32), .int (1 : Int32), .ref (u9 0)])), ((u9 0), .inl (cI, 100, .inl (fun _ => 0)))] H locs := hw
  refine r_aast X hw 1 8 4 rfl rfl rfl (vp_lit (by decide)) rfl dX0_init_31 (fun H locs hw => ?_)
  have hw : Wd D A s.heap [(h0, .inr (0, [.ref q1, .int 0])), (q1, .inl (cO, 4, .inr (.inr (.inr (.inr (va_up (va_up (va_up (va_up (fun _ => none) 0 (some q2)) 1 (some q4)) 2 (some q6)) 3 (some q8))))))), (q2, .inr (4, [.int (4 : Int32), .int (0 : Int32), .int (1 : Int32), .ref (u3 0)])), ((u3 0), .inl (cI, 100, .inl (fun _ => 0))), (q4, .inr (4, [.int (4 : Int32), .int (0 : Int32), .int (1 : Int32), .ref (u5 0)])), ((u5 0), .inl (cI, 100, .inl (fun _ => 0))), (q6, .inr (4, [.int (4 : Int32), .int (0 : Int32), .int (1 : Int32), .ref (u7 0)])), ((u7 0), .inl (cI, 100, .inl (fun _ => 0))), (q8, .inr (4, [.int (4 : Int32), .int (0 : Int32), .int (1 : Int32), .ref (u9 0)])), ((u9 0), .inl (cI, 100, .inl (fun _ => 0)))] H locs := hw
  refine lv_iinc (v := (4 : Int32)) (lv' := [(1, .int (4 : Int32)), (0, .ref h0)]) hx hb dX0_init_32 hl (k := 0) rfl (by decide) (by decide) rfl (fun ls hl => ?_)
  refine lv_goto (tgt := 14) hx hb dX0_init_35 (by decide) ?_
  refine lv_iload_n hx hb dX0_init_14 rfl (lv_at hl 0 rfl) ?_
  refine lv_iconst (v := 4) hx hb dX0_init_15 (by decide) ?_
  refine lv_icmp_ge (tgt := 38) hx hb dX0_init_16 (by decide) (fun c1 => ?_) (fun c1 => absurd (by decide) c1)
  refine lv_aload_n hx hb dX0_init_38 rfl (lv_at hl 1 rfl) ?_
  refine lv_iconst (v := 0) hx hb dX0_init_39 (by decide) ?_
  refine fp_X0_18 X hw 0 rfl rfl dX0_init_40 (fun H locs hw => ?_)
  have hw : Wd D A s.heap [(h0, .inr (0, [.ref q1, .int (0 : Int32)])), (q1, .inl (cO, 4, .inr (.inr (.inr (.inr (va_up (va_up (va_up (va_up (fun _ => none) 0 (some q2)) 1 (some q4)) 2 (some q6)) 3 (some q8))))))), (q2, .inr (4, [.int (4 : Int32), .int (0 : Int32), .int (1 : Int32), .ref (u3 0)])), ((u3 0), .inl (cI, 100, .inl (fun _ => 0))), (q4, .inr (4, [.int (4 : Int32), .int (0 : Int32), .int (1 : Int32), .ref (u5 0)])), ((u5 0), .inl (cI, 100, .inl (fun _ => 0))), (q6, .inr (4, [.int (4 : Int32), .int (0 : Int32), .int (1 : Int32), .ref (u7 0)])), ((u7 0), .inl (cI, 100, .inl (fun _ => 0))), (q8, .inr (4, [.int (4 : Int32), .int (0 : Int32), .int (1 : Int32), .ref (u9 0)])), ((u9 0), .inl (cI, 100, .inl (fun _ => 0)))] H locs := hw
  have hh := hst_mk q2 q4 q6 q8
  rw [hh] at hw
  exact r_retn X (fun k => match k with | 0 => q1 | 1 => q2 | 2 => (u3 0) | 3 => q4 | 4 => (u5 0) | 5 => q6 | 6 => (u7 0) | 7 => q8 | 8 => (u9 0) | _ => 0) hw hr hlk dX0_init_43
def rmX1_init : Room := { frames := 1, cells := 4, slots := 2092, locals := 40 }
set_option maxHeartbeats 4000000 in
set_option maxRecDepth 100000 in
theorem c_X1_init (l : Launch) (D : va_G) (cI cC cO : ClassId) (h0 : Nat) : CN l yX1_init (Wy yX1_init cX1_init 1 none) rmX1_init D cI cC cO [.ref h0] [(h0, .inr (1, [.int 0, .int 0, .null, .null, .int 0, .int 0, .null, .int 0, .null]))] (fun u => [(h0, .inr (1, [.int (0 : Int32), .int (0 : Int32), .ref (u 0), .ref (u 1), .int (0 : Int32), .int (0 : Int32), .ref (u 2), .int (0 : Int32), .ref (u 3)])), ((u 0), .inl (cI, 1024, .inl (fun _ => 0))), ((u 1), .inl (cI, 512, .inl (fun _ => 0))), ((u 2), .inl (cI, 511, .inl (fun _ => 0))), ((u 3), .inl (cI, 45, .inl (fun _ => 0)))]) 4 2092 := by
  refine enter_n RX1 (by decide) rfl (Nat.le_of_ble_eq_true rfl) ?_
  intro p e s m below meth c A X hr hlk hin2 hw ls hl
  have hx := X.1.1
  have hb := X.1.2.1
  have hl : lv_has ls 1 [(0, .ref h0)] := hl
  refine lv_aload_n hx hb dX1_init_0 rfl (lv_at hl 0 rfl) ?_
  refine r_oinit X hl.1 tw_108 dX1_init_1 (by decide) (Nat.le_of_ble_eq_true rfl) ?_
  refine lv_aload_n hx hb dX1_init_4 rfl (lv_at hl 0 rfl) ?_
  refine lv_iconst (v := 0) hx hb dX1_init_5 (by decide) ?_
  refine fp_X1_9 X hw 0 rfl rfl dX1_init_6 (fun H locs hw => ?_)
  have hw : Wd D A s.heap [(h0, .inr (1, [.int (0 : Int32), .int 0, .null, .null, .int 0, .int 0, .null, .int 0, .null]))] H locs := hw
  refine lv_aload_n hx hb dX1_init_9 rfl (lv_at hl 0 rfl) ?_
  refine lv_iconst (v := 0) hx hb dX1_init_10 (by decide) ?_
  refine fp_X1_15 X hw 0 rfl rfl dX1_init_11 (fun H locs hw => ?_)
  have hw : Wd D A s.heap [(h0, .inr (1, [.int (0 : Int32), .int (0 : Int32), .null, .null, .int 0, .int 0, .null, .int 0, .null]))] H locs := hw
  refine lv_aload_n hx hb dX1_init_14 rfl (lv_at hl 0 rfl) ?_
  refine lv_sipush (v := 1024) hx hb dX1_init_15 (by decide) ?_
  refine r_newi X hw (by decide) (N' := 1024) rfl (by decide +kernel) (Nat.le_of_ble_eq_true rfl) (Nat.le_of_ble_eq_true rfl) dX1_init_18 (fun q1 H hw => ?_)
  have hw : Wd D A s.heap [(h0, .inr (1, [.int (0 : Int32), .int (0 : Int32), .null, .null, .int 0, .int 0, .null, .int 0, .null])), (q1, .inl (cI, 1024, .inl (fun _ => 0)))] H locs := hw
  refine r_putF (k := 2) X hw hin2 inX1 tyX1 tyX1_ok nmX1 rfl (by decide) rfl rfl tw_111 rfl 0 rfl rfl rfl rfl dX1_init_20 (fun H locs hw => ?_)
  have hw : Wd D A s.heap [(h0, .inr (1, [.int (0 : Int32), .int (0 : Int32), .ref q1, .null, .int 0, .int 0, .null, .int 0, .null])), (q1, .inl (cI, 1024, .inl (fun _ => 0)))] H locs := hw
  refine lv_aload_n hx hb dX1_init_23 rfl (lv_at hl 0 rfl) ?_
  refine lv_sipush (v := 512) hx hb dX1_init_24 (by decide) ?_
  refine r_newi X hw (by decide) (N' := 512) rfl (by decide +kernel) (Nat.le_of_ble_eq_true rfl) (Nat.le_of_ble_eq_true rfl) dX1_init_27 (fun q2 H hw => ?_)
  have hw : Wd D A s.heap [(h0, .inr (1, [.int (0 : Int32), .int (0 : Int32), .ref q1, .null, .int 0, .int 0, .null, .int 0, .null])), (q1, .inl (cI, 1024, .inl (fun _ => 0))), (q2, .inl (cI, 512, .inl (fun _ => 0)))] H locs := hw
  refine r_putF (k := 3) X hw hin2 inX1 tyX1 tyX1_ok nmX1 rfl (by decide) rfl rfl tw_112 rfl 0 rfl rfl rfl rfl dX1_init_29 (fun H locs hw => ?_)
  have hw : Wd D A s.heap [(h0, .inr (1, [.int (0 : Int32), .int (0 : Int32), .ref q1, .ref q2, .int 0, .int 0, .null, .int 0, .null])), (q1, .inl (cI, 1024, .inl (fun _ => 0))), (q2, .inl (cI, 512, .inl (fun _ => 0)))] H locs := hw
  refine lv_aload_n hx hb dX1_init_32 rfl (lv_at hl 0 rfl) ?_
  refine lv_iconst (v := 0) hx hb dX1_init_33 (by decide) ?_
  refine fp_X1_25 X hw 0 rfl rfl dX1_init_34 (fun H locs hw => ?_)
  have hw : Wd D A s.heap [(h0, .inr (1, [.int (0 : Int32), .int (0 : Int32), .ref q1, .ref q2, .int (0 : Int32), .int 0, .null, .int 0, .null])), (q1, .inl (cI, 1024, .inl (fun _ => 0))), (q2, .inl (cI, 512, .inl (fun _ => 0)))] H locs := hw
  refine lv_aload_n hx hb dX1_init_37 rfl (lv_at hl 0 rfl) ?_
  refine lv_iconst (v := 0) hx hb dX1_init_38 (by decide) ?_
  refine fp_X1_28 X hw 0 rfl rfl dX1_init_39 (fun H locs hw => ?_)
  have hw : Wd D A s.heap [(h0, .inr (1, [.int (0 : Int32), .int (0 : Int32), .ref q1, .ref q2, .int (0 : Int32), .int (0 : Int32), .null, .int 0, .null])), (q1, .inl (cI, 1024, .inl (fun _ => 0))), (q2, .inl (cI, 512, .inl (fun _ => 0)))] H locs := hw
  refine lv_aload_n hx hb dX1_init_42 rfl (lv_at hl 0 rfl) ?_
  refine lv_sipush (v := 511) hx hb dX1_init_43 (by decide) ?_
  refine r_newi X hw (by decide) (N' := 511) rfl (by decide +kernel) (Nat.le_of_ble_eq_true rfl) (Nat.le_of_ble_eq_true rfl) dX1_init_46 (fun q3 H hw => ?_)
  have hw : Wd D A s.heap [(h0, .inr (1, [.int (0 : Int32), .int (0 : Int32), .ref q1, .ref q2, .int (0 : Int32), .int (0 : Int32), .null, .int 0, .null])), (q1, .inl (cI, 1024, .inl (fun _ => 0))), (q2, .inl (cI, 512, .inl (fun _ => 0))), (q3, .inl (cI, 511, .inl (fun _ => 0)))] H locs := hw
  refine r_putF (k := 6) X hw hin2 inX1 tyX1 tyX1_ok nmX1 rfl (by decide) rfl rfl tw_116 rfl 0 rfl rfl rfl rfl dX1_init_48 (fun H locs hw => ?_)
  have hw : Wd D A s.heap [(h0, .inr (1, [.int (0 : Int32), .int (0 : Int32), .ref q1, .ref q2, .int (0 : Int32), .int (0 : Int32), .ref q3, .int 0, .null])), (q1, .inl (cI, 1024, .inl (fun _ => 0))), (q2, .inl (cI, 512, .inl (fun _ => 0))), (q3, .inl (cI, 511, .inl (fun _ => 0)))] H locs := hw
  refine lv_aload_n hx hb dX1_init_51 rfl (lv_at hl 0 rfl) ?_
  refine lv_iconst (v := 0) hx hb dX1_init_52 (by decide) ?_
  refine fp_X1_34 X hw 0 rfl rfl dX1_init_53 (fun H locs hw => ?_)
  have hw : Wd D A s.heap [(h0, .inr (1, [.int (0 : Int32), .int (0 : Int32), .ref q1, .ref q2, .int (0 : Int32), .int (0 : Int32), .ref q3, .int (0 : Int32), .null])), (q1, .inl (cI, 1024, .inl (fun _ => 0))), (q2, .inl (cI, 512, .inl (fun _ => 0))), (q3, .inl (cI, 511, .inl (fun _ => 0)))] H locs := hw
  refine lv_aload_n hx hb dX1_init_56 rfl (lv_at hl 0 rfl) ?_
  refine lv_bipush (v := 45) hx hb dX1_init_57 (by decide) ?_
  refine r_newi X hw (by decide) (N' := 45) rfl (by decide +kernel) (Nat.le_of_ble_eq_true rfl) (Nat.le_of_ble_eq_true rfl) dX1_init_59 (fun q4 H hw => ?_)
  have hw : Wd D A s.heap [(h0, .inr (1, [.int (0 : Int32), .int (0 : Int32), .ref q1, .ref q2, .int (0 : Int32), .int (0 : Int32), .ref q3, .int (0 : Int32), .null])), (q1, .inl (cI, 1024, .inl (fun _ => 0))), (q2, .inl (cI, 512, .inl (fun _ => 0))), (q3, .inl (cI, 511, .inl (fun _ => 0))), (q4, .inl (cI, 45, .inl (fun _ => 0)))] H locs := hw
  refine r_putF (k := 8) X hw hin2 inX1 tyX1 tyX1_ok nmX1 rfl (by decide) rfl rfl tw_119 rfl 0 rfl rfl rfl rfl dX1_init_61 (fun H locs hw => ?_)
  have hw : Wd D A s.heap [(h0, .inr (1, [.int (0 : Int32), .int (0 : Int32), .ref q1, .ref q2, .int (0 : Int32), .int (0 : Int32), .ref q3, .int (0 : Int32), .ref q4])), (q1, .inl (cI, 1024, .inl (fun _ => 0))), (q2, .inl (cI, 512, .inl (fun _ => 0))), (q3, .inl (cI, 511, .inl (fun _ => 0))), (q4, .inl (cI, 45, .inl (fun _ => 0)))] H locs := hw
  exact r_retn X (fun k => match k with | 0 => q1 | 1 => q2 | 2 => q3 | 3 => q4 | _ => 0) hw hr hlk dX1_init_64
def rmX2_init : Room := { frames := 1, cells := 7, slots := 318, locals := 40 }
set_option maxHeartbeats 4000000 in
set_option maxRecDepth 100000 in
theorem c_X2_init (l : Launch) (D : va_G) (cI cC cO : ClassId) (h0 : Nat) : CN l yX2_init (Wy yX2_init cX2_init 1 none) rmX2_init D cI cC cO [.ref h0] [(h0, .inr (2, [.int 0, .null, .null, .null, .null, .null, .null, .null]))] (fun u => [(h0, .inr (2, [.int (0 : Int32), .ref (u 0), .ref (u 1), .ref (u 2), .ref (u 3), .ref (u 4), .ref (u 5), .ref (u 6)])), ((u 0), .inl (cI, 10, .inl (fun _ => 0))), ((u 1), .inl (cI, 100, .inl (fun _ => 0))), ((u 2), .inl (cI, 10, .inl (fun _ => 0))), ((u 3), .inl (cI, 90, .inl (fun _ => 0))), ((u 4), .inl (cI, 90, .inl (fun _ => 0))), ((u 5), .inl (cI, 9, .inl (fun _ => 0))), ((u 6), .inl (cI, 9, .inl (fun _ => 0)))]) 7 318 := by
  refine enter_n RX2 (by decide) rfl (Nat.le_of_ble_eq_true rfl) ?_
  intro p e s m below meth c A X hr hlk hin2 hw ls hl
  have hx := X.1.1
  have hb := X.1.2.1
  have hl : lv_has ls 1 [(0, .ref h0)] := hl
  refine lv_aload_n hx hb dX2_init_0 rfl (lv_at hl 0 rfl) ?_
  refine r_oinit X hl.1 tw_86 dX2_init_1 (by decide) (Nat.le_of_ble_eq_true rfl) ?_
  refine lv_aload_n hx hb dX2_init_4 rfl (lv_at hl 0 rfl) ?_
  refine lv_iconst (v := 0) hx hb dX2_init_5 (by decide) ?_
  refine fp_X2_9 X hw 0 rfl rfl dX2_init_6 (fun H locs hw => ?_)
  have hw : Wd D A s.heap [(h0, .inr (2, [.int (0 : Int32), .null, .null, .null, .null, .null, .null, .null]))] H locs := hw
  refine lv_aload_n hx hb dX2_init_9 rfl (lv_at hl 0 rfl) ?_
  refine lv_bipush (v := 10) hx hb dX2_init_10 (by decide) ?_
  refine r_newi X hw (by decide) (N' := 10) rfl (by decide +kernel) (Nat.le_of_ble_eq_true rfl) (Nat.le_of_ble_eq_true rfl) dX2_init_12 (fun q1 H hw => ?_)
  have hw : Wd D A s.heap [(h0, .inr (2, [.int (0 : Int32), .null, .null, .null, .null, .null, .null, .null])), (q1, .inl (cI, 10, .inl (fun _ => 0)))] H locs := hw
  refine r_putF (k := 1) X hw hin2 inX2 tyX2 tyX2_ok nmX2 rfl (by decide) rfl rfl tw_88 rfl 0 rfl rfl rfl rfl dX2_init_14 (fun H locs hw => ?_)
  have hw : Wd D A s.heap [(h0, .inr (2, [.int (0 : Int32), .ref q1, .null, .null, .null, .null, .null, .null])), (q1, .inl (cI, 10, .inl (fun _ => 0)))] H locs := hw
  refine lv_aload_n hx hb dX2_init_17 rfl (lv_at hl 0 rfl) ?_
  refine lv_bipush (v := 100) hx hb dX2_init_18 (by decide) ?_
  refine r_newi X hw (by decide) (N' := 100) rfl (by decide +kernel) (Nat.le_of_ble_eq_true rfl) (Nat.le_of_ble_eq_true rfl) dX2_init_20 (fun q2 H hw => ?_)
  have hw : Wd D A s.heap [(h0, .inr (2, [.int (0 : Int32), .ref q1, .null, .null, .null, .null, .null, .null])), (q1, .inl (cI, 10, .inl (fun _ => 0))), (q2, .inl (cI, 100, .inl (fun _ => 0)))] H locs := hw
  refine r_putF (k := 2) X hw hin2 inX2 tyX2 tyX2_ok nmX2 rfl (by decide) rfl rfl tw_89 rfl 0 rfl rfl rfl rfl dX2_init_22 (fun H locs hw => ?_)
  have hw : Wd D A s.heap [(h0, .inr (2, [.int (0 : Int32), .ref q1, .ref q2, .null, .null, .null, .null, .null])), (q1, .inl (cI, 10, .inl (fun _ => 0))), (q2, .inl (cI, 100, .inl (fun _ => 0)))] H locs := hw
  refine lv_aload_n hx hb dX2_init_25 rfl (lv_at hl 0 rfl) ?_
  refine lv_bipush (v := 10) hx hb dX2_init_26 (by decide) ?_
  refine r_newi X hw (by decide) (N' := 10) rfl (by decide +kernel) (Nat.le_of_ble_eq_true rfl) (Nat.le_of_ble_eq_true rfl) dX2_init_28 (fun q3 H hw => ?_)
  have hw : Wd D A s.heap [(h0, .inr (2, [.int (0 : Int32), .ref q1, .ref q2, .null, .null, .null, .null, .null])), (q1, .inl (cI, 10, .inl (fun _ => 0))), (q2, .inl (cI, 100, .inl (fun _ => 0))), (q3, .inl (cI, 10, .inl (fun _ => 0)))] H locs := hw
  refine r_putF (k := 3) X hw hin2 inX2 tyX2 tyX2_ok nmX2 rfl (by decide) rfl rfl tw_90 rfl 0 rfl rfl rfl rfl dX2_init_30 (fun H locs hw => ?_)
  have hw : Wd D A s.heap [(h0, .inr (2, [.int (0 : Int32), .ref q1, .ref q2, .ref q3, .null, .null, .null, .null])), (q1, .inl (cI, 10, .inl (fun _ => 0))), (q2, .inl (cI, 100, .inl (fun _ => 0))), (q3, .inl (cI, 10, .inl (fun _ => 0)))] H locs := hw
  refine lv_aload_n hx hb dX2_init_33 rfl (lv_at hl 0 rfl) ?_
  refine lv_bipush (v := 90) hx hb dX2_init_34 (by decide) ?_
  refine r_newi X hw (by decide) (N' := 90) rfl (by decide +kernel) (Nat.le_of_ble_eq_true rfl) (Nat.le_of_ble_eq_true rfl) dX2_init_36 (fun q4 H hw => ?_)
  have hw : Wd D A s.heap [(h0, .inr (2, [.int (0 : Int32), .ref q1, .ref q2, .ref q3, .null, .null, .null, .null])), (q1, .inl (cI, 10, .inl (fun _ => 0))), (q2, .inl (cI, 100, .inl (fun _ => 0))), (q3, .inl (cI, 10, .inl (fun _ => 0))), (q4, .inl (cI, 90, .inl (fun _ => 0)))] H locs := hw
  refine r_putF (k := 4) X hw hin2 inX2 tyX2 tyX2_ok nmX2 rfl (by decide) rfl rfl tw_91 rfl 0 rfl rfl rfl rfl dX2_init_38 (fun H locs hw => ?_)
  have hw : Wd D A s.heap [(h0, .inr (2, [.int (0 : Int32), .ref q1, .ref q2, .ref q3, .ref q4, .null, .null, .null])), (q1, .inl (cI, 10, .inl (fun _ => 0))), (q2, .inl (cI, 100, .inl (fun _ => 0))), (q3, .inl (cI, 10, .inl (fun _ => 0))), (q4, .inl (cI, 90, .inl (fun _ => 0)))] H locs := hw
  refine lv_aload_n hx hb dX2_init_41 rfl (lv_at hl 0 rfl) ?_
  refine lv_bipush (v := 90) hx hb dX2_init_42 (by decide) ?_
  refine r_newi X hw (by decide) (N' := 90) rfl (by decide +kernel) (Nat.le_of_ble_eq_true rfl) (Nat.le_of_ble_eq_true rfl) dX2_init_44 (fun q5 H hw => ?_)
  have hw : Wd D A s.heap [(h0, .inr (2, [.int (0 : Int32), .ref q1, .ref q2, .ref q3, .ref q4, .null, .null, .null])), (q1, .inl (cI, 10, .inl (fun _ => 0))), (q2, .inl (cI, 100, .inl (fun _ => 0))), (q3, .inl (cI, 10, .inl (fun _ => 0))), (q4, .inl (cI, 90, .inl (fun _ => 0))), (q5, .inl (cI, 90, .inl (fun _ => 0)))] H locs := hw
  refine r_putF (k := 5) X hw hin2 inX2 tyX2 tyX2_ok nmX2 rfl (by decide) rfl rfl tw_92 rfl 0 rfl rfl rfl rfl dX2_init_46 (fun H locs hw => ?_)
  have hw : Wd D A s.heap [(h0, .inr (2, [.int (0 : Int32), .ref q1, .ref q2, .ref q3, .ref q4, .ref q5, .null, .null])), (q1, .inl (cI, 10, .inl (fun _ => 0))), (q2, .inl (cI, 100, .inl (fun _ => 0))), (q3, .inl (cI, 10, .inl (fun _ => 0))), (q4, .inl (cI, 90, .inl (fun _ => 0))), (q5, .inl (cI, 90, .inl (fun _ => 0)))] H locs := hw
  refine lv_aload_n hx hb dX2_init_49 rfl (lv_at hl 0 rfl) ?_
  refine lv_bipush (v := 9) hx hb dX2_init_50 (by decide) ?_
  refine r_newi X hw (by decide) (N' := 9) rfl (by decide +kernel) (Nat.le_of_ble_eq_true rfl) (Nat.le_of_ble_eq_true rfl) dX2_init_52 (fun q6 H hw => ?_)
  have hw : Wd D A s.heap [(h0, .inr (2, [.int (0 : Int32), .ref q1, .ref q2, .ref q3, .ref q4, .ref q5, .null, .null])), (q1, .inl (cI, 10, .inl (fun _ => 0))), (q2, .inl (cI, 100, .inl (fun _ => 0))), (q3, .inl (cI, 10, .inl (fun _ => 0))), (q4, .inl (cI, 90, .inl (fun _ => 0))), (q5, .inl (cI, 90, .inl (fun _ => 0))), (q6, .inl (cI, 9, .inl (fun _ => 0)))] H locs := hw
  refine r_putF (k := 6) X hw hin2 inX2 tyX2 tyX2_ok nmX2 rfl (by decide) rfl rfl tw_93 rfl 0 rfl rfl rfl rfl dX2_init_54 (fun H locs hw => ?_)
  have hw : Wd D A s.heap [(h0, .inr (2, [.int (0 : Int32), .ref q1, .ref q2, .ref q3, .ref q4, .ref q5, .ref q6, .null])), (q1, .inl (cI, 10, .inl (fun _ => 0))), (q2, .inl (cI, 100, .inl (fun _ => 0))), (q3, .inl (cI, 10, .inl (fun _ => 0))), (q4, .inl (cI, 90, .inl (fun _ => 0))), (q5, .inl (cI, 90, .inl (fun _ => 0))), (q6, .inl (cI, 9, .inl (fun _ => 0)))] H locs := hw
  refine lv_aload_n hx hb dX2_init_57 rfl (lv_at hl 0 rfl) ?_
  refine lv_bipush (v := 9) hx hb dX2_init_58 (by decide) ?_
  refine r_newi X hw (by decide) (N' := 9) rfl (by decide +kernel) (Nat.le_of_ble_eq_true rfl) (Nat.le_of_ble_eq_true rfl) dX2_init_60 (fun q7 H hw => ?_)
  have hw : Wd D A s.heap [(h0, .inr (2, [.int (0 : Int32), .ref q1, .ref q2, .ref q3, .ref q4, .ref q5, .ref q6, .null])), (q1, .inl (cI, 10, .inl (fun _ => 0))), (q2, .inl (cI, 100, .inl (fun _ => 0))), (q3, .inl (cI, 10, .inl (fun _ => 0))), (q4, .inl (cI, 90, .inl (fun _ => 0))), (q5, .inl (cI, 90, .inl (fun _ => 0))), (q6, .inl (cI, 9, .inl (fun _ => 0))), (q7, .inl (cI, 9, .inl (fun _ => 0)))] H locs := hw
  refine r_putF (k := 7) X hw hin2 inX2 tyX2 tyX2_ok nmX2 rfl (by decide) rfl rfl tw_94 rfl 0 rfl rfl rfl rfl dX2_init_62 (fun H locs hw => ?_)
  have hw : Wd D A s.heap [(h0, .inr (2, [.int (0 : Int32), .ref q1, .ref q2, .ref q3, .ref q4, .ref q5, .ref q6, .ref q7])), (q1, .inl (cI, 10, .inl (fun _ => 0))), (q2, .inl (cI, 100, .inl (fun _ => 0))), (q3, .inl (cI, 10, .inl (fun _ => 0))), (q4, .inl (cI, 90, .inl (fun _ => 0))), (q5, .inl (cI, 90, .inl (fun _ => 0))), (q6, .inl (cI, 9, .inl (fun _ => 0))), (q7, .inl (cI, 9, .inl (fun _ => 0)))] H locs := hw
  exact r_retn X (fun k => match k with | 0 => q1 | 1 => q2 | 2 => q3 | 3 => q4 | 4 => q5 | 5 => q6 | 6 => q7 | _ => 0) hw hr hlk dX2_init_65
def rmX3_init : Room := { frames := 1, cells := 4, slots := 105, locals := 40 }
set_option maxHeartbeats 4000000 in
set_option maxRecDepth 100000 in
theorem c_X3_init (l : Launch) (D : va_G) (cI cC cO : ClassId) (h0 : Nat) : CN l yX3_init (Wy yX3_init cX3_init 1 none) rmX3_init D cI cC cO [.ref h0] [(h0, .inr (3, [.null, .int 0, .null, .null, .null, .int 0, .int 0, .int 0, .int 0]))] (fun u => [(h0, .inr (3, [.ref (u 0), .int (0 : Int32), .ref (u 1), .ref (u 2), .ref (u 3), .int (0 : Int32), .int (0 : Int32), .int 0, .int 0])), ((u 0), .inl (cC, 60, .inl (fun _ => 0))), ((u 1), .inl (cI, 15, .inl (fun _ => 0))), ((u 2), .inl (cI, 15, .inl (fun _ => 0))), ((u 3), .inl (cI, 15, .inl (fun _ => 0)))]) 4 105 := by
  refine enter_n RX3 (by decide) rfl (Nat.le_of_ble_eq_true rfl) ?_
  intro p e s m below meth c A X hr hlk hin2 hw ls hl
  have hx := X.1.1
  have hb := X.1.2.1
  have hl : lv_has ls 1 [(0, .ref h0)] := hl
  refine lv_aload_n hx hb dX3_init_0 rfl (lv_at hl 0 rfl) ?_
  refine r_oinit X hl.1 tw_59 dX3_init_1 (by decide) (Nat.le_of_ble_eq_true rfl) ?_
  refine lv_aload_n hx hb dX3_init_4 rfl (lv_at hl 0 rfl) ?_
  refine lv_bipush (v := 60) hx hb dX3_init_5 (by decide) ?_
  refine r_newc X hw (by decide) (N' := 60) rfl (by decide +kernel) (Nat.le_of_ble_eq_true rfl) (Nat.le_of_ble_eq_true rfl) dX3_init_7 (fun q1 H hw => ?_)
  have hw : Wd D A s.heap [(h0, .inr (3, [.null, .int 0, .null, .null, .null, .int 0, .int 0, .int 0, .int 0])), (q1, .inl (cC, 60, .inl (fun _ => 0)))] H [] := hw
  refine r_putF (k := 0) X hw hin2 inX3 tyX3 tyX3_ok nmX3 rfl (by decide) rfl rfl tw_60 rfl 0 rfl rfl rfl rfl dX3_init_9 (fun H locs hw => ?_)
  have hw : Wd D A s.heap [(h0, .inr (3, [.ref q1, .int 0, .null, .null, .null, .int 0, .int 0, .int 0, .int 0])), (q1, .inl (cC, 60, .inl (fun _ => 0)))] H locs := hw
  refine lv_aload_n hx hb dX3_init_12 rfl (lv_at hl 0 rfl) ?_
  refine lv_iconst (v := 0) hx hb dX3_init_13 (by decide) ?_
  refine fp_X3_15 X hw 0 rfl rfl dX3_init_14 (fun H locs hw => ?_)
  have hw : Wd D A s.heap [(h0, .inr (3, [.ref q1, .int (0 : Int32), .null, .null, .null, .int 0, .int 0, .int 0, .int 0])), (q1, .inl (cC, 60, .inl (fun _ => 0)))] H locs := hw
  refine lv_aload_n hx hb dX3_init_17 rfl (lv_at hl 0 rfl) ?_
  refine lv_bipush (v := 15) hx hb dX3_init_18 (by decide) ?_
  refine r_newi X hw (by decide) (N' := 15) rfl (by decide +kernel) (Nat.le_of_ble_eq_true rfl) (Nat.le_of_ble_eq_true rfl) dX3_init_20 (fun q2 H hw => ?_)
  have hw : Wd D A s.heap [(h0, .inr (3, [.ref q1, .int (0 : Int32), .null, .null, .null, .int 0, .int 0, .int 0, .int 0])), (q1, .inl (cC, 60, .inl (fun _ => 0))), (q2, .inl (cI, 15, .inl (fun _ => 0)))] H locs := hw
  refine r_putF (k := 2) X hw hin2 inX3 tyX3 tyX3_ok nmX3 rfl (by decide) rfl rfl tw_63 rfl 0 rfl rfl rfl rfl dX3_init_22 (fun H locs hw => ?_)
  have hw : Wd D A s.heap [(h0, .inr (3, [.ref q1, .int (0 : Int32), .ref q2, .null, .null, .int 0, .int 0, .int 0, .int 0])), (q1, .inl (cC, 60, .inl (fun _ => 0))), (q2, .inl (cI, 15, .inl (fun _ => 0)))] H locs := hw
  refine lv_aload_n hx hb dX3_init_25 rfl (lv_at hl 0 rfl) ?_
  refine lv_bipush (v := 15) hx hb dX3_init_26 (by decide) ?_
  refine r_newi X hw (by decide) (N' := 15) rfl (by decide +kernel) (Nat.le_of_ble_eq_true rfl) (Nat.le_of_ble_eq_true rfl) dX3_init_28 (fun q3 H hw => ?_)
  have hw : Wd D A s.heap [(h0, .inr (3, [.ref q1, .int (0 : Int32), .ref q2, .null, .null, .int 0, .int 0, .int 0, .int 0])), (q1, .inl (cC, 60, .inl (fun _ => 0))), (q2, .inl (cI, 15, .inl (fun _ => 0))), (q3, .inl (cI, 15, .inl (fun _ => 0)))] H locs := hw
  refine r_putF (k := 3) X hw hin2 inX3 tyX3 tyX3_ok nmX3 rfl (by decide) rfl rfl tw_64 rfl 0 rfl rfl rfl rfl dX3_init_30 (fun H locs hw => ?_)
  have hw : Wd D A s.heap [(h0, .inr (3, [.ref q1, .int (0 : Int32), .ref q2, .ref q3, .null, .int 0, .int 0, .int 0, .int 0])), (q1, .inl (cC, 60, .inl (fun _ => 0))), (q2, .inl (cI, 15, .inl (fun _ => 0))), (q3, .inl (cI, 15, .inl (fun _ => 0)))] H locs := hw
  refine lv_aload_n hx hb dX3_init_33 rfl (lv_at hl 0 rfl) ?_
  refine lv_bipush (v := 15) hx hb dX3_init_34 (by decide) ?_
  refine r_newi X hw (by decide) (N' := 15) rfl (by decide +kernel) (Nat.le_of_ble_eq_true rfl) (Nat.le_of_ble_eq_true rfl) dX3_init_36 (fun q4 H hw => ?_)
  have hw : Wd D A s.heap [(h0, .inr (3, [.ref q1, .int (0 : Int32), .ref q2, .ref q3, .null, .int 0, .int 0, .int 0, .int 0])), (q1, .inl (cC, 60, .inl (fun _ => 0))), (q2, .inl (cI, 15, .inl (fun _ => 0))), (q3, .inl (cI, 15, .inl (fun _ => 0))), (q4, .inl (cI, 15, .inl (fun _ => 0)))] H locs := hw
  refine r_putF (k := 4) X hw hin2 inX3 tyX3 tyX3_ok nmX3 rfl (by decide) rfl rfl tw_65 rfl 0 rfl rfl rfl rfl dX3_init_38 (fun H locs hw => ?_)
  have hw : Wd D A s.heap [(h0, .inr (3, [.ref q1, .int (0 : Int32), .ref q2, .ref q3, .ref q4, .int 0, .int 0, .int 0, .int 0])), (q1, .inl (cC, 60, .inl (fun _ => 0))), (q2, .inl (cI, 15, .inl (fun _ => 0))), (q3, .inl (cI, 15, .inl (fun _ => 0))), (q4, .inl (cI, 15, .inl (fun _ => 0)))] H locs := hw
  refine lv_aload_n hx hb dX3_init_41 rfl (lv_at hl 0 rfl) ?_
  refine lv_iconst (v := 0) hx hb dX3_init_42 (by decide) ?_
  refine fp_X3_29 X hw 0 rfl rfl dX3_init_43 (fun H locs hw => ?_)
  have hw : Wd D A s.heap [(h0, .inr (3, [.ref q1, .int (0 : Int32), .ref q2, .ref q3, .ref q4, .int (0 : Int32), .int 0, .int 0, .int 0])), (q1, .inl (cC, 60, .inl (fun _ => 0))), (q2, .inl (cI, 15, .inl (fun _ => 0))), (q3, .inl (cI, 15, .inl (fun _ => 0))), (q4, .inl (cI, 15, .inl (fun _ => 0)))] H locs := hw
  refine lv_aload_n hx hb dX3_init_46 rfl (lv_at hl 0 rfl) ?_
  refine lv_iconst (v := 0) hx hb dX3_init_47 (by decide) ?_
  refine fp_X3_32 X hw 0 rfl rfl dX3_init_48 (fun H locs hw => ?_)
  have hw : Wd D A s.heap [(h0, .inr (3, [.ref q1, .int (0 : Int32), .ref q2, .ref q3, .ref q4, .int (0 : Int32), .int (0 : Int32), .int 0, .int 0])), (q1, .inl (cC, 60, .inl (fun _ => 0))), (q2, .inl (cI, 15, .inl (fun _ => 0))), (q3, .inl (cI, 15, .inl (fun _ => 0))), (q4, .inl (cI, 15, .inl (fun _ => 0)))] H locs := hw
  exact r_retn X (fun k => match k with | 0 => q1 | 1 => q2 | 2 => q3 | 3 => q4 | _ => 0) hw hr hlk dX3_init_51
def rmX6_init : Room := { frames := 1, cells := 8, slots := 804, locals := 40 }
set_option maxHeartbeats 4000000 in
set_option maxRecDepth 100000 in
theorem c_X6_init (l : Launch) (D : va_G) (cI cC cO : ClassId) (h0 : Nat) : CN l yX6_init (Wy yX6_init cX6_init 1 none) rmX6_init D cI cC cO [.ref h0] [(h0, .inr (6, [.int 0, .null, .null, .int 0, .null, .int 0, .null, .int 0, .null, .int 0, .null, .null, .int 0, .int 0, .int 0, .int 0, .null, .int 0]))] (fun u => [(h0, .inr (6, [.int (0 : Int32), .ref (u 0), .ref (u 1), .int 0, .ref (u 2), .int 0, .ref (u 3), .int 0, .ref (u 4), .int 0, .ref (u 5), .ref (u 6), .int 0, .int 0, .int 0, .int 0, .ref (u 7), .int 0])), ((u 0), .inl (cI, 103, .inl (upd (upd (fun _ => 0) 0 (4 : Int32)) 2 (1 : Int32)))), ((u 1), .inl (cI, 412, .inl (fun _ => 0))), ((u 2), .inl (cI, 103, .inl (fun _ => 0))), ((u 3), .inl (cI, 60, .inl (fun _ => 0))), ((u 4), .inl (cI, 10, .inl (fun _ => 0))), ((u 5), .inl (cI, 10, .inl (fun _ => 0))), ((u 6), .inl (cI, 10, .inl (fun _ => 0))), ((u 7), .inl (cI, 96, .inl (fun _ => 0)))]) 8 804 := by
  refine enter_n RX6 (by decide) rfl (Nat.le_of_ble_eq_true rfl) ?_
  intro p e s m below meth c A X hr hlk hin2 hw ls hl
  have hx := X.1.1
  have hb := X.1.2.1
  have hl : lv_has ls 1 [(0, .ref h0)] := hl
  refine lv_aload_n hx hb dX6_init_0 rfl (lv_at hl 0 rfl) ?_
  refine r_oinit X hl.1 tw_566 dX6_init_1 (by decide) (Nat.le_of_ble_eq_true rfl) ?_
  refine lv_aload_n hx hb dX6_init_4 rfl (lv_at hl 0 rfl) ?_
  refine lv_bipush (v := 103) hx hb dX6_init_5 (by decide) ?_
  refine r_newi X hw (by decide) (N' := 103) rfl (by decide +kernel) (Nat.le_of_ble_eq_true rfl) (Nat.le_of_ble_eq_true rfl) dX6_init_7 (fun q1 H hw => ?_)
  have hw : Wd D A s.heap [(h0, .inr (6, [.int 0, .null, .null, .int 0, .null, .int 0, .null, .int 0, .null, .int 0, .null, .null, .int 0, .int 0, .int 0, .int 0, .null, .int 0])), (q1, .inl (cI, 103, .inl (fun _ => 0)))] H [] := hw
  refine r_putF (k := 1) X hw hin2 inX6 tyX6 tyX6_ok nmX6 rfl (by decide) rfl rfl tw_568 rfl 0 rfl rfl rfl rfl dX6_init_9 (fun H locs hw => ?_)
  have hw : Wd D A s.heap [(h0, .inr (6, [.int 0, .ref q1, .null, .int 0, .null, .int 0, .null, .int 0, .null, .int 0, .null, .null, .int 0, .int 0, .int 0, .int 0, .null, .int 0])), (q1, .inl (cI, 103, .inl (fun _ => 0)))] H locs := hw
  refine lv_aload_n hx hb dX6_init_12 rfl (lv_at hl 0 rfl) ?_
  refine lv_sipush (v := 412) hx hb dX6_init_13 (by decide) ?_
  refine r_newi X hw (by decide) (N' := 412) rfl (by decide +kernel) (Nat.le_of_ble_eq_true rfl) (Nat.le_of_ble_eq_true rfl) dX6_init_16 (fun q2 H hw => ?_)
  have hw : Wd D A s.heap [(h0, .inr (6, [.int 0, .ref q1, .null, .int 0, .null, .int 0, .null, .int 0, .null, .int 0, .null, .null, .int 0, .int 0, .int 0, .int 0, .null, .int 0])), (q1, .inl (cI, 103, .inl (fun _ => 0))), (q2, .inl (cI, 412, .inl (fun _ => 0)))] H locs := hw
  refine r_putF (k := 2) X hw hin2 inX6 tyX6 tyX6_ok nmX6 rfl (by decide) rfl rfl tw_569 rfl 0 rfl rfl rfl rfl dX6_init_18 (fun H locs hw => ?_)
  have hw : Wd D A s.heap [(h0, .inr (6, [.int 0, .ref q1, .ref q2, .int 0, .null, .int 0, .null, .int 0, .null, .int 0, .null, .null, .int 0, .int 0, .int 0, .int 0, .null, .int 0])), (q1, .inl (cI, 103, .inl (fun _ => 0))), (q2, .inl (cI, 412, .inl (fun _ => 0)))] H locs := hw
  refine lv_aload_n hx hb dX6_init_21 rfl (lv_at hl 0 rfl) ?_
  refine lv_bipush (v := 103) hx hb dX6_init_22 (by decide) ?_
  refine r_newi X hw (by decide) (N' := 103) rfl (by decide +kernel) (Nat.le_of_ble_eq_true rfl) (Nat.le_of_ble_eq_true rfl) dX6_init_24 (fun q3 H hw => ?_)
  have hw : Wd D A s.heap [(h0, .inr (6, [.int 0, .ref q1, .ref q2, .int 0, .null, .int 0, .null, .int 0, .null, .int 0, .null, .null, .int 0, .int 0, .int 0, .int 0, .null, .int 0])), (q1, .inl (cI, 103, .inl (fun _ => 0))), (q2, .inl (cI, 412, .inl (fun _ => 0))), (q3, .inl (cI, 103, .inl (fun _ => 0)))] H locs := hw
  refine r_putF (k := 4) X hw hin2 inX6 tyX6 tyX6_ok nmX6 rfl (by decide) rfl rfl tw_571 rfl 0 rfl rfl rfl rfl dX6_init_26 (fun H locs hw => ?_)
  have hw : Wd D A s.heap [(h0, .inr (6, [.int 0, .ref q1, .ref q2, .int 0, .ref q3, .int 0, .null, .int 0, .null, .int 0, .null, .null, .int 0, .int 0, .int 0, .int 0, .null, .int 0])), (q1, .inl (cI, 103, .inl (fun _ => 0))), (q2, .inl (cI, 412, .inl (fun _ => 0))), (q3, .inl (cI, 103, .inl (fun _ => 0)))] H locs := hw
  refine lv_aload_n hx hb dX6_init_29 rfl (lv_at hl 0 rfl) ?_
  refine lv_bipush (v := 60) hx hb dX6_init_30 (by decide) ?_
  refine r_newi X hw (by decide) (N' := 60) rfl (by decide +kernel) (Nat.le_of_ble_eq_true rfl) (Nat.le_of_ble_eq_true rfl) dX6_init_32 (fun q4 H hw => ?_)
  have hw : Wd D A s.heap [(h0, .inr (6, [.int 0, .ref q1, .ref q2, .int 0, .ref q3, .int 0, .null, .int 0, .null, .int 0, .null, .null, .int 0, .int 0, .int 0, .int 0, .null, .int 0])), (q1, .inl (cI, 103, .inl (fun _ => 0))), (q2, .inl (cI, 412, .inl (fun _ => 0))), (q3, .inl (cI, 103, .inl (fun _ => 0))), (q4, .inl (cI, 60, .inl (fun _ => 0)))] H locs := hw
  refine r_putF (k := 6) X hw hin2 inX6 tyX6 tyX6_ok nmX6 rfl (by decide) rfl rfl tw_573 rfl 0 rfl rfl rfl rfl dX6_init_34 (fun H locs hw => ?_)
  have hw : Wd D A s.heap [(h0, .inr (6, [.int 0, .ref q1, .ref q2, .int 0, .ref q3, .int 0, .ref q4, .int 0, .null, .int 0, .null, .null, .int 0, .int 0, .int 0, .int 0, .null, .int 0])), (q1, .inl (cI, 103, .inl (fun _ => 0))), (q2, .inl (cI, 412, .inl (fun _ => 0))), (q3, .inl (cI, 103, .inl (fun _ => 0))), (q4, .inl (cI, 60, .inl (fun _ => 0)))] H locs := hw
  refine lv_aload_n hx hb dX6_init_37 rfl (lv_at hl 0 rfl) ?_
  refine lv_bipush (v := 10) hx hb dX6_init_38 (by decide) ?_
  refine r_newi X hw (by decide) (N' := 10) rfl (by decide +kernel) (Nat.le_of_ble_eq_true rfl) (Nat.le_of_ble_eq_true rfl) dX6_init_40 (fun q5 H hw => ?_)
  have hw : Wd D A s.heap [(h0, .inr (6, [.int 0, .ref q1, .ref q2, .int 0, .ref q3, .int 0, .ref q4, .int 0, .null, .int 0, .null, .null, .int 0, .int 0, .int 0, .int 0, .null, .int 0])), (q1, .inl (cI, 103, .inl (fun _ => 0))), (q2, .inl (cI, 412, .inl (fun _ => 0))), (q3, .inl (cI, 103, .inl (fun _ => 0))), (q4, .inl (cI, 60, .inl (fun _ => 0))), (q5, .inl (cI, 10, .inl (fun _ => 0)))] H locs := hw
  refine r_putF (k := 8) X hw hin2 inX6 tyX6 tyX6_ok nmX6 rfl (by decide) rfl rfl tw_575 rfl 0 rfl rfl rfl rfl dX6_init_42 (fun H locs hw => ?_)
  have hw : Wd D A s.heap [(h0, .inr (6, [.int 0, .ref q1, .ref q2, .int 0, .ref q3, .int 0, .ref q4, .int 0, .ref q5, .int 0, .null, .null, .int 0, .int 0, .int 0, .int 0, .null, .int 0])), (q1, .inl (cI, 103, .inl (fun _ => 0))), (q2, .inl (cI, 412, .inl (fun _ => 0))), (q3, .inl (cI, 103, .inl (fun _ => 0))), (q4, .inl (cI, 60, .inl (fun _ => 0))), (q5, .inl (cI, 10, .inl (fun _ => 0)))] H locs := hw
  refine lv_aload_n hx hb dX6_init_45 rfl (lv_at hl 0 rfl) ?_
  refine lv_bipush (v := 10) hx hb dX6_init_46 (by decide) ?_
  refine r_newi X hw (by decide) (N' := 10) rfl (by decide +kernel) (Nat.le_of_ble_eq_true rfl) (Nat.le_of_ble_eq_true rfl) dX6_init_48 (fun q6 H hw => ?_)
  have hw : Wd D A s.heap [(h0, .inr (6, [.int 0, .ref q1, .ref q2, .int 0, .ref q3, .int 0, .ref q4, .int 0, .ref q5, .int 0, .null, .null, .int 0, .int 0, .int 0, .int 0, .null, .int 0])), (q1, .inl (cI, 103, .inl (fun _ => 0))), (q2, .inl (cI, 412, .inl (fun _ => 0))), (q3, .inl (cI, 103, .inl (fun _ => 0))), (q4, .inl (cI, 60, .inl (fun _ => 0))), (q5, .inl (cI, 10, .inl (fun _ => 0))), (q6, .inl (cI, 10, .inl (fun _ => 0)))] H locs := hw
  refine r_putF (k := 10) X hw hin2 inX6 tyX6 tyX6_ok nmX6 rfl (by decide) rfl rfl tw_577 rfl 0 rfl rfl rfl rfl dX6_init_50 (fun H locs hw => ?_)
  have hw : Wd D A s.heap [(h0, .inr (6, [.int 0, .ref q1, .ref q2, .int 0, .ref q3, .int 0, .ref q4, .int 0, .ref q5, .int 0, .ref q6, .null, .int 0, .int 0, .int 0, .int 0, .null, .int 0])), (q1, .inl (cI, 103, .inl (fun _ => 0))), (q2, .inl (cI, 412, .inl (fun _ => 0))), (q3, .inl (cI, 103, .inl (fun _ => 0))), (q4, .inl (cI, 60, .inl (fun _ => 0))), (q5, .inl (cI, 10, .inl (fun _ => 0))), (q6, .inl (cI, 10, .inl (fun _ => 0)))] H locs := hw
  refine lv_aload_n hx hb dX6_init_53 rfl (lv_at hl 0 rfl) ?_
  refine lv_bipush (v := 10) hx hb dX6_init_54 (by decide) ?_
  refine r_newi X hw (by decide) (N' := 10) rfl (by decide +kernel) (Nat.le_of_ble_eq_true rfl) (Nat.le_of_ble_eq_true rfl) dX6_init_56 (fun q7 H hw => ?_)
  have hw : Wd D A s.heap [(h0, .inr (6, [.int 0, .ref q1, .ref q2, .int 0, .ref q3, .int 0, .ref q4, .int 0, .ref q5, .int 0, .ref q6, .null, .int 0, .int 0, .int 0, .int 0, .null, .int 0])), (q1, .inl (cI, 103, .inl (fun _ => 0))), (q2, .inl (cI, 412, .inl (fun _ => 0))), (q3, .inl (cI, 103, .inl (fun _ => 0))), (q4, .inl (cI, 60, .inl (fun _ => 0))), (q5, .inl (cI, 10, .inl (fun _ => 0))), (q6, .inl (cI, 10, .inl (fun _ => 0))), (q7, .inl (cI, 10, .inl (fun _ => 0)))] H locs := hw
  refine r_putF (k := 11) X hw hin2 inX6 tyX6 tyX6_ok nmX6 rfl (by decide) rfl rfl tw_578 rfl 0 rfl rfl rfl rfl dX6_init_58 (fun H locs hw => ?_)
  have hw : Wd D A s.heap [(h0, .inr (6, [.int 0, .ref q1, .ref q2, .int 0, .ref q3, .int 0, .ref q4, .int 0, .ref q5, .int 0, .ref q6, .ref q7, .int 0, .int 0, .int 0, .int 0, .null, .int 0])), (q1, .inl (cI, 103, .inl (fun _ => 0))), (q2, .inl (cI, 412, .inl (fun _ => 0))), (q3, .inl (cI, 103, .inl (fun _ => 0))), (q4, .inl (cI, 60, .inl (fun _ => 0))), (q5, .inl (cI, 10, .inl (fun _ => 0))), (q6, .inl (cI, 10, .inl (fun _ => 0))), (q7, .inl (cI, 10, .inl (fun _ => 0)))] H locs := hw
  refine lv_aload_n hx hb dX6_init_61 rfl (lv_at hl 0 rfl) ?_
  refine lv_bipush (v := 96) hx hb dX6_init_62 (by decide) ?_
  refine r_newi X hw (by decide) (N' := 96) rfl (by decide +kernel) (Nat.le_of_ble_eq_true rfl) (Nat.le_of_ble_eq_true rfl) dX6_init_64 (fun q8 H hw => ?_)
  have hw : Wd D A s.heap [(h0, .inr (6, [.int 0, .ref q1, .ref q2, .int 0, .ref q3, .int 0, .ref q4, .int 0, .ref q5, .int 0, .ref q6, .ref q7, .int 0, .int 0, .int 0, .int 0, .null, .int 0])), (q1, .inl (cI, 103, .inl (fun _ => 0))), (q2, .inl (cI, 412, .inl (fun _ => 0))), (q3, .inl (cI, 103, .inl (fun _ => 0))), (q4, .inl (cI, 60, .inl (fun _ => 0))), (q5, .inl (cI, 10, .inl (fun _ => 0))), (q6, .inl (cI, 10, .inl (fun _ => 0))), (q7, .inl (cI, 10, .inl (fun _ => 0))), (q8, .inl (cI, 96, .inl (fun _ => 0)))] H locs := hw
  refine r_putF (k := 16) X hw hin2 inX6 tyX6 tyX6_ok nmX6 rfl (by decide) rfl rfl tw_583 rfl 0 rfl rfl rfl rfl dX6_init_66 (fun H locs hw => ?_)
  have hw : Wd D A s.heap [(h0, .inr (6, [.int 0, .ref q1, .ref q2, .int 0, .ref q3, .int 0, .ref q4, .int 0, .ref q5, .int 0, .ref q6, .ref q7, .int 0, .int 0, .int 0, .int 0, .ref q8, .int 0])), (q1, .inl (cI, 103, .inl (fun _ => 0))), (q2, .inl (cI, 412, .inl (fun _ => 0))), (q3, .inl (cI, 103, .inl (fun _ => 0))), (q4, .inl (cI, 60, .inl (fun _ => 0))), (q5, .inl (cI, 10, .inl (fun _ => 0))), (q6, .inl (cI, 10, .inl (fun _ => 0))), (q7, .inl (cI, 10, .inl (fun _ => 0))), (q8, .inl (cI, 96, .inl (fun _ => 0)))] H locs := hw
  refine lv_aload_n hx hb dX6_init_69 rfl (lv_at hl 0 rfl) ?_
  refine lv_iconst (v := 0) hx hb dX6_init_70 (by decide) ?_
  refine fp_X6_34 X hw 0 rfl rfl dX6_init_71 (fun H locs hw => ?_)
  have hw : Wd D A s.heap [(h0, .inr (6, [.int (0 : Int32), .ref q1, .ref q2, .int 0, .ref q3, .int 0, .ref q4, .int 0, .ref q5, .int 0, .ref q6, .ref q7, .int 0, .int 0, .int 0, .int 0, .ref q8, .int 0])), (q1, .inl (cI, 103, .inl (fun _ => 0))), (q2, .inl (cI, 412, .inl (fun _ => 0))), (q3, .inl (cI, 103, .inl (fun _ => 0))), (q4, .inl (cI, 60, .inl (fun _ => 0))), (q5, .inl (cI, 10, .inl (fun _ => 0))), (q6, .inl (cI, 10, .inl (fun _ => 0))), (q7, .inl (cI, 10, .inl (fun _ => 0))), (q8, .inl (cI, 96, .inl (fun _ => 0)))] H locs := hw
  refine lv_aload_n hx hb dX6_init_74 rfl (lv_at hl 0 rfl) ?_
  refine fg_X6_7 X hw 0 rfl rfl dX6_init_75 ?_
  refine lv_iconst (v := 0) hx hb dX6_init_78 (by decide) ?_
  refine lv_iconst (v := 4) hx hb dX6_init_79 (by decide) ?_
  refine r_iast X hw 1 rfl (vp_lit (by decide)) rfl dX6_init_80 (fun H locs hw => ?_)
  have hw : Wd D A s.heap [(h0, .inr (6, [.int (0 : Int32), .ref q1, .ref q2, .int 0, .ref q3, .int 0, .ref q4, .int 0, .ref q5, .int 0, .ref q6, .ref q7, .int 0, .int 0, .int 0, .int 0, .ref q8, .int 0])), (q1, .inl (cI, 103, .inl (upd (fun _ => 0) 0 (4 : Int32)))), (q2, .inl (cI, 412, .inl (fun _ => 0))), (q3, .inl (cI, 103, .inl (fun _ => 0))), (q4, .inl (cI, 60, .inl (fun _ => 0))), (q5, .inl (cI, 10, .inl (fun _ => 0))), (q6, .inl (cI, 10, .inl (fun _ => 0))), (q7, .inl (cI, 10, .inl (fun _ => 0))), (q8, .inl (cI, 96, .inl (fun _ => 0)))] H locs := hw
  refine lv_aload_n hx hb dX6_init_81 rfl (lv_at hl 0 rfl) ?_
  refine fg_X6_7 X hw 0 rfl rfl dX6_init_82 ?_
  refine lv_iconst (v := 2) hx hb dX6_init_85 (by decide) ?_
  refine lv_iconst (v := 1) hx hb dX6_init_86 (by decide) ?_
  refine r_iast X hw 1 rfl (vp_lit (by decide)) rfl dX6_init_87 (fun H locs hw => ?_)
  have hw : Wd D A s.heap [(h0, .inr (6, [.int (0 : Int32), .ref q1, .ref q2, .int 0, .ref q3, .int 0, .ref q4, .int 0, .ref q5, .int 0, .ref q6, .ref q7, .int 0, .int 0, .int 0, .int 0, .ref q8, .int 0])), (q1, .inl (cI, 103, .inl (upd (upd (fun _ => 0) 0 (4 : Int32)) 2 (1 : Int32)))), (q2, .inl (cI, 412, .inl (fun _ => 0))), (q3, .inl (cI, 103, .inl (fun _ => 0))), (q4, .inl (cI, 60, .inl (fun _ => 0))), (q5, .inl (cI, 10, .inl (fun _ => 0))), (q6, .inl (cI, 10, .inl (fun _ => 0))), (q7, .inl (cI, 10, .inl (fun _ => 0))), (q8, .inl (cI, 96, .inl (fun _ => 0)))] H locs := hw
  exact r_retn X (fun k => match k with | 0 => q1 | 1 => q2 | 2 => q3 | 3 => q4 | 4 => q5 | 5 => q6 | 6 => q7 | 7 => q8 | _ => 0) hw hr hlk dX6_init_88
def rmX5_init : Room := { frames := 3, cells := 32, slots := 3171, locals := 81 }
section
variable {p : Program} {l : Launch} {e : Env} {R : Room} {s : State} {m : MethodId} {args : Array Value} {below : List Frame} {meth : Method} {c : Code} {H : Heap} {locs : List Loc} {cells slots : Nat} {Q : State → Prop}
variable {cc : ByteArray} {pc nL : Nat} {ls : Array Slot} {rest : List Value} {D : va_G} {cI cC cO : ClassId} {A : Nat → Prop} {ws : va_W} {H0 : Heap}
theorem cs_X5_11 (X : Ctx p m c cc nL s args RX5 D cI cC cO) (hR : rmX4_init.frames + 1 ≤ R.frames ∧ 8 + (1 + 11) + rmX4_init.locals ≤ R.locals) : CallB R s args RX5 11 yX4_init cX4_init 1 none (Wy yX4_init cX4_init 1 none) rmX4_init 1 100 0 ∧ yX4_init.name = "<init>" ∧ (Cond.instanceMethod yX4_init).before args s = true := cwI 0 X.1.2.2.2.2 (gi_all tw_23) rfl rfl rfl (X.1.2.2.2.2 _ tw_2) (X.1.2.2.2.2 _ tw_21) (X.1.2.2.2.2 _ tw_22) rfl (by decide +kernel) hR
theorem cs_X5_25 (X : Ctx p m c cc nL s args RX5 D cI cC cO) (hR : rmX0_init.frames + 1 ≤ R.frames ∧ 8 + (2 + 11) + rmX0_init.locals ≤ R.locals) : CallB R s args RX5 25 yX0_init cX0_init 2 none (Wy yX0_init cX0_init 2 none) rmX0_init 9 420 0 ∧ yX0_init.name = "<init>" ∧ (Cond.instanceMethod yX0_init).before args s = true := cwI 0 X.1.2.2.2.2 (gi_all tw_44) rfl rfl rfl (X.1.2.2.2.2 _ tw_3) (X.1.2.2.2.2 _ tw_42) (X.1.2.2.2.2 _ tw_43) rfl (by decide +kernel) hR
theorem cs_X5_32 (X : Ctx p m c cc nL s args RX5 D cI cC cO) (hR : rmX3_init.frames + 1 ≤ R.frames ∧ 8 + (1 + 11) + rmX3_init.locals ≤ R.locals) : CallB R s args RX5 32 yX3_init cX3_init 1 none (Wy yX3_init cX3_init 1 none) rmX3_init 4 105 0 ∧ yX3_init.name = "<init>" ∧ (Cond.instanceMethod yX3_init).before args s = true := cwI 0 X.1.2.2.2.2 (gi_all tw_58) rfl rfl rfl (X.1.2.2.2.2 _ tw_4) (X.1.2.2.2.2 _ tw_56) (X.1.2.2.2.2 _ tw_57) rfl (by decide +kernel) hR
theorem cs_X5_39 (X : Ctx p m c cc nL s args RX5 D cI cC cO) (hR : rmX2_init.frames + 1 ≤ R.frames ∧ 8 + (1 + 11) + rmX2_init.locals ≤ R.locals) : CallB R s args RX5 39 yX2_init cX2_init 1 none (Wy yX2_init cX2_init 1 none) rmX2_init 7 318 0 ∧ yX2_init.name = "<init>" ∧ (Cond.instanceMethod yX2_init).before args s = true := cwI 0 X.1.2.2.2.2 (gi_all tw_85) rfl rfl rfl (X.1.2.2.2.2 _ tw_5) (X.1.2.2.2.2 _ tw_83) (X.1.2.2.2.2 _ tw_84) rfl (by decide +kernel) hR
theorem cs_X5_46 (X : Ctx p m c cc nL s args RX5 D cI cC cO) (hR : rmX1_init.frames + 1 ≤ R.frames ∧ 8 + (1 + 11) + rmX1_init.locals ≤ R.locals) : CallB R s args RX5 46 yX1_init cX1_init 1 none (Wy yX1_init cX1_init 1 none) rmX1_init 4 2092 0 ∧ yX1_init.name = "<init>" ∧ (Cond.instanceMethod yX1_init).before args s = true := cwI 0 X.1.2.2.2.2 (gi_all tw_107) rfl rfl rfl (X.1.2.2.2.2 _ tw_6) (X.1.2.2.2.2 _ tw_105) (X.1.2.2.2.2 _ tw_106) rfl (by decide +kernel) hR
end
set_option maxHeartbeats 4000000 in
set_option maxRecDepth 100000 in
theorem c_X5_init (l : Launch) (D : va_G) (cI cC cO : ClassId) (h0 : Nat) : CN l yX5_init (Wy yX5_init cX5_init 1 none) rmX5_init D cI cC cO [.ref h0] [(h0, .inr (5, [.null, .null, .int 0, .null, .null, .null, .null]))] (fun u => [(h0, .inr (5, [.ref (u 0), .ref (u 2), .int (0 : Int32), .ref (u 4), .ref (u 14), .ref (u 19), .ref (u 27)])), ((u 0), .inr (4, [.int (4 : Int32), .int (0 : Int32), .int (1 : Int32), .ref (u 1)])), ((u 1), .inl (cI, 100, .inl (fun _ => 0))), ((u 2), .inr (4, [.int (4 : Int32), .int (0 : Int32), .int (1 : Int32), .ref (u 3)])), ((u 3), .inl (cI, 100, .inl (fun _ => 0))), ((u 4), .inr (0, [.ref (u 5), .int (0 : Int32)])), ((u 5), .inl (cO, 4, .inr (.inr (.inr (.inr (hst (f4 (u 6) (u 8) (u 10) (u 12)))))))), ((u 6), .inr (4, [.int (4 : Int32), .int (0 : Int32), .int (1 : Int32), .ref (u 7)])), ((u 7), .inl (cI, 100, .inl (fun _ => 0))), ((u 8), .inr (4, [.int (4 : Int32), .int (0 : Int32), .int (1 : Int32), .ref (u 9)])), ((u 9), .inl (cI, 100, .inl (fun _ => 0))), ((u 10), .inr (4, [.int (4 : Int32), .int (0 : Int32), .int (1 : Int32), .ref (u 11)])), ((u 11), .inl (cI, 100, .inl (fun _ => 0))), ((u 12), .inr (4, [.int (4 : Int32), .int (0 : Int32), .int (1 : Int32), .ref (u 13)])), ((u 13), .inl (cI, 100, .inl (fun _ => 0))), ((u 14), .inr (3, [.ref (u 15), .int (0 : Int32), .ref (u 16), .ref (u 17), .ref (u 18), .int (0 : Int32), .int (0 : Int32), .int 0, .int 0])), ((u 15), .inl (cC, 60, .inl (fun _ => 0))), ((u 16), .inl (cI, 15, .inl (fun _ => 0))), ((u 17), .inl (cI, 15, .inl (fun _ => 0))), ((u 18), .inl (cI, 15, .inl (fun _ => 0))), ((u 19), .inr (2, [.int (0 : Int32), .ref (u 20), .ref (u 21), .ref (u 22), .ref (u 23), .ref (u 24), .ref (u 25), .ref (u 26)])), ((u 20), .inl (cI, 10, .inl (fun _ => 0))), ((u 21), .inl (cI, 100, .inl (fun _ => 0))), ((u 22), .inl (cI, 10, .inl (fun _ => 0))), ((u 23), .inl (cI, 90, .inl (fun _ => 0))), ((u 24), .inl (cI, 90, .inl (fun _ => 0))), ((u 25), .inl (cI, 9, .inl (fun _ => 0))), ((u 26), .inl (cI, 9, .inl (fun _ => 0))), ((u 27), .inr (1, [.int (0 : Int32), .int (0 : Int32), .ref (u 28), .ref (u 29), .int (0 : Int32), .int (0 : Int32), .ref (u 30), .int (0 : Int32), .ref (u 31)])), ((u 28), .inl (cI, 1024, .inl (fun _ => 0))), ((u 29), .inl (cI, 512, .inl (fun _ => 0))), ((u 30), .inl (cI, 511, .inl (fun _ => 0))), ((u 31), .inl (cI, 45, .inl (fun _ => 0)))]) 32 3171 := by
  refine enter_n RX5 (by decide) rfl (Nat.le_of_ble_eq_true rfl) ?_
  intro p e s m below meth c A X hr hlk hin2 hw ls hl
  have hx := X.1.1
  have hb := X.1.2.1
  have hl : lv_has ls 1 [(0, .ref h0)] := hl
  refine lv_aload_n hx hb dX5_init_0 rfl (lv_at hl 0 rfl) ?_
  refine r_oinit X hl.1 tw_16 dX5_init_1 (by decide) (Nat.le_of_ble_eq_true rfl) ?_
  refine lv_aload_n hx hb dX5_init_4 rfl (lv_at hl 0 rfl) ?_
  refine r_new (ci := 4) (fs := [.int 0, .int 0, .int 0, .null]) (N := 4) X hw inX4 tyX4 tyX4_ok tw_19 tw_20 tw_2 rfl (fun j hj => by rcases (show j = 0 ∨ j = 1 ∨ j = 2 ∨ j = 3 by omega) with rfl | rfl | rfl | rfl <;> rfl) (Nat.le_of_ble_eq_true rfl) (Nat.le_of_ble_eq_true rfl) dX5_init_5 (fun q1 H hw => ?_)
  have hw : Wd D A s.heap [(h0, .inr (5, [.null, .null, .int 0, .null, .null, .null, .null])), (q1, .inr (4, [.int 0, .int 0, .int 0, .null]))] H [] := hw
  refine lv_dup hx hb dX5_init_8 rfl ?_
  refine r_cN X hw (wr := [(h0, .inr (5, [.null, .null, .int 0, .null, .null, .null, .null]))]) (c_X4_init l D cI cC cO q1) (cs_X5_11 X (by decide)) [1] [0] rfl rfl rfl (by decide) (by decide) hl.1 rfl (Nat.le_of_ble_eq_true rfl) dX5_init_9 ⟨Nat.le_of_ble_eq_true rfl, Nat.le_of_ble_eq_true rfl⟩ (fun u2 H locs hw => ?_)
  have hw : Wd D A s.heap [(h0, .inr (5, [.null, .null, .int 0, .null, .null, .null, .null])), (q1, .inr (4, [.int (4 : Int32), .int (0 : Int32), .int (1 : Int32), .ref (u2 0)])), ((u2 0), .inl (cI, 100, .inl (fun _ => 0)))] H locs := hw
  refine r_putF (k := 0) X hw hin2 inX5 tyX5 tyX5_ok nmX5 rfl (by decide) rfl rfl tw_129 rfl 0 rfl rfl rfl rfl dX5_init_12 (fun H locs hw => ?_)
  have hw : Wd D A s.heap [(h0, .inr (5, [.ref q1, .null, .int 0, .null, .null, .null, .null])), (q1, .inr (4, [.int (4 : Int32), .int (0 : Int32), .int (1 : Int32), .ref (u2 0)])), ((u2 0), .inl (cI, 100, .inl (fun _ => 0)))] H locs := hw
  refine lv_aload_n hx hb dX5_init_15 rfl (lv_at hl 0 rfl) ?_
  refine r_new (ci := 4) (fs := [.int 0, .int 0, .int 0, .null]) (N := 4) X hw inX4 tyX4 tyX4_ok tw_19 tw_20 tw_2 rfl (fun j hj => by rcases (show j = 0 ∨ j = 1 ∨ j = 2 ∨ j = 3 by omega) with rfl | rfl | rfl | rfl <;> rfl) (Nat.le_of_ble_eq_true rfl) (Nat.le_of_ble_eq_true rfl) dX5_init_16 (fun q3 H hw => ?_)
  have hw : Wd D A s.heap [(h0, .inr (5, [.ref q1, .null, .int 0, .null, .null, .null, .null])), (q1, .inr (4, [.int (4 : Int32), .int (0 : Int32), .int (1 : Int32), .ref (u2 0)])), ((u2 0), .inl (cI, 100, .inl (fun _ => 0))), (q3, .inr (4, [.int 0, .int 0, .int 0, .null]))] H locs := hw
  refine lv_dup hx hb dX5_init_19 rfl ?_
  refine r_cN X hw (wr := [(h0, .inr (5, [.ref q1, .null, .int 0, .null, .null, .null, .null])), (q1, .inr (4, [.int (4 : Int32), .int (0 : Int32), .int (1 : Int32), .ref (u2 0)])), ((u2 0), .inl (cI, 100, .inl (fun _ => 0)))]) (c_X4_init l D cI cC cO q3) (cs_X5_11 X (by decide)) [3] [0, 1, 2] rfl rfl rfl (by decide) (by decide) hl.1 rfl (Nat.le_of_ble_eq_true rfl) dX5_init_20 ⟨Nat.le_of_ble_eq_true rfl, Nat.le_of_ble_eq_true rfl⟩ (fun u4 H locs hw => ?_)
  have hw : Wd D A s.heap [(h0, .inr (5, [.ref q1, .null, .int 0, .null, .null, .null, .null])), (q1, .inr (4, [.int (4 : Int32), .int (0 : Int32), .int (1 : Int32), .ref (u2 0)])), ((u2 0), .inl (cI, 100, .inl (fun _ => 0))), (q3, .inr (4, [.int (4 : Int32), .int (0 : Int32), .int (1 : Int32), .ref (u4 0)])), ((u4 0), .inl (cI, 100, .inl (fun _ => 0)))] H locs := hw
  refine r_putF (k := 1) X hw hin2 inX5 tyX5 tyX5_ok nmX5 rfl (by decide) rfl rfl tw_130 rfl 0 rfl rfl rfl rfl dX5_init_23 (fun H locs hw => ?_)
  have hw : Wd D A s.heap [(h0, .inr (5, [.ref q1, .ref q3, .int 0, .null, .null, .null, .null])), (q1, .inr (4, [.int (4 : Int32), .int (0 : Int32), .int (1 : Int32), .ref (u2 0)])), ((u2 0), .inl (cI, 100, .inl (fun _ => 0))), (q3, .inr (4, [.int (4 : Int32), .int (0 : Int32), .int (1 : Int32), .ref (u4 0)])), ((u4 0), .inl (cI, 100, .inl (fun _ => 0)))] H locs := hw
  refine lv_aload_n hx hb dX5_init_26 rfl (lv_at hl 0 rfl) ?_
  refine lv_iconst (v := 0) hx hb dX5_init_27 (by decide) ?_
  refine fp_X5_19 X hw 0 rfl rfl (by decide) dX5_init_28 (fun H locs hw => ?_)
  have hw : Wd D A s.heap [(h0, .inr (5, [.ref q1, .ref q3, .int (0 : Int32), .null, .null, .null, .null])), (q1, .inr (4, [.int (4 : Int32), .int (0 : Int32), .int (1 : Int32), .ref (u2 0)])), ((u2 0), .inl (cI, 100, .inl (fun _ => 0))), (q3, .inr (4, [.int (4 : Int32), .int (0 : Int32), .int (1 : Int32), .ref (u4 0)])), ((u4 0), .inl (cI, 100, .inl (fun _ => 0)))] H locs := hw
  refine lv_aload_n hx hb dX5_init_31 rfl (lv_at hl 0 rfl) ?_
  refine r_new (ci := 0) (fs := [.null, .int 0]) (N := 2) X hw inX0 tyX0 tyX0_ok tw_40 tw_41 tw_3 rfl (fun j hj => by rcases (show j = 0 ∨ j = 1 by omega) with rfl | rfl <;> rfl) (Nat.le_of_ble_eq_true rfl) (Nat.le_of_ble_eq_true rfl) dX5_init_32 (fun q5 H hw => ?_)
  have hw : Wd D A s.heap [(h0, .inr (5, [.ref q1, .ref q3, .int (0 : Int32), .null, .null, .null, .null])), (q1, .inr (4, [.int (4 : Int32), .int (0 : Int32), .int (1 : Int32), .ref (u2 0)])), ((u2 0), .inl (cI, 100, .inl (fun _ => 0))), (q3, .inr (4, [.int (4 : Int32), .int (0 : Int32), .int (1 : Int32), .ref (u4 0)])), ((u4 0), .inl (cI, 100, .inl (fun _ => 0))), (q5, .inr (0, [.null, .int 0]))] H locs := hw
  refine lv_dup hx hb dX5_init_35 rfl ?_
  refine r_cN X hw (wr := [(h0, .inr (5, [.ref q1, .ref q3, .int (0 : Int32), .null, .null, .null, .null])), (q1, .inr (4, [.int (4 : Int32), .int (0 : Int32), .int (1 : Int32), .ref (u2 0)])), ((u2 0), .inl (cI, 100, .inl (fun _ => 0))), (q3, .inr (4, [.int (4 : Int32), .int (0 : Int32), .int (1 : Int32), .ref (u4 0)])), ((u4 0), .inl (cI, 100, .inl (fun _ => 0)))]) (c_X0_init l D cI cC cO q5) (cs_X5_25 X (by decide)) [5] [0, 1, 2, 3, 4] rfl rfl rfl (by decide) (by decide) hl.1 rfl (Nat.le_of_ble_eq_true rfl) dX5_init_36 ⟨Nat.le_of_ble_eq_true rfl, Nat.le_of_ble_eq_true rfl⟩ (fun u6 H locs hw => ?_)
  have hw : Wd D A s.heap [(h0, .inr (5, [.ref q1, .ref q3, .int (0 : Int32), .null, .null, .null, .null])), (q1, .inr (4, [.int (4 : Int32), .int (0 : Int32), .int (1 : Int32), .ref (u2 0)])), ((u2 0), .inl (cI, 100, .inl (fun _ => 0))), (q3, .inr (4, [.int (4 : Int32), .int (0 : Int32), .int (1 : Int32), .ref (u4 0)])), ((u4 0), .inl (cI, 100, .inl (fun _ => 0))), (q5, .inr (0, [.ref (u6 0), .int (0 : Int32)])), ((u6 0), .inl (cO, 4, .inr (.inr (.inr (.inr (hst (f4 (u6 1) (u6 3) (u6 5) (u6 7)))))))), ((u6 1), .inr (4, [.int (4 : Int32), .int (0 : Int32), .int (1 : Int32), .ref (u6 2)])), ((u6 2), .inl (cI, 100, .inl (fun _ => 0))), ((u6 3), .inr (4, [.int (4 : Int32), .int (0 : Int32), .int (1 : Int32), .ref (u6 4)])), ((u6 4), .inl (cI, 100, .inl (fun _ => 0))), ((u6 5), .inr (4, [.int (4 : Int32), .int (0 : Int32), .int (1 : Int32), .ref (u6 6)])), ((u6 6), .inl (cI, 100, .inl (fun _ => 0))), ((u6 7), .inr (4, [.int (4 : Int32), .int (0 : Int32), .int (1 : Int32), .ref (u6 8)])), ((u6 8), .inl (cI, 100, .inl (fun _ => 0)))] H locs := hw
  refine r_putF (k := 3) X hw hin2 inX5 tyX5 tyX5_ok nmX5 rfl (by decide) rfl rfl tw_132 rfl 0 rfl rfl rfl rfl dX5_init_39 (fun H locs hw => ?_)
  have hw : Wd D A s.heap [(h0, .inr (5, [.ref q1, .ref q3, .int (0 : Int32), .ref q5, .null, .null, .null])), (q1, .inr (4, [.int (4 : Int32), .int (0 : Int32), .int (1 : Int32), .ref (u2 0)])), ((u2 0), .inl (cI, 100, .inl (fun _ => 0))), (q3, .inr (4, [.int (4 : Int32), .int (0 : Int32), .int (1 : Int32), .ref (u4 0)])), ((u4 0), .inl (cI, 100, .inl (fun _ => 0))), (q5, .inr (0, [.ref (u6 0), .int (0 : Int32)])), ((u6 0), .inl (cO, 4, .inr (.inr (.inr (.inr (hst (f4 (u6 1) (u6 3) (u6 5) (u6 7)))))))), ((u6 1), .inr (4, [.int (4 : Int32), .int (0 : Int32), .int (1 : Int32), .ref (u6 2)])), ((u6 2), .inl (cI, 100, .inl (fun _ => 0))), ((u6 3), .inr (4, [.int (4 : Int32), .int (0 : Int32), .int (1 : Int32), .ref (u6 4)])), ((u6 4), .inl (cI, 100, .inl (fun _ => 0))), ((u6 5), .inr (4, [.int (4 : Int32), .int (0 : Int32), .int (1 : Int32), .ref (u6 6)])), ((u6 6), .inl (cI, 100, .inl (fun _ => 0))), ((u6 7), .inr (4, [.int (4 : Int32), .int (0 : Int32), .int (1 : Int32), .ref (u6 8)])), ((u6 8), .inl (cI, 100, .inl (fun _ => 0)))] H locs := hw
  refine lv_aload_n hx hb dX5_init_42 rfl (lv_at hl 0 rfl) ?_
  refine r_new (ci := 3) (fs := [.null, .int 0, .null, .null, .null, .int 0, .int 0, .int 0, .int 0]) (N := 9) X hw inX3 tyX3 tyX3_ok tw_54 tw_55 tw_4 rfl (fun j hj => by rcases (show j = 0 ∨ j = 1 ∨ j = 2 ∨ j = 3 ∨ j = 4 ∨ j = 5 ∨ j = 6 ∨ j = 7 ∨ j = 8 by omega) with rfl | rfl | rfl | rfl | rfl | rfl | rfl | rfl | rfl <;> rfl) (Nat.le_of_ble_eq_true rfl) (Nat.le_of_ble_eq_true rfl) dX5_init_43 (fun q7 H hw => ?_)
  have hw : Wd D A s.heap [(h0, .inr (5, [.ref q1, .ref q3, .int (0 : Int32), .ref q5, .null, .null, .null])), (q1, .inr (4, [.int (4 : Int32), .int (0 : Int32), .int (1 : Int32), .ref (u2 0)])), ((u2 0), .inl (cI, 100, .inl (fun _ => 0))), (q3, .inr (4, [.int (4 : Int32), .int (0 : Int32), .int (1 : Int32), .ref (u4 0)])), ((u4 0), .inl (cI, 100, .inl (fun _ => 0))), (q5, .inr (0, [.ref (u6 0), .int (0 : Int32)])), ((u6 0), .inl (cO, 4, .inr (.inr (.inr (.inr (hst (f4 (u6 1) (u6 3) (u6 5) (u6 7)))))))), ((u6 1), .inr (4, [.int (4 : Int32), .int (0 : Int32), .int (1 : Int32), .ref (u6 2)])), ((u6 2), .inl (cI, 100, .inl (fun _ => 0))), ((u6 3), .inr (4, [.int (4 : Int32), .int (0 : Int32), .int (1 : Int32), .ref (u6 4)])), ((u6 4), .inl (cI, 100, .inl (fun _ => 0))), ((u6 5), .inr (4, [.int (4 : Int32), .int (0 : Int32), .int (1 : Int32), .ref (u6 6)])), ((u6 6), .inl (cI, 100, .inl (fun _ => 0))), ((u6 7), .inr (4, [.int (4 : Int32), .int (0 : Int32), .int (1 : Int32), .ref (u6 8)])), ((u6 8), .inl (cI, 100, .inl (fun _ => 0))), (q7, .inr (3, [.null, .int 0, .null, .null, .null, .int 0, .int 0, .int 0, .int 0]))] H locs := hw
  refine lv_dup hx hb dX5_init_46 rfl ?_
  refine r_cN X hw (wr := [(h0, .inr (5, [.ref q1, .ref q3, .int (0 : Int32), .ref q5, .null, .null, .null])), (q1, .inr (4, [.int (4 : Int32), .int (0 : Int32), .int (1 : Int32), .ref (u2 0)])), ((u2 0), .inl (cI, 100, .inl (fun _ => 0))), (q3, .inr (4, [.int (4 : Int32), .int (0 : Int32), .int (1 : Int32), .ref (u4 0)])), ((u4 0), .inl (cI, 100, .inl (fun _ => 0))), (q5, .inr (0, [.ref (u6 0), .int (0 : Int32)])), ((u6 0), .inl (cO, 4, .inr (.inr (.inr (.inr (hst (f4 (u6 1) (u6 3) (u6 5) (u6 7)))))))), ((u6 1), .inr (4, [.int (4 : Int32), .int (0 : Int32), .int (1 : Int32), .ref (u6 2)])), ((u6 2), .inl (cI, 100, .inl (fun _ => 0))), ((u6 3), .inr (4, [.int (4 : Int32), .int (0 : Int32), .int (1 : Int32), .ref (u6 4)])), ((u6 4), .inl (cI, 100, .inl (fun _ => 0))), ((u6 5), .inr (4, [.int (4 : Int32), .int (0 : Int32), .int (1 : Int32), .ref (u6 6)])), ((u6 6), .inl (cI, 100, .inl (fun _ => 0))), ((u6 7), .inr (4, [.int (4 : Int32), .int (0 : Int32), .int (1 : Int32), .ref (u6 8)])), ((u6 8), .inl (cI, 100, .inl (fun _ => 0)))]) (c_X3_init l D cI cC cO q7) (cs_X5_32 X (by decide)) [15] [0, 1, 2, 3, 4, 5, 6, 7, 8, 9, 10, 11, 12, 13, 14] rfl rfl rfl (by decide) (by decide) hl.1 rfl (Nat.le_of_ble_eq_true rfl) dX5_init_47 ⟨Nat.le_of_ble_eq_true rfl, Nat.le_of_ble_eq_true rfl⟩ (fun u8 H locs hw => ?_)
  have hw : Wd D A s.heap [(h0, .inr (5, [.ref q1, .ref q3, .int (0 : Int32), .ref q5, .null, .null, .null])), (q1, .inr (4, [.int (4 : Int32), .int (0 : Int32), .int (1 : Int32), .ref (u2 0)])), ((u2 0), .inl (cI, 100, .inl (fun _ => 0))), (q3, .inr (4, [.int (4 : Int32), .int (0 : Int32), .int (1 : Int32), .ref (u4 0)])), ((u4 0), .inl (cI, 100, .inl (fun _ => 0))), (q5, .inr (0, [.ref (u6 0), .int (0 : Int32)])), ((u6 0), .inl (cO, 4, .inr (.inr (.inr (.inr (hst (f4 (u6 1) (u6 3) (u6 5) (u6 7)))))))), ((u6 1), .inr (4, [.int (4 : Int32), .int (0 : Int32), .int (1 : Int32), .ref (u6 2)])), ((u6 2), .inl (cI, 100, .inl (fun _ => 0))), ((u6 3), .inr (4, [.int (4 : Int32), .int (0 : Int32), .int (1 : Int32), .ref (u6 4)])), ((u6 4), .inl (cI, 100, .inl (fun _ => 0))), ((u6 5), .inr (4, [.int (4 : Int32), .int (0 : Int32), .int (1 : Int32), .ref (u6 6)])), ((u6 6), .inl (cI, 100, .inl (fun _ => 0))), ((u6 7), .inr (4, [.int (4 : Int32), .int (0 : Int32), .int (1 : Int32), .ref (u6 8)])), ((u6 8), .inl (cI, 100, .inl (fun _ => 0))), (q7, .inr (3, [.ref (u8 0), .int (0 : Int32), .ref (u8 1), .ref (u8 2), .ref (u8 3), .int (0 : Int32), .int (0 : Int32), .int 0, .int 0])), ((u8 0), .inl (cC, 60, .inl (fun _ => 0))), ((u8 1), .inl (cI, 15, .inl (fun _ => 0))), ((u8 2), .inl (cI, 15, .inl (fun _ => 0))), ((u8 3), .inl (cI, 15, .inl (fun _ => 0)))] H locs := hw
  refine r_putF (k := 4) X hw hin2 inX5 tyX5 tyX5_ok nmX5 rfl (by decide) rfl rfl tw_133 rfl 0 rfl rfl rfl rfl dX5_init_50 (fun H locs hw => ?_)
  have hw : Wd D A s.heap [(h0, .inr (5, [.ref q1, .ref q3, .int (0 : Int32), .ref q5, .ref q7, .null, .null])), (q1, .inr (4, [.int (4 : Int32), .int (0 : Int32), .int (1 : Int32), .ref (u2 0)])), ((u2 0), .inl (cI, 100, .inl (fun _ => 0))), (q3, .inr (4, [.int (4 : Int32), .int (0 : Int32), .int (1 : Int32), .ref (u4 0)])), ((u4 0), .inl (cI, 100, .inl (fun _ => 0))), (q5, .inr (0, [.ref (u6 0), .int (0 : Int32)])), ((u6 0), .inl (cO, 4, .inr (.inr (.inr (.inr (hst (f4 (u6 1) (u6 3) (u6 5) (u6 7)))))))), ((u6 1), .inr (4, [.int (4 : Int32), .int (0 : Int32), .int (1 : Int32), .ref (u6 2)])), ((u6 2), .inl (cI, 100, .inl (fun _ => 0))), ((u6 3), .inr (4, [.int (4 : Int32), .int (0 : Int32), .int (1 : Int32), .ref (u6 4)])), ((u6 4), .inl (cI, 100, .inl (fun _ => 0))), ((u6 5), .inr (4, [.int (4 : Int32), .int (0 : Int32), .int (1 : Int32), .ref (u6 6)])), ((u6 6), .inl (cI, 100, .inl (fun _ => 0))), ((u6 7), .inr (4, [.int (4 : Int32), .int (0 : Int32), .int (1 : Int32), .ref (u6 8)])), ((u6 8), .inl (cI, 100, .inl (fun _ => 0))), (q7, .inr (3, [.ref (u8 0), .int (0 : Int32), .ref (u8 1), .ref (u8 2), .ref (u8 3), .int (0 : Int32), .int (0 : Int32), .int 0, .int 0])), ((u8 0), .inl (cC, 60, .inl (fun _ => 0))), ((u8 1), .inl (cI, 15, .inl (fun _ => 0))), ((u8 2), .inl (cI, 15, .inl (fun _ => 0))), ((u8 3), .inl (cI, 15, .inl (fun _ => 0)))] H locs := hw
  refine lv_aload_n hx hb dX5_init_53 rfl (lv_at hl 0 rfl) ?_
  refine r_new (ci := 2) (fs := [.int 0, .null, .null, .null, .null, .null, .null, .null]) (N := 8) X hw inX2 tyX2 tyX2_ok tw_81 tw_82 tw_5 rfl (fun j hj => by rcases (show j = 0 ∨ j = 1 ∨ j = 2 ∨ j = 3 ∨ j = 4 ∨ j = 5 ∨ j = 6 ∨ j = 7 by omega) with rfl | rfl | rfl | rfl | rfl | rfl | rfl | rfl <;> rfl) (Nat.le_of_ble_eq_true rfl) (Nat.le_of_ble_eq_true rfl) dX5_init_54 (fun q9 H hw => ?_)
  have hw : Wd D A s.heap [(h0, .inr (5, [.ref q1, .ref q3, .int (0 : Int32), .ref q5, .ref q7, .null, .null])), (q1, .inr (4, [.int (4 : Int32), .int (0 : Int32), .int (1 : Int32), .ref (u2 0)])), ((u2 0), .inl (cI, 100, .inl (fun _ => 0))), (q3, .inr (4, [.int (4 : Int32), .int (0 : Int32), .int (1 : Int32), .ref (u4 0)])), ((u4 0), .inl (cI, 100, .inl (fun _ => 0))), (q5, .inr (0, [.ref (u6 0), .int (0 : Int32)])), ((u6 0), .inl (cO, 4, .inr (.inr (.inr (.inr (hst (f4 (u6 1) (u6 3) (u6 5) (u6 7)))))))), ((u6 1), .inr (4, [.int (4 : Int32), .int (0 : Int32), .int (1 : Int32), .ref (u6 2)])), ((u6 2), .inl (cI, 100, .inl (fun _ => 0))), ((u6 3), .inr (4, [.int (4 : Int32), .int (0 : Int32), .int (1 : Int32), .ref (u6 4)])), ((u6 4), .inl (cI, 100, .inl (fun _ => 0))), ((u6 5), .inr (4, [.int (4 : Int32), .int (0 : Int32), .int (1 : Int32), .ref (u6 6)])), ((u6 6), .inl (cI, 100, .inl (fun _ => 0))), ((u6 7), .inr (4, [.int (4 : Int32), .int (0 : Int32), .int (1 : Int32), .ref (u6 8)])), ((u6 8), .inl (cI, 100, .inl (fun _ => 0))), (q7, .inr (3, [.ref (u8 0), .int (0 : Int32), .ref (u8 1), .ref (u8 2), .ref (u8 3), .int (0 : Int32), .int (0 : Int32), .int 0, .int 0])), ((u8 0), .inl (cC, 60, .inl (fun _ => 0))), ((u8 1), .inl (cI, 15, .inl (fun _ => 0))), ((u8 2), .inl (cI, 15, .inl (fun _ => 0))), ((u8 3), .inl (cI, 15, .inl (fun _ => 0))), (q9, .inr (2, [.int 0, .null, .null, .null, .null, .null, .null, .null]))] H locs := hw
  refine lv_dup hx hb dX5_init_57 rfl ?_
  refine r_cN X hw (wr := [(h0, .inr (5, [.ref q1, .ref q3, .int (0 : Int32), .ref q5, .ref q7, .null, .null])), (q1, .inr (4, [.int (4 : Int32), .int (0 : Int32), .int (1 : Int32), .ref (u2 0)])), ((u2 0), .inl (cI, 100, .inl (fun _ => 0))), (q3, .inr (4, [.int (4 : Int32), .int (0 : Int32), .int (1 : Int32), .ref (u4 0)])), ((u4 0), .inl (cI, 100, .inl (fun _ => 0))), (q5, .inr (0, [.ref (u6 0), .int (0 : Int32)])), ((u6 0), .inl (cO, 4, .inr (.inr (.inr (.inr (hst (f4 (u6 1) (u6 3) (u6 5) (u6 7)))))))), ((u6 1), .inr (4, [.int (4 : Int32), .int (0 : Int32), .int (1 : Int32), .ref (u6 2)])), ((u6 2), .inl (cI, 100, .inl (fun _ => 0))), ((u6 3), .inr (4, [.int (4 : Int32), .int (0 : Int32), .int (1 : Int32), .ref (u6 4)])), ((u6 4), .inl (cI, 100, .inl (fun _ => 0))), ((u6 5), .inr (4, [.int (4 : Int32), .int (0 : Int32), .int (1 : Int32), .ref (u6 6)])), ((u6 6), .inl (cI, 100, .inl (fun _ => 0))), ((u6 7), .inr (4, [.int (4 : Int32), .int (0 : Int32), .int (1 : Int32), .ref (u6 8)])), ((u6 8), .inl (cI, 100, .inl (fun _ => 0))), (q7, .inr (3, [.ref (u8 0), .int (0 : Int32), .ref (u8 1), .ref (u8 2), .ref (u8 3), .int (0 : Int32), .int (0 : Int32), .int 0, .int 0])), ((u8 0), .inl (cC, 60, .inl (fun _ => 0))), ((u8 1), .inl (cI, 15, .inl (fun _ => 0))), ((u8 2), .inl (cI, 15, .inl (fun _ => 0))), ((u8 3), .inl (cI, 15, .inl (fun _ => 0)))]) (c_X2_init l D cI cC cO q9) (cs_X5_39 X (by decide)) [20] [0, 1, 2, 3, 4, 5, 6, 7, 8, 9, 10, 11, 12, 13, 14, 15, 16, 17, 18, 19] rfl rfl rfl (by decide) (by decide) hl.1 rfl (Nat.le_of_ble_eq_true rfl) dX5_init_58 ⟨Nat.le_of_ble_eq_true rfl, Nat.le_of_ble_eq_true rfl⟩ (fun u10 H locs hw => ?_)
  have hw : Wd D A s.heap [(h0, .inr (5, [.ref q1, .ref q3, .int (0 : Int32), .ref q5, .ref q7, .null, .null])), (q1, .inr (4, [.int (4 : Int32), .int (0 : Int32), .int (1 : Int32), .ref (u2 0)])), ((u2 0), .inl (cI, 100, .inl (fun _ => 0))), (q3, .inr (4, [.int (4 : Int32), .int (0 : Int32), .int (1 : Int32), .ref (u4 0)])), ((u4 0), .inl (cI, 100, .inl (fun _ => 0))), (q5, .inr (0, [.ref (u6 0), .int (0 : Int32)])), ((u6 0), .inl (cO, 4, .inr (.inr (.inr (.inr (hst (f4 (u6 1) (u6 3) (u6 5) (u6 7)))))))), ((u6 1), .inr (4, [.int (4 : Int32), .int (0 : Int32), .int (1 : Int32), .ref (u6 2)])), ((u6 2), .inl (cI, 100, .inl (fun _ => 0))), ((u6 3), .inr (4, [.int (4 : Int32), .int (0 : Int32), .int (1 : Int32), .ref (u6 4)])), ((u6 4), .inl (cI, 100, .inl (fun _ => 0))), ((u6 5), .inr (4, [.int (4 : Int32), .int (0 : Int32), .int (1 : Int32), .ref (u6 6)])), ((u6 6), .inl (cI, 100, .inl (fun _ => 0))), ((u6 7), .inr (4, [.int (4 : Int32), .int (0 : Int32), .int (1 : Int32), .ref (u6 8)])), ((u6 8), .inl (cI, 100, .inl (fun _ => 0))), (q7, .inr (3, [.ref (u8 0), .int (0 : Int32), .ref (u8 1), .ref (u8 2), .ref (u8 3), .int (0 : Int32), .int (0 : Int32), .int 0, .int 0])), ((u8 0), .inl (cC, 60, .inl (fun _ => 0))), ((u8 1), .inl (cI, 15, .inl (fun _ => 0))), ((u8 2), .inl (cI, 15, .inl (fun _ => 0))), ((u8 3), .inl (cI, 15, .inl (fun _ => 0))), (q9, .inr (2, [.int (0 : Int32), .ref (u10 0), .ref (u10 1), .ref (u10 2), .ref (u10 3), .ref (u10 4), .ref (u10 5), .ref (u10 6)])), ((u10 0), .inl (cI, 10, .inl (fun _ => 0))), ((u10 1), .inl (cI, 100, .inl (fun _ => 0))), ((u10 2), .inl (cI, 10, .inl (fun _ => 0))), ((u10 3), .inl (cI, 90, .inl (fun _ => 0))), ((u10 4), .inl (cI, 90, .inl (fun _ => 0))), ((u10 5), .inl (cI, 9, .inl (fun _ => 0))), ((u10 6), .inl (cI, 9, .inl (fun _ => 0)))] H locs := hw
  refine r_putF (k := 5) X hw hin2 inX5 tyX5 tyX5_ok nmX5 rfl (by decide) rfl rfl tw_134 rfl 0 rfl rfl rfl rfl dX5_init_61 (fun H locs hw => ?_)
  have hw : Wd D A s.heap [(h0, .inr (5, [.ref q1, .ref q3, .int (0 : Int32), .ref q5, .ref q7, .ref q9, .null])), (q1, .inr (4, [.int (4 : Int32), .int (0 : Int32), .int (1 : Int32), .ref (u2 0)])), ((u2 0), .inl (cI, 100, .inl (fun _ => 0))), (q3, .inr (4, [.int (4 : Int32), .int (0 : Int32), .int (1 : Int32), .ref (u4 0)])), ((u4 0), .inl (cI, 100, .inl (fun _ => 0))), (q5, .inr (0, [.ref (u6 0), .int (0 : Int32)])), ((u6 0), .inl (cO, 4, .inr (.inr (.inr (.inr (hst (f4 (u6 1) (u6 3) (u6 5) (u6 7)))))))), ((u6 1), .inr (4, [.int (4 : Int32), .int (0 : Int32), .int (1 : Int32), .ref (u6 2)])), ((u6 2), .inl (cI, 100, .inl (fun _ => 0))), ((u6 3), .inr (4, [.int (4 : Int32), .int (0 : Int32), .int (1 : Int32), .ref (u6 4)])), ((u6 4), .inl (cI, 100, .inl (fun _ => 0))), ((u6 5), .inr (4, [.int (4 : Int32), .int (0 : Int32), .int (1 : Int32), .ref (u6 6)])), ((u6 6), .inl (cI, 100, .inl (fun _ => 0))), ((u6 7), .inr (4, [.int (4 : Int32), .int (0 : Int32), .int (1 : Int32), .ref (u6 8)])), ((u6 8), .inl (cI, 100, .inl (fun _ => 0))), (q7, .inr (3, [.ref (u8 0), .int (0 : Int32), .ref (u8 1), .ref (u8 2), .ref (u8 3), .int (0 : Int32), .int (0 : Int32), .int 0, .int 0])), ((u8 0), .inl (cC, 60, .inl (fun _ => 0))), ((u8 1), .inl (cI, 15, .inl (fun _ => 0))), ((u8 2), .inl (cI, 15, .inl (fun _ => 0))), ((u8 3), .inl (cI, 15, .inl (fun _ => 0))), (q9, .inr (2, [.int (0 : Int32), .ref (u10 0), .ref (u10 1), .ref (u10 2), .ref (u10 3), .ref (u10 4), .ref (u10 5), .ref (u10 6)])), ((u10 0), .inl (cI, 10, .inl (fun _ => 0))), ((u10 1), .inl (cI, 100, .inl (fun _ => 0))), ((u10 2), .inl (cI, 10, .inl (fun _ => 0))), ((u10 3), .inl (cI, 90, .inl (fun _ => 0))), ((u10 4), .inl (cI, 90, .inl (fun _ => 0))), ((u10 5), .inl (cI, 9, .inl (fun _ => 0))), ((u10 6), .inl (cI, 9, .inl (fun _ => 0)))] H locs := hw
  refine lv_aload_n hx hb dX5_init_64 rfl (lv_at hl 0 rfl) ?_
  refine r_new (ci := 1) (fs := [.int 0, .int 0, .null, .null, .int 0, .int 0, .null, .int 0, .null]) (N := 9) X hw inX1 tyX1 tyX1_ok tw_103 tw_104 tw_6 rfl (fun j hj => by rcases (show j = 0 ∨ j = 1 ∨ j = 2 ∨ j = 3 ∨ j = 4 ∨ j = 5 ∨ j = 6 ∨ j = 7 ∨ j = 8 by omega) with rfl | rfl | rfl | rfl | rfl | rfl | rfl | rfl | rfl <;> rfl) (Nat.le_of_ble_eq_true rfl) (Nat.le_of_ble_eq_true rfl) dX5_init_65 (fun q11 H hw => ?_)
  have hw : Wd D A s.heap [(h0, .inr (5, [.ref q1, .ref q3, .int (0 : Int32), .ref q5, .ref q7, .ref q9, .null])), (q1, .inr (4, [.int (4 : Int32), .int (0 : Int32), .int (1 : Int32), .ref (u2 0)])), ((u2 0), .inl (cI, 100, .inl (fun _ => 0))), (q3, .inr (4, [.int (4 : Int32), .int (0 : Int32), .int (1 : Int32), .ref (u4 0)])), ((u4 0), .inl (cI, 100, .inl (fun _ => 0))), (q5, .inr (0, [.ref (u6 0), .int (0 : Int32)])), ((u6 0), .inl (cO, 4, .inr (.inr (.inr (.inr (hst (f4 (u6 1) (u6 3) (u6 5) (u6 7)))))))), ((u6 1), .inr (4, [.int (4 : Int32), .int (0 : Int32), .int (1 : Int32), .ref (u6 2)])), ((u6 2), .inl (cI, 100, .inl (fun _ => 0))), ((u6 3), .inr (4, [.int (4 : Int32), .int (0 : Int32), .int (1 : Int32), .ref (u6 4)])), ((u6 4), .inl (cI, 100, .inl (fun _ => 0))), ((u6 5), .inr (4, [.int (4 : Int32), .int (0 : Int32), .int (1 : Int32), .ref (u6 6)])), ((u6 6), .inl (cI, 100, .inl (fun _ => 0))), ((u6 7), .inr (4, [.int (4 : Int32), .int (0 : Int32), .int (1 : Int32), .ref (u6 8)])), ((u6 8), .inl (cI, 100, .inl (fun _ => 0))), (q7, .inr (3, [.ref (u8 0), .int (0 : Int32), .ref (u8 1), .ref (u8 2), .ref (u8 3), .int (0 : Int32), .int (0 : Int32), .int 0, .int 0])), ((u8 0), .inl (cC, 60, .inl (fun _ => 0))), ((u8 1), .inl (cI, 15, .inl (fun _ => 0))), ((u8 2), .inl (cI, 15, .inl (fun _ => 0))), ((u8 3), .inl (cI, 15, .inl (fun _ => 0))), (q9, .inr (2, [.int (0 : Int32), .ref (u10 0), .ref (u10 1), .ref (u10 2), .ref (u10 3), .ref (u10 4), .ref (u10 5), .ref (u10 6)])), ((u10 0), .inl (cI, 10, .inl (fun _ => 0))), ((u10 1), .inl (cI, 100, .inl (fun _ => 0))), ((u10 2), .inl (cI, 10, .inl (fun _ => 0))), ((u10 3), .inl (cI, 90, .inl (fun _ => 0))), ((u10 4), .inl (cI, 90, .inl (fun _ => 0))), ((u10 5), .inl (cI, 9, .inl (fun _ => 0))), ((u10 6), .inl (cI, 9, .inl (fun _ => 0))), (q11, .inr (1, [.int 0, .int 0, .null, .null, .int 0, .int 0, .null, .int 0, .null]))] H locs := hw
  refine lv_dup hx hb dX5_init_68 rfl ?_
  refine r_cN X hw (wr := [(h0, .inr (5, [.ref q1, .ref q3, .int (0 : Int32), .ref q5, .ref q7, .ref q9, .null])), (q1, .inr (4, [.int (4 : Int32), .int (0 : Int32), .int (1 : Int32), .ref (u2 0)])), ((u2 0), .inl (cI, 100, .inl (fun _ => 0))), (q3, .inr (4, [.int (4 : Int32), .int (0 : Int32), .int (1 : Int32), .ref (u4 0)])), ((u4 0), .inl (cI, 100, .inl (fun _ => 0))), (q5, .inr (0, [.ref (u6 0), .int (0 : Int32)])), ((u6 0), .inl (cO, 4, .inr (.inr (.inr (.inr (hst (f4 (u6 1) (u6 3) (u6 5) (u6 7)))))))), ((u6 1), .inr (4, [.int (4 : Int32), .int (0 : Int32), .int (1 : Int32), .ref (u6 2)])), ((u6 2), .inl (cI, 100, .inl (fun _ => 0))), ((u6 3), .inr (4, [.int (4 : Int32), .int (0 : Int32), .int (1 : Int32), .ref (u6 4)])), ((u6 4), .inl (cI, 100, .inl (fun _ => 0))), ((u6 5), .inr (4, [.int (4 : Int32), .int (0 : Int32), .int (1 : Int32), .ref (u6 6)])), ((u6 6), .inl (cI, 100, .inl (fun _ => 0))), ((u6 7), .inr (4, [.int (4 : Int32), .int (0 : Int32), .int (1 : Int32), .ref (u6 8)])), ((u6 8), .inl (cI, 100, .inl (fun _ => 0))), (q7, .inr (3, [.ref (u8 0), .int (0 : Int32), .ref (u8 1), .ref (u8 2), .ref (u8 3), .int (0 : Int32), .int (0 : Int32), .int 0, .int 0])), ((u8 0), .inl (cC, 60, .inl (fun _ => 0))), ((u8 1), .inl (cI, 15, .inl (fun _ => 0))), ((u8 2), .inl (cI, 15, .inl (fun _ => 0))), ((u8 3), .inl (cI, 15, .inl (fun _ => 0))), (q9, .inr (2, [.int (0 : Int32), .ref (u10 0), .ref (u10 1), .ref (u10 2), .ref (u10 3), .ref (u10 4), .ref (u10 5), .ref (u10 6)])), ((u10 0), .inl (cI, 10, .inl (fun _ => 0))), ((u10 1), .inl (cI, 100, .inl (fun _ => 0))), ((u10 2), .inl (cI, 10, .inl (fun _ => 0))), ((u10 3), .inl (cI, 90, .inl (fun _ => 0))), ((u10 4), .inl (cI, 90, .inl (fun _ => 0))), ((u10 5), .inl (cI, 9, .inl (fun _ => 0))), ((u10 6), .inl (cI, 9, .inl (fun _ => 0)))]) (c_X1_init l D cI cC cO q11) (cs_X5_46 X (by decide)) [28] [0, 1, 2, 3, 4, 5, 6, 7, 8, 9, 10, 11, 12, 13, 14, 15, 16, 17, 18, 19, 20, 21, 22, 23, 24, 25, 26, 27] rfl rfl rfl (by decide) (by decide) hl.1 rfl (Nat.le_of_ble_eq_true rfl) dX5_init_69 ⟨Nat.le_of_ble_eq_true rfl, Nat.le_of_ble_eq_true rfl⟩ (fun u12 H locs hw => ?_)
  have hw : Wd D A s.heap [(h0, .inr (5, [.ref q1, .ref q3, .int (0 : Int32), .ref q5, .ref q7, .ref q9, .null])), (q1, .inr (4, [.int (4 : Int32), .int (0 : Int32), .int (1 : Int32), .ref (u2 0)])), ((u2 0), .inl (cI, 100, .inl (fun _ => 0))), (q3, .inr (4, [.int (4 : Int32), .int (0 : Int32), .int (1 : Int32), .ref (u4 0)])), ((u4 0), .inl (cI, 100, .inl (fun _ => 0))), (q5, .inr (0, [.ref (u6 0), .int (0 : Int32)])), ((u6 0), .inl (cO, 4, .inr (.inr (.inr (.inr (hst (f4 (u6 1) (u6 3) (u6 5) (u6 7)))))))), ((u6 1), .inr (4, [.int (4 : Int32), .int (0 : Int32), .int (1 : Int32), .ref (u6 2)])), ((u6 2), .inl (cI, 100, .inl (fun _ => 0))), ((u6 3), .inr (4, [.int (4 : Int32), .int (0 : Int32), .int (1 : Int32), .ref (u6 4)])), ((u6 4), .inl (cI, 100, .inl (fun _ => 0))), ((u6 5), .inr (4, [.int (4 : Int32), .int (0 : Int32), .int (1 : Int32), .ref (u6 6)])), ((u6 6), .inl (cI, 100, .inl (fun _ => 0))), ((u6 7), .inr (4, [.int (4 : Int32), .int (0 : Int32), .int (1 : Int32), .ref (u6 8)])), ((u6 8), .inl (cI, 100, .inl (fun _ => 0))), (q7, .inr (3, [.ref (u8 0), .int (0 : Int32), .ref (u8 1), .ref (u8 2), .ref (u8 3), .int (0 : Int32), .int (0 : Int32), .int 0, .int 0])), ((u8 0), .inl (cC, 60, .inl (fun _ => 0))), ((u8 1), .inl (cI, 15, .inl (fun _ => 0))), ((u8 2), .inl (cI, 15, .inl (fun _ => 0))), ((u8 3), .inl (cI, 15, .inl (fun _ => 0))), (q9, .inr (2, [.int (0 : Int32), .ref (u10 0), .ref (u10 1), .ref (u10 2), .ref (u10 3), .ref (u10 4), .ref (u10 5), .ref (u10 6)])), ((u10 0), .inl (cI, 10, .inl (fun _ => 0))), ((u10 1), .inl (cI, 100, .inl (fun _ => 0))), ((u10 2), .inl (cI, 10, .inl (fun _ => 0))), ((u10 3), .inl (cI, 90, .inl (fun _ => 0))), ((u10 4), .inl (cI, 90, .inl (fun _ => 0))), ((u10 5), .inl (cI, 9, .inl (fun _ => 0))), ((u10 6), .inl (cI, 9, .inl (fun _ => 0))), (q11, .inr (1, [.int (0 : Int32), .int (0 : Int32), .ref (u12 0), .ref (u12 1), .int (0 : Int32), .int (0 : Int32), .ref (u12 2), .int (0 : Int32), .ref (u12 3)])), ((u12 0), .inl (cI, 1024, .inl (fun _ => 0))), ((u12 1), .inl (cI, 512, .inl (fun _ => 0))), ((u12 2), .inl (cI, 511, .inl (fun _ => 0))), ((u12 3), .inl (cI, 45, .inl (fun _ => 0)))] H locs := hw
  refine r_putF (k := 6) X hw hin2 inX5 tyX5 tyX5_ok nmX5 rfl (by decide) rfl rfl tw_135 rfl 0 rfl rfl rfl rfl dX5_init_72 (fun H locs hw => ?_)
  have hw : Wd D A s.heap [(h0, .inr (5, [.ref q1, .ref q3, .int (0 : Int32), .ref q5, .ref q7, .ref q9, .ref q11])), (q1, .inr (4, [.int (4 : Int32), .int (0 : Int32), .int (1 : Int32), .ref (u2 0)])), ((u2 0), .inl (cI, 100, .inl (fun _ => 0))), (q3, .inr (4, [.int (4 : Int32), .int (0 : Int32), .int (1 : Int32), .ref (u4 0)])), ((u4 0), .inl (cI, 100, .inl (fun _ => 0))), (q5, .inr (0, [.ref (u6 0), .int (0 : Int32)])), ((u6 0), .inl (cO, 4, .inr (.inr (.inr (.inr (hst (f4 (u6 1) (u6 3) (u6 5) (u6 7)))))))), ((u6 1), .inr (4, [.int (4 : Int32), .int (0 : Int32), .int (1 : Int32), .ref (u6 2)])), ((u6 2), .inl (cI, 100, .inl (fun _ => 0))), ((u6 3), .inr (4, [.int (4 : Int32), .int (0 : Int32), .int (1 : Int32), .ref (u6 4)])), ((u6 4), .inl (cI, 100, .inl (fun _ => 0))), ((u6 5), .inr (4, [.int (4 : Int32), .int (0 : Int32), .int (1 : Int32), .ref (u6 6)])), ((u6 6), .inl (cI, 100, .inl (fun _ => 0))), ((u6 7), .inr (4, [.int (4 : Int32), .int (0 : Int32), .int (1 : Int32), .ref (u6 8)])), ((u6 8), .inl (cI, 100, .inl (fun _ => 0))), (q7, .inr (3, [.ref (u8 0), .int (0 : Int32), .ref (u8 1), .ref (u8 2), .ref (u8 3), .int (0 : Int32), .int (0 : Int32), .int 0, .int 0])), ((u8 0), .inl (cC, 60, .inl (fun _ => 0))), ((u8 1), .inl (cI, 15, .inl (fun _ => 0))), ((u8 2), .inl (cI, 15, .inl (fun _ => 0))), ((u8 3), .inl (cI, 15, .inl (fun _ => 0))), (q9, .inr (2, [.int (0 : Int32), .ref (u10 0), .ref (u10 1), .ref (u10 2), .ref (u10 3), .ref (u10 4), .ref (u10 5), .ref (u10 6)])), ((u10 0), .inl (cI, 10, .inl (fun _ => 0))), ((u10 1), .inl (cI, 100, .inl (fun _ => 0))), ((u10 2), .inl (cI, 10, .inl (fun _ => 0))), ((u10 3), .inl (cI, 90, .inl (fun _ => 0))), ((u10 4), .inl (cI, 90, .inl (fun _ => 0))), ((u10 5), .inl (cI, 9, .inl (fun _ => 0))), ((u10 6), .inl (cI, 9, .inl (fun _ => 0))), (q11, .inr (1, [.int (0 : Int32), .int (0 : Int32), .ref (u12 0), .ref (u12 1), .int (0 : Int32), .int (0 : Int32), .ref (u12 2), .int (0 : Int32), .ref (u12 3)])), ((u12 0), .inl (cI, 1024, .inl (fun _ => 0))), ((u12 1), .inl (cI, 512, .inl (fun _ => 0))), ((u12 2), .inl (cI, 511, .inl (fun _ => 0))), ((u12 3), .inl (cI, 45, .inl (fun _ => 0)))] H locs := hw
  exact r_retn X (fun k => match k with | 0 => q1 | 1 => (u2 0) | 2 => q3 | 3 => (u4 0) | 4 => q5 | 5 => (u6 0) | 6 => (u6 1) | 7 => (u6 2) | 8 => (u6 3) | 9 => (u6 4) | 10 => (u6 5) | 11 => (u6 6) | 12 => (u6 7) | 13 => (u6 8) | 14 => q7 | 15 => (u8 0) | 16 => (u8 1) | 17 => (u8 2) | 18 => (u8 3) | 19 => q9 | 20 => (u10 0) | 21 => (u10 1) | 22 => (u10 2) | 23 => (u10 3) | 24 => (u10 4) | 25 => (u10 5) | 26 => (u10 6) | 27 => q11 | 28 => (u12 0) | 29 => (u12 1) | 30 => (u12 2) | 31 => (u12 3) | _ => 0) hw hr hlk dX5_init_75
