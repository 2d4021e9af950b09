-- MY ROWS: the context of a walk, the world in one word, calls, ends; partial answers of the pure pictures
def KK (D : va_G) (cI cC cO : ClassId) (U : State) : Prop := va_K D classes [(cI, .int), (cC, .char), (cO, .object "PartedWebs$Web")] U ∧ NW U ∧ va_AO "PartedWebs$Web" U
theorem KK.warm {D : va_G} {cI cC cO : ClassId} {s U : State} (hW : s.WarmedH U.vm) (h : KK D cI cC cO s) : KK D cI cC cO U := ⟨va_K.moved hW.alike h.1, h.2.1.warm hW, h.2.2.moved hW.alike⟩
theorem KK.same {D : va_G} {cI cC cO : ClassId} {s U : State} (hv : s.vm = U.vm) (h : KK D cI cC cO s) : KK D cI cC cO U := ⟨va_K.moved (by rw [hv]; exact Vm.Alike.refl U.vm) h.1, h.2.1.same hv, h.2.2.moved (by rw [hv]; exact Vm.Alike.refl U.vm)⟩
abbrev Ctx (p : Program) (m : MethodId) (c : Code) (cc : ByteArray) (nL : Nat) (s : State) (args : Array Value) (own : String) (D : va_G) (cI cC cO : ClassId) : Prop := CallFix p m c cc nL s args aw own ∧ KK D cI cC cO s
/-- the world: the cells, apart, nothing else changed since H0, new cells are allowed -/
def Wd (D : va_G) (A : Nat → Prop) (H0 : Heap) (ws : va_W) (H : Heap) (locs : List Loc) : Prop := va_P D classes ws H ∧ va_D A ws ∧ va_S A H0 H locs ∧ ∀ q, H0.size ≤ q → A q
def Pre (D : va_G) (cI cC cO : ClassId) (args : List Value) (w0 : va_W) (sz : Nat) : Array Value → State → Prop := va_Pc args (fun U => U.heap.size = sz ∧ va_P D classes w0 U.heap ∧ KK D cI cC cO U ∧ va_D (fun _ => True) w0)
def Qi (D : va_G) (r : Int32) (w1 : va_W) (A : Nat → Prop) : Array Value → State → Outcome → State → Prop := va_Qi (fun (x : Int32) (_ : Unit) => x = r) (fun _ t => va_P D classes w1 t.heap ∧ va_D A w1) A
def Qv (D : va_G) (w1 : va_W) (A : Nat → Prop) : Array Value → State → Outcome → State → Prop := va_Qv (fun (_ : Unit) => True) (fun _ t => va_P D classes w1 t.heap ∧ va_D A w1) A
/-- contract of a method that answers r, and turns the world w0 into w1; it makes nothing -/
def CI (l : Launch) (y : MethodName) (ws : List Cond) (rm : Room) (D : va_G) (cI cC cO : ClassId) (args : List Value) (w0 : va_W) (r : Int32) (w1 : va_W) : Prop := ∀ sz, Met l y ws rm (Pre D cI cC cO args w0 sz) (Qi D r w1 (va_A w0 sz)) 0 0 (va_A w0 sz)
def CV (l : Launch) (y : MethodName) (ws : List Cond) (rm : Room) (D : va_G) (cI cC cO : ClassId) (args : List Value) (w0 : va_W) (w1 : va_W) : Prop := ∀ sz, Met l y ws rm (Pre D cI cC cO args w0 sz) (Qv D w1 (va_A w0 sz)) 0 0 (va_A w0 sz)
theorem Pre.blind {D : va_G} {cI cC cO : ClassId} {args : List Value} {w0 : va_W} {sz : Nat} : FrameBlind (Pre D cI cC cO args w0 sz) := fun a U g mk q => by
  obtain ⟨q0, q1, qP, qK, qD⟩ := q
  exact ⟨q0, q1, qP, qK.same (U := U.calling g mk a) rfl, qD⟩
theorem Wd.pre {D : va_G} {cI cC cO : ClassId} {A : Nat → Prop} {H0 H : Heap} {ws wc : va_W} {locs : List Loc} {s : State} {args : List Value} (hw : Wd D A H0 ws H locs) (hk : KK D cI cC cO s) (isC : List Nat) (hC : isC.map (fun i => ws[i]?) = wc.map some) (hn : va_nd isC = true) : ∀ U : State, U.heap = H → s.WarmedH U.vm → Pre D cI cC cO args wc H.size args.toArray U := by
  intro U hU hW
  refine ⟨rfl, by rw [hU], ?_, hk.warm hW, (hw.2.1.sub isC hn hC).weaken (fun _ _ _ _ => trivial)⟩
  rw [hU]
  refine hw.1.sub isC ?_
  have h2 : isC.filterMap (fun i => ws[i]?) = wc := by
    have h3 : isC.filterMap (fun i => ws[i]?) = (isC.map (fun i => ws[i]?)).filterMap id := by rw [List.filterMap_map]; rfl
    rw [h3, hC, List.filterMap_map]
    exact List.filterMap_some
  exact h2
/-- behind a call: the world in the caller's order -/
theorem Wd.join {D : va_G} {A : Nat → Prop} {H0 H H1 : Heap} {ws wc wr w1 ws' : va_W} {locs locs1 : List Loc} (hw : Wd D A H0 ws H locs) (isC isR perm : List Nat) (hC : isC.map (fun i => ws[i]?) = wc.map some) (hR : isR.map (fun i => ws[i]?) = wr.map some) (hnR : va_nd isR = true) (hdis : ∀ i ∈ isR, i ∉ isC) (hp : perm.map (fun i => (wr ++ w1)[i]?) = ws'.map some) (hnp : va_nd perm = true)
    (hk : ∀ q : Nat, q < H.size → ¬ va_A wc H.size q → H1[q]? = H[q]?) (hP1 : va_P D classes w1 H1) (hD1 : va_D (va_A wc H.size) w1) (hS1 : va_S A H0 H1 locs1) : Wd D A H0 ws' H1 locs1 := by
  have hF := va_free (wc := wc) hw.2.1 hw.2.2.1 hw.2.2.2 isC hC
  obtain ⟨hP, hD⟩ := va_join (wr := wr) (w1 := w1) hw.1 hw.2.1 isC isR hC hR hnR hdis hk hF hP1 hD1
  refine ⟨hP.sub perm ?_, hD.sub perm hnp hp, hS1, hw.2.2.2⟩
  have h3 : perm.filterMap (fun i => (wr ++ w1)[i]?) = (perm.map (fun i => (wr ++ w1)[i]?)).filterMap id := by rw [List.filterMap_map]; rfl
  rw [h3, hp, List.filterMap_map]
  exact List.filterMap_some
section RR
variable {p : Program} {l : Launch} {e : Env} {R : Room} {s : State} {m : MethodId} {args : Array Value} {below : List Frame} {meth : Method} {c : Code} {H : Heap} {locs : List Loc} {cells slots : Nat} {Q : State → Prop}
variable {cc : ByteArray} {pc nL : Nat} {ls : Array Slot} {rest st0 : List Value} {own : String} {D : va_G} {cI cC cO : ClassId} {A : Nat → Prop} {ws : va_W} {H0 : Heap}
theorem r_get (X : Ctx p m c cc nL s args own D cI cC cO) (hw : Wd D A H0 ws H locs) {C ref : String} {T : u_T} {N ci index k : Nat} (hin : ∀ w ∈ u_ws C T N, w ∈ aw) (hc : classes[ci]? = some (C, T, N)) (hk : k < N) (href : (T k).1 = ref) (hl : Cond.fieldLink own index ref (T k).2.1 (T k).2.2.1 ∈ aw) (q0 : Nat) {a : Nat} {fs : List Value} {v : Value} (he : ws[q0]? = some (a, .inr (ci, fs))) (hv : fs[k]? = some v) (hdg : decode cc pc = .ok (.getfield index, 3))
    (kk : W p l e R s m args below meth c H locs cells slots Q (F0 m (pc + 3) ls (v :: rest))) : W p l e R s m args below meth c H locs cells slots Q (F0 m pc ls (.ref a :: rest)) :=
  va_get X.1.1 X.1.2.1 X.1.2.2.2.2 hin X.1.2.2.2.1 X.2.1 hw.1 q0 he hc k hk (X.1.2.2.2.2 _ hl) (fun _ h9 => by rw [← href]; exact h9) hv hdg kk
theorem r_getN (X : Ctx p m c cc nL s args own D cI cC cO) (hw : Wd D A H0 ws H locs) {C ref host : String} {T : u_T} {N ci index k : Nat} (hin : ∀ w ∈ u_ws C T N, w ∈ aw) (hc : classes[ci]? = some (C, T, N)) (hk : k < N) (href : (T k).1 = ref) (hl : va_Nw (.fieldLinkNest own index ref (T k).2.1 (T k).2.2.1 host) s) (q0 : Nat) {a : Nat} {fs : List Value} {v : Value} (he : ws[q0]? = some (a, .inr (ci, fs))) (hv : fs[k]? = some v) (hdg : decode cc pc = .ok (.getfield index, 3))
    (kk : W p l e R s m args below meth c H locs cells slots Q (F0 m (pc + 3) ls (v :: rest))) : W p l e R s m args below meth c H locs cells slots Q (F0 m pc ls (.ref a :: rest)) :=
  va_getN X.1.1 X.1.2.1 X.1.2.2.2.2 hin X.1.2.2.2.1 X.2.1 hw.1 q0 he hc k hk (va_Nw.use rfl hl) (fun _ h9 => by rw [← href]; exact h9) hv hdg kk
theorem r_put (X : Ctx p m c cc nL s args own D cI cC cO) (hw : Wd D A H0 ws H locs) {C ref : String} {T : u_T} {N ci index k : Nat} (hin : ∀ w ∈ u_ws C T N, w ∈ aw) (ty0 : Nat → FieldType) (hty : ∀ k, k < N → parseFieldDescriptor (T k).2.2.1 = some (ty0 k)) (hnm : ∀ a, a < N → ∀ b, b < N → a ≠ b → (T a).2.1 ≠ (T b).2.1) (hc : classes[ci]? = some (C, T, N)) (hk : k < N) (href : (T k).1 = ref) (hl : Cond.fieldLink own index ref (T k).2.1 (T k).2.2.1 ∈ aw) (hfin : (T k).2.2.2 = false) (q0 : Nat) {a : Nat} {fs : List Value} {v : Value} (he : ws[q0]? = some (a, .inr (ci, fs))) (hn : narrow (ty0 k) v = v) (hfit : fits (ty0 k) v = true) (hlen : k < fs.length) (hdg : decode cc pc = .ok (.putfield index, 3))
    (kk : ∀ (H1 : Heap) (locs1 : List Loc), Wd D A H0 (ws.set q0 (a, .inr (ci, fs.set k v))) H1 locs1 → W p l e R s m args below meth c H1 locs1 cells slots Q (F0 m (pc + 3) ls rest)) : W p l e R s m args below meth c H locs cells slots Q (F0 m pc ls (v :: .ref a :: rest)) :=
  va_put X.1.1 X.1.2.1 X.1.2.2.2.2 hin ty0 hty hnm X.1.2.2.2.1 X.2.1 hw.1 hw.2.1 hw.2.2.1 q0 he hc k hk (X.1.2.2.2.2 _ hl) (fun _ h9 => by rw [← href]; exact h9) hfin (hty k hk) hn hfit hlen hdg (fun H1 locs1 h1 h2 h3 => kk H1 locs1 ⟨h1, h2, h3, hw.2.2.2⟩)
theorem r_putN (X : Ctx p m c cc nL s args own D cI cC cO) (hw : Wd D A H0 ws H locs) {C ref host : String} {T : u_T} {N ci index k : Nat} (hin : ∀ w ∈ u_ws C T N, w ∈ aw) (ty0 : Nat → FieldType) (hty : ∀ k, k < N → parseFieldDescriptor (T k).2.2.1 = some (ty0 k)) (hnm : ∀ a, a < N → ∀ b, b < N → a ≠ b → (T a).2.1 ≠ (T b).2.1) (hc : classes[ci]? = some (C, T, N)) (hk : k < N) (href : (T k).1 = ref) (hl : va_Nw (.fieldLinkNest own index ref (T k).2.1 (T k).2.2.1 host) s) (hfin : (T k).2.2.2 = false) (q0 : Nat) {a : Nat} {fs : List Value} {v : Value} (he : ws[q0]? = some (a, .inr (ci, fs))) (hn : narrow (ty0 k) v = v) (hfit : fits (ty0 k) v = true) (hlen : k < fs.length) (hdg : decode cc pc = .ok (.putfield index, 3))
    (kk : ∀ (H1 : Heap) (locs1 : List Loc), Wd D A H0 (ws.set q0 (a, .inr (ci, fs.set k v))) H1 locs1 → W p l e R s m args below meth c H1 locs1 cells slots Q (F0 m (pc + 3) ls rest)) : W p l e R s m args below meth c H locs cells slots Q (F0 m pc ls (v :: .ref a :: rest)) :=
  va_putN X.1.1 X.1.2.1 X.1.2.2.2.2 hin ty0 hty hnm X.1.2.2.2.1 X.2.1 hw.1 hw.2.1 hw.2.2.1 q0 he hc k hk (va_Nw.use rfl hl) (fun _ h9 => by rw [← href]; exact h9) hfin (hty k hk) hn hfit hlen hdg (fun H1 locs1 h1 h2 h3 => kk H1 locs1 ⟨h1, h2, h3, hw.2.2.2⟩)
theorem r_iald (X : Ctx p m c cc nL s args own D cI cC cO) (hw : Wd D A H0 ws H locs) (q0 : Nat) {a n : Nat} {f : Nat → Int32} (ha : ws[q0]? = some (a, .inl (cI, n, .inl f))) {i v : Int32} (hin : vp_in i n) (hv : f i.toNatClampNeg = v) (hdg : decode cc pc = .ok (.iaload, 1))
    (kk : W p l e R s m args below meth c H locs cells slots Q (F0 m (pc + 1) ls (.int v :: rest))) : W p l e R s m args below meth c H locs cells slots Q (F0 m pc ls (.int i :: .ref a :: rest)) :=
  va_iald X.1.1 X.1.2.1 X.2.1 hw.1 q0 0 ha rfl hin hdg (by rw [hv]; exact kk)
theorem r_cald (X : Ctx p m c cc nL s args own D cI cC cO) (hw : Wd D A H0 ws H locs) (q0 : Nat) {a n : Nat} {f : Nat → Int32} (ha : ws[q0]? = some (a, .inl (cC, n, .inl f))) {i v : Int32} (hin : vp_in i n) (hv : f i.toNatClampNeg = v) (hdg : decode cc pc = .ok (.caload, 1))
    (kk : W p l e R s m args below meth c H locs cells slots Q (F0 m (pc + 1) ls (.int v :: rest))) : W p l e R s m args below meth c H locs cells slots Q (F0 m pc ls (.int i :: .ref a :: rest)) :=
  va_cald X.1.1 X.1.2.1 X.2.1 hw.1 q0 1 ha rfl hin hdg (by rw [hv]; exact kk)
theorem r_iast (X : Ctx p m c cc nL s args own D cI cC cO) (hw : Wd D A H0 ws H locs) (q0 : Nat) {a n j : Nat} {f : Nat → Int32} (ha : ws[q0]? = some (a, .inl (cI, n, .inl f))) {i x : Int32} (hin : vp_in i n) (hj : i.toNatClampNeg = j) (hdg : decode cc pc = .ok (.iastore, 1))
    (kk : ∀ (H1 : Heap) (locs1 : List Loc), Wd D A H0 (ws.set q0 (a, .inl (cI, n, .inl (upd f j x)))) H1 locs1 → W p l e R s m args below meth c H1 locs1 cells slots Q (F0 m (pc + 1) ls rest)) : W p l e R s m args below meth c H locs cells slots Q (F0 m pc ls (.int x :: .int i :: .ref a :: rest)) :=
  va_iast X.1.1 X.1.2.1 X.2.1 hw.1 hw.2.1 hw.2.2.1 q0 0 ha rfl hin hdg (fun H1 locs1 h1 h2 h3 => kk H1 locs1 ⟨by rw [← hj]; exact h1, by rw [← hj]; exact h2, h3, hw.2.2.2⟩)
theorem r_cast (X : Ctx p m c cc nL s args own D cI cC cO) (hw : Wd D A H0 ws H locs) (q0 : Nat) {a n j : Nat} {f : Nat → Int32} (ha : ws[q0]? = some (a, .inl (cC, n, .inl f))) {i x : Int32} (hin : vp_in i n) (hj : i.toNatClampNeg = j) (hdg : decode cc pc = .ok (.castore, 1))
    (kk : ∀ (H1 : Heap) (locs1 : List Loc), Wd D A H0 (ws.set q0 (a, .inl (cC, n, .inl (upd f j (vp_nar .char x))))) H1 locs1 → W p l e R s m args below meth c H1 locs1 cells slots Q (F0 m (pc + 1) ls rest)) : W p l e R s m args below meth c H locs cells slots Q (F0 m pc ls (.int x :: .int i :: .ref a :: rest)) :=
  va_cast X.1.1 X.1.2.1 X.2.1 hw.1 hw.2.1 hw.2.2.1 q0 1 ha rfl hin hdg (fun H1 locs1 h1 h2 h3 => kk H1 locs1 ⟨by rw [← hj]; exact h1, by rw [← hj]; exact h2, h3, hw.2.2.2⟩)
/-- a call of a method of ours that answers a number -/
theorem r_cVi (X : Ctx p m c cc nL s args own D cI cC cO) (hw : Wd D A H0 ws H locs) {y : MethodName} {bytes : ByteArray} {maxL index n : Nat} {ret : Option FieldType} {rm : Room} {C : String} {b : Addr} {As : List Value} {wc w1 wr ws' : va_W} {r : Int32}
    (hM : CI l y (Wy y bytes maxL ret) rm D cI cC cO (.ref b :: As) wc r w1) (cw : CallW R s args own C index y bytes maxL ret (Wy y bytes maxL ret) rm 0 0 n) (isC isR perm : List Nat) (hC : isC.map (fun i => ws[i]?) = wc.map some) (hR : isR.map (fun i => ws[i]?) = wr.map some) (hnC : va_nd isC = true) (hnR : va_nd isR = true) (hdis : ∀ i ∈ isR, i ∉ isC) (hp : perm.map (fun i => (wr ++ w1)[i]?) = ws'.map some) (hnp : va_nd perm = true)
    (qb : Nat) {ci : Nat} {fs : List Value} {cl : vw_C} (hb : ws[qb]? = some (b, .inr (ci, fs))) (hci : classes[ci]? = some cl) (hCl : cl.1 = C) (hlen : As.length = n) (hsize : ls.size = nL) (hst : st0 = As.reverse ++ .ref b :: rest) (hroom : (rest.map fun v => v.category).sum ≤ 8) (hdg : decode cc pc = .ok (.invokevirtual index, 3)) (hf : cells ≤ R.cells ∧ slots ≤ R.slots)
    (kk : ∀ (H1 : Heap) (locs1 : List Loc), Wd D A H0 ws' H1 locs1 → W p l e R s m args below meth c H1 locs1 cells slots Q (F0 m (pc + 3) ls (.int r :: rest))) : W p l e R s m args below meth c H locs cells slots Q (F0 m pc ls st0) := by
  subst hst
  subst hCl
  have hF := va_free (wc := wc) hw.2.1 hw.2.2.1 hw.2.2.2 isC hC
  refine va_calli (va_runV (As := As) (rest := rest) X.1 (hM H.size) cw ⟨Pre.blind, va_recv X.2.1 hw.1 hci hb, hw.pre X.2 isC hC hnC⟩ rfl hlen hsize rfl (lv_room hroom) hdg hf) hw.2.2.1 (fun q _ h => hF q h) hF (fun r2 u t H1 locs1 ht hvm hr hB hz1 hk1 hS => ?_)
  subst hr
  rw [ht] at hB
  exact kk H1 locs1 (hw.join isC isR perm hC hR hnR hdis hp hnp hk1 hB.1 hB.2 hS)
theorem r_cVv (X : Ctx p m c cc nL s args own D cI cC cO) (hw : Wd D A H0 ws H locs) {y : MethodName} {bytes : ByteArray} {maxL index n : Nat} {ret : Option FieldType} {rm : Room} {C : String} {b : Addr} {As : List Value} {wc w1 wr ws' : va_W}
    (hM : CV l y (Wy y bytes maxL ret) rm D cI cC cO (.ref b :: As) wc w1) (cw : CallW R s args own C index y bytes maxL ret (Wy y bytes maxL ret) rm 0 0 n) (isC isR perm : List Nat) (hC : isC.map (fun i => ws[i]?) = wc.map some) (hR : isR.map (fun i => ws[i]?) = wr.map some) (hnC : va_nd isC = true) (hnR : va_nd isR = true) (hdis : ∀ i ∈ isR, i ∉ isC) (hp : perm.map (fun i => (wr ++ w1)[i]?) = ws'.map some) (hnp : va_nd perm = true)
    (qb : Nat) {ci : Nat} {fs : List Value} {cl : vw_C} (hb : ws[qb]? = some (b, .inr (ci, fs))) (hci : classes[ci]? = some cl) (hCl : cl.1 = C) (hlen : As.length = n) (hsize : ls.size = nL) (hst : st0 = As.reverse ++ .ref b :: rest) (hroom : (rest.map fun v => v.category).sum ≤ 8) (hdg : decode cc pc = .ok (.invokevirtual index, 3)) (hf : cells ≤ R.cells ∧ slots ≤ R.slots)
    (kk : ∀ (H1 : Heap) (locs1 : List Loc), Wd D A H0 ws' H1 locs1 → W p l e R s m args below meth c H1 locs1 cells slots Q (F0 m (pc + 3) ls rest)) : W p l e R s m args below meth c H locs cells slots Q (F0 m pc ls st0) := by
  subst hst
  subst hCl
  have hF := va_free (wc := wc) hw.2.1 hw.2.2.1 hw.2.2.2 isC hC
  refine va_callv (va_runV (As := As) (rest := rest) X.1 (hM H.size) cw ⟨Pre.blind, va_recv X.2.1 hw.1 hci hb, hw.pre X.2 isC hC hnC⟩ rfl hlen hsize rfl (lv_room hroom) hdg hf) hw.2.2.1 (fun q _ h => hF q h) hF (fun u t H1 locs1 ht hvm hr hB hz1 hk1 hS => ?_)
  rw [ht] at hB
  exact kk H1 locs1 (hw.join isC isR perm hC hR hnR hdis hp hnp hk1 hB.1 hB.2 hS)
/-- a static method that touches no cell -/
theorem r_cSi (X : Ctx p m c cc nL s args own D cI cC cO) (hw : Wd D A H0 ws H locs) {y : MethodName} {bytes : ByteArray} {maxL index n : Nat} {ret : Option FieldType} {rm : Room} {As : List Value} {r : Int32}
    (hM : CI l y (Wy y bytes maxL ret) rm D cI cC cO As [] r []) (cw : CallB R s args own index y bytes maxL ret (Wy y bytes maxL ret) rm 0 0 n ∧ (Cond.static y).before args s = true)
    (hlen : As.length = n) (hsize : ls.size = nL) (hst : st0 = As.reverse ++ rest) (hroom : (rest.map fun v => v.category).sum ≤ 8) (hdg : decode cc pc = .ok (.invokestatic index, 3)) (hf : cells ≤ R.cells ∧ slots ≤ R.slots)
    (kk : ∀ (H1 : Heap) (locs1 : List Loc), Wd D A H0 ws H1 locs1 → W p l e R s m args below meth c H1 locs1 cells slots Q (F0 m (pc + 3) ls (.int r :: rest))) : W p l e R s m args below meth c H locs cells slots Q (F0 m pc ls st0) := by
  subst hst
  have hF := va_free (wc := []) hw.2.1 hw.2.2.1 hw.2.2.2 [] rfl
  refine va_calli (va_runS (As := As) (rest := rest) X.1 (hM H.size) cw ⟨Pre.blind, hw.pre X.2 [] rfl rfl⟩ rfl hlen hsize rfl (lv_room hroom) hdg hf) hw.2.2.1 (fun q _ h => hF q h) hF (fun r2 u t H1 locs1 ht hvm hr hB hz1 hk1 hS => ?_)
  subst hr
  refine kk H1 locs1 ⟨hw.1.kept (fun k q hk => hk1 q.1 (hw.1 k q hk).lt (fun z => ?_)), hw.2.1, hS, hw.2.2.2⟩
  rcases z with ⟨k, e, z⟩ | z
  · simp at z
  · exact absurd (hw.1 k q hk).lt (Nat.not_lt.mpr z)
theorem r_cNi (X : Ctx p m c cc nL s args own D cI cC cO) (hw : Wd D A H0 ws H locs) {y : MethodName} {bytes : ByteArray} {maxL index n : Nat} {ret : Option FieldType} {rm : Room} {As : List Value} {r : Int32} {host : String}
    (hM : CI l y (Wy y bytes maxL ret) rm D cI cC cO As [] r []) (cw : va_CN R s args own index y host bytes maxL ret (Wy y bytes maxL ret) rm 0 0 n ∧ (Cond.static y).before args s = true ∧ True)
    (hlen : As.length = n) (hsize : ls.size = nL) (hst : st0 = As.reverse ++ rest) (hroom : (rest.map fun v => v.category).sum ≤ 8) (hdg : decode cc pc = .ok (.invokestatic index, 3)) (hf : cells ≤ R.cells ∧ slots ≤ R.slots)
    (kk : ∀ (H1 : Heap) (locs1 : List Loc), Wd D A H0 ws H1 locs1 → W p l e R s m args below meth c H1 locs1 cells slots Q (F0 m (pc + 3) ls (.int r :: rest))) : W p l e R s m args below meth c H locs cells slots Q (F0 m pc ls st0) := by
  subst hst
  have hF := va_free (wc := []) hw.2.1 hw.2.2.1 hw.2.2.2 [] rfl
  refine va_calli (va_runSN (As := As) (rest := rest) X.1 (hM H.size) cw ⟨Pre.blind, hw.pre X.2 [] rfl rfl⟩ rfl hlen hsize rfl (lv_room hroom) hdg hf) hw.2.2.1 (fun q _ h => hF q h) hF (fun r2 u t H1 locs1 ht hvm hr hB hz1 hk1 hS => ?_)
  subst hr
  refine kk H1 locs1 ⟨hw.1.kept (fun k q hk => hk1 q.1 (hw.1 k q hk).lt (fun z => ?_)), hw.2.1, hS, hw.2.2.2⟩
  rcases z with ⟨k, e, z⟩ | z
  · simp at z
  · exact absurd (hw.1 k q hk).lt (Nat.not_lt.mpr z)
theorem r_ret (X : Ctx p m c cc nL s args own D cI cC cO) {w1 : va_W} {r : Int32} (hw : Wd D A s.heap w1 H locs) (hr : meth.sig.returnType = some .int) (hlk : meth.locks = false) (hdg : decode cc pc = .ok (.ireturn, 1)) : W p l e R s m args below meth c H locs cells slots (MQ below (Qi D r w1 A) args s cells slots A) (F0 m pc ls [.int r]) :=
  W.iret X.1.1 X.1.2.1 hr (fun t ht _ => ⟨⟨r, (), rfl, rfl, by rw [ht]; exact hw.1, hw.2.1⟩, hw.2.2.1.F ht⟩) hw.2.2.1.2.2 hdg hlk
theorem r_retz (X : Ctx p m c cc nL s args own D cI cC cO) {w1 : va_W} {r : Int32} (hw : Wd D A s.heap w1 H locs) (hr : meth.sig.returnType = some .boolean) (hb : r = 0 ∨ r = 1) (hlk : meth.locks = false) (hdg : decode cc pc = .ok (.ireturn, 1)) : W p l e R s m args below meth c H locs cells slots (MQ below (Qi D r w1 A) args s cells slots A) (F0 m pc ls [.int r]) :=
  W.zret X.1.1 X.1.2.1 hr (by rcases hb with rfl | rfl <;> rfl) (fun t ht _ => ⟨⟨r, (), rfl, rfl, by rw [ht]; exact hw.1, hw.2.1⟩, hw.2.2.1.F ht⟩) hw.2.2.1.2.2 hdg hlk
theorem r_retv (X : Ctx p m c cc nL s args own D cI cC cO) {w1 : va_W} (hw : Wd D A s.heap w1 H locs) (hr : meth.sig.returnType = none) (hlk : meth.locks = false) (hdg : decode cc pc = .ok (.return_, 1)) : W p l e R s m args below meth c H locs cells slots (MQ below (Qv D w1 A) args s cells slots A) (F0 m pc ls []) :=
  W.vret X.1.1 X.1.2.1 hr (fun t ht _ => ⟨⟨(), rfl, trivial, by rw [ht]; exact hw.1, hw.2.1⟩, hw.2.2.1.F ht⟩) hw.2.2.1.2.2 hdg hlk
end RR
theorem enter_i {l : Launch} {y : MethodName} {cc : ByteArray} {nL : Nat} {ret : Option FieldType} {rm : Room} {D : va_G} {cI cC cO : ClassId} {av : List Value} {w0 w1 : va_W} {r : Int32} (own : String) (hy : plainName y.cls = true) (hown : y.cls = own) (hlen : (lg_sl av).length ≤ nL)
    (body : ∀ p e s m below meth c (A : Nat → Prop), Ctx p m c cc nL s av.toArray own D cI cC cO → meth.sig.returnType = ret → meth.locks = false → Wd D A s.heap w0 s.heap [] → ∀ ls, lv_has ls nL (lv_args 0 av) → W p l e rm s m av.toArray below meth c s.heap [] 0 0 (MQ below (Qi D r w1 A) av.toArray s 0 0 A) (F0 m 0 ls [])) : CI l y (Wy y cc nL ret) rm D cI cC cO av w0 r w1 := by
  intro sz
  refine Met.ofW (cc := cc) (maxL := nL) (ret := ret) hy rfl ?_
  intro p e s m args below meth c s₁ B hml hv
  obtain ⟨rfl, hsz, hP, hK, hD0⟩ := hv
  have hts : ∀ w ∈ aw, w.before av.toArray s = true := fun w h => atoms_spec (ws := Wy y cc nL ret) B.pre w (List.mem_cons_of_mem _ h)
  have hown2 : s.vm.findClass own = some m.cls := by rw [← hown]; exact findClass_of_methodNamed B.named
  subst hsz
  have hl := lv_entry av hlen
  rw [lg_entry_eq]
  exact body p e s m below meth c (va_A w0 s.heap.size) ⟨⟨B.exec, B.bytes, hml, hown2, hts⟩, hK⟩ B.returns B.notSynchronized ⟨hP, hD0.self (sz := s.heap.size), va_S.rf, fun q h => Or.inr h⟩ _ hl
theorem enter_v {l : Launch} {y : MethodName} {cc : ByteArray} {nL : Nat} {ret : Option FieldType} {rm : Room} {D : va_G} {cI cC cO : ClassId} {av : List Value} {w0 w1 : va_W} (own : String) (hy : plainName y.cls = true) (hown : y.cls = own) (hlen : (lg_sl av).length ≤ nL)
    (body : ∀ p e s m below meth c (A : Nat → Prop), Ctx p m c cc nL s av.toArray own D cI cC cO → meth.sig.returnType = ret → meth.locks = false → Wd D A s.heap w0 s.heap [] → ∀ ls, lv_has ls nL (lv_args 0 av) → W p l e rm s m av.toArray below meth c s.heap [] 0 0 (MQ below (Qv D w1 A) av.toArray s 0 0 A) (F0 m 0 ls [])) : CV l y (Wy y cc nL ret) rm D cI cC cO av w0 w1 := by
  intro sz
  refine Met.ofW (cc := cc) (maxL := nL) (ret := ret) hy rfl ?_
  intro p e s m args below meth c s₁ B hml hv
  obtain ⟨rfl, hsz, hP, hK, hD0⟩ := hv
  have hts : ∀ w ∈ aw, w.before av.toArray s = true := fun w h => atoms_spec (ws := Wy y cc nL ret) B.pre w (List.mem_cons_of_mem _ h)
  have hown2 : s.vm.findClass own = some m.cls := by rw [← hown]; exact findClass_of_methodNamed B.named
  subst hsz
  have hl := lv_entry av hlen
  rw [lg_entry_eq]
  exact body p e s m below meth c (va_A w0 s.heap.size) ⟨⟨B.exec, B.bytes, hml, hown2, hts⟩, hK⟩ B.returns B.notSynchronized ⟨hP, hD0.self (sz := s.heap.size), va_S.rf, fun q h => Or.inr h⟩ _ hl
-- partial answers
def chk {α : Type} (i : Int32) (n : Nat) (k : Option α) : Option α := if i < 0 ∨ n ≤ i.toNatClampNeg then none else k
theorem chk_inv {α : Type} {i : Int32} {n : Nat} {k : Option α} {o : α} (h : chk i n k = some o) : vp_in i n ∧ k = some o := by
  unfold chk at h
  by_cases q : i < 0 ∨ n ≤ i.toNatClampNeg
  · rw [if_pos q] at h; cases h
  · rw [if_neg q] at h; exact ⟨q, h⟩
def chkB {α : Type} (v : Int32) (k : Option α) : Option α := if v = 0 ∨ v = 1 then k else none
theorem chkB_inv {α : Type} {v : Int32} {k : Option α} {o : α} (h : chkB v k = some o) : (v = 0 ∨ v = 1) ∧ k = some o := by
  unfold chkB at h
  by_cases q : v = 0 ∨ v = 1
  · rw [if_pos q] at h; exact ⟨q, h⟩
  · rw [if_neg q] at h; cases h
theorem ip {α : Type} {c : Prop} [Decidable c] {a b : Option α} {o : α} (hc : c) (h : (if c then a else b) = some o) : a = some o := by rw [if_pos hc] at h; exact h
theorem ig {α : Type} {c : Prop} [Decidable c] {a b : Option α} {o : α} (hc : ¬ c) (h : (if c then a else b) = some o) : b = some o := by rw [if_neg hc] at h; exact h
theorem b_fit {v : Int32} (h : v = 0 ∨ v = 1) : narrow .boolean (.int v) = .int v ∧ fits .boolean (.int v) = true := by rcases h with rfl | rfl <;> exact ⟨rfl, rfl⟩
def bd1 {α0 β : Type} (x : Option (α0)) (k : α0 → Option β) : Option β := match x with
  | none => none
  | some v0 => k v0
theorem bd1_inv {α0 β : Type} {x : Option (α0)} {k : α0 → Option β} {o : β} (h : bd1 x k = some o) : ∃ v0, x = some v0 ∧ k v0 = some o := by
  cases x with
  | none => cases h
  | some z => exact ⟨z, rfl, h⟩
theorem oi1 {α0 : Type} {v0 w0 : α0} (h : some v0 = some w0) : v0 = w0 := Option.some.inj h
theorem bd1_ok {α0 β : Type} (v0 : α0) (k : α0 → Option β) : bd1 (some v0) k = k v0 := rfl
def bd2 {α0 α1 β : Type} (x : Option (α0 × α1)) (k : α0 → α1 → Option β) : Option β := match x with
  | none => none
  | some (v0, v1) => k v0 v1
theorem bd2_inv {α0 α1 β : Type} {x : Option (α0 × α1)} {k : α0 → α1 → Option β} {o : β} (h : bd2 x k = some o) : ∃ v0 v1, x = some (v0, v1) ∧ k v0 v1 = some o := by
  cases x with
  | none => cases h
  | some z => exact ⟨z.1, z.2, rfl, h⟩
theorem oi2 {α0 α1 : Type} {v0 w0 : α0} {v1 w1 : α1} (h : some (v0, v1) = some (w0, w1)) : v0 = w0 ∧ v1 = w1 := by
  have h := Option.some.inj h
  simp only [Prod.mk.injEq] at h
  exact h
theorem bd2_ok {α0 α1 β : Type} (v0 : α0) (v1 : α1) (k : α0 → α1 → Option β) : bd2 (some (v0, v1)) k = k v0 v1 := rfl
def bd3 {α0 α1 α2 β : Type} (x : Option (α0 × α1 × α2)) (k : α0 → α1 → α2 → Option β) : Option β := match x with
  | none => none
  | some (v0, v1, v2) => k v0 v1 v2
theorem bd3_inv {α0 α1 α2 β : Type} {x : Option (α0 × α1 × α2)} {k : α0 → α1 → α2 → Option β} {o : β} (h : bd3 x k = some o) : ∃ v0 v1 v2, x = some (v0, v1, v2) ∧ k v0 v1 v2 = some o := by
  cases x with
  | none => cases h
  | some z => exact ⟨z.1, z.2.1, z.2.2, rfl, h⟩
theorem oi3 {α0 α1 α2 : Type} {v0 w0 : α0} {v1 w1 : α1} {v2 w2 : α2} (h : some (v0, v1, v2) = some (w0, w1, w2)) : v0 = w0 ∧ v1 = w1 ∧ v2 = w2 := by
  have h := Option.some.inj h
  simp only [Prod.mk.injEq] at h
  exact h
theorem bd3_ok {α0 α1 α2 β : Type} (v0 : α0) (v1 : α1) (v2 : α2) (k : α0 → α1 → α2 → Option β) : bd3 (some (v0, v1, v2)) k = k v0 v1 v2 := rfl
def bd4 {α0 α1 α2 α3 β : Type} (x : Option (α0 × α1 × α2 × α3)) (k : α0 → α1 → α2 → α3 → Option β) : Option β := match x with
  | none => none
  | some (v0, v1, v2, v3) => k v0 v1 v2 v3
theorem bd4_inv {α0 α1 α2 α3 β : Type} {x : Option (α0 × α1 × α2 × α3)} {k : α0 → α1 → α2 → α3 → Option β} {o : β} (h : bd4 x k = some o) : ∃ v0 v1 v2 v3, x = some (v0, v1, v2, v3) ∧ k v0 v1 v2 v3 = some o := by
  cases x with
  | none => cases h
  | some z => exact ⟨z.1, z.2.1, z.2.2.1, z.2.2.2, rfl, h⟩
theorem oi4 {α0 α1 α2 α3 : Type} {v0 w0 : α0} {v1 w1 : α1} {v2 w2 : α2} {v3 w3 : α3} (h : some (v0, v1, v2, v3) = some (w0, w1, w2, w3)) : v0 = w0 ∧ v1 = w1 ∧ v2 = w2 ∧ v3 = w3 := by
  have h := Option.some.inj h
  simp only [Prod.mk.injEq] at h
  exact h
theorem bd4_ok {α0 α1 α2 α3 β : Type} (v0 : α0) (v1 : α1) (v2 : α2) (v3 : α3) (k : α0 → α1 → α2 → α3 → Option β) : bd4 (some (v0, v1, v2, v3)) k = k v0 v1 v2 v3 := rfl
def bd5 {α0 α1 α2 α3 α4 β : Type} (x : Option (α0 × α1 × α2 × α3 × α4)) (k : α0 → α1 → α2 → α3 → α4 → Option β) : Option β := match x with
  | none => none
  | some (v0, v1, v2, v3, v4) => k v0 v1 v2 v3 v4
theorem bd5_inv {α0 α1 α2 α3 α4 β : Type} {x : Option (α0 × α1 × α2 × α3 × α4)} {k : α0 → α1 → α2 → α3 → α4 → Option β} {o : β} (h : bd5 x k = some o) : ∃ v0 v1 v2 v3 v4, x = some (v0, v1, v2, v3, v4) ∧ k v0 v1 v2 v3 v4 = some o := by
  cases x with
  | none => cases h
  | some z => exact ⟨z.1, z.2.1, z.2.2.1, z.2.2.2.1, z.2.2.2.2, rfl, h⟩
theorem oi5 {α0 α1 α2 α3 α4 : Type} {v0 w0 : α0} {v1 w1 : α1} {v2 w2 : α2} {v3 w3 : α3} {v4 w4 : α4} (h : some (v0, v1, v2, v3, v4) = some (w0, w1, w2, w3, w4)) : v0 = w0 ∧ v1 = w1 ∧ v2 = w2 ∧ v3 = w3 ∧ v4 = w4 := by
  have h := Option.some.inj h
  simp only [Prod.mk.injEq] at h
  exact h
theorem bd5_ok {α0 α1 α2 α3 α4 β : Type} (v0 : α0) (v1 : α1) (v2 : α2) (v3 : α3) (v4 : α4) (k : α0 → α1 → α2 → α3 → α4 → Option β) : bd5 (some (v0, v1, v2, v3, v4)) k = k v0 v1 v2 v3 v4 := rfl
def bd6 {α0 α1 α2 α3 α4 α5 β : Type} (x : Option (α0 × α1 × α2 × α3 × α4 × α5)) (k : α0 → α1 → α2 → α3 → α4 → α5 → Option β) : Option β := match x with
  | none => none
  | some (v0, v1, v2, v3, v4, v5) => k v0 v1 v2 v3 v4 v5
theorem bd6_inv {α0 α1 α2 α3 α4 α5 β : Type} {x : Option (α0 × α1 × α2 × α3 × α4 × α5)} {k : α0 → α1 → α2 → α3 → α4 → α5 → Option β} {o : β} (h : bd6 x k = some o) : ∃ v0 v1 v2 v3 v4 v5, x = some (v0, v1, v2, v3, v4, v5) ∧ k v0 v1 v2 v3 v4 v5 = some o := by
  cases x with
  | none => cases h
  | some z => exact ⟨z.1, z.2.1, z.2.2.1, z.2.2.2.1, z.2.2.2.2.1, z.2.2.2.2.2, rfl, h⟩
theorem oi6 {α0 α1 α2 α3 α4 α5 : Type} {v0 w0 : α0} {v1 w1 : α1} {v2 w2 : α2} {v3 w3 : α3} {v4 w4 : α4} {v5 w5 : α5} (h : some (v0, v1, v2, v3, v4, v5) = some (w0, w1, w2, w3, w4, w5)) : v0 = w0 ∧ v1 = w1 ∧ v2 = w2 ∧ v3 = w3 ∧ v4 = w4 ∧ v5 = w5 := by
  have h := Option.some.inj h
  simp only [Prod.mk.injEq] at h
  exact h
theorem bd6_ok {α0 α1 α2 α3 α4 α5 β : Type} (v0 : α0) (v1 : α1) (v2 : α2) (v3 : α3) (v4 : α4) (v5 : α5) (k : α0 → α1 → α2 → α3 → α4 → α5 → Option β) : bd6 (some (v0, v1, v2, v3, v4, v5)) k = k v0 v1 v2 v3 v4 v5 := rfl
def bd7 {α0 α1 α2 α3 α4 α5 α6 β : Type} (x : Option (α0 × α1 × α2 × α3 × α4 × α5 × α6)) (k : α0 → α1 → α2 → α3 → α4 → α5 → α6 → Option β) : Option β := match x with
  | none => none
  | some (v0, v1, v2, v3, v4, v5, v6) => k v0 v1 v2 v3 v4 v5 v6
theorem bd7_inv {α0 α1 α2 α3 α4 α5 α6 β : Type} {x : Option (α0 × α1 × α2 × α3 × α4 × α5 × α6)} {k : α0 → α1 → α2 → α3 → α4 → α5 → α6 → Option β} {o : β} (h : bd7 x k = some o) : ∃ v0 v1 v2 v3 v4 v5 v6, x = some (v0, v1, v2, v3, v4, v5, v6) ∧ k v0 v1 v2 v3 v4 v5 v6 = some o := by
  cases x with
  | none => cases h
  | some z => exact ⟨z.1, z.2.1, z.2.2.1, z.2.2.2.1, z.2.2.2.2.1, z.2.2.2.2.2.1, z.2.2.2.2.2.2, rfl, h⟩
theorem oi7 {α0 α1 α2 α3 α4 α5 α6 : Type} {v0 w0 : α0} {v1 w1 : α1} {v2 w2 : α2} {v3 w3 : α3} {v4 w4 : α4} {v5 w5 : α5} {v6 w6 : α6} (h : some (v0, v1, v2, v3, v4, v5, v6) = some (w0, w1, w2, w3, w4, w5, w6)) : v0 = w0 ∧ v1 = w1 ∧ v2 = w2 ∧ v3 = w3 ∧ v4 = w4 ∧ v5 = w5 ∧ v6 = w6 := by
  have h := Option.some.inj h
  simp only [Prod.mk.injEq] at h
  exact h
theorem bd7_ok {α0 α1 α2 α3 α4 α5 α6 β : Type} (v0 : α0) (v1 : α1) (v2 : α2) (v3 : α3) (v4 : α4) (v5 : α5) (v6 : α6) (k : α0 → α1 → α2 → α3 → α4 → α5 → α6 → Option β) : bd7 (some (v0, v1, v2, v3, v4, v5, v6)) k = k v0 v1 v2 v3 v4 v5 v6 := rfl
def bd8 {α0 α1 α2 α3 α4 α5 α6 α7 β : Type} (x : Option (α0 × α1 × α2 × α3 × α4 × α5 × α6 × α7)) (k : α0 → α1 → α2 → α3 → α4 → α5 → α6 → α7 → Option β) : Option β := match x with
  | none => none
  | some (v0, v1, v2, v3, v4, v5, v6, v7) => k v0 v1 v2 v3 v4 v5 v6 v7
theorem bd8_inv {α0 α1 α2 α3 α4 α5 α6 α7 β : Type} {x : Option (α0 × α1 × α2 × α3 × α4 × α5 × α6 × α7)} {k : α0 → α1 → α2 → α3 → α4 → α5 → α6 → α7 → Option β} {o : β} (h : bd8 x k = some o) : ∃ v0 v1 v2 v3 v4 v5 v6 v7, x = some (v0, v1, v2, v3, v4, v5, v6, v7) ∧ k v0 v1 v2 v3 v4 v5 v6 v7 = some o := by
  cases x with
  | none => cases h
  | some z => exact ⟨z.1, z.2.1, z.2.2.1, z.2.2.2.1, z.2.2.2.2.1, z.2.2.2.2.2.1, z.2.2.2.2.2.2.1, z.2.2.2.2.2.2.2, rfl, h⟩
theorem oi8 {α0 α1 α2 α3 α4 α5 α6 α7 : Type} {v0 w0 : α0} {v1 w1 : α1} {v2 w2 : α2} {v3 w3 : α3} {v4 w4 : α4} {v5 w5 : α5} {v6 w6 : α6} {v7 w7 : α7} (h : some (v0, v1, v2, v3, v4, v5, v6, v7) = some (w0, w1, w2, w3, w4, w5, w6, w7)) : v0 = w0 ∧ v1 = w1 ∧ v2 = w2 ∧ v3 = w3 ∧ v4 = w4 ∧ v5 = w5 ∧ v6 = w6 ∧ v7 = w7 := by
  have h := Option.some.inj h
  simp only [Prod.mk.injEq] at h
  exact h
theorem bd8_ok {α0 α1 α2 α3 α4 α5 α6 α7 β : Type} (v0 : α0) (v1 : α1) (v2 : α2) (v3 : α3) (v4 : α4) (v5 : α5) (v6 : α6) (v7 : α7) (k : α0 → α1 → α2 → α3 → α4 → α5 → α6 → α7 → Option β) : bd8 (some (v0, v1, v2, v3, v4, v5, v6, v7)) k = k v0 v1 v2 v3 v4 v5 v6 v7 := rfl
def bd9 {α0 α1 α2 α3 α4 α5 α6 α7 α8 β : Type} (x : Option (α0 × α1 × α2 × α3 × α4 × α5 × α6 × α7 × α8)) (k : α0 → α1 → α2 → α3 → α4 → α5 → α6 → α7 → α8 → Option β) : Option β := match x with
  | none => none
  | some (v0, v1, v2, v3, v4, v5, v6, v7, v8) => k v0 v1 v2 v3 v4 v5 v6 v7 v8
theorem bd9_inv {α0 α1 α2 α3 α4 α5 α6 α7 α8 β : Type} {x : Option (α0 × α1 × α2 × α3 × α4 × α5 × α6 × α7 × α8)} {k : α0 → α1 → α2 → α3 → α4 → α5 → α6 → α7 → α8 → Option β} {o : β} (h : bd9 x k = some o) : ∃ v0 v1 v2 v3 v4 v5 v6 v7 v8, x = some (v0, v1, v2, v3, v4, v5, v6, v7, v8) ∧ k v0 v1 v2 v3 v4 v5 v6 v7 v8 = some o := by
  cases x with
  | none => cases h
  | some z => exact ⟨z.1, z.2.1, z.2.2.1, z.2.2.2.1, z.2.2.2.2.1, z.2.2.2.2.2.1, z.2.2.2.2.2.2.1, z.2.2.2.2.2.2.2.1, z.2.2.2.2.2.2.2.2, rfl, h⟩
theorem oi9 {α0 α1 α2 α3 α4 α5 α6 α7 α8 : Type} {v0 w0 : α0} {v1 w1 : α1} {v2 w2 : α2} {v3 w3 : α3} {v4 w4 : α4} {v5 w5 : α5} {v6 w6 : α6} {v7 w7 : α7} {v8 w8 : α8} (h : some (v0, v1, v2, v3, v4, v5, v6, v7, v8) = some (w0, w1, w2, w3, w4, w5, w6, w7, w8)) : v0 = w0 ∧ v1 = w1 ∧ v2 = w2 ∧ v3 = w3 ∧ v4 = w4 ∧ v5 = w5 ∧ v6 = w6 ∧ v7 = w7 ∧ v8 = w8 := by
  have h := Option.some.inj h
  simp only [Prod.mk.injEq] at h
  exact h
theorem bd9_ok {α0 α1 α2 α3 α4 α5 α6 α7 α8 β : Type} (v0 : α0) (v1 : α1) (v2 : α2) (v3 : α3) (v4 : α4) (v5 : α5) (v6 : α6) (v7 : α7) (v8 : α8) (k : α0 → α1 → α2 → α3 → α4 → α5 → α6 → α7 → α8 → Option β) : bd9 (some (v0, v1, v2, v3, v4, v5, v6, v7, v8)) k = k v0 v1 v2 v3 v4 v5 v6 v7 v8 := rfl
def bd10 {α0 α1 α2 α3 α4 α5 α6 α7 α8 α9 β : Type} (x : Option (α0 × α1 × α2 × α3 × α4 × α5 × α6 × α7 × α8 × α9)) (k : α0 → α1 → α2 → α3 → α4 → α5 → α6 → α7 → α8 → α9 → Option β) : Option β := match x with
  | none => none
  | some (v0, v1, v2, v3, v4, v5, v6, v7, v8, v9) => k v0 v1 v2 v3 v4 v5 v6 v7 v8 v9
theorem bd10_inv {α0 α1 α2 α3 α4 α5 α6 α7 α8 α9 β : Type} {x : Option (α0 × α1 × α2 × α3 × α4 × α5 × α6 × α7 × α8 × α9)} {k : α0 → α1 → α2 → α3 → α4 → α5 → α6 → α7 → α8 → α9 → Option β} {o : β} (h : bd10 x k = some o) : ∃ v0 v1 v2 v3 v4 v5 v6 v7 v8 v9, x = some (v0, v1, v2, v3, v4, v5, v6, v7, v8, v9) ∧ k v0 v1 v2 v3 v4 v5 v6 v7 v8 v9 = some o := by
  cases x with
  | none => cases h
  | some z => exact ⟨z.1, z.2.1, z.2.2.1, z.2.2.2.1, z.2.2.2.2.1, z.2.2.2.2.2.1, z.2.2.2.2.2.2.1, z.2.2.2.2.2.2.2.1, z.2.2.2.2.2.2.2.2.1, z.2.2.2.2.2.2.2.2.2, rfl, h⟩
theorem oi10 {α0 α1 α2 α3 α4 α5 α6 α7 α8 α9 : Type} {v0 w0 : α0} {v1 w1 : α1} {v2 w2 : α2} {v3 w3 : α3} {v4 w4 : α4} {v5 w5 : α5} {v6 w6 : α6} {v7 w7 : α7} {v8 w8 : α8} {v9 w9 : α9} (h : some (v0, v1, v2, v3, v4, v5, v6, v7, v8, v9) = some (w0, w1, w2, w3, w4, w5, w6, w7, w8, w9)) : v0 = w0 ∧ v1 = w1 ∧ v2 = w2 ∧ v3 = w3 ∧ v4 = w4 ∧ v5 = w5 ∧ v6 = w6 ∧ v7 = w7 ∧ v8 = w8 ∧ v9 = w9 := by
  have h := Option.some.inj h
  simp only [Prod.mk.injEq] at h
  exact h
theorem bd10_ok {α0 α1 α2 α3 α4 α5 α6 α7 α8 α9 β : Type} (v0 : α0) (v1 : α1) (v2 : α2) (v3 : α3) (v4 : α4) (v5 : α5) (v6 : α6) (v7 : α7) (v8 : α8) (v9 : α9) (k : α0 → α1 → α2 → α3 → α4 → α5 → α6 → α7 → α8 → α9 → Option β) : bd10 (some (v0, v1, v2, v3, v4, v5, v6, v7, v8, v9)) k = k v0 v1 v2 v3 v4 v5 v6 v7 v8 v9 := rfl
def bd11 {α0 α1 α2 α3 α4 α5 α6 α7 α8 α9 α10 β : Type} (x : Option (α0 × α1 × α2 × α3 × α4 × α5 × α6 × α7 × α8 × α9 × α10)) (k : α0 → α1 → α2 → α3 → α4 → α5 → α6 → α7 → α8 → α9 → α10 → Option β) : Option β := match x with
  | none => none
  | some (v0, v1, v2, v3, v4, v5, v6, v7, v8, v9, v10) => k v0 v1 v2 v3 v4 v5 v6 v7 v8 v9 v10
theorem bd11_inv {α0 α1 α2 α3 α4 α5 α6 α7 α8 α9 α10 β : Type} {x : Option (α0 × α1 × α2 × α3 × α4 × α5 × α6 × α7 × α8 × α9 × α10)} {k : α0 → α1 → α2 → α3 → α4 → α5 → α6 → α7 → α8 → α9 → α10 → Option β} {o : β} (h : bd11 x k = some o) : ∃ v0 v1 v2 v3 v4 v5 v6 v7 v8 v9 v10, x = some (v0, v1, v2, v3, v4, v5, v6, v7, v8, v9, v10) ∧ k v0 v1 v2 v3 v4 v5 v6 v7 v8 v9 v10 = some o := by
  cases x with
  | none => cases h
  | some z => exact ⟨z.1, z.2.1, z.2.2.1, z.2.2.2.1, z.2.2.2.2.1, z.2.2.2.2.2.1, z.2.2.2.2.2.2.1, z.2.2.2.2.2.2.2.1, z.2.2.2.2.2.2.2.2.1, z.2.2.2.2.2.2.2.2.2.1, z.2.2.2.2.2.2.2.2.2.2, rfl, h⟩
theorem oi11 {α0 α1 α2 α3 α4 α5 α6 α7 α8 α9 α10 : Type} {v0 w0 : α0} {v1 w1 : α1} {v2 w2 : α2} {v3 w3 : α3} {v4 w4 : α4} {v5 w5 : α5} {v6 w6 : α6} {v7 w7 : α7} {v8 w8 : α8} {v9 w9 : α9} {v10 w10 : α10} (h : some (v0, v1, v2, v3, v4, v5, v6, v7, v8, v9, v10) = some (w0, w1, w2, w3, w4, w5, w6, w7, w8, w9, w10)) : v0 = w0 ∧ v1 = w1 ∧ v2 = w2 ∧ v3 = w3 ∧ v4 = w4 ∧ v5 = w5 ∧ v6 = w6 ∧ v7 = w7 ∧ v8 = w8 ∧ v9 = w9 ∧ v10 = w10 := by
  have h := Option.some.inj h
  simp only [Prod.mk.injEq] at h
  exact h
theorem bd11_ok {α0 α1 α2 α3 α4 α5 α6 α7 α8 α9 α10 β : Type} (v0 : α0) (v1 : α1) (v2 : α2) (v3 : α3) (v4 : α4) (v5 : α5) (v6 : α6) (v7 : α7) (v8 : α8) (v9 : α9) (v10 : α10) (k : α0 → α1 → α2 → α3 → α4 → α5 → α6 → α7 → α8 → α9 → α10 → Option β) : bd11 (some (v0, v1, v2, v3, v4, v5, v6, v7, v8, v9, v10)) k = k v0 v1 v2 v3 v4 v5 v6 v7 v8 v9 v10 := rfl
def bd12 {α0 α1 α2 α3 α4 α5 α6 α7 α8 α9 α10 α11 β : Type} (x : Option (α0 × α1 × α2 × α3 × α4 × α5 × α6 × α7 × α8 × α9 × α10 × α11)) (k : α0 → α1 → α2 → α3 → α4 → α5 → α6 → α7 → α8 → α9 → α10 → α11 → Option β) : Option β := match x with
  | none => none
  | some (v0, v1, v2, v3, v4, v5, v6, v7, v8, v9, v10, v11) => k v0 v1 v2 v3 v4 v5 v6 v7 v8 v9 v10 v11
theorem bd12_inv {α0 α1 α2 α3 α4 α5 α6 α7 α8 α9 α10 α11 β : Type} {x : Option (α0 × α1 × α2 × α3 × α4 × α5 × α6 × α7 × α8 × α9 × α10 × α11)} {k : α0 → α1 → α2 → α3 → α4 → α5 → α6 → α7 → α8 → α9 → α10 → α11 → Option β} {o : β} (h : bd12 x k = some o) : ∃ v0 v1 v2 v3 v4 v5 v6 v7 v8 v9 v10 v11, x = some (v0, v1, v2, v3, v4, v5, v6, v7, v8, v9, v10, v11) ∧ k v0 v1 v2 v3 v4 v5 v6 v7 v8 v9 v10 v11 = some o := by
  cases x with
  | none => cases h
  | some z => exact ⟨z.1, z.2.1, z.2.2.1, z.2.2.2.1, z.2.2.2.2.1, z.2.2.2.2.2.1, z.2.2.2.2.2.2.1, z.2.2.2.2.2.2.2.1, z.2.2.2.2.2.2.2.2.1, z.2.2.2.2.2.2.2.2.2.1, z.2.2.2.2.2.2.2.2.2.2.1, z.2.2.2.2.2.2.2.2.2.2.2, rfl, h⟩
theorem oi12 {α0 α1 α2 α3 α4 α5 α6 α7 α8 α9 α10 α11 : Type} {v0 w0 : α0} {v1 w1 : α1} {v2 w2 : α2} {v3 w3 : α3} {v4 w4 : α4} {v5 w5 : α5} {v6 w6 : α6} {v7 w7 : α7} {v8 w8 : α8} {v9 w9 : α9} {v10 w10 : α10} {v11 w11 : α11} (h : some (v0, v1, v2, v3, v4, v5, v6, v7, v8, v9, v10, v11) = some (w0, w1, w2, w3, w4, w5, w6, w7, w8, w9, w10, w11)) : v0 = w0 ∧ v1 = w1 ∧ v2 = w2 ∧ v3 = w3 ∧ v4 = w4 ∧ v5 = w5 ∧ v6 = w6 ∧ v7 = w7 ∧ v8 = w8 ∧ v9 = w9 ∧ v10 = w10 ∧ v11 = w11 := by
  have h := Option.some.inj h
  simp only [Prod.mk.injEq] at h
  exact h
theorem bd12_ok {α0 α1 α2 α3 α4 α5 α6 α7 α8 α9 α10 α11 β : Type} (v0 : α0) (v1 : α1) (v2 : α2) (v3 : α3) (v4 : α4) (v5 : α5) (v6 : α6) (v7 : α7) (v8 : α8) (v9 : α9) (v10 : α10) (v11 : α11) (k : α0 → α1 → α2 → α3 → α4 → α5 → α6 → α7 → α8 → α9 → α10 → α11 → Option β) : bd12 (some (v0, v1, v2, v3, v4, v5, v6, v7, v8, v9, v10, v11)) k = k v0 v1 v2 v3 v4 v5 v6 v7 v8 v9 v10 v11 := rfl
