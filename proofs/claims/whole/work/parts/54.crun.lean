-- the class's phases: uniting, running
def pgS (n s : Nat) : Nat := if s.testBit 0 then (2 ^ n - 1) &&& (s ^^^ 4294967295) else s
def Od (n : Nat) (W : Nat → Nat → Nat) (a k i : Nat) : Nat := od n W (mm n W a k) (nmL n (mm n W a k) a) i
def Nr (n : Nat) (W : Nat → Nat → Nat) (a k i : Nat) : Nat := nr n W (mm n W a k) (nmL n (mm n W a k) a) i
/-- what the class's rows hold of the phases before K -/
def Ph (n : Nat) (W : Nat → Nat → Nat) (a K : Nat) (nm nn pa un : Nat → Int32) : Prop := ∀ k, k < K → k + 2 ≤ n → (∀ i, i < n - k → nm (10 * k + i) = nI (Od n W a k i)) ∧ (∀ i, i < n - k → nn (10 * k + i) = nI (Nr n W a k i)) ∧ pa k = nI (pgS n (mm n W a k (Od n W a k (n - k - 1)))) ∧ un k = nI (mm n W a k (Od n W a k (n - k - 1)) ||| mm n W a k (Od n W a k (n - k - 2)))
theorem jn_comm (mem : Nat → Nat) (x y : Nat) : jn mem x y = jn mem y x := by
  funext z
  unfold jn
  rw [Nat.min_comm, Nat.max_comm, Nat.or_comm]
section CU
variable {n a f N L k : Nat} {W : Nat → Nat → Nat} {mem : Nat → Nat}
theorem wB_or1 {A B C : Nat} (hsym : ∀ i j, W i j = W j i) (h : A &&& B = 0) : wB n W (A ||| B) C = wB n W A C + wB n W B C := by
  rw [wB_comm hsym, wB_or h, wB_comm hsym, wB_comm hsym (A := C)]
theorem un_n (hP : Part n L mem) (hsym : ∀ i j, W i j = W j i) (h10 : n ≤ 10) (hN : 600 ≤ N) {x y : Nat} (hx : mem x ≠ 0) (hy : mem y ≠ 0) (hxy : x < y) {m t : Nat → Int32} (hm : ∀ z, z < n → m z = nI (mem z)) (ht : ∀ u v, u ≠ v → mem u ≠ 0 → mem v ≠ 0 → t (10 * u + v) = nI (wB n W (mem u) (mem v))) : ∃ m' t' : Nat → Int32, f_X2_unite N (nI x) (nI y) (nI n) m t = some (m', t') ∧ (∀ z, z < n → m' z = nI (jn mem x y z)) ∧ ∀ u v, u ≠ v → jn mem x y u ≠ 0 → jn mem x y v ≠ 0 → t' (10 * u + v) = nI (wB n W (jn mem x y u) (jn mem x y v)) := by
  have hyn := hP.lt hy
  have hd := hP.2.2.1
  unfold f_X2_unite
  rw [chk_n (by omega) (by omega), chk_n (by omega) (by omega), chk_n (by omega) (by omega), chk_n (by omega) (by omega)]
  refine upx (σ := Nat → Int32) (fun c i s => f_X2_unite_L24 (nI n) (nI x) (nI y) (fun a6 => f_X2_unite_E89 m (nI x) (nI y) a6) c (nI i) s) (fun i s => (∀ u v, u < n → v < n → u ≠ x → v ≠ x → s (10 * u + v) = t (10 * u + v)) ∧ (∀ v, v < n → v ≠ x → v ≠ y → s (10 * x + v) = if v < i then t (10 * x + v) + t (10 * y + v) else t (10 * x + v)) ∧ (∀ v, v < n → v ≠ x → v ≠ y → s (10 * v + x) = if v < i then t (10 * x + v) + t (10 * y + v) else t (10 * v + x))) n (fun r => ∃ m' t' : Nat → Int32, r = some (m', t') ∧ (∀ z, z < n → m' z = nI (jn mem x y z)) ∧ ∀ u v, u ≠ v → jn mem x y u ≠ 0 → jn mem x y v ≠ 0 → t' (10 * u + v) = nI (wB n W (jn mem x y u) (jn mem x y v))) (fun c i s hi hI => ?_) (fun c s hI => ?_) N 0 t (by omega) (by omega) ⟨fun u v _ _ _ _ => rfl, fun v _ _ _ => by rw [if_neg (by omega)], fun v _ _ _ => by rw [if_neg (by omega)]⟩
  · obtain ⟨h1, h2, h3⟩ := hI
    show ∃ s', _ ∧ f_X2_unite_L24 (nI n) (nI x) (nI y) _ (c + 1) (nI i) s = _
    rw [f_X2_unite_L24, if_neg (nI_ge hi (by omega)), ix10, ix10, ix10, chk_n (by omega) (by omega), chk_n (by omega) (by omega), chk_n (by omega) (by omega), chk_n (by omega) (by omega), nI_clamp (by omega), nI_clamp (by omega), nI_clamp (by omega), l1, nI_add]
    refine ⟨_, ⟨fun u v hu hv h4 h5 => ?_, fun v hv h4 h5 => ?_, fun v hv h4 h5 => ?_⟩, rfl⟩
    · rw [upd2_c (by omega) (by omega) (by omega) (by omega), if_neg (by omega)]; exact h1 u v hu hv h4 h5
    · rw [upd2_c (by omega) (by omega) (by omega) (by omega)]
      by_cases e : v = i
      · subst e
        rw [if_pos (by omega), if_pos (by omega), h2 v hv h4 h5, if_neg (by omega), h1 y v (by omega) hv (by omega) h4]
      · rw [if_neg (by omega), h2 v hv h4 h5]
        by_cases q : v < i
        · rw [if_pos q, if_pos (by omega)]
        · rw [if_neg q, if_neg (by omega)]
    · rw [upd2_c (by omega) (by omega) (by omega) (by omega)]
      by_cases e : v = i
      · subst e
        rw [if_pos (by omega), if_pos (by omega), h2 v hv h4 h5, if_neg (by omega), h1 y v (by omega) hv (by omega) h4]
      · rw [if_neg (by omega), h3 v hv h4 h5]
        by_cases q : v < i
        · rw [if_pos q, if_pos (by omega)]
        · rw [if_neg q, if_neg (by omega)]
  · obtain ⟨h1, h2, h3⟩ := hI
    show ∃ m' t', f_X2_unite_L24 (nI n) (nI x) (nI y) _ (c + 1) (nI n) s = _ ∧ _
    rw [f_X2_unite_L24, if_pos (nI_le (Nat.le_refl _) (by omega))]
    unfold f_X2_unite_E89
    rw [nI_clamp (by omega), nI_clamp (by omega), hm x (by omega), hm y (by omega), n_or]
    refine ⟨_, s, rfl, fun z hz => ?_, fun u v huv hu hv => ?_⟩
    · unfold jn
      by_cases c1 : z = y
      · subst c1
        rw [upd_same, if_neg (by omega), if_pos (by omega)]; rfl
      · rw [upd_ne _ _ c1]
        by_cases c2 : z = x
        · subst c2
          rw [upd_same, if_pos (by omega)]
        · rw [upd_ne _ _ c2, if_neg (by omega), if_neg (by omega)]; exact hm z hz
    · have huy : u ≠ y := fun e => hu (by unfold jn; rw [if_neg (by omega), if_pos (by omega)])
      have hvy : v ≠ y := fun e => hv (by unfold jn; rw [if_neg (by omega), if_pos (by omega)])
      have jx : jn mem x y x = mem x ||| mem y := by unfold jn; rw [if_pos (by omega)]
      have jo : ∀ z, z ≠ x → z ≠ y → jn mem x y z = mem z := fun z h4 h5 => by unfold jn; rw [if_neg (by omega), if_neg (by omega)]
      by_cases c1 : u = x
      · subst c1
        rw [jo v (Ne.symm huv) hvy] at hv ⊢
        rw [jx, h2 v (hP.lt hv) (Ne.symm huv) hvy, if_pos (hP.lt hv), ht u v huv hx hv, ht y v (Ne.symm hvy) hy hv, nI_add, wB_or1 hsym (hd u y (by omega))]
      · rw [jo u c1 huy] at hu ⊢
        by_cases c2 : v = x
        · subst c2
          rw [jx, h3 u (hP.lt hu) c1 huy, if_pos (hP.lt hu), ht v u (Ne.symm c1) hx hu, ht y u (Ne.symm huy) hy hu, nI_add, wB_or (hd v y (by omega)), wB_comm hsym, wB_comm hsym (A := mem y)]
        · rw [jo v c2 hvy] at hv ⊢
          rw [h1 u v (hP.lt hu) (hP.lt hv) c1 c2]
          exact ht u v huv hu hv
theorem nameAt_n (hk : k + 2 ≤ n) (h10 : n ≤ 10) {i : Nat} (hi : i < n - k) (names : Nat → Int32) : f_X2_nameAt (nI k) (nI i) (nI n) names = some (names (10 * k + i)) := by
  unfold f_X2_nameAt f_X2_isRank f_X2_isPhase f_X2_lumpsIn
  rw [l1, pk_sub (by omega), if_neg (nI_pos (by omega)), if_neg (nI_ge (by omega) (by omega))]
  simp only [bd1_ok]
  rw [if_neg (show ¬ nI 1 = 0 by decide), if_neg (nI_pos (by omega)), pk_sub (by omega), if_neg (nI_ge (by omega) (by omega))]
  simp only [bd1_ok]
  rw [if_neg (show ¬ nI 1 = 0 by decide), ix10, chk_n (by omega) (by omega), nI_clamp (by omega)]
theorem nearAt_n (hk : k + 2 ≤ n) (h10 : n ≤ 10) {i : Nat} (hi : i < n - k) (names : Nat → Int32) : f_X2_nearnessAt (nI k) (nI i) (nI n) names = some (names (10 * k + i)) := by
  unfold f_X2_nearnessAt f_X2_isRank f_X2_isPhase f_X2_lumpsIn
  rw [l1, pk_sub (by omega), if_neg (nI_pos (by omega)), if_neg (nI_ge (by omega) (by omega))]
  simp only [bd1_ok]
  rw [if_neg (show ¬ nI 1 = 0 by decide), if_neg (nI_pos (by omega)), pk_sub (by omega), if_neg (nI_ge (by omega) (by omega))]
  simp only [bd1_ok]
  rw [if_neg (show ¬ nI 1 = 0 by decide), ix10, chk_n (by omega) (by omega), nI_clamp (by omega)]
theorem end_n (hP : Part n (n - k) mem) (hk : k + 2 ≤ n) (hsym : ∀ i j, W i j = W j i) (h10 : n ≤ 10) (hN : 600 ≤ N) {x y : Nat} (hx : mem x ≠ 0) (hy : mem y ≠ 0) (hxy : x ≠ y) {m t names : Nat → Int32} (pa un : Nat → Int32) (hm : ∀ z, z < n → m z = nI (mem z)) (ht : ∀ u v, u ≠ v → mem u ≠ 0 → mem v ≠ 0 → t (10 * u + v) = nI (wB n W (mem u) (mem v))) (e1 : names (10 * k + (n - k - 1)) = nI x) (e2 : names (10 * k + (n - k - 2)) = nI y) : ∃ m' t' : Nat → Int32, f_X2_endPhase N (nI k) (nI n) m t names pa un = some (m', t', upd pa k (nI (pgS n (mem x))), upd un k (nI (mem x ||| mem y))) ∧ (∀ z, z < n → m' z = nI (jn mem x y z)) ∧ ∀ u v, u ≠ v → jn mem x y u ≠ 0 → jn mem x y v ≠ 0 → t' (10 * u + v) = nI (wB n W (jn mem x y u) (jn mem x y v)) := by
  have hxn := hP.lt hx
  have hyn := hP.lt hy
  have hn2 : 2 ^ n ≤ 1024 := p2_10 h10
  have hml := hP.mlt x
  have h0 : 0 < 2 ^ n := Nat.two_pow_pos n
  unfold f_X2_endPhase f_X2_lumpsIn
  rw [pk_sub (by omega)]
  simp only [bd1_ok]
  rw [l1, pk_sub (by omega), l2, pk_sub (by omega), nameAt_n hk h10 (by omega), nameAt_n hk h10 (by omega), e1, e2]
  simp only [bd1_ok]
  rw [chk_n (by omega) (by omega), nI_clamp (by omega), hm x hxn, l0, holds_n (by omega)]
  simp only [bd1_ok]
  have en : (nI 1 <<< (nI n &&& (31 : Int32)) - nI 1) &&& (nI (mem x) ^^^ -nI 1) = nI ((2 ^ n - 1) &&& (mem x ^^^ 4294967295)) := by
    rw [show nI 1 <<< (nI n &&& (31 : Int32)) = nI (2 ^ n) from sh_1 n (by omega), pk_sub (by omega), show nI (mem x) ^^^ -nI 1 = nI (mem x ^^^ 4294967295) from not_n _, n_and]
  rw [chk_n (by omega) (by omega), chk_n (by omega) (by omega), en]
  have hJ : ∀ g, ∃ m' t' : Nat → Int32, f_X2_endPhase_J74 N (nI k) (nI y) (nI x) (nI n) m t pa un g = some (m', t', upd pa k g, upd un k (nI (mem x ||| mem y))) ∧ (∀ z, z < n → m' z = nI (jn mem x y z)) ∧ ∀ u v, u ≠ v → jn mem x y u ≠ 0 → jn mem x y v ≠ 0 → t' (10 * u + v) = nI (wB n W (jn mem x y u) (jn mem x y v)) := by
    intro g
    unfold f_X2_endPhase_J74
    by_cases c : y < x
    · rw [if_pos (nI_lt c (by omega)), if_neg (nI_nlt (by omega) (by omega)), chk_n (by omega) (by omega), nI_clamp (by omega), nI_clamp (by omega)]
      obtain ⟨m', t', u1, u2, u3⟩ := un_n (W := W) (N := N) hP hsym h10 hN hy hx c hm ht
      rw [u1]
      simp only [bd2_ok]
      rw [chk_n (by omega) (by omega), chk_n (by omega) (by omega), jn_comm mem x y]
      refine ⟨m', t', ?_, u2, u3⟩
      rw [u2 y hyn, show jn mem y x y = mem y ||| mem x by unfold jn; rw [if_pos (by omega)], Nat.or_comm]
    · rw [if_neg (nI_nlt (by omega) (by omega)), if_pos (nI_lt (by omega) (by omega)), chk_n (by omega) (by omega), nI_clamp (by omega), nI_clamp (by omega)]
      obtain ⟨m', t', u1, u2, u3⟩ := un_n (W := W) (N := N) hP hsym h10 hN hx hy (by omega) hm ht
      rw [u1]
      simp only [bd2_ok]
      rw [chk_n (by omega) (by omega), chk_n (by omega) (by omega)]
      refine ⟨m', t', ?_, u2, u3⟩
      rw [u2 x hxn, show jn mem x y x = mem x ||| mem y by unfold jn; rw [if_pos (by omega)]]
  unfold pgS
  cases b : (mem x).testBit 0
  · exact hJ _
  · exact hJ _
end CU
theorem run_n {n a f N : Nat} {pl st fp : Int32} {w : Nat → Int32} {W : Nat → Nat → Nat} (h : CW pl st fp w n a f W) (hw : WF n a f W) (hN : 600 ≤ N) (m0 t0 r0 n0 q0 p0 u0 : Nat → Int32) : ∃ m t r nm nn pa un : Nat → Int32, f_X2_run N m0 t0 r0 n0 q0 p0 u0 pl st w = some (nI n, m, t, r, nm, nn, pa, un) ∧ Ph n W a n nm nn pa un := by
  have h2 := hw.1
  have h10 := hw.2.1
  have ha := hw.2.2.1
  have hsym := hw.2.2.2.2.2.1
  have hW := hw.2.2.2.2.2.2.2.1
  unfold f_X2_run
  obtain ⟨m, t, b1, b2, b3⟩ := begin_n (h.1 ▸ h) h10 hN m0 t0
  rw [h.1, h.2.1, b1]
  simp only [bd3_ok]
  refine upx (σ := (Nat → Int32) × (Nat → Int32) × (Nat → Int32) × (Nat → Int32) × (Nat → Int32) × (Nat → Int32) × (Nat → Int32)) (fun c k s => f_X2_run_L7 N (nI n) (nI a) (fun a23 a24 a25 a26 a27 a28 a29 => f_X2_run_E41 (nI n) a23 a24 a25 a26 a27 a28 a29) c (nI k) s.1 s.2.1 s.2.2.1 s.2.2.2.1 s.2.2.2.2.1 s.2.2.2.2.2.1 s.2.2.2.2.2.2) (fun k s => (∀ z, z < n → s.1 z = nI (mm n W a k z)) ∧ (∀ u v, u ≠ v → mm n W a k u ≠ 0 → mm n W a k v ≠ 0 → s.2.1 (10 * u + v) = nI (wB n W (mm n W a k u) (mm n W a k v))) ∧ Ph n W a k s.2.2.2.1 s.2.2.2.2.1 s.2.2.2.2.2.1 s.2.2.2.2.2.2) (n - 1) (fun x => ∃ m t r nm nn pa un : Nat → Int32, x = some (nI n, m, t, r, nm, nn, pa, un) ∧ Ph n W a n nm nn pa un) (fun c k s hk hI => ?_) (fun c s hI => ?_) N 0 (m, t, r0, n0, q0, p0, u0) (by omega) (by omega) ⟨fun z hz => ?_, fun u v huv hu hv => ?_, fun k hk => absurd hk (by omega)⟩
  · obtain ⟨a5, a6, a7, a8, a9, a10, a11⟩ := s
    obtain ⟨h3, h4, h5⟩ := hI
    dsimp only at h3 h4 h5
    have hP := mm_part (W := W) h2 ha k (by omega)
    have hnm := hP.nm ha
    have hs := bit_ne hnm.2
    have g1 := (lf_e.mp (sw_inv (W := W) hP hs (n - k - 1) (by omega)).1).1
    have g2 := (lf_e.mp (sw_inv (W := W) hP hs (n - k - 2) (by omega)).1).1
    have g3 := od_ne (W := W) hP hs (show n - k - 2 < n - k - 1 by omega) (by omega)
    show ∃ s', _ ∧ f_X2_run_L7 N (nI n) (nI a) _ (c + 1) (nI k) a5 a6 a7 a8 a9 a10 a11 = _
    rw [f_X2_run_L7, l1, pk_sub (by omega), if_neg (nI_ge hk (by omega)), nol_n hP h10 hN ha h3]
    simp only [bd1_ok]
    obtain ⟨r', nm', nn', s1, s2, s3, s4⟩ := sa_n (N := N) hP rfl (by omega) hsym hW h10 hN hs a7 a8 a9 h3 h4
    rw [s1]
    simp only [bd3_ok]
    obtain ⟨m', t', v1, v2, v3⟩ := end_n (N := N) hP (by omega) hsym h10 hN g1 g2 (Ne.symm g3) a10 a11 h3 h4 (s2 _ (by omega)) (s2 _ (by omega))
    rw [v1]
    simp only [bd4_ok]
    rw [nI_add]
    refine ⟨(m', t', r', nm', nn', upd a10 k _, upd a11 k _), ⟨v2, v3, fun k' hk' hk2 => ?_⟩, rfl⟩
    by_cases e : k' = k
    · subst e
      exact ⟨s2, s3, upd_same _ _ _, upd_same _ _ _⟩
    · obtain ⟨p1, p2, p3, p4⟩ := h5 k' (by omega) hk2
      refine ⟨fun i hi => ?_, fun i hi => ?_, ?_, ?_⟩ <;> dsimp only
      · rw [(s4 _ (by omega)).1]; exact p1 i hi
      · rw [(s4 _ (by omega)).2]; exact p2 i hi
      · rw [upd_ne _ _ e]; exact p3
      · rw [upd_ne _ _ e]; exact p4
  · obtain ⟨a5, a6, a7, a8, a9, a10, a11⟩ := s
    obtain ⟨h3, h4, h5⟩ := hI
    show ∃ m t r nm nn pa un, f_X2_run_L7 N (nI n) (nI a) _ (c + 1) (nI (n - 1)) a5 a6 a7 a8 a9 a10 a11 = _ ∧ _
    rw [f_X2_run_L7, l1, pk_sub (by omega), if_pos (nI_le (Nat.le_refl _) (by omega))]
    exact ⟨_, _, _, _, _, _, _, rfl, fun k hk hk2 => h5 k (by omega) hk2⟩
  · show m z = _
    rw [b2 z hz]
    show _ = nI (if z < n then 2 ^ z else 0)
    rw [if_pos hz]
  · have hu2 : u < n := by
      apply Classical.byContradiction; intro q; exact hu (if_neg q)
    have hv2 : v < n := by
      apply Classical.byContradiction; intro q; exact hv (if_neg q)
    show t (10 * u + v) = nI (wB n W (if u < n then 2 ^ u else 0) (if v < n then 2 ^ v else 0))
    rw [b3 u v hu2 hv2, if_pos hu2, if_pos hv2]
    have e1 : rowB n W (2 ^ v) u = W u v := by
      unfold rowB
      rw [← sm_one (f := fun j => W u j) hv2]
      refine sm_congr (fun j _ => ?_)
      by_cases q : j = v
      · rw [q, Nat.testBit_two_pow_self, if_pos rfl, if_pos rfl]
      · rw [Nat.testBit_two_pow_of_ne (Ne.symm q), if_neg q]; rfl
    have e2 : wB n W (2 ^ u) (2 ^ v) = W u v := by
      unfold wB
      rw [← e1, ← sm_one (f := fun j => rowB n W (2 ^ v) j) hu2]
      refine sm_congr (fun j _ => ?_)
      by_cases q : j = u
      · rw [q, Nat.testBit_two_pow_self, if_pos rfl, if_pos rfl]
      · rw [Nat.testBit_two_pow_of_ne (Ne.symm q), if_neg q]; rfl
    rw [e2]
