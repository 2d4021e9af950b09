-- the phases of both, side by side
/-- what the reference's rows hold of phase k -/
def LyP (n : Nat) (W : Nat → Nat → Nat) (a k : Nat) (lumps order nears : Nat → Int32) : Prop := RLm (n - k) (mm n W a k) lumps ∧ (∀ j, j < n - k → order j = nI (mm n W a k (Od n W a k j))) ∧ ∀ j, j < n - k → nears j = nI (Nr n W a k j)
def Pg (n : Nat) (W : Nat → Nat → Nat) (a k : Nat) : Nat := pgS n (mm n W a k (Od n W a k (n - k - 1)))
def Wt (n : Nat) (W : Nat → Nat → Nat) (a k : Nat) : Nat := Nr n W a k (n - k - 1)
theorem p2_inj {t t' : Nat} (e : 2 ^ t = 2 ^ t') : t = t' := by
  apply Classical.byContradiction
  intro c
  have h1 : (2 ^ t).testBit t = true := Nat.testBit_two_pow_self
  rw [e, Nat.testBit_two_pow_of_ne (Ne.symm c)] at h1
  cases h1
section LY
variable {n a f N k : Nat} {W : Nat → Nat → Nat} {s : Nat → Int32}
theorem Od_alive (hw : WF n a f W) (hk : k + 1 ≤ n) {i : Nat} (hi : i < n - k) : mm n W a k (Od n W a k i) ≠ 0 ∧ Od n W a k i < n := by
  have hP := mm_part (W := W) hw.1 hw.2.2.1 k hk
  have hs := bit_ne (hP.nm hw.2.2.1).2
  have := (lf_e.mp (sw_inv (W := W) hP hs i hi).1).1
  exact ⟨this, hP.lt this⟩
theorem step_n (h : RW s 0 n a f W) (hw : WF n a f W) (hN : 600 ≤ N) (hk : k + 3 ≤ n) {lumps order nears : Nat → Int32} (hl : LyP n W a k lumps order nears) : ∃ lumps' : Nat → Int32, f_X6_joinsLast N (nI (n - k)) lumps order = some (nI (n - (k + 1)), lumps') ∧ ∃ o r : Nat → Int32, f_X6_swallows N (nI (n - (k + 1))) s lumps' order nears = some (nI (Pg n W a (k + 1)), nI (Wt n W a (k + 1)), o, r) ∧ LyP n W a (k + 1) lumps' o r := by
  have h10 := hw.2.1
  have ha := hw.2.2.1
  have hP := mm_part (W := W) hw.1 ha k (by omega)
  have hs := bit_ne (hP.nm ha).2
  obtain ⟨l1, l2, l3⟩ := hl
  have g3 := od_ne (W := W) hP hs (show n - k - 2 < n - k - 1 by omega) (by omega)
  obtain ⟨lumps', j1, j2⟩ := jl_n hP (by omega) (by omega) h10 hN l1 (Od_alive hw (by omega) (show n - k - 1 < n - k by omega)).1 (Od_alive hw (by omega) (show n - k - 2 < n - k by omega)).1 (Ne.symm g3) (l2 _ (by omega)) (l2 _ (by omega))
  refine ⟨lumps', by rw [j1, Nat.sub_sub], ?_⟩
  have hP2 := mm_part (W := W) hw.1 ha (k + 1) (by omega)
  have hR2 : RLm (n - (k + 1)) (mm n W a (k + 1)) lumps' := by
    rw [show n - (k + 1) = n - k - 1 by omega]; exact j2
  obtain ⟨o, r, s1, s2, s3⟩ := sw_n h hP2 (by omega) (by omega) ha hw.2.2.2.2.2.2.2.1 h10 hN hR2 order nears
  exact ⟨o, r, s1, hR2, s2, s3⟩
theorem lay0_n (h : RW s 0 n a f W) (hw : WF n a f W) (hN : 600 ≤ N) (k : Nat) (l0' o0 r0 : Nat → Int32) : ∃ lumps o r : Nat → Int32, f_X6_laysPhase N (nI k) s l0' o0 r0 = f_X6_laysPhase_L41 N (nI k) s (fun x27 x28 x29 a30 a31 a32 => f_X6_laysPhase_E60 x27 x28 x29 a30 a31 a32) N (nI 0) (nI n) (nI (Pg n W a 0)) (nI (Wt n W a 0)) lumps o r ∧ LyP n W a 0 lumps o r := by
  have h2 := hw.1
  have h10 := hw.2.1
  have ha := hw.2.2.1
  unfold f_X6_laysPhase
  refine upx (σ := Nat → Int32) (fun m i st => f_X6_laysPhase_L12 s (fun a6 => f_X6_laysPhase_E35 N s o0 r0 (nI k) a6) m (nI i) st) (fun i st => ∀ t, t < i → st t = nI (2 ^ t)) n (fun x => ∃ lumps o r : Nat → Int32, x = f_X6_laysPhase_L41 N (nI k) s (fun x27 x28 x29 a30 a31 a32 => f_X6_laysPhase_E60 x27 x28 x29 a30 a31 a32) N (nI 0) (nI n) (nI (Pg n W a 0)) (nI (Wt n W a 0)) lumps o r ∧ LyP n W a 0 lumps o r) (fun m i st hi hI => ?_) (fun m st hI => ?_) N 0 l0' (by omega) (by omega) (fun t ht => absurd ht (by omega))
  · show ∃ st', _ ∧ f_X6_laysPhase_L12 s _ (m + 1) (nI i) st = _
    rw [f_X6_laysPhase_L12, h.1, if_neg (nI_ge hi (by omega)), chk_n (by omega) (by omega), nI_clamp (by omega), sh_1 i (by omega), l1, nI_add]
    refine ⟨_, fun t ht => ?_, rfl⟩
    by_cases e : t = i
    · subst e; exact upd_same _ _ _
    · rw [upd_ne _ _ (by omega)]; exact hI t (by omega)
  · show ∃ lumps o r, f_X6_laysPhase_L12 s _ (m + 1) (nI n) st = _ ∧ _
    rw [f_X6_laysPhase_L12, h.1, if_pos (nI_le (Nat.le_refl _) (by omega))]
    unfold f_X6_laysPhase_E35
    have hP := mm_part (W := W) h2 ha 0 (by omega)
    have m0 : ∀ x, x < n → mm n W a 0 x = 2 ^ x := fun x hx => if_pos hx
    have hR : RLm n (mm n W a 0) st := by
      refine ⟨fun t ht => ⟨t, ?_, ?_⟩, fun t t' ht ht' e => ?_, fun x hx => ?_⟩
      · rw [m0 t ht]; exact Nat.pos_iff_ne_zero.mp (Nat.two_pow_pos t)
      · rw [m0 t ht]; exact hI t ht
      · rw [hI t ht, hI t' ht'] at e
        have p1 := p2_10 (i := t) (by omega)
        have p2 := p2_10 (i := t') (by omega)
        exact p2_inj (nI_inj (by omega) (by omega) e)
      · have hxn := hP.lt hx
        exact ⟨x, hxn, by rw [m0 x hxn]; exact hI x hxn⟩
    obtain ⟨o, r, s1, s2, s3⟩ := sw_n h hP (by omega) (by omega) ha hw.2.2.2.2.2.2.2.1 h10 hN hR o0 r0
    rw [h.1, show nI n = nI (n - 0) from rfl, s1]
    simp only [bd4_ok]
    exact ⟨st, o, r, rfl, hR, s2, s3⟩
theorem lay_n (h : RW s 0 n a f W) (hw : WF n a f W) (hN : 600 ≤ N) (hk : k + 2 ≤ n) (l0' o0 r0 : Nat → Int32) : ∃ lumps o r : Nat → Int32, f_X6_laysPhase N (nI k) s l0' o0 r0 = some (nI (n - k), nI (Pg n W a k), nI (Wt n W a k), lumps, o, r) ∧ LyP n W a k lumps o r := by
  have h10 := hw.2.1
  obtain ⟨lu, o, r, e1, e2⟩ := lay0_n h hw hN k l0' o0 r0
  rw [e1]
  refine upx (σ := (Nat → Int32) × (Nat → Int32) × (Nat → Int32)) (fun m i st => f_X6_laysPhase_L41 N (nI k) s (fun x27 x28 x29 a30 a31 a32 => f_X6_laysPhase_E60 x27 x28 x29 a30 a31 a32) m (nI i) (nI (n - i)) (nI (Pg n W a i)) (nI (Wt n W a i)) st.1 st.2.1 st.2.2) (fun i st => LyP n W a i st.1 st.2.1 st.2.2) k (fun x => ∃ lumps o r : Nat → Int32, x = some (nI (n - k), nI (Pg n W a k), nI (Wt n W a k), lumps, o, r) ∧ LyP n W a k lumps o r) (fun m i st hi hI => ?_) (fun m st hI => ?_) N 0 (lu, o, r) (by omega) (by omega) e2
  · obtain ⟨lu, o, r⟩ := st
    dsimp only at hI
    show ∃ st', _ ∧ f_X6_laysPhase_L41 N (nI k) s _ (m + 1) (nI i) (nI (n - i)) (nI (Pg n W a i)) (nI (Wt n W a i)) lu o r = _
    rw [f_X6_laysPhase_L41, if_neg (nI_ge hi (by omega))]
    obtain ⟨lu', j1, o', r', j2, j3⟩ := step_n h hw hN (by omega) hI
    rw [j1]
    simp only [bd2_ok]
    rw [j2]
    simp only [bd4_ok]
    rw [l1, nI_add]
    exact ⟨(lu', o', r'), j3, rfl⟩
  · obtain ⟨lu, o, r⟩ := st
    show ∃ lumps o' r', f_X6_laysPhase_L41 N (nI k) s _ (m + 1) (nI k) (nI (n - k)) (nI (Pg n W a k)) (nI (Wt n W a k)) lu o r = _ ∧ _
    rw [f_X6_laysPhase_L41, if_pos (nI_le (Nat.le_refl _) (by omega))]
    exact ⟨lu, o, r, rfl, hI⟩
/-- the first phase of least weight, of those up to j -/
def bl (c : Nat → Nat) : Nat → Nat
  | 0 => 0
  | j + 1 => if c (bl c j) ≤ c (j + 1) then bl c j else j + 1
theorem bl_le (c : Nat → Nat) : ∀ j, bl c j ≤ j
  | 0 => Nat.le_refl _
  | j + 1 => by
    rw [bl]; split
    · have := bl_le c j; omega
    · exact Nat.le_refl _
theorem Wt_b (hW : ∀ i j, W i j ≤ 99) (h10 : n ≤ 10) : Wt n W a k ≤ 9900 := wB_b hW h10 _ _
theorem lphR (h : RW s 0 n a f W) (hw : WF n a f W) (hN : 600 ≤ N) (l0' o0 r0 : Nat → Int32) : ∃ (x2 x3 x4 : Int32) (lu o r : Nat → Int32), f_X6_leastPhase N s l0' o0 r0 = some (nI (bl (Wt n W a) (n - 2)), x2, x3, x4, lu, o, r) := by
  have g2 := hw.1
  have h10 := hw.2.1
  have hW := hw.2.2.2.2.2.2.2.1
  unfold f_X6_leastPhase
  obtain ⟨lu, o, r, e1, e2⟩ := lay_n (k := 0) h hw hN (by omega) l0' o0 r0
  rw [show (0 : Int32) = nI 0 from rfl, e1]
  simp only [bd6_ok]
  refine upx (σ := (Nat → Int32) × (Nat → Int32) × (Nat → Int32)) (fun m i st => f_X6_leastPhase_L14 N s (fun x27 x28 x29 x30 a31 a32 a33 => f_X6_leastPhase_E71 x27 x28 x29 x30 a31 a32 a33) m (nI (bl (Wt n W a) i)) (nI (Wt n W a (bl (Wt n W a) i))) (nI (i + 1)) (nI (n - i)) (nI (Pg n W a i)) (nI (Wt n W a i)) st.1 st.2.1 st.2.2) (fun i st => LyP n W a i st.1 st.2.1 st.2.2) (n - 2) (fun x => ∃ (x2 x3 x4 : Int32) (lu o r : Nat → Int32), x = some (nI (bl (Wt n W a) (n - 2)), x2, x3, x4, lu, o, r)) (fun m i st hi hI => ?_) (fun m st hI => ?_) N 0 (lu, o, r) (by omega) (by omega) e2
  · obtain ⟨lu, o, r⟩ := st
    dsimp only at hI
    have hb1 := Wt_b (a := a) (k := bl (Wt n W a) i) hW h10
    have hb2 := Wt_b (a := a) (k := i + 1) hW h10
    show ∃ st', _ ∧ f_X6_leastPhase_L14 N s _ (m + 1) (nI (bl (Wt n W a) i)) (nI (Wt n W a (bl (Wt n W a) i))) (nI (i + 1)) (nI (n - i)) (nI (Pg n W a i)) (nI (Wt n W a i)) lu o r = _
    rw [f_X6_leastPhase_L14, h.1, l1, pk_sub (by omega), if_neg (nI_ge (by omega) (by omega))]
    obtain ⟨lu', j1, o', r', j2, j3⟩ := step_n h hw hN (by omega) hI
    rw [j1]
    simp only [bd2_ok]
    rw [j2]
    simp only [bd4_ok]
    refine ⟨(lu', o', r'), j3, ?_⟩
    unfold f_X6_leastPhase_J47 f_X6_leastPhase_J64
    rw [bl]
    by_cases c : Wt n W a (bl (Wt n W a) i) ≤ Wt n W a (i + 1)
    · rw [if_pos (nI_le c (by omega)), if_pos (nI_le c (by omega)), if_pos c, l1, nI_add]
    · rw [if_neg (nI_ge (by omega) (by omega)), if_neg (nI_ge (by omega) (by omega)), if_neg c, l1, nI_add]
  · obtain ⟨lu, o, r⟩ := st
    show ∃ x2 x3 x4 lu' o' r', f_X6_leastPhase_L14 N s _ (m + 1) (nI (bl (Wt n W a) (n - 2))) (nI (Wt n W a (bl (Wt n W a) (n - 2)))) (nI (n - 2 + 1)) _ _ _ lu o r = _
    rw [f_X6_leastPhase_L14, h.1, l1, pk_sub (by omega), if_pos (nI_le (by omega) (by omega))]
    exact ⟨_, _, _, _, _, _, rfl⟩
theorem wIn_n {nm nn pa un : Nat → Int32} (hp : Ph n W a n nm nn pa un) (h10 : n ≤ 10) (hk : k + 2 ≤ n) : f_X2_weightIn (nI k) (nI n) nn = some (nI (Wt n W a k)) := by
  unfold f_X2_weightIn f_X2_lumpsIn
  rw [pk_sub (by omega)]
  simp only [bd1_ok]
  rw [l1, pk_sub (by omega), nearAt_n hk h10 (by omega), (hp k (by omega) hk).2.1 _ (by omega)]
  rfl
theorem lphC {nm nn pa un : Nat → Int32} (hp : Ph n W a n nm nn pa un) (hW : ∀ i j, W i j ≤ 99) (h2 : 2 ≤ n) (h10 : n ≤ 10) (hN : 600 ≤ N) : f_X2_leastPhase N (nI n) nn = some (nI (bl (Wt n W a) (n - 2))) := by
  unfold f_X2_leastPhase
  refine up (fun m i => f_X2_leastPhase_L4 (nI n) nn (fun x9 => f_X2_leastPhase_E35 x9) m (nI (bl (Wt n W a) i)) (nI (i + 1))) _ (n - 2) (fun m i hi => ?_) (fun m => ?_) N 0 (by omega) (by omega)
  · show f_X2_leastPhase_L4 (nI n) nn _ (m + 1) (nI (bl (Wt n W a) i)) (nI (i + 1)) = f_X2_leastPhase_L4 (nI n) nn _ m (nI (bl (Wt n W a) (i + 1))) (nI (i + 1 + 1))
    have hb1 := Wt_b (a := a) (k := bl (Wt n W a) i) hW h10
    have hb2 := Wt_b (a := a) (k := i + 1) hW h10
    have hbl := bl_le (Wt n W a) i
    rw [f_X2_leastPhase_L4, l1, pk_sub (by omega), if_neg (nI_ge (by omega) (by omega)), wIn_n hp h10 (by omega), wIn_n hp h10 (by omega)]
    simp only [bd1_ok]
    unfold f_X2_leastPhase_J29
    rw [bl]
    by_cases c : Wt n W a (bl (Wt n W a) i) ≤ Wt n W a (i + 1)
    · rw [if_pos (nI_le c (by omega)), if_pos c, l1, nI_add]
    · rw [if_neg (nI_ge (by omega) (by omega)), if_neg c, l1, nI_add]
  · show f_X2_leastPhase_L4 (nI n) nn _ (m + 1) (nI (bl (Wt n W a) (n - 2))) (nI (n - 2 + 1)) = _
    rw [f_X2_leastPhase_L4, l1, pk_sub (by omega), if_pos (nI_le (by omega) (by omega))]
    rfl
theorem pOf_n {nm nn pa un : Nat → Int32} (hp : Ph n W a n nm nn pa un) (h10 : n ≤ 10) (hk : k + 2 ≤ n) : f_X2_partingOf (nI k) (nI n) pa = some (nI (Pg n W a k)) ∧ f_X2_unionIn (nI k) (nI n) un = some (nI (mm n W a k (Od n W a k (n - k - 1)) ||| mm n W a k (Od n W a k (n - k - 2)))) := by
  obtain ⟨-, -, h3, h4⟩ := hp k (by omega) hk
  unfold f_X2_partingOf f_X2_unionIn f_X2_isPhase
  rw [l1, pk_sub (by omega), if_neg (nI_pos (by omega)), if_neg (nI_ge (by omega) (by omega))]
  simp only [bd1_ok]
  rw [if_neg (show ¬ nI 1 = 0 by decide), chk_n (by omega) (by omega), if_neg (show ¬ nI 1 = 0 by decide), chk_n (by omega) (by omega), nI_clamp (by omega), h3, h4]
  exact ⟨rfl, rfl⟩
theorem isPh_x (p : Int32) (h : RW s 0 n a f W) (h2 : 2 ≤ n) (h10 : n ≤ 10) : (∃ k, k + 2 ≤ n ∧ p = nI k ∧ f_X5_isPhase p (nI n) = some 1 ∧ f_X6_isPhase p s = some 1) ∨ (f_X5_isPhase p (nI n) = some 0 ∧ f_X6_isPhase p s = some 0) := by
  unfold f_X5_isPhase f_X6_isPhase
  rw [h.1, l1, pk_sub (by omega), l2, pk_sub (by omega), l0]
  rcases in_n p (a := 0) (b := n - 2) (by omega) (by omega) with ⟨k, -, k1, rfl, e⟩ | ⟨e1, e⟩
  · rw [e, if_neg (show ¬ nI k < nI 0 from nI_pos (by omega)), if_neg (nI_ge (by omega) (by omega))]
    exact Or.inl ⟨k, by omega, rfl, rfl, chkB_1⟩
  · rw [e]
    refine Or.inr ⟨?_, chkB_0⟩
    by_cases c : p < nI 0
    · rw [if_pos c]
    · rw [if_neg c]
      rcases pos_n p with q | ⟨r, hr, rfl⟩
      · exact absurd q c
      · rw [if_pos]
        by_cases d : r ≤ n - 2
        · exact absurd rfl (e1 r (by omega) d)
        · exact nI_le (by omega) hr
end LY
theorem eq_phase {x_kept_ : Int32} {x_web_places_ : Int32} {x_web_start_ : Int32} {x_web_fairPlaces_ : Int32} {x_web_weights_ : Nat → Int32} {x_snapshot_places_ : Int32} {x_snapshot_start_ : Int32} {x_snapshot_fairPlaces_ : Int32} {x_snapshot_weights_ : Nat → Int32} {x_history_size_ : Int32} {x_history_pl_ : Nat → Int32} {x_history_st_ : Nat → Int32} {x_history_fp_ : Nat → Int32} {x_history_wt_ : Nat → Nat → Int32} {x_text_length_ : Int32} {x_text_signs_ : Nat → Int32} {x_phases_places_ : Int32} {x_phases_members_ : Nat → Int32} {x_phases_ties_ : Nat → Int32} {x_phases_nears_ : Nat → Int32} {x_phases_names_ : Nat → Int32} {x_phases_nearnesses_ : Nat → Int32} {x_phases_partings_ : Nat → Int32} {x_phases_unions_ : Nat → Int32} {x_partings_weights_ : Nat → Int32} {x_partings_pulls_ : Nat → Int32} {m_savedMany_ : Int32} {m_hasSnapshot_ : Int32} {m_length_ : Int32} {m_lumpMany_ : Int32} {m_partingSet_ : Int32} {m_partingWeight_ : Int32} {m_s_ : Nat → Int32} {m_saved_ : Nat → Int32} {m_snapshot_ : Nat → Int32} {m_text_ : Nat → Int32} {m_lumps_ : Nat → Int32} {m_order_ : Nat → Int32} {m_nears_ : Nat → Int32} (N : Nat) (hN : 600 ≤ N) (p1 : Int32) (p2 : Int32) (h : Same x_web_places_ x_web_start_ x_web_fairPlaces_ x_web_weights_ m_s_ 0 ∧ HistR x_history_size_ x_history_pl_ x_history_st_ x_history_fp_ x_history_wt_ m_savedMany_ m_saved_ ∧ SnapR x_kept_ x_snapshot_places_ x_snapshot_start_ x_snapshot_fairPlaces_ x_snapshot_weights_ m_hasSnapshot_ m_snapshot_ ∧ TextR x_text_length_ x_text_signs_ m_length_ m_text_ ∧ Zero x_partings_weights_ x_partings_pulls_) : ∃ (r_ : Int32) (x_phases_places_' : Int32) (x_phases_members_' : Nat → Int32) (x_phases_ties_' : Nat → Int32) (x_phases_nears_' : Nat → Int32) (x_phases_names_' : Nat → Int32) (x_phases_nearnesses_' : Nat → Int32) (x_phases_partings_' : Nat → Int32) (x_phases_unions_' : Nat → Int32) (m_thrown_' : Int32) (m_lumpMany_' : Int32) (m_partingSet_' : Int32) (m_partingWeight_' : Int32) (m_lumps_' : Nat → Int32) (m_order_' : Nat → Int32) (m_nears_' : Nat → Int32), f_X5_phase N p1 p2 x_web_places_ x_web_start_ x_web_weights_ x_phases_places_ x_phases_members_ x_phases_ties_ x_phases_nears_ x_phases_names_ x_phases_nearnesses_ x_phases_partings_ x_phases_unions_ = some (r_, x_phases_places_', x_phases_members_', x_phases_ties_', x_phases_nears_', x_phases_names_', x_phases_nearnesses_', x_phases_partings_', x_phases_unions_') ∧ f_X6_phase N p1 p2 m_lumpMany_ m_partingSet_ m_partingWeight_ m_s_ m_lumps_ m_order_ m_nears_ = some (r_, m_thrown_', m_lumpMany_', m_partingSet_', m_partingWeight_', m_lumps_', m_order_', m_nears_') ∧ (Same x_web_places_ x_web_start_ x_web_fairPlaces_ x_web_weights_ m_s_ 0 ∧ HistR x_history_size_ x_history_pl_ x_history_st_ x_history_fp_ x_history_wt_ m_savedMany_ m_saved_ ∧ SnapR x_kept_ x_snapshot_places_ x_snapshot_start_ x_snapshot_fairPlaces_ x_snapshot_weights_ m_hasSnapshot_ m_snapshot_ ∧ TextR x_text_length_ x_text_signs_ m_length_ m_text_ ∧ Zero x_partings_weights_ x_partings_pulls_) := by
  obtain ⟨h1, h2, h3, h4, h5⟩ := h
  have hS := h1
  obtain ⟨n, a, f, W, q1, q2, q3⟩ := h1
  have g2 := q1.1
  have g10 := q1.2.1
  have hn2 : 2 ^ n ≤ 1024 := p2_10 g10
  unfold f_X5_phase f_X6_phase
  rw [q2.1]
  rw [q2.1] at hS
  rcases isPh_x p1 q3 g2 g10 with ⟨k, hk, rfl, e1, e2⟩ | ⟨e1, e2⟩
  · rw [e1, e2]
    simp only [bd1_ok]
    rw [if_neg (show ¬ (1 : Int32) = 0 by decide), if_neg (show ¬ (1 : Int32) = 0 by decide)]
    obtain ⟨m, t, r, nm, nn, pa, un, r1, r2⟩ := run_n q2 q1 hN x_phases_members_ x_phases_ties_ x_phases_nears_ x_phases_names_ x_phases_nearnesses_ x_phases_partings_ x_phases_unions_
    rw [q2.1] at r1
    obtain ⟨lu, o, rr, y1, y2⟩ := lay_n q3 q1 hN hk m_lumps_ m_order_ m_nears_
    have hP := mm_part (W := W) q1.1 q1.2.2.1 k (by omega)
    obtain ⟨z1, z2⟩ := Od_alive q1 (k := k) (by omega) (show n - k - 1 < n - k by omega)
    obtain ⟨z3, z4⟩ := Od_alive q1 (k := k) (by omega) (show n - k - 2 < n - k by omega)
    have w1 := hP.2.1 _ z1
    have w2 := hP.2.1 _ z3
    have n1 := name_n (N := N) hN (by omega) (by omega) w1.1
    have n2 := name_n (N := N) hN (by omega) (by omega) w2.1
    obtain ⟨p3, p4⟩ := pOf_n r2 g10 hk
    have hl : f_X2_lumpsIn (nI k) (nI n) = some (nI (n - k)) := by unfold f_X2_lumpsIn; rw [pk_sub (by omega)]
    rw [r1, y1]
    simp only [bd8_ok, bd6_ok]
    rw [hl]
    simp only [bd1_ok]
    rw [l1, pk_sub (by omega), l2, pk_sub (by omega), chk_n (by omega) (by omega), chk_n (by omega) (by omega), nI_clamp (by omega), nI_clamp (by omega), y2.2.1 _ (by omega), y2.2.1 _ (by omega), n1, n2, p3, p4, wIn_n r2 g10 hk, nameAt_n hk g10 (by omega), nameAt_n hk g10 (by omega), (r2 k (by omega) hk).1 _ (by omega), (r2 k (by omega) hk).1 _ (by omega), n_or]
    simp only [bd1_ok]
    by_cases c0 : p2 = 0
    · rw [if_pos c0, if_pos c0]; exact ⟨_, _, _, _, _, _, _, _, _, _, _, _, _, _, _, _, rfl, rfl, hS, h2, h3, h4, h5⟩
    rw [if_neg c0, if_neg c0]
    by_cases c1 : p2 = nI 1
    · rw [if_pos c1, if_pos c1]; exact ⟨_, _, _, _, _, _, _, _, _, _, _, _, _, _, _, _, rfl, rfl, hS, h2, h3, h4, h5⟩
    rw [if_neg c1, if_neg c1]
    by_cases c2 : p2 = nI 2
    · rw [if_pos c2, if_pos c2]; exact ⟨_, _, _, _, _, _, _, _, _, _, _, _, _, _, _, _, rfl, rfl, hS, h2, h3, h4, h5⟩
    rw [if_neg c2, if_neg c2]
    by_cases c3 : p2 = 3
    · rw [if_pos c3, if_pos c3]; exact ⟨_, _, _, _, _, _, _, _, _, _, _, _, _, _, _, _, rfl, rfl, hS, h2, h3, h4, h5⟩
    rw [if_neg c3, if_neg c3]
    by_cases c4 : p2 = 4
    · rw [if_pos c4, if_pos c4]; exact ⟨_, _, _, _, _, _, _, _, _, _, _, _, _, _, _, _, rfl, rfl, hS, h2, h3, h4, h5⟩
    rw [if_neg c4, if_neg c4]
    by_cases c5 : p2 = 5
    · rw [if_pos c5, if_pos c5]; exact ⟨_, _, _, _, _, _, _, _, _, _, _, _, _, _, _, _, rfl, rfl, hS, h2, h3, h4, h5⟩
    rw [if_neg c5, if_neg c5]
    exact ⟨_, _, _, _, _, _, _, _, _, _, _, _, _, _, _, _, rfl, rfl, hS, h2, h3, h4, h5⟩
  · rw [e1, e2]
    simp only [bd1_ok]
    exact ⟨_, _, _, _, _, _, _, _, _, _, _, _, _, _, _, _, rfl, rfl, hS, h2, h3, h4, h5⟩
theorem eq_swallowed {x_kept_ : Int32} {x_web_places_ : Int32} {x_web_start_ : Int32} {x_web_fairPlaces_ : Int32} {x_web_weights_ : Nat → Int32} {x_snapshot_places_ : Int32} {x_snapshot_start_ : Int32} {x_snapshot_fairPlaces_ : Int32} {x_snapshot_weights_ : Nat → Int32} {x_history_size_ : Int32} {x_history_pl_ : Nat → Int32} {x_history_st_ : Nat → Int32} {x_history_fp_ : Nat → Int32} {x_history_wt_ : Nat → Nat → Int32} {x_text_length_ : Int32} {x_text_signs_ : Nat → Int32} {x_phases_places_ : Int32} {x_phases_members_ : Nat → Int32} {x_phases_ties_ : Nat → Int32} {x_phases_nears_ : Nat → Int32} {x_phases_names_ : Nat → Int32} {x_phases_nearnesses_ : Nat → Int32} {x_phases_partings_ : Nat → Int32} {x_phases_unions_ : Nat → Int32} {x_partings_weights_ : Nat → Int32} {x_partings_pulls_ : Nat → Int32} {m_savedMany_ : Int32} {m_hasSnapshot_ : Int32} {m_length_ : Int32} {m_lumpMany_ : Int32} {m_partingSet_ : Int32} {m_partingWeight_ : Int32} {m_s_ : Nat → Int32} {m_saved_ : Nat → Int32} {m_snapshot_ : Nat → Int32} {m_text_ : Nat → Int32} {m_lumps_ : Nat → Int32} {m_order_ : Nat → Int32} {m_nears_ : Nat → Int32} (N : Nat) (hN : 600 ≤ N) (p1 : Int32) (p2 : Int32) (p3 : Int32) (hz : p3 = 0 ∨ p3 = 1) (h : Same x_web_places_ x_web_start_ x_web_fairPlaces_ x_web_weights_ m_s_ 0 ∧ HistR x_history_size_ x_history_pl_ x_history_st_ x_history_fp_ x_history_wt_ m_savedMany_ m_saved_ ∧ SnapR x_kept_ x_snapshot_places_ x_snapshot_start_ x_snapshot_fairPlaces_ x_snapshot_weights_ m_hasSnapshot_ m_snapshot_ ∧ TextR x_text_length_ x_text_signs_ m_length_ m_text_ ∧ Zero x_partings_weights_ x_partings_pulls_) : ∃ (r_ : Int32) (x_phases_places_' : Int32) (x_phases_members_' : Nat → Int32) (x_phases_ties_' : Nat → Int32) (x_phases_nears_' : Nat → Int32) (x_phases_names_' : Nat → Int32) (x_phases_nearnesses_' : Nat → Int32) (x_phases_partings_' : Nat → Int32) (x_phases_unions_' : Nat → Int32) (m_thrown_' : Int32) (m_lumpMany_' : Int32) (m_partingSet_' : Int32) (m_partingWeight_' : Int32) (m_lumps_' : Nat → Int32) (m_order_' : Nat → Int32) (m_nears_' : Nat → Int32), f_X5_swallowed N p1 p2 p3 x_web_places_ x_web_start_ x_web_weights_ x_phases_places_ x_phases_members_ x_phases_ties_ x_phases_nears_ x_phases_names_ x_phases_nearnesses_ x_phases_partings_ x_phases_unions_ = some (r_, x_phases_places_', x_phases_members_', x_phases_ties_', x_phases_nears_', x_phases_names_', x_phases_nearnesses_', x_phases_partings_', x_phases_unions_') ∧ f_X6_swallowed N p1 p2 p3 m_lumpMany_ m_partingSet_ m_partingWeight_ m_s_ m_lumps_ m_order_ m_nears_ = some (r_, m_thrown_', m_lumpMany_', m_partingSet_', m_partingWeight_', m_lumps_', m_order_', m_nears_') ∧ (Same x_web_places_ x_web_start_ x_web_fairPlaces_ x_web_weights_ m_s_ 0 ∧ HistR x_history_size_ x_history_pl_ x_history_st_ x_history_fp_ x_history_wt_ m_savedMany_ m_saved_ ∧ SnapR x_kept_ x_snapshot_places_ x_snapshot_start_ x_snapshot_fairPlaces_ x_snapshot_weights_ m_hasSnapshot_ m_snapshot_ ∧ TextR x_text_length_ x_text_signs_ m_length_ m_text_ ∧ Zero x_partings_weights_ x_partings_pulls_) := by
  obtain ⟨h1, h2, h3, h4, h5⟩ := h
  have hS := h1
  obtain ⟨n, a, f, W, q1, q2, q3⟩ := h1
  have g2 := q1.1
  have g10 := q1.2.1
  have hn2 : 2 ^ n ≤ 1024 := p2_10 g10
  unfold f_X5_swallowed f_X6_swallowed
  rw [q2.1]
  rw [q2.1] at hS
  rcases isPh_x p1 q3 g2 g10 with ⟨k, hk, rfl, e1, e2⟩ | ⟨e1, e2⟩
  · rw [e1, e2]
    simp only [bd1_ok]
    rw [if_neg (show ¬ (1 : Int32) = 0 by decide), if_neg (show ¬ (1 : Int32) = 0 by decide)]
    rcases pos_n p2 with hp | ⟨i, hi, rfl⟩
    · rw [if_neg (Int32.not_le.mpr hp), if_neg (Int32.not_le.mpr hp)]
      exact ⟨_, _, _, _, _, _, _, _, _, _, _, _, _, _, _, _, rfl, rfl, hS, h2, h3, h4, h5⟩
    · rw [if_pos (show (0 : Int32) ≤ nI i from nI_le (Nat.zero_le i) hi), if_pos (show (0 : Int32) ≤ nI i from nI_le (Nat.zero_le i) hi)]
      obtain ⟨m, t, r, nm, nn, pa, un, r1, r2⟩ := run_n q2 q1 hN x_phases_members_ x_phases_ties_ x_phases_nears_ x_phases_names_ x_phases_nearnesses_ x_phases_partings_ x_phases_unions_
      rw [q2.1] at r1
      obtain ⟨lu, o, rr, y1, y2⟩ := lay_n q3 q1 hN hk m_lumps_ m_order_ m_nears_
      have hl : f_X2_lumpsIn (nI k) (nI n) = some (nI (n - k)) := by unfold f_X2_lumpsIn; rw [pk_sub (by omega)]
      rw [r1, y1]
      simp only [bd8_ok, bd6_ok]
      rw [hl]
      simp only [bd1_ok]
      by_cases c : i < n - k
      · have hP := mm_part (W := W) q1.1 q1.2.2.1 k (by omega)
        obtain ⟨z1, z2⟩ := Od_alive q1 (k := k) (by omega) c
        have w1 := hP.2.1 _ z1
        have n1 := name_n (N := N) hN (by omega) (by omega) w1.1
        rw [if_pos (nI_lt c (by omega)), if_pos (nI_lt c (by omega)), chk_n (by omega) (by omega), chk_n (by omega) (by omega), nI_clamp (by omega), y2.2.1 i c, y2.2.2 i c, n1, nameAt_n hk g10 c, nearAt_n hk g10 c, (r2 k (by omega) hk).1 i c, (r2 k (by omega) hk).2.1 i c]
        simp only [bd1_ok]
        by_cases c0 : p3 = 0
        · rw [if_pos c0, if_pos c0]; exact ⟨_, _, _, _, _, _, _, _, _, _, _, _, _, _, _, _, rfl, rfl, hS, h2, h3, h4, h5⟩
        · rw [if_neg c0, if_neg c0]; exact ⟨_, _, _, _, _, _, _, _, _, _, _, _, _, _, _, _, rfl, rfl, hS, h2, h3, h4, h5⟩
      · rw [if_neg (nI_nlt (by omega) hi), if_neg (nI_nlt (by omega) hi)]
        exact ⟨_, _, _, _, _, _, _, _, _, _, _, _, _, _, _, _, rfl, rfl, hS, h2, h3, h4, h5⟩
  · rw [e1, e2]
    simp only [bd1_ok]
    exact ⟨_, _, _, _, _, _, _, _, _, _, _, _, _, _, _, _, rfl, rfl, hS, h2, h3, h4, h5⟩
