-- the reference's least side
theorem pos_n (p : Int32) : p < 0 ∨ ∃ r : Nat, r < 2 ^ 31 ∧ p = nI r := by
  rcases pk_ix p (n := 2 ^ 31 - 1) (by omega) with h | h | ⟨i, hi, rfl⟩
  · exact Or.inl h
  · refine Or.inr ⟨2 ^ 31 - 1, by omega, ?_⟩
    have h1 : (nI (2 ^ 31 - 1)).toInt = 2 ^ 31 - 1 := nI_toInt (by omega)
    have h2 := Int32.le_iff_toInt_le.mp h
    have h3 : p.toInt < 2 ^ 31 := p.toInt_lt
    apply Int32.toInt_inj.mp
    omega
  · exact Or.inr ⟨i, by omega, rfl⟩
section RL
variable {n a f N M v : Nat} {W : Nat → Nat → Nat} {s : Nat → Int32}
theorem M_n (h2 : 2 ≤ n) (h10 : n ≤ 10) : 2 ^ n = 2 * 2 ^ (n - 1) ∧ 2 ≤ 2 ^ (n - 1) ∧ 2 ^ (n - 1) ≤ 512 := by
  have hq := p2_s (by omega : 1 ≤ n)
  have hq1 : 2 ^ (n - 1) ≤ 2 ^ 9 := p2_le (by omega)
  have hq2 : 2 ^ 1 ≤ 2 ^ (n - 1) := p2_le (by omega)
  exact ⟨hq, by omega, by omega⟩
theorem go_n {i : Nat} (h2 : 2 ≤ n) (h10 : n ≤ 10) (hi : i < 2 ^ (n - 1)) : ¬ nI (2 ^ n - 1) ≤ nI (2 * i) := by
  obtain ⟨e, h3, h4⟩ := M_n h2 h10
  exact nI_ge (by omega) (by omega)
theorem st_n (h2 : 2 ≤ n) (h10 : n ≤ 10) : nI (2 ^ n - 1) ≤ nI (2 * 2 ^ (n - 1)) := by
  obtain ⟨e, h3, h4⟩ := M_n h2 h10
  exact nI_le (by omega) (by omega)
theorem lw_n (h : RW s 0 n a f W) (hW : ∀ i j, W i j ≤ 99) (h2 : 2 ≤ n) (h10 : n ≤ 10) (hN : 600 ≤ N) : ∃ v, f_X6_leastWeight N s = some (nI v) ∧ IsMin (fun t => cut n W (2 * t)) (2 ^ (n - 1)) v := by
  obtain ⟨hM, hM2, hM5⟩ := M_n h2 h10
  unfold f_X6_leastWeight f_X6_firstLeast
  rw [l2, show nI 2 = nI (2 * 1) from rfl, wOf_n h hW h10 hN (by omega)]
  simp only [bd1_ok]
  have key : ∃ r, r < 2 ^ (n - 1) ∧ f_X6_firstLeast_L10 N s (fun x12 => f_X6_firstLeast_E56 x12) N (nI (2 * 1)) (nI (cut n W (2 * 1))) (4 : Int32) = some (nI (2 * r)) ∧ IsMin (fun t => cut n W (2 * t)) (2 ^ (n - 1)) (cut n W (2 * r)) := by
    refine upx (σ := Int32 × Int32) (fun m i s' => f_X6_firstLeast_L10 N s (fun x12 => f_X6_firstLeast_E56 x12) m s'.1 s'.2 (nI (2 * i))) (fun i s' => 2 ≤ i ∧ ∃ r, 1 ≤ r ∧ r < i ∧ s'.1 = nI (2 * r) ∧ s'.2 = nI (cut n W (2 * r)) ∧ ∀ u, 1 ≤ u → u < i → cut n W (2 * r) ≤ cut n W (2 * u)) (2 ^ (n - 1)) (fun x => ∃ r, r < 2 ^ (n - 1) ∧ x = some (nI (2 * r)) ∧ IsMin (fun t => cut n W (2 * t)) (2 ^ (n - 1)) (cut n W (2 * r))) (fun m i s' hi hI => ?_) (fun m s' hI => ?_) N 2 (nI (2 * 1), nI (cut n W (2 * 1))) (by omega) (by omega) ⟨Nat.le_refl _, 1, by omega, by omega, rfl, rfl, fun u h1 h2 => ?_⟩
    rotate_left 2
    · rw [show u = 1 by omega]; exact Nat.le_refl _
    · obtain ⟨b, w⟩ := s'
      obtain ⟨hi2, r, r1, r2, e1, e2, hr⟩ := hI
      dsimp only at e1 e2
      subst e1; subst e2
      show ∃ s', _ ∧ f_X6_firstLeast_L10 N s _ (m + 1) (nI (2 * r)) (nI (cut n W (2 * r))) (nI (2 * i)) = _
      rw [f_X6_firstLeast_L10, all_n h h10]
      simp only [bd1_ok]
      rw [if_neg (go_n h2 h10 hi), wOf_n h hW h10 hN (by omega)]
      simp only [bd1_ok]
      have c1 := cut_b hW h10 (2 * r)
      have c2 := cut_b hW h10 (2 * i)
      by_cases c : cut n W (2 * r) ≤ cut n W (2 * i)
      · rw [if_pos (nI_le c (by omega))]
        unfold f_X6_firstLeast_J36
        rw [if_pos (nI_le c (by omega))]
        unfold f_X6_firstLeast_J49
        refine ⟨(nI (2 * r), nI (cut n W (2 * r))), ⟨by omega, r, r1, by omega, rfl, rfl, fun u h3 h4 => ?_⟩, by rw [l2, nI_add]; rfl⟩
        by_cases e : u = i
        · rw [e]; exact c
        · exact hr u h3 (by omega)
      · rw [if_neg (nI_ge (by omega) (by omega))]
        unfold f_X6_firstLeast_J36
        rw [if_neg (nI_ge (by omega) (by omega))]
        unfold f_X6_firstLeast_J49
        refine ⟨(nI (2 * i), nI (cut n W (2 * i))), ⟨by omega, i, by omega, by omega, rfl, rfl, fun u h3 h4 => ?_⟩, by rw [l2, nI_add]; rfl⟩
        by_cases e : u = i
        · rw [e]; exact Nat.le_refl _
        · have := hr u h3 (by omega); omega
    · obtain ⟨b, w⟩ := s'
      obtain ⟨hi2, r, r1, r2, e1, e2, hr⟩ := hI
      dsimp only at e1 e2
      subst e1; subst e2
      show ∃ r', _ ∧ f_X6_firstLeast_L10 N s _ (m + 1) (nI (2 * r)) (nI (cut n W (2 * r))) (nI (2 * 2 ^ (n - 1))) = _ ∧ _
      rw [f_X6_firstLeast_L10, all_n h h10]
      simp only [bd1_ok]
      rw [if_pos (st_n h2 h10)]
      exact ⟨r, r2, rfl, hr, r, r1, r2, rfl⟩
  obtain ⟨r, r1, r2, r3⟩ := key
  rw [r2]
  simp only [bd1_ok]
  rw [wOf_n h hW h10 hN (by omega)]
  exact ⟨cut n W (2 * r), rfl, r3⟩
theorem lm_n (h : RW s 0 n a f W) (hW : ∀ i j, W i j ≤ 99) (h2 : 2 ≤ n) (h10 : n ≤ 10) (hN : 600 ≤ N) (hv : IsMin (fun t => cut n W (2 * t)) (2 ^ (n - 1)) v) : f_X6_leastMany N s = some (nI (nLs n W v)) := by
  obtain ⟨hM, hM2, hM5⟩ := M_n h2 h10
  obtain ⟨v', e1, e2⟩ := lw_n h hW h2 h10 hN
  obtain rfl := hv.one e2
  unfold f_X6_leastMany
  rw [e1]
  simp only [bd1_ok]
  have hvb : v ≤ 9900 := by
    obtain ⟨-, u, -, -, e⟩ := hv
    rw [← e]; exact cut_b hW h10 _
  have e0 : (0 : Int32) = nI (ct (PL (fun t => cut n W (2 * t)) v) 1) := rfl
  rw [e0, show (2 : Int32) = nI (2 * 1) from rfl]
  unfold nLs
  refine upx (σ := Unit) (fun m i _ => f_X6_leastMany_L9 N s (nI v) (fun x10 => f_X6_leastMany_E40 x10) m (nI (ct (PL (fun t => cut n W (2 * t)) v) i)) (nI (2 * i))) (fun i _ => 1 ≤ i) (2 ^ (n - 1)) (fun x => x = some (nI (ct (PL (fun t => cut n W (2 * t)) v) (2 ^ (n - 1))))) (fun m i _ hi h1 => ⟨(), Nat.le_succ_of_le h1, ?_⟩) (fun m _ _ => ?_) N 1 () (by omega) (by omega) (Nat.le_refl _)
  · show f_X6_leastMany_L9 N s (nI v) _ (m + 1) (nI (ct _ i)) (nI (2 * i)) = f_X6_leastMany_L9 N s (nI v) _ m (nI (ct _ (i + 1))) (nI (2 * (i + 1)))
    rw [f_X6_leastMany_L9, all_n h h10]
    simp only [bd1_ok]
    rw [if_neg (go_n h2 h10 hi), wOf_n h hW h10 hN (by omega)]
    simp only [bd1_ok]
    have c2 := cut_b hW h10 (2 * i)
    by_cases c : cut n W (2 * i) = v
    · rw [if_pos (by rw [c])]
      unfold f_X6_leastMany_J32
      rw [l1, nI_add, l2, nI_add, ct, PL_t (c := fun t => cut n W (2 * t)) h1 c, if_pos rfl]
      rfl
    · rw [if_neg (fun e => c (nI_inj (by omega) (by omega) e))]
      unfold f_X6_leastMany_J32
      rw [l0, nI_add, l2, nI_add, ct, PL_f (c := fun t => cut n W (2 * t)) c, if_neg (by decide)]
      rfl
  · show f_X6_leastMany_L9 N s (nI v) _ (m + 1) (nI (ct _ (2 ^ (n - 1)))) (nI (2 * 2 ^ (n - 1))) = _
    rw [f_X6_leastMany_L9, all_n h h10]
    simp only [bd1_ok]
    rw [if_pos (st_n h2 h10)]
    rfl
theorem la_n (h : RW s 0 n a f W) (hW : ∀ i j, W i j ≤ 99) (h2 : 2 ≤ n) (h10 : n ≤ 10) (hN : 600 ≤ N) (hv : IsMin (fun t => cut n W (2 * t)) (2 ^ (n - 1)) v) {r : Nat} (hr : r < 2 ^ 31) : (nLs n W v ≤ r ∧ f_X6_leastAt N (nI r) s = some (-5)) ∨ (∃ t, t < 2 ^ (n - 1) ∧ PL (fun t => cut n W (2 * t)) v t = true ∧ ct (PL (fun t => cut n W (2 * t)) v) t = r ∧ f_X6_leastAt N (nI r) s = some (nI (2 * t))) := by
  obtain ⟨hM, hM2, hM5⟩ := M_n h2 h10
  obtain ⟨v', e1, e2⟩ := lw_n h hW h2 h10 hN
  obtain rfl := hv.one e2
  unfold f_X6_leastAt
  rw [e1]
  simp only [bd1_ok]
  have hvb : v ≤ 9900 := by
    obtain ⟨-, u, -, -, e⟩ := hv
    rw [← e]; exact cut_b hW h10 _
  unfold nLs
  refine upe (σ := Unit) (fun m i _ => f_X6_leastAt_L10 N s (nI v) (f_X6_leastAt_E50) m (nI (r - ct (PL (fun t => cut n W (2 * t)) v) i)) (nI (2 * i))) (fun i _ => 1 ≤ i ∧ ct (PL (fun t => cut n W (2 * t)) v) i ≤ r) (2 ^ (n - 1)) (fun x => (ct (PL (fun t => cut n W (2 * t)) v) (2 ^ (n - 1)) ≤ r ∧ x = some (-5)) ∨ (∃ t, t < 2 ^ (n - 1) ∧ PL (fun t => cut n W (2 * t)) v t = true ∧ ct (PL (fun t => cut n W (2 * t)) v) t = r ∧ x = some (nI (2 * t)))) (fun m i _ hi hI => ?_) (fun m _ hI => ?_) N 1 () (by omega) (by omega) ⟨Nat.le_refl _, Nat.zero_le r⟩
  · obtain ⟨h1, hc⟩ := hI
    rw [f_X6_leastAt_L10, all_n h h10]
    simp only [bd1_ok]
    rw [if_neg (go_n h2 h10 hi), wOf_n h hW h10 hN (by omega)]
    simp only [bd1_ok]
    have c2 := cut_b hW h10 (2 * i)
    by_cases c : cut n W (2 * i) = v
    · rw [if_pos (by rw [c])]
      unfold f_X6_leastAt_J35
      have hp := PL_t (c := fun t => cut n W (2 * t)) h1 c
      by_cases z : ct (PL (fun t => cut n W (2 * t)) v) i = r
      · rw [z, Nat.sub_self, if_neg (by decide)]
        exact Or.inl (Or.inr ⟨i, hi, hp, z, rfl⟩)
      · refine Or.inr ⟨(), ⟨by omega, ?_⟩, ?_⟩
        · rw [ct, hp, if_pos rfl]; omega
        · rw [l1, pk_sub (by omega), l0, if_pos (nI_le (Nat.zero_le _) (by omega)), l2, nI_add, ct, hp, if_pos rfl, Nat.sub_sub]
          rfl
    · rw [if_neg (fun e => c (nI_inj (by omega) (by omega) e))]
      unfold f_X6_leastAt_J35
      have hp := PL_f (c := fun t => cut n W (2 * t)) c
      refine Or.inr ⟨(), ⟨by omega, ?_⟩, ?_⟩
      · rw [ct, hp, if_neg (by decide)]; exact hc
      · rw [l0, pk_sub (by omega), if_pos (nI_le (Nat.zero_le _) (by omega)), l2, nI_add, ct, hp, if_neg (by decide), Nat.sub_zero, Nat.add_zero]
        rfl
  · rw [f_X6_leastAt_L10, all_n h h10]
    simp only [bd1_ok]
    rw [if_pos (st_n h2 h10)]
    exact Or.inl ⟨hI.2, rfl⟩
end RL
theorem lsC {n v : Nat} {W : Nat → Nat → Nat} {wts ls tp : Nat → Int32} (h2 : 2 ≤ n) (h10 : n ≤ 10) (hm : Meas n W wts ls tp v) : nLs n W v ≤ 511 := by
  obtain ⟨hM, hM2, hM5⟩ := M_n h2 h10
  have := PL_ct (c := fun t => cut n W (2 * t)) (v := v) (k := 2 ^ (n - 1)) (by omega)
  unfold nLs; omega
theorem eq_leastOf {x_kept_ : Int32} {x_web_places_ : Int32} {x_web_start_ : Int32} {x_web_fairPlaces_ : Int32} {x_web_weights_ : Nat → Int32} {x_snapshot_places_ : Int32} {x_snapshot_start_ : Int32} {x_snapshot_fairPlaces_ : Int32} {x_snapshot_weights_ : Nat → Int32} {x_history_size_ : Int32} {x_history_pl_ : Nat → Int32} {x_history_st_ : Nat → Int32} {x_history_fp_ : Nat → Int32} {x_history_wt_ : Nat → Nat → Int32} {x_text_length_ : Int32} {x_text_signs_ : Nat → Int32} {x_partings_places_ : Int32} {x_partings_end_ : Int32} {x_partings_leastWeight_ : Int32} {x_partings_leastCount_ : Int32} {x_partings_tightCount_ : Int32} {x_partings_weights_ : Nat → Int32} {x_partings_pulls_ : Nat → Int32} {x_partings_leastSets_ : Nat → Int32} {x_partings_tightPairs_ : Nat → Int32} {m_savedMany_ : Int32} {m_hasSnapshot_ : Int32} {m_length_ : Int32} {m_s_ : Nat → Int32} {m_saved_ : Nat → Int32} {m_snapshot_ : Nat → Int32} {m_text_ : Nat → Int32} (N : Nat) (hN : 600 ≤ N) (p1 : Int32) (h : Same x_web_places_ x_web_start_ x_web_fairPlaces_ x_web_weights_ m_s_ 0 ∧ HistR x_history_size_ x_history_pl_ x_history_st_ x_history_fp_ x_history_wt_ m_savedMany_ m_saved_ ∧ SnapR x_kept_ x_snapshot_places_ x_snapshot_start_ x_snapshot_fairPlaces_ x_snapshot_weights_ m_hasSnapshot_ m_snapshot_ ∧ TextR x_text_length_ x_text_signs_ m_length_ m_text_ ∧ Zero x_partings_weights_ x_partings_pulls_) : ∃ (r_ : Int32) (x_partings_places_' : Int32) (x_partings_end_' : Int32) (x_partings_leastWeight_' : Int32) (x_partings_leastCount_' : Int32) (x_partings_tightCount_' : Int32) (x_partings_weights_' : Nat → Int32) (x_partings_pulls_' : Nat → Int32) (x_partings_leastSets_' : Nat → Int32) (x_partings_tightPairs_' : Nat → Int32) (m_thrown_' : Int32), f_X5_leastOf N p1 x_web_places_ x_web_weights_ x_partings_places_ x_partings_end_ x_partings_leastWeight_ x_partings_leastCount_ x_partings_tightCount_ x_partings_weights_ x_partings_pulls_ x_partings_leastSets_ x_partings_tightPairs_ = some (r_, x_partings_places_', x_partings_end_', x_partings_leastWeight_', x_partings_leastCount_', x_partings_tightCount_', x_partings_weights_', x_partings_pulls_', x_partings_leastSets_', x_partings_tightPairs_') ∧ f_X6_leastOf N p1 m_s_ = some (r_, m_thrown_') ∧ (Same x_web_places_ x_web_start_ x_web_fairPlaces_ x_web_weights_ m_s_ 0 ∧ HistR x_history_size_ x_history_pl_ x_history_st_ x_history_fp_ x_history_wt_ m_savedMany_ m_saved_ ∧ SnapR x_kept_ x_snapshot_places_ x_snapshot_start_ x_snapshot_fairPlaces_ x_snapshot_weights_ m_hasSnapshot_ m_snapshot_ ∧ TextR x_text_length_ x_text_signs_ m_length_ m_text_ ∧ Zero x_partings_weights_' x_partings_pulls_') := by
  obtain ⟨h1, h2, h3, h4, h5⟩ := h
  have hS := h1
  obtain ⟨n, a, f, W, q1, q2, q3⟩ := h1
  have g2 := q1.1
  have g10 := q1.2.1
  have hW := q1.2.2.2.2.2.2.2.1
  unfold f_X5_leastOf f_X6_leastOf
  rcases pos_n p1 with hp | ⟨r, hr, rfl⟩
  · rw [if_neg (Int32.not_le.mpr hp), if_neg (Int32.not_le.mpr hp)]
    exact ⟨_, _, _, _, _, _, _, _, _, _, _, rfl, rfl, hS, h2, h3, h4, h5⟩
  · rw [l0, if_pos (nI_le (Nat.zero_le r) hr), if_pos (nI_le (Nat.zero_le r) hr)]
    obtain ⟨v, wts, pls, ls, tp, e1, e2, e3⟩ := meas_n q2 q1 hN x_partings_leastWeight_ x_partings_weights_ x_partings_pulls_ x_partings_leastSets_ x_partings_tightPairs_ h5
    rw [e1]
    simp only [bd9_ok]
    have hL := lsC g2 g10 e2
    rcases la_n q3 hW g2 g10 hN e2.2.1 hr with ⟨c1, c2⟩ | ⟨t, c1, c2, c3, c4⟩
    · rw [if_pos (nI_le c1 hr), c2]
      exact ⟨_, _, _, _, _, _, _, _, _, _, _, rfl, rfl, hS, h2, h3, h4, e3⟩
    · have hlt := ct_lt _ c1 c2
      have hlt2 : r < nLs n W v := by unfold nLs; omega
      rw [if_neg (nI_ge hlt2 (by omega)), c4]
      unfold f_X1_leastAt
      rw [if_neg (nI_pos hr), if_neg (nI_ge hlt2 (by omega)), chk_n (by omega) (by omega), nI_clamp (by omega)]
      have h9 := e2.2.2.1 t c1 c2
      rw [c3] at h9
      rw [h9]
      exact ⟨_, _, _, _, _, _, _, _, _, _, _, rfl, rfl, hS, h2, h3, h4, e3⟩
/-- whether a number is a parting, for both -/
theorem ip_x (p : Int32) {n a f : Nat} {W : Nat → Nat → Nat} {s : Nat → Int32} (h : RW s 0 n a f W) (g2 : 2 ≤ n) (g10 : n ≤ 10) : (∃ t, 1 ≤ t ∧ t < 2 ^ (n - 1) ∧ p = nI (2 * t) ∧ f_X1_isParting p (nI (2 ^ n)) = some 1 ∧ f_X6_isParting p s = some 1) ∨ (f_X1_isParting p (nI (2 ^ n)) = some 0 ∧ f_X6_isParting p s = some 0) := by
  obtain ⟨hM, hM2, hM5⟩ := M_n g2 g10
  unfold f_X1_isParting f_X6_isParting
  rw [all_n h g10]
  simp only [bd1_ok]
  rw [l1, pk_sub (by omega), l2]
  rcases in_n p (a := 2) (b := 2 ^ n - 1 - 1) (by omega) (by omega) with ⟨i, i1, i2, rfl, e1⟩ | ⟨i1, e1⟩
  · rw [e1, l0, if_neg (nI_ge (by omega) (by omega)), if_neg (nI_ge (by omega) (by omega)), holds_n (by omega)]
    simp only [bd1_ok]
    rw [if_neg (show ¬ (1 : Int32) = nI 0 by decide), n_and]
    have hb : i &&& 1 = i % 2 := by rw [Nat.and_one_is_mod]
    have hb2 : i.testBit 0 = decide (i % 2 = 1) := Nat.testBit_zero i
    rw [hb, hb2]
    by_cases c : i % 2 = 1
    · rw [c]
      exact Or.inr ⟨by rfl, by rfl⟩
    · rw [show i % 2 = 0 by omega]
      exact Or.inl ⟨i / 2, by omega, by omega, by rw [show 2 * (i / 2) = i by omega], rfl, rfl⟩
  · rw [e1]
    refine Or.inr ⟨?_, rfl⟩
    by_cases c0 : p ≤ 0
    · rw [if_pos c0]
    · rw [if_neg c0]
      rcases pos_n p with hp | ⟨r, hr, rfl⟩
      · exact absurd (Int32.le_of_lt hp) c0
      · by_cases c1 : 2 ^ n ≤ r
        · rw [if_pos (nI_le c1 hr)]
        · rw [if_neg (nI_ge (by omega) (by omega)), l0, holds_n (by omega)]
          simp only [bd1_ok]
          have hb2 : r.testBit 0 = decide (r % 2 = 1) := Nat.testBit_zero r
          have c2 : r % 2 = 1 := by
            by_cases d1 : r = 0
            · subst d1; exact absurd (nI_le (Nat.le_refl 0) (by omega)) c0
            · by_cases d2 : 2 ≤ r ∧ r ≤ 2 ^ n - 1 - 1
              · exact absurd rfl (i1 r d2.1 d2.2)
              · omega
          rw [hb2, decide_eq_true c2]
          rfl
theorem wo_c {n v t : Nat} {W : Nat → Nat → Nat} {wts ls tp : Nat → Int32} (g2 : 2 ≤ n) (g10 : n ≤ 10) (hm : Meas n W wts ls tp v) (h1 : 1 ≤ t) (ht : t < 2 ^ (n - 1)) : f_X1_weightOf (nI (2 * t)) (nI (2 ^ n)) wts = some (nI (cut n W (2 * t))) := by
  obtain ⟨hM, hM2, hM5⟩ := M_n g2 g10
  unfold f_X1_weightOf f_X1_isParting
  rw [l0, if_neg (nI_ge (by omega) (by omega)), if_neg (nI_ge (by omega) (by omega)), holds_n (by omega)]
  have hb2 : (2 * t).testBit 0 = decide ((2 * t) % 2 = 1) := Nat.testBit_zero _
  rw [hb2, show (2 * t) % 2 = 0 by omega]
  simp only [bd1_ok]
  rw [if_neg (show ¬ decide (0 = 1) = true by decide), if_pos (show (0 : Int32) = nI 0 from rfl)]
  simp only [bd1_ok]
  rw [if_neg (show ¬ (1 : Int32) = nI 0 by decide), chk_n (by omega) (by omega), nI_clamp (by omega), hm.1 t ht]
theorem eq_parting {x_kept_ : Int32} {x_web_places_ : Int32} {x_web_start_ : Int32} {x_web_fairPlaces_ : Int32} {x_web_weights_ : Nat → Int32} {x_snapshot_places_ : Int32} {x_snapshot_start_ : Int32} {x_snapshot_fairPlaces_ : Int32} {x_snapshot_weights_ : Nat → Int32} {x_history_size_ : Int32} {x_history_pl_ : Nat → Int32} {x_history_st_ : Nat → Int32} {x_history_fp_ : Nat → Int32} {x_history_wt_ : Nat → Nat → Int32} {x_text_length_ : Int32} {x_text_signs_ : Nat → Int32} {x_partings_leastWeight_ : Int32} {x_partings_weights_ : Nat → Int32} {x_partings_pulls_ : Nat → Int32} {x_partings_leastSets_ : Nat → Int32} {x_partings_tightPairs_ : Nat → Int32} {m_savedMany_ : Int32} {m_hasSnapshot_ : Int32} {m_length_ : Int32} {m_s_ : Nat → Int32} {m_saved_ : Nat → Int32} {m_snapshot_ : Nat → Int32} {m_text_ : Nat → Int32} (N : Nat) (hN : 600 ≤ N) (p1 : Int32) (h : Same x_web_places_ x_web_start_ x_web_fairPlaces_ x_web_weights_ m_s_ 0 ∧ HistR x_history_size_ x_history_pl_ x_history_st_ x_history_fp_ x_history_wt_ m_savedMany_ m_saved_ ∧ SnapR x_kept_ x_snapshot_places_ x_snapshot_start_ x_snapshot_fairPlaces_ x_snapshot_weights_ m_hasSnapshot_ m_snapshot_ ∧ TextR x_text_length_ x_text_signs_ m_length_ m_text_ ∧ Zero x_partings_weights_ x_partings_pulls_) : ∃ (r_ : Int32) (x_partings_places_' : Int32) (x_partings_end_' : Int32) (x_partings_leastWeight_' : Int32) (x_partings_leastCount_' : Int32) (x_partings_tightCount_' : Int32) (x_partings_weights_' : Nat → Int32) (x_partings_pulls_' : Nat → Int32) (x_partings_leastSets_' : Nat → Int32) (x_partings_tightPairs_' : Nat → Int32) (m_thrown_' : Int32), f_X5_parting N p1 x_web_places_ x_web_weights_ x_partings_leastWeight_ x_partings_weights_ x_partings_pulls_ x_partings_leastSets_ x_partings_tightPairs_ = some (r_, x_partings_places_', x_partings_end_', x_partings_leastWeight_', x_partings_leastCount_', x_partings_tightCount_', x_partings_weights_', x_partings_pulls_', x_partings_leastSets_', x_partings_tightPairs_') ∧ f_X6_parting N p1 m_s_ = some (r_, m_thrown_') ∧ (Same x_web_places_ x_web_start_ x_web_fairPlaces_ x_web_weights_ m_s_ 0 ∧ HistR x_history_size_ x_history_pl_ x_history_st_ x_history_fp_ x_history_wt_ m_savedMany_ m_saved_ ∧ SnapR x_kept_ x_snapshot_places_ x_snapshot_start_ x_snapshot_fairPlaces_ x_snapshot_weights_ m_hasSnapshot_ m_snapshot_ ∧ TextR x_text_length_ x_text_signs_ m_length_ m_text_ ∧ Zero x_partings_weights_' x_partings_pulls_') := by
  obtain ⟨h1, h2, h3, h4, h5⟩ := h
  have hS := h1
  obtain ⟨n, a, f, W, q1, q2, q3⟩ := h1
  have g2 := q1.1
  have g10 := q1.2.1
  have hW := q1.2.2.2.2.2.2.2.1
  obtain ⟨hM, hM2, hM5⟩ := M_n g2 g10
  unfold f_X5_parting f_X6_parting
  obtain ⟨v, wts, pls, ls, tp, e1, e2, e3⟩ := meas_n q2 q1 hN x_partings_leastWeight_ x_partings_weights_ x_partings_pulls_ x_partings_leastSets_ x_partings_tightPairs_ h5
  rw [e1]
  simp only [bd9_ok]
  rcases ip_x p1 q3 g2 g10 with ⟨t, c1, c2, rfl, c3, c4⟩ | ⟨c3, c4⟩
  · rw [c3, c4]
    simp only [bd1_ok]
    rw [if_neg (by decide), if_neg (by decide), wo_c g2 g10 e2 c1 c2, wOf_n q3 hW g10 hN (by omega)]
    exact ⟨_, _, _, _, _, _, _, _, _, _, _, rfl, rfl, hS, h2, h3, h4, e3⟩
  · rw [c3, c4]
    simp only [bd1_ok]
    exact ⟨_, _, _, _, _, _, _, _, _, _, _, rfl, rfl, hS, h2, h3, h4, e3⟩
