-- the weight of a phase's parting; least
section LE
variable {n a f N k L : Nat} {W : Nat → Nat → Nat} {mem : Nat → Nat}
theorem od_all (hP : Part n L mem) {s0 x : Nat} (hs : mem s0 ≠ 0) (hx : mem x ≠ 0) : ∀ i, i < L → lf mem (Us n W mem s0 i) x = true ∨ ∃ j, j < i ∧ od n W mem s0 j = x
  | 0, _ => Or.inl (lf_e.mpr ⟨hx, Nat.and_zero _⟩)
  | i + 1, hi => by
    obtain ⟨h1, h2, h3⟩ := sw_inv (W := W) hP hs i (by omega)
    rcases od_all hP hs hx i (by omega) with h | ⟨j, h4, h5⟩
    · by_cases e : x = od n W mem s0 i
      · exact Or.inr ⟨i, by omega, e.symm⟩
      · refine Or.inl ?_
        rw [h3, lf_step hP h1, h]
        simp [e]
    · exact Or.inr ⟨j, by omega, h5⟩
theorem od_sur (hP : Part n L mem) {s0 x : Nat} (hL : 1 ≤ L) (hs : mem s0 ≠ 0) (hx : mem x ≠ 0) : ∃ j, j < L ∧ od n W mem s0 j = x := by
  by_cases e : x = od n W mem s0 (L - 1)
  · exact ⟨L - 1, by omega, e.symm⟩
  · rcases od_all (W := W) hP hs hx (L - 1) (by omega) with h | ⟨j, h4, h5⟩
    · exfalso
      obtain ⟨h1, h2, h3⟩ := sw_inv (W := W) hP hs (L - 1) (by omega)
      have h4 := ct_rem (p := lf mem (Us n W mem s0 (L - 1))) (q := fun y => lf mem (Us n W mem s0 (L - 1)) y && decide (y ≠ x)) (x := x) (k := n) h (by simp) (fun y hy => by simp [hy]) (hP.lt hx)
      have h5 := ct_lt (fun y => lf mem (Us n W mem s0 (L - 1)) y && decide (y ≠ x)) (hP.lt (lf_e.mp h1).1) (by
        show (lf mem (Us n W mem s0 (L - 1)) (od n W mem s0 (L - 1)) && decide (od n W mem s0 (L - 1) ≠ x)) = true
        rw [h1, decide_eq_true (Ne.symm e)]; rfl)
      omega
    · exact ⟨j, by omega, h5⟩
theorem Us_last (hP : Part n L mem) {s0 : Nat} (hL : 1 ≤ L) (hs : mem s0 ≠ 0) {q : Nat} (hq : q < n) : (Us n W mem s0 (L - 1)).testBit q = !(mem (od n W mem s0 (L - 1))).testBit q := by
  obtain ⟨h1, h2, h3⟩ := sw_inv (W := W) hP hs (L - 1) (by omega)
  obtain ⟨x, hx⟩ := hP.2.2.2.1 q hq
  by_cases e : x = od n W mem s0 (L - 1)
  · rw [← e, hx]
    cases y : (Us n W mem s0 (L - 1)).testBit q with
    | false => rfl
    | true =>
      have h4 := (lf_e.mp h1).2
      rw [← e] at h4
      have h5 : (mem x &&& Us n W mem s0 (L - 1)).testBit q = true := by rw [Nat.testBit_and, hx, y]; rfl
      rw [h4, Nat.zero_testBit] at h5; cases h5
  · have h4 : (mem (od n W mem s0 (L - 1))).testBit q = false := by
      cases y : (mem (od n W mem s0 (L - 1))).testBit q with
      | false => rfl
      | true => exact absurd (hP.uniq hx y) e
    rw [h4]
    obtain ⟨j, j1, j2⟩ := od_sur (W := W) hP hL hs (bit_ne hx)
    have hj : j < L - 1 := by
      by_cases c : j = L - 1
      · subst c; exact absurd j2.symm e
      · omega
    obtain ⟨g1, g2, g3⟩ := sw_inv (W := W) hP hs j j1
    refine Us_sub (i := j + 1) (by omega) ?_
    rw [g3, Nat.testBit_or, j2, hx, Bool.or_true]
theorem wB_cut {b U : Nat} (h : ∀ q, q < n → U.testBit q = !b.testBit q) : wB n W b U = cut n W b := by
  unfold wB cut
  refine sm_congr (fun i _ => ?_)
  have : rowB n W U i = rowC n W b i := sm_congr (fun j hj => by
    rw [h j hj]
    cases b.testBit j <;> rfl)
  rw [this]
theorem Wt_cut (hw : WF n a f W) (hk : k + 2 ≤ n) : cut n W (Pg n W a k) = Wt n W a k := by
  have hP := mm_part (W := W) hw.1 hw.2.2.1 k (by omega)
  have hs := bit_ne (hP.nm hw.2.2.1).2
  have h1 : ∀ q, q < n → (Us n W (mm n W a k) (nmL n (mm n W a k) a) (n - k - 1)).testBit q = !(mm n W a k (Od n W a k (n - k - 1))).testBit q := fun q hq => Us_last hP (by omega) hs hq
  have h2 : Wt n W a k = cut n W (mm n W a k (Od n W a k (n - k - 1))) := wB_cut h1
  rw [h2]
  unfold Pg pgS
  by_cases c : (mm n W a k (Od n W a k (n - k - 1))).testBit 0 = true
  · rw [if_pos c]
    rw [← wB_cut (b := (2 ^ n - 1) &&& (mm n W a k (Od n W a k (n - k - 1)) ^^^ 4294967295)) (U := mm n W a k (Od n W a k (n - k - 1))) (fun q hq => by rw [co_bit hw.2.1]; simp [hq]), ← wB_cut (b := mm n W a k (Od n W a k (n - k - 1))) (U := (2 ^ n - 1) &&& (mm n W a k (Od n W a k (n - k - 1)) ^^^ 4294967295)) (fun q hq => by rw [co_bit hw.2.1]; simp [hq])]
    exact wB_comm hw.2.2.2.2.2.1
  · rw [if_neg c]
theorem Pg_lt (hw : WF n a f W) (hk : k + 2 ≤ n) : Pg n W a k < 2 ^ n := by
  have hP := mm_part (W := W) hw.1 hw.2.2.1 k (by omega)
  unfold Pg pgS
  split
  · exact co_lt hw.2.1
  · exact hP.mlt _
theorem lbpR {s : Nat → Int32} (h : RW s 0 n a f W) (hw : WF n a f W) (hN : 600 ≤ N) (l0' o0 r0 : Nat → Int32) : ∃ (x2 x3 x4 : Int32) (lu o r : Nat → Int32), f_X6_leastByPhases N s l0' o0 r0 = some (nI (Pg n W a (bl (Wt n W a) (n - 2))), x2, x3, x4, lu, o, r) := by
  have h2 := hw.1
  obtain ⟨x2, x3, x4, lu, o, r, e1⟩ := lphR h hw hN l0' o0 r0
  have hb := bl_le (Wt n W a) (n - 2)
  obtain ⟨lu', o', r', e2, -⟩ := lay_n (k := bl (Wt n W a) (n - 2)) h hw hN (by omega) lu o r
  unfold f_X6_leastByPhases
  rw [e1]
  simp only [bd7_ok]
  rw [e2]
  exact ⟨_, _, _, _, _, _, rfl⟩
theorem ipC {t : Nat} (h2 : 2 ≤ n) (h10 : n ≤ 10) (h1 : 1 ≤ t) (ht : t < 2 ^ (n - 1)) : f_X1_isParting (nI (2 * t)) (nI (2 ^ n)) = some 1 := by
  obtain ⟨hM, hM2, hM5⟩ := M_n h2 h10
  unfold f_X1_isParting
  rw [l0, if_neg (nI_ge (by omega) (by omega)), if_neg (nI_ge (by omega) (by omega)), holds_n (by omega)]
  have hb2 : (2 * t).testBit 0 = decide ((2 * t) % 2 = 1) := Nat.testBit_zero _
  rw [hb2, show (2 * t) % 2 = 0 by omega]
  rfl
def fA (p : Int32) (c : Nat → Nat) (o : Option Nat) : Int32 := match o with
  | none => (-5 : Int32)
  | some t => if p = 0 then nI (c t) else nI (2 * t)
theorem lfX {pl st fp : Int32} {w s : Nat → Int32} (q1 : WF n a f W) (q2 : CW pl st fp w n a f W) (hN : 600 ≤ N) (p lw0 : Int32) (wts0 pls0 ls0 tp0 : Nat → Int32) (hz : Zero wts0 pls0) : ∃ (x1 x2 x3 x4 x5 : Int32) (a6 a7 a8 a9 : Nat → Int32), f_X5_leastFair N p pl fp w lw0 wts0 pls0 ls0 tp0 = some (fA p (fun t => cut n W (2 * t)) (best (fr n f) (fun t => cut n W (2 * t)) (2 ^ (n - 1))), x1, x2, x3, x4, x5, a6, a7, a8, a9) ∧ Zero a6 a7 := by
  have g2 := q1.1
  have g10 := q1.2.1
  have hW := q1.2.2.2.2.2.2.2.1
  unfold f_X5_leastFair
  obtain ⟨v, wts, pls, ls, tp, m1, m2, m3⟩ := meas_n q2 q1 hN lw0 wts0 pls0 ls0 tp0 hz
  rw [m1, q2.2.2.1]
  simp only [bd9_ok]
  rw [lfC g2 g10 hN (c := fun t => cut n W (2 * t)) (fun t => by have := cut_b hW g10 (2 * t); show cut n W (2 * t) ≤ 20000; omega) m2.1]
  simp only [bd1_ok]
  cases e : best (fr n f) (fun t => cut n W (2 * t)) (2 ^ (n - 1)) with
  | none =>
    have : f_X1_isParting (bC none) (nI (2 ^ n)) = some 0 := by
      unfold f_X1_isParting
      rw [if_pos (show bC none ≤ 0 by decide)]
    rw [this]
    exact ⟨_, _, _, _, _, _, _, _, _, rfl, m3⟩
  | some r =>
    obtain ⟨r1, r2, r3⟩ := best_lt e
    rw [show bC (some r) = nI (2 * r) from rfl, ipC g2 g10 r1 r2, wo_c g2 g10 m2 r1 r2]
    simp only [bd1_ok]
    rw [if_neg (show ¬ (1 : Int32) = 0 by decide)]
    unfold fA
    dsimp only
    by_cases c : p = 0
    · rw [if_pos c, if_pos c]
      exact ⟨_, _, _, _, _, _, _, _, _, rfl, m3⟩
    · rw [if_neg c, if_neg c]
      exact ⟨_, _, _, _, _, _, _, _, _, rfl, m3⟩
end LE
theorem eq_least {x_kept_ : Int32} {x_web_places_ : Int32} {x_web_start_ : Int32} {x_web_fairPlaces_ : Int32} {x_web_weights_ : Nat → Int32} {x_snapshot_places_ : Int32} {x_snapshot_start_ : Int32} {x_snapshot_fairPlaces_ : Int32} {x_snapshot_weights_ : Nat → Int32} {x_history_size_ : Int32} {x_history_pl_ : Nat → Int32} {x_history_st_ : Nat → Int32} {x_history_fp_ : Nat → Int32} {x_history_wt_ : Nat → Nat → Int32} {x_text_length_ : Int32} {x_text_signs_ : Nat → Int32} {x_phases_places_ : Int32} {x_phases_members_ : Nat → Int32} {x_phases_ties_ : Nat → Int32} {x_phases_nears_ : Nat → Int32} {x_phases_names_ : Nat → Int32} {x_phases_nearnesses_ : Nat → Int32} {x_phases_partings_ : Nat → Int32} {x_phases_unions_ : Nat → Int32} {x_partings_places_ : Int32} {x_partings_end_ : Int32} {x_partings_leastWeight_ : Int32} {x_partings_leastCount_ : Int32} {x_partings_tightCount_ : Int32} {x_partings_weights_ : Nat → Int32} {x_partings_pulls_ : Nat → Int32} {x_partings_leastSets_ : Nat → Int32} {x_partings_tightPairs_ : Nat → Int32} {m_savedMany_ : Int32} {m_hasSnapshot_ : Int32} {m_length_ : Int32} {m_lumpMany_ : Int32} {m_partingSet_ : Int32} {m_partingWeight_ : Int32} {m_s_ : Nat → Int32} {m_saved_ : Nat → Int32} {m_snapshot_ : Nat → Int32} {m_text_ : Nat → Int32} {m_lumps_ : Nat → Int32} {m_order_ : Nat → Int32} {m_nears_ : Nat → Int32} (N : Nat) (hN : 600 ≤ N) (p1 : Int32) (h : Same x_web_places_ x_web_start_ x_web_fairPlaces_ x_web_weights_ m_s_ 0 ∧ HistR x_history_size_ x_history_pl_ x_history_st_ x_history_fp_ x_history_wt_ m_savedMany_ m_saved_ ∧ SnapR x_kept_ x_snapshot_places_ x_snapshot_start_ x_snapshot_fairPlaces_ x_snapshot_weights_ m_hasSnapshot_ m_snapshot_ ∧ TextR x_text_length_ x_text_signs_ m_length_ m_text_ ∧ Zero x_partings_weights_ x_partings_pulls_) : ∃ (r_ : Int32) (x_phases_places_' : Int32) (x_phases_members_' : Nat → Int32) (x_phases_ties_' : Nat → Int32) (x_phases_nears_' : Nat → Int32) (x_phases_names_' : Nat → Int32) (x_phases_nearnesses_' : Nat → Int32) (x_phases_partings_' : Nat → Int32) (x_phases_unions_' : Nat → Int32) (x_partings_places_' : Int32) (x_partings_end_' : Int32) (x_partings_leastWeight_' : Int32) (x_partings_leastCount_' : Int32) (x_partings_tightCount_' : Int32) (x_partings_weights_' : Nat → Int32) (x_partings_pulls_' : Nat → Int32) (x_partings_leastSets_' : Nat → Int32) (x_partings_tightPairs_' : Nat → Int32) (m_thrown_' : Int32) (m_lumpMany_' : Int32) (m_partingSet_' : Int32) (m_partingWeight_' : Int32) (m_lumps_' : Nat → Int32) (m_order_' : Nat → Int32) (m_nears_' : Nat → Int32), f_X5_least N p1 x_web_places_ x_web_start_ x_web_fairPlaces_ x_web_weights_ x_phases_places_ x_phases_members_ x_phases_ties_ x_phases_nears_ x_phases_names_ x_phases_nearnesses_ x_phases_partings_ x_phases_unions_ x_partings_places_ x_partings_end_ x_partings_leastWeight_ x_partings_leastCount_ x_partings_tightCount_ x_partings_weights_ x_partings_pulls_ x_partings_leastSets_ x_partings_tightPairs_ = some (r_, x_phases_places_', x_phases_members_', x_phases_ties_', x_phases_nears_', x_phases_names_', x_phases_nearnesses_', x_phases_partings_', x_phases_unions_', x_partings_places_', x_partings_end_', x_partings_leastWeight_', x_partings_leastCount_', x_partings_tightCount_', x_partings_weights_', x_partings_pulls_', x_partings_leastSets_', x_partings_tightPairs_') ∧ f_X6_least N p1 m_lumpMany_ m_partingSet_ m_partingWeight_ m_s_ m_lumps_ m_order_ m_nears_ = some (r_, m_thrown_', m_lumpMany_', m_partingSet_', m_partingWeight_', m_lumps_', m_order_', m_nears_') ∧ (Same x_web_places_ x_web_start_ x_web_fairPlaces_ x_web_weights_ m_s_ 0 ∧ HistR x_history_size_ x_history_pl_ x_history_st_ x_history_fp_ x_history_wt_ m_savedMany_ m_saved_ ∧ SnapR x_kept_ x_snapshot_places_ x_snapshot_start_ x_snapshot_fairPlaces_ x_snapshot_weights_ m_hasSnapshot_ m_snapshot_ ∧ TextR x_text_length_ x_text_signs_ m_length_ m_text_ ∧ Zero x_partings_weights_' x_partings_pulls_') := by
  obtain ⟨h1, h2, h3, h4, h5⟩ := h
  have hS := h1
  obtain ⟨n, a, f, W, q1, q2, q3⟩ := h1
  have g2 := q1.1
  have g10 := q1.2.1
  have hW := q1.2.2.2.2.2.2.2.1
  have hn2 : 2 ^ n ≤ 1024 := p2_10 g10
  have hM := M_n g2 g10
  have hb := bl_le (Wt n W a) (n - 2)
  obtain ⟨m, t, r, nm, nn, pa, un, r1, r2⟩ := run_n q2 q1 hN x_phases_members_ x_phases_ties_ x_phases_nears_ x_phases_names_ x_phases_nearnesses_ x_phases_partings_ x_phases_unions_
  have r3 := lphC (N := N) r2 hW g2 g10 hN
  obtain ⟨p3, -⟩ := pOf_n (k := bl (Wt n W a) (n - 2)) r2 g10 (by omega)
  have p4 := wIn_n (k := bl (Wt n W a) (n - 2)) r2 g10 (by omega)
  obtain ⟨y2, y3, y4, lu, o, rr, e1⟩ := lphR q3 q1 hN m_lumps_ m_order_ m_nears_
  obtain ⟨z2, z3, z4, lu', o', rr', e2⟩ := lbpR q3 q1 hN m_lumps_ m_order_ m_nears_
  have hpl := Pg_lt (k := bl (Wt n W a) (n - 2)) q1 (by omega)
  have e3 := wOf_n (N := N) (b := Pg n W a (bl (Wt n W a) (n - 2))) q3 hW g10 hN (by omega)
  rw [Wt_cut q1 (by omega)] at e3
  have e4 := lfR q3 hW g2 g10 hN
  unfold f_X5_least f_X6_least
  rcases pos_n p1 with hp | ⟨x, hx, rfl⟩
  · rw [if_pos hp]
    have hne : ∀ c : Nat, c < 2 ^ 31 → p1 ≠ nI c := fun c hc e => nI_pos hc (e ▸ hp)
    rw [if_neg (show ¬ p1 = 0 from hne 0 (by omega)), if_neg (show ¬ p1 = 1 from hne 1 (by omega)), if_neg (show ¬ p1 = 2 from hne 2 (by omega)), if_neg (show ¬ p1 = 3 from hne 3 (by omega)), if_neg (show ¬ p1 = 4 from hne 4 (by omega))]
    exact ⟨_, _, _, _, _, _, _, _, _, _, _, _, _, _, _, _, _, _, _, _, _, _, _, _, _, rfl, rfl, hS, h2, h3, h4, h5⟩
  · rw [if_neg (nI_pos hx)]
    by_cases c5 : 5 ≤ x
    · have hne : ∀ c : Nat, c < 5 → nI x ≠ nI c := fun c hc e => by have := nI_inj hx (by omega) e; omega
      rw [if_neg (show ¬ nI x ≤ 4 from (nI_ge (by omega) hx : ¬ nI x ≤ nI 4)), if_neg (show ¬ nI x = 0 from hne 0 (by omega)), if_neg (show ¬ nI x = 1 from hne 1 (by omega)), if_neg (show ¬ nI x = 2 from hne 2 (by omega)), if_neg (show ¬ nI x = 3 from hne 3 (by omega)), if_neg (show ¬ nI x = 4 from hne 4 (by omega))]
      exact ⟨_, _, _, _, _, _, _, _, _, _, _, _, _, _, _, _, _, _, _, _, _, _, _, _, _, rfl, rfl, hS, h2, h3, h4, h5⟩
    · rw [if_pos (show nI x ≤ 4 from (nI_le (by omega) (by omega) : nI x ≤ nI 4))]
      by_cases c2 : x ≤ 2
      · rw [if_neg (show ¬ 2 < nI x from (nI_nlt c2 (by omega) : ¬ nI 2 < nI x))]
        unfold f_X5_leastByPhases
        rw [r1]
        simp only [bd8_ok]
        rw [r3]
        simp only [bd1_ok]
        rw [p3, p4]
        simp only [bd1_ok]
        rcases (by omega : x = 0 ∨ x = 1 ∨ x = 2) with rfl | rfl | rfl
        · rw [if_pos (show nI 0 = 0 from rfl), if_pos (show nI 0 = 0 from rfl), e2]
          exact ⟨_, _, _, _, _, _, _, _, _, _, _, _, _, _, _, _, _, _, _, _, _, _, _, _, _, rfl, rfl, hS, h2, h3, h4, h5⟩
        · rw [if_neg (show ¬ nI 1 = 0 by decide), if_neg (show ¬ nI 1 = 0 by decide), if_pos (show nI 1 = 1 from rfl), if_pos (show nI 1 = 1 from rfl), e2]
          simp only [bd7_ok]
          rw [e3]
          exact ⟨_, _, _, _, _, _, _, _, _, _, _, _, _, _, _, _, _, _, _, _, _, _, _, _, _, rfl, rfl, hS, h2, h3, h4, h5⟩
        · rw [if_neg (show ¬ nI 2 = 0 by decide), if_neg (show ¬ nI 2 = 0 by decide), if_neg (show ¬ nI 2 = 1 by decide), if_neg (show ¬ nI 2 = 1 by decide), if_pos (show nI 2 = 2 from rfl), e1]
          exact ⟨_, _, _, _, _, _, _, _, _, _, _, _, _, _, _, _, _, _, _, _, _, _, _, _, _, rfl, rfl, hS, h2, h3, h4, h5⟩
      · rw [if_pos (show 2 < nI x from (nI_lt (by omega) (by omega) : nI 2 < nI x))]
        unfold f_X5_least_J36
        rcases (by omega : x = 3 ∨ x = 4) with rfl | rfl
        · obtain ⟨w1, w2, w3, w4, w5, a6, a7, a8, a9, v1, v2⟩ := lfX (s := m_s_) q1 q2 hN 1 x_partings_leastWeight_ x_partings_weights_ x_partings_pulls_ x_partings_leastSets_ x_partings_tightPairs_ h5
          rw [if_pos (show nI 3 = 3 from rfl), v1, if_neg (show ¬ nI 3 = 0 by decide), if_neg (show ¬ nI 3 = 1 by decide), if_neg (show ¬ nI 3 = 2 by decide), if_pos (show nI 3 = 3 from rfl), e4]
          simp only [bd1_ok, bd10_ok]
          have e5 : fA 1 (fun t => cut n W (2 * t)) (best (fr n f) (fun t => cut n W (2 * t)) (2 ^ (n - 1))) = bR (best (fr n f) (fun t => cut n W (2 * t)) (2 ^ (n - 1))) := by
            cases best (fr n f) (fun t => cut n W (2 * t)) (2 ^ (n - 1)) <;> rfl
          rw [e5]
          exact ⟨_, _, _, _, _, _, _, _, _, _, _, _, _, _, _, _, _, _, _, _, _, _, _, _, _, rfl, rfl, hS, h2, h3, h4, v2⟩
        · obtain ⟨w1, w2, w3, w4, w5, a6, a7, a8, a9, v1, v2⟩ := lfX (s := m_s_) q1 q2 hN 0 x_partings_leastWeight_ x_partings_weights_ x_partings_pulls_ x_partings_leastSets_ x_partings_tightPairs_ h5
          rw [if_neg (show ¬ nI 4 = 3 by decide), v1, if_neg (show ¬ nI 4 = 0 by decide), if_neg (show ¬ nI 4 = 1 by decide), if_neg (show ¬ nI 4 = 2 by decide), if_neg (show ¬ nI 4 = 3 by decide), if_pos (show nI 4 = 4 from rfl), e4]
          simp only [bd1_ok, bd10_ok]
          cases e : best (fr n f) (fun t => cut n W (2 * t)) (2 ^ (n - 1)) with
          | none =>
            rw [if_pos (show bR none = -5 from rfl)]
            exact ⟨_, _, _, _, _, _, _, _, _, _, _, _, _, _, _, _, _, _, _, _, _, _, _, _, _, rfl, rfl, hS, h2, h3, h4, v2⟩
          | some r =>
            obtain ⟨r1, r2, r3⟩ := best_lt e
            rw [show bR (some r) = nI (2 * r) from rfl, if_neg (bR_ne _ (by omega)), wOf_n q3 hW g10 hN (by omega)]
            exact ⟨_, _, _, _, _, _, _, _, _, _, _, _, _, _, _, _, _, _, _, _, _, _, _, _, _, rfl, rfl, hS, h2, h3, h4, v2⟩
