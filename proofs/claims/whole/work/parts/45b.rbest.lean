section RB
variable {n a f N : Nat} {W : Nat → Nat → Nat} {s : Nat → Int32}
theorem lfR (h : RW s 0 n a f W) (hW : ∀ i j, W i j ≤ 99) (h2 : 2 ≤ n) (h10 : n ≤ 10) (hN : 600 ≤ N) : f_X6_leastFair N s = some (bR (best (fr n f) (fun t => cut n W (2 * t)) (2 ^ (n - 1)))) := by
  obtain ⟨hM, hM2, hM5⟩ := M_n h2 h10
  unfold f_X6_leastFair
  refine upx (σ := Unit) (fun m i _ => f_X6_leastFair_L7 N s (fun x14 => f_X6_leastFair_E52 x14) m (bR (best (fr n f) (fun t => cut n W (2 * t)) i)) (bW (fun t => cut n W (2 * t)) (best (fr n f) (fun t => cut n W (2 * t)) i)) (nI (2 * i))) (fun i _ => 1 ≤ i) (2 ^ (n - 1)) (fun x => x = some (bR (best (fr n f) (fun t => cut n W (2 * t)) (2 ^ (n - 1))))) (fun m i _ hi h1 => ⟨(), Nat.le_succ_of_le h1, ?_⟩) (fun m _ _ => ?_) N 1 () (by omega) (by omega) (Nat.le_refl _)
  · show f_X6_leastFair_L7 N s _ (m + 1) (bR (best (fr n f) (fun t => cut n W (2 * t)) i)) (bW (fun t => cut n W (2 * t)) (best (fr n f) (fun t => cut n W (2 * t)) i)) (nI (2 * i)) = f_X6_leastFair_L7 N s _ m (bR (best (fr n f) (fun t => cut n W (2 * t)) (i + 1))) (bW (fun t => cut n W (2 * t)) (best (fr n f) (fun t => cut n W (2 * t)) (i + 1))) (nI (2 * (i + 1)))
    rw [f_X6_leastFair_L7, all_n h h10]
    simp only [bd1_ok]
    rw [if_neg (go_n h2 h10 hi), fr_r h hN (by omega)]
    simp only [bd1_ok]
    rw [best, if_neg (show ¬ i = 0 by omega)]
    by_cases q : fr n f i = true
    · rw [if_pos q, if_neg (fr_t q), wOf_n h hW h10 hN (by omega)]
      simp only [bd1_ok]
      cases e : best (fr n f) (fun t => cut n W (2 * t)) i with
      | none =>
        rw [if_pos (show bR none = -5 from rfl)]
        unfold f_X6_leastFair_J46
        rw [l2, nI_add]
        rfl
      | some r =>
        obtain ⟨r1, r2, r3⟩ := best_lt e
        have hci := cut_b hW h10 (2 * i)
        have hcr := cut_b hW h10 (2 * r)
        show (if nI (2 * r) = -5 then _ else if nI (cut n W (2 * r)) ≤ nI (cut n W (2 * i)) then _ else _) = _
        rw [if_neg (bR_ne _ (by omega))]
        unfold f_X6_leastFair_J46
        dsimp only
        by_cases d : cut n W (2 * r) ≤ cut n W (2 * i)
        · rw [if_pos (nI_le d (by omega)), l2, nI_add, if_pos d]
          rfl
        · rw [if_neg (nI_ge (by omega) (by omega)), l2, nI_add, if_neg d]
          rfl
    · rw [if_neg q, if_pos (fr_f q)]
      unfold f_X6_leastFair_J46
      rw [l2, nI_add]
      rfl
  · show f_X6_leastFair_L7 N s _ (m + 1) _ _ (nI (2 * 2 ^ (n - 1))) = _
    rw [f_X6_leastFair_L7, all_n h h10]
    simp only [bd1_ok]
    rw [if_pos (st_n h2 h10)]
    rfl
theorem lbR (h : RW s 0 n a f W) (hW : ∀ i j, W i j ≤ 99) (h2 : 2 ≤ n) (h10 : n ≤ 10) (hN : 600 ≤ N) {i₀ j₀ : Nat} (hi0 : i₀ < 31) (hj0 : j₀ < 31) : f_X6_leastBetween N (nI i₀) (nI j₀) s = some (bR (best (bp i₀ j₀) (fun t => cut n W (2 * t)) (2 ^ (n - 1)))) := by
  obtain ⟨hM, hM2, hM5⟩ := M_n h2 h10
  unfold f_X6_leastBetween
  refine upx (σ := Unit) (fun m i _ => f_X6_leastBetween_L9 N s (nI i₀) (nI j₀) (fun x14 => f_X6_leastBetween_E79 x14) m (bR (best (bp i₀ j₀) (fun t => cut n W (2 * t)) i)) (bW (fun t => cut n W (2 * t)) (best (bp i₀ j₀) (fun t => cut n W (2 * t)) i)) (nI (2 * i))) (fun i _ => 1 ≤ i) (2 ^ (n - 1)) (fun x => x = some (bR (best (bp i₀ j₀) (fun t => cut n W (2 * t)) (2 ^ (n - 1))))) (fun m i _ hi h1 => ⟨(), Nat.le_succ_of_le h1, ?_⟩) (fun m _ _ => ?_) N 1 () (by omega) (by omega) (Nat.le_refl _)
  · show f_X6_leastBetween_L9 N s (nI i₀) (nI j₀) _ (m + 1) (bR (best (bp i₀ j₀) (fun t => cut n W (2 * t)) i)) (bW (fun t => cut n W (2 * t)) (best (bp i₀ j₀) (fun t => cut n W (2 * t)) i)) (nI (2 * i)) = f_X6_leastBetween_L9 N s (nI i₀) (nI j₀) _ m (bR (best (bp i₀ j₀) (fun t => cut n W (2 * t)) (i + 1))) (bW (fun t => cut n W (2 * t)) (best (bp i₀ j₀) (fun t => cut n W (2 * t)) (i + 1))) (nI (2 * (i + 1)))
    rw [f_X6_leastBetween_L9, all_n h h10]
    simp only [bd1_ok]
    rw [if_neg (go_n h2 h10 hi), bt_r (by omega) hi0, bt_r (by omega) hj0]
    rw [best, if_neg (show ¬ i = 0 by omega)]
    by_cases q : bp i₀ j₀ i = true
    · rw [if_pos q, if_neg (show ¬ nI (if (2 * i).testBit i₀ = true then 1 else 0) = nI (if (2 * i).testBit j₀ = true then 1 else 0) from fun e => by
        have := bp_e.mp q
        cases x : (2 * i).testBit i₀ <;> cases y : (2 * i).testBit j₀ <;> rw [x, y] at e this <;> first | exact this rfl | exact absurd e (by decide))]
      unfold f_X6_leastBetween_J38
      rw [if_neg (show ¬ (1 : Int32) = 0 by decide), wOf_n h hW h10 hN (by omega)]
      simp only [bd1_ok]
      cases e : best (bp i₀ j₀) (fun t => cut n W (2 * t)) i with
      | none =>
        rw [if_pos (show bR none = -5 from rfl)]
        unfold f_X6_leastBetween_J73
        rw [l2, nI_add]
        rfl
      | some r =>
        obtain ⟨r1, r2, r3⟩ := best_lt e
        have hci := cut_b hW h10 (2 * i)
        have hcr := cut_b hW h10 (2 * r)
        show (if nI (2 * r) = -5 then _ else if nI (cut n W (2 * r)) ≤ nI (cut n W (2 * i)) then _ else _) = _
        rw [if_neg (bR_ne _ (by omega))]
        unfold f_X6_leastBetween_J73
        dsimp only
        by_cases d : cut n W (2 * r) ≤ cut n W (2 * i)
        · rw [if_pos (nI_le d (by omega)), l2, nI_add, if_pos d]
          rfl
        · rw [if_neg (nI_ge (by omega) (by omega)), l2, nI_add, if_neg d]
          rfl
    · rw [if_neg q, if_pos (show nI (if (2 * i).testBit i₀ = true then 1 else 0) = nI (if (2 * i).testBit j₀ = true then 1 else 0) by
        cases x : (2 * i).testBit i₀ <;> cases y : (2 * i).testBit j₀ <;> first | rfl | (exfalso; exact q (bp_e.mpr (by rw [x, y]; decide))))]
      unfold f_X6_leastBetween_J38 f_X6_leastBetween_J73
      rw [if_pos rfl, l2, nI_add]
      rfl
  · show f_X6_leastBetween_L9 N s (nI i₀) (nI j₀) _ (m + 1) _ _ (nI (2 * 2 ^ (n - 1))) = _
    rw [f_X6_leastBetween_L9, all_n h h10]
    simp only [bd1_ok]
    rw [if_pos (st_n h2 h10)]
    rfl
-- how many are fair
def frp (n f : Nat) : Nat → Bool := fun t => decide (1 ≤ t) && fr n f t
theorem fcC (h2 : 2 ≤ n) (h10 : n ≤ 10) (hN : 600 ≤ N) : f_X1_fairCount N (nI f) (nI n) (nI (2 ^ n)) = some (nI (ct (frp n f) (2 ^ (n - 1)))) := by
  obtain ⟨hM, hM2, hM5⟩ := M_n h2 h10
  unfold f_X1_fairCount
  refine upx (σ := Unit) (fun m i _ => f_X1_fairCount_L4 (nI (2 ^ n)) (nI f) (nI n) (fun x8 => f_X1_fairCount_E30 x8) m (nI (ct (frp n f) i)) (nI (2 * i))) (fun i _ => 1 ≤ i) (2 ^ (n - 1)) (fun x => x = some (nI (ct (frp n f) (2 ^ (n - 1))))) (fun m i _ hi h1 => ⟨(), Nat.le_succ_of_le h1, ?_⟩) (fun m _ _ => ?_) N 1 () (by omega) (by omega) (Nat.le_refl _)
  · show f_X1_fairCount_L4 (nI (2 ^ n)) (nI f) (nI n) _ (m + 1) (nI (ct (frp n f) i)) (nI (2 * i)) = f_X1_fairCount_L4 (nI (2 ^ n)) (nI f) (nI n) _ m (nI (ct (frp n f) (i + 1))) (nI (2 * (i + 1)))
    rw [f_X1_fairCount_L4, if_neg (nI_ge (by omega) (by omega)), fr_c (by omega)]
    simp only [bd1_ok]
    unfold f_X1_fairCount_J24
    by_cases q : fr n f i = true
    · rw [if_neg (fr_t q), l1, nI_add, l2, nI_add, ct, if_pos (show frp n f i = true by unfold frp; rw [q, decide_eq_true h1]; rfl)]
      rfl
    · rw [if_pos (fr_f q), l2, nI_add, ct, if_neg (show ¬ frp n f i = true by unfold frp; simp [q])]
      rfl
  · show f_X1_fairCount_L4 (nI (2 ^ n)) (nI f) (nI n) _ (m + 1) _ (nI (2 * 2 ^ (n - 1))) = _
    rw [f_X1_fairCount_L4, if_pos (nI_le (by omega) (by omega))]
    rfl
theorem fcR (h : RW s 0 n a f W) (h2 : 2 ≤ n) (h10 : n ≤ 10) (hN : 600 ≤ N) : f_X6_fairMany N s = some (nI (ct (frp n f) (2 ^ (n - 1)))) := by
  obtain ⟨hM, hM2, hM5⟩ := M_n h2 h10
  unfold f_X6_fairMany
  refine upx (σ := Unit) (fun m i _ => f_X6_fairMany_L4 N s (fun x9 => f_X6_fairMany_E34 x9) m (nI (ct (frp n f) i)) (nI (2 * i))) (fun i _ => 1 ≤ i) (2 ^ (n - 1)) (fun x => x = some (nI (ct (frp n f) (2 ^ (n - 1))))) (fun m i _ hi h1 => ⟨(), Nat.le_succ_of_le h1, ?_⟩) (fun m _ _ => ?_) N 1 () (by omega) (by omega) (Nat.le_refl _)
  · show f_X6_fairMany_L4 N s _ (m + 1) (nI (ct (frp n f) i)) (nI (2 * i)) = f_X6_fairMany_L4 N s _ m (nI (ct (frp n f) (i + 1))) (nI (2 * (i + 1)))
    rw [f_X6_fairMany_L4, all_n h h10]
    simp only [bd1_ok]
    rw [if_neg (go_n h2 h10 hi), fr_r h hN (by omega)]
    simp only [bd1_ok]
    unfold f_X6_fairMany_J26
    by_cases q : fr n f i = true
    · rw [if_neg (fr_t q), l1, nI_add, l2, nI_add, ct, if_pos (show frp n f i = true by unfold frp; rw [q, decide_eq_true h1]; rfl)]
      rfl
    · rw [if_pos (fr_f q), l2, nI_add, l0, nI_add, ct, if_neg (show ¬ frp n f i = true by unfold frp; simp [q])]
      rfl
  · show f_X6_fairMany_L4 N s _ (m + 1) _ (nI (2 * 2 ^ (n - 1))) = _
    rw [f_X6_fairMany_L4, all_n h h10]
    simp only [bd1_ok]
    rw [if_pos (st_n h2 h10)]
    rfl
end RB
theorem bp_ex {n i j : Nat} (hi : i < n) (hj : j < n) (hij : i ≠ j) : ∃ t, 1 ≤ t ∧ t < 2 ^ (n - 1) ∧ bp i j t = true := by
  have go : ∀ x y, x ≠ y → 1 ≤ y → y < n → ∃ t, 1 ≤ t ∧ t < 2 ^ (n - 1) ∧ (2 * t).testBit x ≠ (2 * t).testBit y := by
    intro x y h1 h2 h3
    refine ⟨2 ^ (y - 1), Nat.two_pow_pos _, Nat.pow_lt_pow_right (by omega) (by omega), ?_⟩
    rw [← p2_s h2, Nat.testBit_two_pow_self, Nat.testBit_two_pow_of_ne (Ne.symm h1)]
    decide
  by_cases c : 1 ≤ j
  · obtain ⟨t, t1, t2, t3⟩ := go i j hij c hj
    exact ⟨t, t1, t2, bp_e.mpr t3⟩
  · obtain ⟨t, t1, t2, t3⟩ := go j i (Ne.symm hij) (by omega) hi
    exact ⟨t, t1, t2, bp_e.mpr (Ne.symm t3)⟩
theorem eq_between {x_kept_ : Int32} {x_web_places_ : Int32} {x_web_start_ : Int32} {x_web_fairPlaces_ : Int32} {x_web_weights_ : Nat → Int32} {x_snapshot_places_ : Int32} {x_snapshot_start_ : Int32} {x_snapshot_fairPlaces_ : Int32} {x_snapshot_weights_ : Nat → Int32} {x_history_size_ : Int32} {x_history_pl_ : Nat → Int32} {x_history_st_ : Nat → Int32} {x_history_fp_ : Nat → Int32} {x_history_wt_ : Nat → Nat → Int32} {x_text_length_ : Int32} {x_text_signs_ : Nat → Int32} {x_partings_places_ : Int32} {x_partings_end_ : Int32} {x_partings_leastWeight_ : Int32} {x_partings_leastCount_ : Int32} {x_partings_tightCount_ : Int32} {x_partings_weights_ : Nat → Int32} {x_partings_pulls_ : Nat → Int32} {x_partings_leastSets_ : Nat → Int32} {x_partings_tightPairs_ : Nat → Int32} {m_savedMany_ : Int32} {m_hasSnapshot_ : Int32} {m_length_ : Int32} {m_s_ : Nat → Int32} {m_saved_ : Nat → Int32} {m_snapshot_ : Nat → Int32} {m_text_ : Nat → Int32} (N : Nat) (hN : 600 ≤ N) (p1 : Int32) (p2 : Int32) (p3 : Int32) (h : Same x_web_places_ x_web_start_ x_web_fairPlaces_ x_web_weights_ m_s_ 0 ∧ HistR x_history_size_ x_history_pl_ x_history_st_ x_history_fp_ x_history_wt_ m_savedMany_ m_saved_ ∧ SnapR x_kept_ x_snapshot_places_ x_snapshot_start_ x_snapshot_fairPlaces_ x_snapshot_weights_ m_hasSnapshot_ m_snapshot_ ∧ TextR x_text_length_ x_text_signs_ m_length_ m_text_ ∧ Zero x_partings_weights_ x_partings_pulls_) : ∃ (r_ : Int32) (x_partings_places_' : Int32) (x_partings_end_' : Int32) (x_partings_leastWeight_' : Int32) (x_partings_leastCount_' : Int32) (x_partings_tightCount_' : Int32) (x_partings_weights_' : Nat → Int32) (x_partings_pulls_' : Nat → Int32) (x_partings_leastSets_' : Nat → Int32) (x_partings_tightPairs_' : Nat → Int32) (m_thrown_' : Int32), f_X5_between N p1 p2 p3 x_web_places_ x_web_weights_ x_partings_places_ x_partings_end_ x_partings_leastWeight_ x_partings_leastCount_ x_partings_tightCount_ x_partings_weights_ x_partings_pulls_ x_partings_leastSets_ x_partings_tightPairs_ = some (r_, x_partings_places_', x_partings_end_', x_partings_leastWeight_', x_partings_leastCount_', x_partings_tightCount_', x_partings_weights_', x_partings_pulls_', x_partings_leastSets_', x_partings_tightPairs_') ∧ f_X6_between N p1 p2 p3 m_s_ = some (r_, m_thrown_') ∧ (Same x_web_places_ x_web_start_ x_web_fairPlaces_ x_web_weights_ m_s_ 0 ∧ HistR x_history_size_ x_history_pl_ x_history_st_ x_history_fp_ x_history_wt_ m_savedMany_ m_saved_ ∧ SnapR x_kept_ x_snapshot_places_ x_snapshot_start_ x_snapshot_fairPlaces_ x_snapshot_weights_ m_hasSnapshot_ m_snapshot_ ∧ TextR x_text_length_ x_text_signs_ m_length_ m_text_ ∧ Zero x_partings_weights_' x_partings_pulls_') := by
  obtain ⟨h1, h2, h3, h4, h5⟩ := h
  have hS := h1
  obtain ⟨n, a, f, W, q1, q2, q3⟩ := h1
  have g2 := q1.1
  have g10 := q1.2.1
  have hW := q1.2.2.2.2.2.2.2.1
  obtain ⟨hM, hM2, hM5⟩ := M_n g2 g10
  unfold f_X5_between f_X6_between
  rcases pair_x p1 p2 (by omega) g10 q3.1 with ⟨i, j, hi, hj, hij, rfl, rfl, e1, e2⟩ | ⟨e, he, e1, e2⟩
  · rw [e2 0, q2.1, e1, ← q2.1]
    simp only [bd1_ok, if_true]
    obtain ⟨v, wts, pls, ls, tp, m1, m2, m3⟩ := meas_n q2 q1 hN x_partings_leastWeight_ x_partings_weights_ x_partings_pulls_ x_partings_leastSets_ x_partings_tightPairs_ h5
    rw [m1]
    simp only [bd9_ok]
    have hin0 : f_X6_in (0 : Int32) 0 99 = some 1 := by decide
    rw [hin0]
    simp only [bd1_ok]
    rw [if_neg (show ¬ (1 : Int32) = 0 by decide)]
    simp only [bd1_ok, if_true]
    obtain ⟨u, u1, u2, u3⟩ := bp_ex hi hj hij
    have hne := best_some (c := fun t => cut n W (2 * t)) u1 u2 u3
    have lb := lbC g2 g10 hN (i₀ := i) (j₀ := j) (by omega) (by omega) (c := fun t => cut n W (2 * t)) (fun t => by have := cut_b hW g10 (2 * t); show cut n W (2 * t) ≤ 20000; omega) m2.1
    have lr := lbR q3 hW g2 g10 hN (i₀ := i) (j₀ := j) (by omega) (by omega)
    cases e : best (bp i j) (fun t => cut n W (2 * t)) (2 ^ (n - 1)) with
    | none => exact absurd e hne
    | some r =>
      obtain ⟨r1, r2, r3⟩ := best_lt e
      rw [e] at lb lr
      rw [lb, lr, show bC (some r) = nI (2 * r) from rfl, show bR (some r) = nI (2 * r) from rfl]
      simp only [bd1_ok]
      rw [wo_c g2 g10 m2 r1 r2, wOf_n q3 hW g10 hN (by omega)]
      simp only [bd1_ok]
      rcases in_n p3 (a := 0) (b := 1) (by omega) (by omega) with ⟨x, -, x1, rfl, x2⟩ | ⟨x1, x2⟩
      · rw [show f_X6_in (nI x) (0 : Int32) (1 : Int32) = some 1 from x2]
        simp only [bd1_ok]
        rw [if_neg (show ¬ (1 : Int32) = 0 by decide)]
        by_cases z : x = 0
        · subst z
          exact ⟨_, _, _, _, _, _, _, _, _, _, _, rfl, rfl, hS, h2, h3, h4, m3⟩
        · have : x = 1 := by omega
          subst this
          exact ⟨_, _, _, _, _, _, _, _, _, _, _, rfl, rfl, hS, h2, h3, h4, m3⟩
      · rw [show f_X6_in p3 (0 : Int32) (1 : Int32) = some 0 from x2]
        simp only [bd1_ok, if_true]
        rw [if_neg (show ¬ p3 = 0 from x1 0 (by omega) (by omega)), if_neg (show ¬ p3 = 1 from x1 1 (by omega) (by omega))]
        exact ⟨_, _, _, _, _, _, _, _, _, _, _, rfl, rfl, hS, h2, h3, h4, h5⟩
  · rw [e2 0, q2.1, e1, ← q2.1]
    simp only [bd1_ok, if_neg he]
    exact ⟨_, _, _, _, _, _, _, _, _, _, _, rfl, rfl, hS, h2, h3, h4, h5⟩
