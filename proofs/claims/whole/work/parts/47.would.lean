-- a tie's least, with another weight
theorem cut_add {n : Nat} {A B : Nat → Nat → Nat} {b : Nat} : cut n (fun x y => A x y + B x y) b = cut n A b + cut n B b := by
  unfold cut
  rw [← sm_add]
  refine sm_congr (fun i _ => ?_)
  have : rowC n (fun x y => A x y + B x y) b i = rowC n A b i + rowC n B b i := by
    unfold rowC
    rw [← sm_add]
    refine sm_congr (fun j _ => ?_)
    split <;> rfl
  rw [this]
  split <;> rfl
theorem cut_congr {n : Nat} {A B : Nat → Nat → Nat} {b : Nat} (h : ∀ x y, A x y = B x y) : cut n A b = cut n B b := by
  have : A = B := funext fun x => funext fun y => h x y
  rw [this]
def sg (i j w : Nat) : Nat → Nat → Nat := fun x y => if x = i then (if y = j then w else 0) else 0
theorem cut_sg {n i j w b : Nat} (hi : i < n) (hj : j < n) : cut n (sg i j w) b = if b.testBit i = true ∧ b.testBit j = false then w else 0 := by
  have e1 : ∀ x, rowC n (sg i j w) b x = if x = i then (if b.testBit j then 0 else w) else 0 := by
    intro x
    unfold rowC sg
    by_cases c : x = i
    · rw [if_pos c]
      have := sm_one (f := fun y => if b.testBit y then 0 else w) hj
      rw [← this]
      refine sm_congr (fun y _ => ?_)
      rw [if_pos c]
      by_cases d : y = j
      · rw [if_pos d, if_pos d]
      · rw [if_neg d, if_neg d]; split <;> rfl
    · rw [if_neg c]
      refine sm_zero (fun y _ => ?_)
      rw [if_neg c]; split <;> rfl
  unfold cut
  have := sm_one (f := fun x => if b.testBit x then (if b.testBit j then 0 else w) else 0) hi
  have e2 : sm (fun x => if b.testBit x then rowC n (sg i j w) b x else 0) n = if b.testBit i then (if b.testBit j then 0 else w) else 0 := by
    rw [← this]
    refine sm_congr (fun x _ => ?_)
    rw [e1]
    by_cases d : x = i
    · rw [if_pos d, if_pos d]
    · rw [if_neg d, if_neg d]; split <;> rfl
  rw [e2]
  cases b.testBit i <;> cases b.testBit j <;> simp
theorem cut_set {n i j k b : Nat} {W : Nat → Nat → Nat} (hsym : ∀ i j, W i j = W j i) (hi : i < n) (hj : j < n) (hij : i ≠ j) : cut n (setW W i j k) b + (if b.testBit i = b.testBit j then 0 else W i j) = cut n W b + (if b.testBit i = b.testBit j then 0 else k) := by
  have h1 : cut n (fun x y => setW W i j k x y + (sg i j (W i j) x y + sg j i (W i j) x y)) b = cut n (fun x y => W x y + (sg i j k x y + sg j i k x y)) b := by
    refine cut_congr (fun x y => ?_)
    have := hsym i j
    unfold setW sg
    grind
  rw [cut_add, cut_add, cut_add, cut_add, cut_sg hi hj, cut_sg hj hi, cut_sg hi hj, cut_sg hj hi] at h1
  cases x : b.testBit i <;> cases y : b.testBit j <;> rw [x, y] at h1 <;> simp at h1 ⊢ <;> omega
theorem lwC {n a f N i j k : Nat} {W : Nat → Nat → Nat} {wts : Nat → Int32} (hw : WF n a f W) (hN : 600 ≤ N) (hi : i < n) (hj : j < n) (hij : i ≠ j) (hk : k ≤ 99) (hm : ∀ t, t < 2 ^ (n - 1) → wts (2 * t) = nI (cut n W (2 * t))) : ∃ v, f_X1_leastWeightWith N (nI i) (nI j) (nI k - nI (W i j)) (nI (2 ^ n)) wts = some (nI v) ∧ IsMin (fun t => cut n (setW W i j k) (2 * t)) (2 ^ (n - 1)) v := by
  have h2 := hw.1
  have h10 := hw.2.1
  have hW := hw.2.2.2.2.2.2.2.1
  have hsym := hw.2.2.2.2.2.1
  have hW2 := (setW_wf hw hi hj hij hk).2.2.2.2.2.2.2.1
  obtain ⟨hM, hM2, hM5⟩ := M_n h2 h10
  unfold f_X1_leastWeightWith
  refine upx (σ := Int32) (fun m t x1 => f_X1_leastWeightWith_L6 (nI (2 ^ n)) (nI i) (nI j) wts (nI k - nI (W i j)) (fun x9 => f_X1_leastWeightWith_E68 x9) m x1 (nI (2 * t))) (fun t x1 => (t = 1 ∧ x1 = -1) ∨ (1 ≤ t ∧ ∃ v, x1 = nI v ∧ IsMin (fun t => cut n (setW W i j k) (2 * t)) t v)) (2 ^ (n - 1)) (fun x => ∃ v, x = some (nI v) ∧ IsMin (fun t => cut n (setW W i j k) (2 * t)) (2 ^ (n - 1)) v) (fun m t x1 ht hI => ?_) (fun m x1 hI => ?_) N 1 (-1) (by omega) (by omega) (Or.inl ⟨rfl, rfl⟩)
  · rw [f_X1_leastWeightWith_L6, if_neg (nI_ge (by omega) (by omega)), parts_n (by omega) (by omega)]
    simp only [bd1_ok]
    rw [chk_n (by omega) (by omega), chk_n (by omega) (by omega), nI_clamp (by omega), hm t ht]
    have hc := cut_set (k := k) (b := 2 * t) hsym hi hj hij
    have hcb := cut_b hW h10 (2 * t)
    have hcb2 := cut_b hW2 h10 (2 * t)
    have hwb := hW i j
    -- one round
    have go : ∃ s', ((t + 1 = 1 ∧ s' = -1) ∨ (1 ≤ t + 1 ∧ ∃ v, s' = nI v ∧ IsMin (fun t => cut n (setW W i j k) (2 * t)) (t + 1) v)) ∧ f_X1_leastWeightWith_J44 x1 (f_X1_leastWeightWith_L6 (nI (2 ^ n)) (nI i) (nI j) wts (nI k - nI (W i j)) (fun x9 => f_X1_leastWeightWith_E68 x9) m) (nI (2 * t)) (nI (cut n (setW W i j k) (2 * t))) = f_X1_leastWeightWith_L6 (nI (2 ^ n)) (nI i) (nI j) wts (nI k - nI (W i j)) (fun x9 => f_X1_leastWeightWith_E68 x9) m s' (nI (2 * (t + 1))) := by
      unfold f_X1_leastWeightWith_J44 f_X1_leastWeightWith_J62
      rw [l2, nI_add, show 2 * t + 2 = 2 * (t + 1) by omega]
      rcases hI with ⟨rfl, rfl⟩ | ⟨h1, v, rfl, hv⟩
      · rw [if_pos (by decide)]
        exact ⟨_, Or.inr ⟨by omega, _, rfl, fun u h3 h4 => by rw [show u = 1 by omega]; exact Nat.le_refl _, 1, by omega, by omega, rfl⟩, rfl⟩
      · obtain ⟨m1, u0, m2, m3, m4⟩ := hv
        have hvb : v ≤ 9900 := by rw [← m4]; exact cut_b hW2 h10 _
        rw [if_neg (nI_pos (by omega))]
        by_cases d : v ≤ cut n (setW W i j k) (2 * t)
        · rw [if_pos (nI_le d (by omega))]
          refine ⟨_, Or.inr ⟨by omega, v, rfl, fun u h3 h4 => ?_, u0, m2, by omega, m4⟩, rfl⟩
          by_cases e : u = t
          · subst e; exact d
          · exact m1 u h3 (by omega)
        · rw [if_neg (nI_ge (by omega) (by omega))]
          refine ⟨_, Or.inr ⟨by omega, _, rfl, fun u h3 h4 => ?_, t, h1, by omega, rfl⟩, rfl⟩
          by_cases e : u = t
          · subst e; exact Nat.le_refl _
          · have := m1 u h3 (by omega)
            dsimp only at this ⊢
            omega
    by_cases c : (2 * t).testBit i = (2 * t).testBit j
    · rw [if_pos c, if_pos c] at hc
      rw [if_pos c, if_pos (show (0 : Int32) = 0 from rfl), show cut n W (2 * t) = cut n (setW W i j k) (2 * t) by omega]
      exact go
    · rw [if_neg c, if_neg c] at hc
      have e : nI (cut n W (2 * t)) + (nI k - nI (W i j)) = nI (cut n (setW W i j k) (2 * t)) := by
        have e1 : nI (cut n (setW W i j k) (2 * t)) + nI (W i j) = nI (cut n W (2 * t)) + nI k := by rw [nI_add, nI_add, hc]
        rw [Int32.sub_eq_add_neg, ← Int32.add_assoc, ← e1, Int32.add_assoc, Int32.add_right_neg, Int32.add_zero]
      rw [if_neg c, if_neg (show ¬ (1 : Int32) = 0 by decide), e]
      exact go
  · rw [f_X1_leastWeightWith_L6, if_pos (nI_le (by omega) (by omega))]
    rcases hI with ⟨e, -⟩ | ⟨h1, v, rfl, hv⟩
    · omega
    · exact ⟨v, rfl, hv⟩
theorem eq_wouldBe {x_kept_ : Int32} {x_web_places_ : Int32} {x_web_start_ : Int32} {x_web_fairPlaces_ : Int32} {x_web_weights_ : Nat → Int32} {x_snapshot_places_ : Int32} {x_snapshot_start_ : Int32} {x_snapshot_fairPlaces_ : Int32} {x_snapshot_weights_ : Nat → Int32} {x_history_size_ : Int32} {x_history_pl_ : Nat → Int32} {x_history_st_ : Nat → Int32} {x_history_fp_ : Nat → Int32} {x_history_wt_ : Nat → Nat → Int32} {x_text_length_ : Int32} {x_text_signs_ : Nat → Int32} {x_partings_places_ : Int32} {x_partings_end_ : Int32} {x_partings_leastWeight_ : Int32} {x_partings_leastCount_ : Int32} {x_partings_tightCount_ : Int32} {x_partings_weights_ : Nat → Int32} {x_partings_pulls_ : Nat → Int32} {x_partings_leastSets_ : Nat → Int32} {x_partings_tightPairs_ : Nat → Int32} {m_savedMany_ : Int32} {m_hasSnapshot_ : Int32} {m_length_ : Int32} {m_s_ : Nat → Int32} {m_saved_ : Nat → Int32} {m_snapshot_ : Nat → Int32} {m_text_ : Nat → Int32} (N : Nat) (hN : 600 ≤ N) (p1 : Int32) (p2 : Int32) (p3 : Int32) (h : Same x_web_places_ x_web_start_ x_web_fairPlaces_ x_web_weights_ m_s_ 0 ∧ HistR x_history_size_ x_history_pl_ x_history_st_ x_history_fp_ x_history_wt_ m_savedMany_ m_saved_ ∧ SnapR x_kept_ x_snapshot_places_ x_snapshot_start_ x_snapshot_fairPlaces_ x_snapshot_weights_ m_hasSnapshot_ m_snapshot_ ∧ TextR x_text_length_ x_text_signs_ m_length_ m_text_ ∧ Zero x_partings_weights_ x_partings_pulls_) : ∃ (r_ : Int32) (x_partings_places_' : Int32) (x_partings_end_' : Int32) (x_partings_leastWeight_' : Int32) (x_partings_leastCount_' : Int32) (x_partings_tightCount_' : Int32) (x_partings_weights_' : Nat → Int32) (x_partings_pulls_' : Nat → Int32) (x_partings_leastSets_' : Nat → Int32) (x_partings_tightPairs_' : Nat → Int32) (m_thrown_' : Int32) (m_s_' : Nat → Int32), f_X5_wouldBe N p1 p2 p3 x_web_places_ x_web_weights_ x_partings_places_ x_partings_end_ x_partings_leastWeight_ x_partings_leastCount_ x_partings_tightCount_ x_partings_weights_ x_partings_pulls_ x_partings_leastSets_ x_partings_tightPairs_ = some (r_, x_partings_places_', x_partings_end_', x_partings_leastWeight_', x_partings_leastCount_', x_partings_tightCount_', x_partings_weights_', x_partings_pulls_', x_partings_leastSets_', x_partings_tightPairs_') ∧ f_X6_wouldBe N p1 p2 p3 m_s_ = some (r_, m_thrown_', m_s_') ∧ (Same x_web_places_ x_web_start_ x_web_fairPlaces_ x_web_weights_ m_s_' 0 ∧ HistR x_history_size_ x_history_pl_ x_history_st_ x_history_fp_ x_history_wt_ m_savedMany_ m_saved_ ∧ SnapR x_kept_ x_snapshot_places_ x_snapshot_start_ x_snapshot_fairPlaces_ x_snapshot_weights_ m_hasSnapshot_ m_snapshot_ ∧ TextR x_text_length_ x_text_signs_ m_length_ m_text_ ∧ Zero x_partings_weights_' x_partings_pulls_') := by
  obtain ⟨h1, h2, h3, h4, h5⟩ := h
  have hS := h1
  obtain ⟨n, a, f, W, q1, q2, q3⟩ := h1
  have g2 := q1.1
  have g10 := q1.2.1
  have hW := q1.2.2.2.2.2.2.2.1
  obtain ⟨hM, hM2, hM5⟩ := M_n g2 g10
  unfold f_X5_wouldBe f_X6_wouldBe
  rcases tie_x p1 p2 p3 (by omega) g10 q3.1 with ⟨i, j, k, hi, hj, hij, hk, rfl, rfl, rfl, e1, e2⟩ | ⟨e, he, e1, e2⟩
  · rw [e2, q2.1, e1, ← q2.1, tieOf_w q2 g10 hi hj, tied_w q3 (by omega) (by omega), ties_n (by omega) (by omega)]
    simp only [bd1_ok, if_true]
    obtain ⟨v, wts, pls, ls, tp, m1, m2, m3⟩ := meas_n q2 q1 hN x_partings_leastWeight_ x_partings_weights_ x_partings_pulls_ x_partings_leastSets_ x_partings_tightPairs_ h5
    rw [m1]
    simp only [bd9_ok]
    have k1 := setW_rw (i := i) (j := j) (k := k) q3 (by omega) (by omega)
    have k2 := setW_wf q1 hi hj hij hk
    obtain ⟨v1, c1, c2⟩ := lwC q1 hN hi hj hij hk m2.1
    obtain ⟨v2, d1, d2⟩ := lw_n k1 k2.2.2.2.2.2.2.2.1 g2 g10 hN
    have := c2.one d2
    subst this
    rw [c1, d1]
    simp only [bd1_ok]
    rw [ties_n (by omega) (by omega)]
    simp only [bd1_ok]
    refine ⟨_, _, _, _, _, _, _, _, _, _, _, _, rfl, rfl, ⟨n, a, f, W, q1, q2, ?_⟩, h2, h3, h4, m3⟩
    refine (setW_rw (i := i) (j := j) (k := W i j) k1 (by omega) (by omega)).ext (fun x y _ _ => ?_)
    have := q1.2.2.2.2.2.1 i j
    unfold setW
    grind
  · rw [e2, q2.1, e1, ← q2.1]
    simp only [bd1_ok, if_neg he]
    exact ⟨_, _, _, _, _, _, _, _, _, _, _, _, rfl, rfl, hS, h2, h3, h4, h5⟩
