-- the reference's tight pairs
section RT
variable {n a f N v : Nat} {W : Nat → Nat → Nat} {s : Nat → Int32}
theorem it_n (h : RW s 0 n a f W) (hW : ∀ i j, W i j ≤ 99) (h2 : 2 ≤ n) (h10 : n ≤ 10) (hN : 600 ≤ N) (hv : IsMin (fun t => cut n W (2 * t)) (2 ^ (n - 1)) v) {i j : Nat} (hij : i < j) (hj : j < n) : (TiP n W (fun t => cut n W (2 * t)) (2 ^ (n - 1)) v i j ∧ f_X6_isTight N (nI i) (nI j) s = some 1) ∨ (¬ TiP n W (fun t => cut n W (2 * t)) (2 ^ (n - 1)) v i j ∧ f_X6_isTight N (nI i) (nI j) s = some 0) := by
  obtain ⟨hM, hM2, hM5⟩ := M_n h2 h10
  have hvb : v ≤ 9900 := by
    obtain ⟨-, u, -, -, e⟩ := hv
    rw [← e]; exact cut_b hW h10 _
  unfold f_X6_isTight
  rw [tied_w h (by omega) (by omega)]
  simp only [bd1_ok]
  by_cases c0 : W i j = 0
  · rw [c0, l0, if_pos (nI_le (Nat.le_refl _) (by omega))]
    refine Or.inr ⟨fun q => by have := q.2.2.1; omega, ?_⟩
    unfold f_X6_isTight_J14 f_X6_isTight_J27
    rw [if_pos (show nI 0 = 0 from rfl)]
    obtain ⟨m, rfl⟩ : ∃ m, N = m + 1 := ⟨N - 1, by omega⟩
    rw [f_X6_isTight_L32, all_n h h10]
    simp only [bd1_ok]
    rw [if_pos (show nI 0 = 0 from rfl)]
    unfold f_X6_isTight_E83
    rw [chkB_n0]
    split <;> rfl
  · have hb := hW i j
    rw [l0, if_neg (nI_ge (by omega) (by omega))]
    unfold f_X6_isTight_J14 f_X6_isTight_J27
    obtain ⟨v', e1, e2⟩ := lw_n h hW h2 h10 hN
    obtain rfl := hv.one e2
    rw [if_neg (show ¬ (1 : Int32) = 0 by decide), e1]
    simp only [bd1_ok]
    have hT : TiP n W (fun t => cut n W (2 * t)) (2 ^ (n - 1)) v i j ↔ AllP (fun t => cut n W (2 * t)) (2 ^ (n - 1)) v i j := ⟨fun q => q.2.2.2, fun q => ⟨hij, hj, by omega, q⟩⟩
    rw [hT]
    refine upe (σ := Int32) (fun m t x5 => f_X6_isTight_L32 N s (nI v) (nI i) (nI j) (fun x13 => f_X6_isTight_E83 x13) m x5 (nI (2 * t))) (fun t x5 => 1 ≤ t ∧ ((x5 = nI 1 ∧ ∀ u, 1 ≤ u → u < t → cut n W (2 * u) = v → (2 * u).testBit i ≠ (2 * u).testBit j) ∨ (x5 = nI 0 ∧ ¬ AllP (fun t => cut n W (2 * t)) (2 ^ (n - 1)) v i j))) (2 ^ (n - 1)) (fun x => (AllP (fun t => cut n W (2 * t)) (2 ^ (n - 1)) v i j ∧ x = some 1) ∨ (¬ AllP (fun t => cut n W (2 * t)) (2 ^ (n - 1)) v i j ∧ x = some 0)) (fun m t x5 ht hI => ?_) (fun m x5 hI => ?_) N 1 (nI 1) (by omega) (by omega) ⟨Nat.le_refl _, Or.inl ⟨rfl, fun u _ _ => by omega⟩⟩
    · obtain ⟨h1, hI⟩ := hI
      rw [f_X6_isTight_L32, all_n h h10]
      simp only [bd1_ok]
      rw [if_neg (go_n h2 h10 ht)]
      rcases hI with ⟨rfl, hI⟩ | ⟨rfl, hI⟩
      · rw [if_neg (show ¬ nI 1 = 0 by decide), wOf_n h hW h10 hN (by omega)]
        simp only [bd1_ok]
        have c2 := cut_b hW h10 (2 * t)
        have go : ∀ x : Nat, ((x = 1 ∧ (cut n W (2 * t) = v → (2 * t).testBit i ≠ (2 * t).testBit j)) ∨ (x = 0 ∧ cut n W (2 * t) = v ∧ (2 * t).testBit i = (2 * t).testBit j)) → ∃ s', (1 ≤ t + 1 ∧ ((s' = nI 1 ∧ ∀ u, 1 ≤ u → u < t + 1 → cut n W (2 * u) = v → (2 * u).testBit i ≠ (2 * u).testBit j) ∨ (s' = nI 0 ∧ ¬ AllP (fun t => cut n W (2 * t)) (2 ^ (n - 1)) v i j))) ∧ f_X6_isTight_J76 (f_X6_isTight_L32 N s (nI v) (nI i) (nI j) (fun x13 => f_X6_isTight_E83 x13) m) (nI (2 * t)) (nI x) = f_X6_isTight_L32 N s (nI v) (nI i) (nI j) (fun x13 => f_X6_isTight_E83 x13) m s' (nI (2 * (t + 1))) := by
          intro x hx
          refine ⟨nI x, ⟨by omega, ?_⟩, by unfold f_X6_isTight_J76; rw [l2, nI_add]; rfl⟩
          rcases hx with ⟨rfl, hx⟩ | ⟨rfl, hx, hx2⟩
          · refine Or.inl ⟨rfl, fun u h3 h4 h5 => ?_⟩
            by_cases e : u = t
            · subst e; exact hx h5
            · exact hI u h3 (by omega) h5
          · exact Or.inr ⟨rfl, fun q => q t h1 ht hx hx2⟩
        by_cases c : cut n W (2 * t) = v
        · rw [if_pos (by rw [c]), bt_r (by omega) (by omega), bt_r (by omega) (by omega)]
          by_cases d : (2 * t).testBit i = (2 * t).testBit j
          · rw [if_pos (by rw [d])]
            exact Or.inr (go 0 (Or.inr ⟨rfl, c, d⟩))
          · rw [if_neg]
            · exact Or.inr (go 1 (Or.inl ⟨rfl, fun _ => d⟩))
            · intro e
              apply d
              cases x : (2 * t).testBit i <;> cases y : (2 * t).testBit j <;> rw [x, y] at e <;> first | rfl | exact absurd e (by decide)
        · rw [if_neg (fun e => c (nI_inj (by omega) (by omega) e))]
          exact Or.inr (go 1 (Or.inl ⟨rfl, fun q => absurd q c⟩))
      · rw [if_pos (show nI 0 = 0 from rfl)]
        exact Or.inl (Or.inr ⟨hI, rfl⟩)
    · obtain ⟨h1, hI⟩ := hI
      rw [f_X6_isTight_L32, all_n h h10]
      simp only [bd1_ok]
      rw [if_pos (st_n h2 h10)]
      unfold f_X6_isTight_E83
      rcases hI with ⟨rfl, hI⟩ | ⟨rfl, hI⟩
      · exact Or.inl ⟨hI, chkB_1⟩
      · exact Or.inr ⟨hI, chkB_0⟩
theorem pr_row {p : Nat → Bool} (hp : ∀ q, p q = true → q / 10 < q % 10 ∧ q % 10 < n) (hn : n ≤ 10) (i : Nat) : ct p (10 * (i + 1) + (i + 1 + 1)) = ct p (10 * i + n) := by
  by_cases h : 10 * i + n ≤ 10 * (i + 1) + (i + 2)
  · refine ct_flat h (fun q h1 h2 => ?_)
    cases e : p q with
    | false => rfl
    | true =>
      have := hp q e
      omega
  · refine (ct_flat (by omega) (fun q h1 h2 => ?_)).symm
    cases e : p q with
    | false => rfl
    | true =>
      have := hp q e
      omega
theorem pr_0 {p : Nat → Bool} (hp : ∀ q, p q = true → q / 10 < q % 10 ∧ q % 10 < n) : ct p (10 * 0 + (0 + 1)) = 0 := by
  refine ct_zero (fun q hq => ?_)
  cases e : p q with
  | false => rfl
  | true => have := hp q e; omega
theorem pr_end {p : Nat → Bool} (hp : ∀ q, p q = true → q / 10 < q % 10 ∧ q % 10 < n) (hn : n ≤ 10) : ct p (10 * n + (n + 1)) = ct p 100 := by
  by_cases c1 : 10 * n + (n + 1) ≤ 100
  · refine (ct_flat c1 (fun q h1 h2 => ?_)).symm
    cases e : p q with
    | false => rfl
    | true =>
      have := hp q e
      omega
  · refine ct_flat (by omega) (fun q h1 h2 => ?_)
    cases e : p q with
    | false => rfl
    | true =>
      have := hp q e
      omega
theorem tQ_p {q : Nat} (h : tQ n W v q = true) : q / 10 < q % 10 ∧ q % 10 < n := ⟨(tq_e h).1, (tq_e h).2.1⟩
theorem ta_19 (h : RW s 0 n a f W) (hW : ∀ i j, W i j ≤ 99) (h2 : 2 ≤ n) (h10 : n ≤ 10) (hN : 600 ≤ N) (hv : IsMin (fun t => cut n W (2 * t)) (2 ^ (n - 1)) v) {i r : Nat} (hi : i < n) (hr : r < 2 ^ 31) (k : Int32 → Option Int32) (P : Option Int32 → Prop) (hP : ct (tQ n W v) (10 * i + n) ≤ r → P (k (nI (r - ct (tQ n W v) (10 * i + n))))) (hQ : ∀ q, q < 100 → tQ n W v q = true → ct (tQ n W v) q = r → P (some (nI q))) (h0 : ct (tQ n W v) (10 * i + (i + 1)) ≤ r) : P (f_X6_tightAt_L19 N s (nI i) k N (nI (r - ct (tQ n W v) (10 * i + (i + 1)))) (nI (i + 1))) := by
  refine upe (σ := Unit) (fun m j _ => f_X6_tightAt_L19 N s (nI i) k m (nI (r - ct (tQ n W v) (10 * i + j))) (nI j)) (fun j _ => i + 1 ≤ j ∧ ct (tQ n W v) (10 * i + j) ≤ r) n P (fun m j _ hj hI => ?_) (fun m _ hI => ?_) N (i + 1) () (by omega) (by omega) ⟨Nat.le_refl _, h0⟩
  · obtain ⟨hij, hI⟩ := hI
    rw [f_X6_tightAt_L19, h.1, if_neg (nI_ge hj (by omega))]
    rcases it_n h hW h2 h10 hN hv (by omega : i < j) hj with ⟨c1, c2⟩ | ⟨c1, c2⟩
    · rw [c2]
      simp only [bd1_ok]
      rw [if_neg (by decide)]
      have hp : tQ n W v (10 * i + j) = true := tq_t (by omega) c1
      unfold f_X6_tightAt_J46
      by_cases z : ct (tQ n W v) (10 * i + j) = r
      · rw [z, Nat.sub_self, if_neg (by decide)]
        have := hQ (10 * i + j) (by omega) hp z
        refine Or.inl ?_
        rw [l10, pk_mul, nI_add]
        exact this
      · refine Or.inr ⟨(), ⟨by omega, ?_⟩, ?_⟩
        · rw [show 10 * i + (j + 1) = (10 * i + j) + 1 by omega, ct, hp, if_pos rfl]; omega
        · rw [l1, pk_sub (by omega), l0, if_pos (nI_le (Nat.zero_le _) (by omega)), nI_add, show 10 * i + (j + 1) = (10 * i + j) + 1 by omega, ct, hp, if_pos rfl, Nat.sub_sub]
    · rw [c2]
      simp only [bd1_ok, if_true]
      have hp : tQ n W v (10 * i + j) = false := tq_f (by omega) c1
      unfold f_X6_tightAt_J46
      refine Or.inr ⟨(), ⟨by omega, ?_⟩, ?_⟩
      · rw [show 10 * i + (j + 1) = (10 * i + j) + 1 by omega, ct, hp, if_neg (by decide)]; exact hI
      · rw [l0, pk_sub (by omega), if_pos (nI_le (Nat.zero_le _) (by omega)), l1, nI_add, show 10 * i + (j + 1) = (10 * i + j) + 1 by omega, ct, hp, if_neg (by decide), Nat.sub_zero]
        rfl
  · rw [f_X6_tightAt_L19, h.1, if_pos (nI_le (Nat.le_refl _) (by omega))]
    exact hP hI.2
theorem ta_n (h : RW s 0 n a f W) (hW : ∀ i j, W i j ≤ 99) (h2 : 2 ≤ n) (h10 : n ≤ 10) (hN : 600 ≤ N) (hv : IsMin (fun t => cut n W (2 * t)) (2 ^ (n - 1)) v) {r : Nat} (hr : r < 2 ^ 31) : (ct (tQ n W v) 100 ≤ r ∧ f_X6_tightAt N (nI r) s = some (-5)) ∨ (∃ q, q < 100 ∧ tQ n W v q = true ∧ ct (tQ n W v) q = r ∧ f_X6_tightAt N (nI r) s = some (nI q)) := by
  unfold f_X6_tightAt
  have z0 := pr_0 (p := tQ n W v) (n := n) (fun q => tQ_p)
  have key := upe (σ := Unit) (fun m i _ => f_X6_tightAt_L4 N s (f_X6_tightAt_E72) m (nI (r - ct (tQ n W v) (10 * i + (i + 1)))) (nI i)) (fun i _ => ct (tQ n W v) (10 * i + (i + 1)) ≤ r) n (fun x => (ct (tQ n W v) 100 ≤ r ∧ x = some (-5)) ∨ (∃ q, q < 100 ∧ tQ n W v q = true ∧ ct (tQ n W v) q = r ∧ x = some (nI q))) (fun m i _ hi hI => ?_) (fun m _ hI => ?_) N 0 () (by omega) (by omega) (by rw [z0]; exact Nat.zero_le r)
  · rw [z0, Nat.sub_zero] at key
    exact key
  · rw [f_X6_tightAt_L4, h.1, if_neg (nI_ge hi (by omega)), l1, nI_add]
    refine ta_19 h hW h2 h10 hN hv hi hr _ (fun x => ((ct (tQ n W v) 100 ≤ r ∧ x = some (-5)) ∨ (∃ q, q < 100 ∧ tQ n W v q = true ∧ ct (tQ n W v) q = r ∧ x = some (nI q))) ∨ ∃ _s : Unit, ct (tQ n W v) (10 * (i + 1) + (i + 1 + 1)) ≤ r ∧ x = f_X6_tightAt_L4 N s (f_X6_tightAt_E72) m (nI (r - ct (tQ n W v) (10 * (i + 1) + (i + 1 + 1)))) (nI (i + 1))) (fun c => Or.inr ⟨(), ?_, ?_⟩) (fun q h1 h3 h4 => Or.inl (Or.inr ⟨q, h1, h3, h4, rfl⟩)) hI
    · rw [pr_row (fun q => tQ_p) h10]; exact c
    · unfold f_X6_tightAt_E66
      rw [l1, nI_add, pr_row (fun q => tQ_p) h10]
  · rw [f_X6_tightAt_L4, h.1, if_pos (nI_le (Nat.le_refl _) (by omega))]
    rw [pr_end (fun q => tQ_p) h10] at hI
    exact Or.inl ⟨hI, rfl⟩
end RT
theorem eq_tight {x_kept_ : Int32} {x_web_places_ : Int32} {x_web_start_ : Int32} {x_web_fairPlaces_ : Int32} {x_web_weights_ : Nat → Int32} {x_snapshot_places_ : Int32} {x_snapshot_start_ : Int32} {x_snapshot_fairPlaces_ : Int32} {x_snapshot_weights_ : Nat → Int32} {x_history_size_ : Int32} {x_history_pl_ : Nat → Int32} {x_history_st_ : Nat → Int32} {x_history_fp_ : Nat → Int32} {x_history_wt_ : Nat → Nat → Int32} {x_text_length_ : Int32} {x_text_signs_ : Nat → Int32} {x_partings_places_ : Int32} {x_partings_end_ : Int32} {x_partings_leastWeight_ : Int32} {x_partings_leastCount_ : Int32} {x_partings_tightCount_ : Int32} {x_partings_weights_ : Nat → Int32} {x_partings_pulls_ : Nat → Int32} {x_partings_leastSets_ : Nat → Int32} {x_partings_tightPairs_ : Nat → Int32} {m_savedMany_ : Int32} {m_hasSnapshot_ : Int32} {m_length_ : Int32} {m_s_ : Nat → Int32} {m_saved_ : Nat → Int32} {m_snapshot_ : Nat → Int32} {m_text_ : Nat → Int32} (N : Nat) (hN : 600 ≤ N) (p1 : Int32) (h : Same x_web_places_ x_web_start_ x_web_fairPlaces_ x_web_weights_ m_s_ 0 ∧ HistR x_history_size_ x_history_pl_ x_history_st_ x_history_fp_ x_history_wt_ m_savedMany_ m_saved_ ∧ SnapR x_kept_ x_snapshot_places_ x_snapshot_start_ x_snapshot_fairPlaces_ x_snapshot_weights_ m_hasSnapshot_ m_snapshot_ ∧ TextR x_text_length_ x_text_signs_ m_length_ m_text_ ∧ Zero x_partings_weights_ x_partings_pulls_) : ∃ (r_ : Int32) (x_partings_places_' : Int32) (x_partings_end_' : Int32) (x_partings_leastWeight_' : Int32) (x_partings_leastCount_' : Int32) (x_partings_tightCount_' : Int32) (x_partings_weights_' : Nat → Int32) (x_partings_pulls_' : Nat → Int32) (x_partings_leastSets_' : Nat → Int32) (x_partings_tightPairs_' : Nat → Int32) (m_thrown_' : Int32), f_X5_tight N p1 x_web_places_ x_web_weights_ x_partings_places_ x_partings_end_ x_partings_leastWeight_ x_partings_leastCount_ x_partings_tightCount_ x_partings_weights_ x_partings_pulls_ x_partings_leastSets_ x_partings_tightPairs_ = some (r_, x_partings_places_', x_partings_end_', x_partings_leastWeight_', x_partings_leastCount_', x_partings_tightCount_', x_partings_weights_', x_partings_pulls_', x_partings_leastSets_', x_partings_tightPairs_') ∧ f_X6_tight N p1 m_s_ = some (r_, m_thrown_') ∧ (Same x_web_places_ x_web_start_ x_web_fairPlaces_ x_web_weights_ m_s_ 0 ∧ HistR x_history_size_ x_history_pl_ x_history_st_ x_history_fp_ x_history_wt_ m_savedMany_ m_saved_ ∧ SnapR x_kept_ x_snapshot_places_ x_snapshot_start_ x_snapshot_fairPlaces_ x_snapshot_weights_ m_hasSnapshot_ m_snapshot_ ∧ TextR x_text_length_ x_text_signs_ m_length_ m_text_ ∧ Zero x_partings_weights_' x_partings_pulls_') := by
  obtain ⟨h1, h2, h3, h4, h5⟩ := h
  have hS := h1
  obtain ⟨n, a, f, W, q1, q2, q3⟩ := h1
  have g2 := q1.1
  have g10 := q1.2.1
  have hW := q1.2.2.2.2.2.2.2.1
  unfold f_X5_tight f_X6_tight
  rcases pos_n p1 with hp | ⟨r, hr, rfl⟩
  · rw [if_neg (Int32.not_le.mpr hp), if_neg (Int32.not_le.mpr hp)]
    exact ⟨_, _, _, _, _, _, _, _, _, _, _, rfl, rfl, hS, h2, h3, h4, h5⟩
  · rw [l0, if_pos (nI_le (Nat.zero_le r) hr), if_pos (nI_le (Nat.zero_le r) hr)]
    obtain ⟨v, wts, pls, ls, tp, e1, e2, e3⟩ := meas_n q2 q1 hN x_partings_leastWeight_ x_partings_weights_ x_partings_pulls_ x_partings_leastSets_ x_partings_tightPairs_ h5
    rw [e1]
    simp only [bd9_ok]
    have h45 : ct (tQ n W v) 100 ≤ 45 := tq_45 100 (Nat.le_refl _)
    rcases ta_n q3 hW g2 g10 hN e2.2.1 hr with ⟨c1, c2⟩ | ⟨q, c1, c2, c3, c4⟩
    · rw [if_pos (nI_le c1 hr), c2]
      exact ⟨_, _, _, _, _, _, _, _, _, _, _, rfl, rfl, hS, h2, h3, h4, e3⟩
    · have hlt := ct_lt _ c1 c2
      rw [if_neg (nI_ge (by omega) (by omega)), c4]
      unfold f_X1_tightAt
      rw [if_neg (nI_pos hr), if_neg (nI_ge (by omega) (by omega)), chk_n (by omega) (by omega), nI_clamp (by omega)]
      have h9 := e2.2.2.2 q c1 c2
      have h8 : ct (tq n W (fun t => cut n W (2 * t)) (2 ^ (n - 1)) v) q = r := c3
      rw [h8] at h9
      rw [h9]
      exact ⟨_, _, _, _, _, _, _, _, _, _, _, rfl, rfl, hS, h2, h3, h4, e3⟩
