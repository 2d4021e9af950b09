-- sums over pairs
theorem sm_swap (g : Nat → Nat → Nat) (n : Nat) : ∀ m, sm (fun i => sm (fun j => g i j) n) m = sm (fun j => sm (fun i => g i j) m) n
  | 0 => (sm_zero (fun _ _ => rfl)).symm
  | m + 1 => by
    rw [sm, sm_swap g n m, ← sm_add]
    exact sm_congr (fun j _ => rfl)
/-- the sum over pairs i < j -/
def upr (n : Nat) (F : Nat → Nat → Nat) (i : Nat) : Nat := sm (fun j => if i < j then F i j else 0) n
theorem upr_two {n : Nat} {F : Nat → Nat → Nat} (hs : ∀ i j, F i j = F j i) (hd : ∀ i, F i i = 0) : sm (fun i => sm (fun j => F i j) n) n = 2 * sm (upr n F) n := by
  have e1 : sm (fun i => sm (fun j => F i j) n) n = sm (fun i => upr n F i + sm (fun j => if j < i then F i j else 0) n) n := by
    refine sm_congr (fun i _ => ?_)
    unfold upr
    rw [← sm_add]
    refine sm_congr (fun j _ => ?_)
    rcases Nat.lt_trichotomy i j with c | c | c
    · rw [if_pos c, if_neg (by omega), Nat.add_zero]
    · subst c; rw [if_neg (by omega), hd]
    · rw [if_neg (by omega), if_pos c, Nat.zero_add]
  rw [e1, sm_add, sm_swap (fun i j => if j < i then F i j else 0)]
  have e2 : sm (fun j => sm (fun i => if j < i then F i j else 0) n) n = sm (upr n F) n := by
    refine sm_congr (fun j _ => ?_)
    unfold upr
    refine sm_congr (fun i _ => ?_)
    rw [hs]
  rw [e2]
  show sm (upr n F) n + _ = _
  omega
theorem half_n {k : Nat} (h : k ≤ 20000) : nI (2 * k) / (2 : Int32) = nI k := by
  rw [l2, pk_div (by omega) (by omega) (by omega), Nat.mul_div_cancel_left k (by omega)]
theorem upr_le {n c : Nat} {F : Nat → Nat → Nat} (h : ∀ i j, F i j ≤ c) (i : Nat) : upr n F i ≤ n * c := sm_le (fun j _ => by split; exact h _ _; omega)
section CO
variable {n a f N : Nat} {W : Nat → Nat → Nat} {s w : Nat → Int32} {pl st fp : Int32}
theorem aw_n (h : CW pl st fp w n a f W) (hw : WF n a f W) (hN : 600 ≤ N) : f_X4_allWeights N (nI n) w = some (nI (sm (upr n W) n)) := by
  have h10 := hw.2.1
  have hW := hw.2.2.2.2.2.2.2.1
  unfold f_X4_allWeights
  refine up (fun m i => f_X4_allWeights_L4 N (nI n) w (fun x7 => f_X4_allWeights_E26 x7) m (nI (sm (fun i => sm (fun j => W i j) n) i)) (nI i)) _ n (fun m i hi => ?_) (fun m => ?_) N 0 (by omega) (by omega)
  · show f_X4_allWeights_L4 N (nI n) w _ (m + 1) (nI (sm _ i)) (nI i) = f_X4_allWeights_L4 N (nI n) w _ m (nI (sm _ (i + 1))) (nI (i + 1))
    have ht := weightsOf_n h h10 hN hi
    rw [h.1] at ht
    rw [f_X4_allWeights_L4, if_neg (nI_ge hi (by omega)), ht]
    simp only [bd1_ok]
    rw [nI_add, l1, nI_add, sm]
  · show f_X4_allWeights_L4 N (nI n) w _ (m + 1) (nI (sm _ n)) (nI n) = _
    rw [f_X4_allWeights_L4, if_pos (nI_le (Nat.le_refl _) (by omega))]
    unfold f_X4_allWeights_E26
    have hb : sm (upr n W) n ≤ n * (n * 99) := sm_le (fun i _ => upr_le hW i)
    have := sq_le h10
    rw [upr_two hw.2.2.2.2.2.1 hw.2.2.2.2.2.2.1, half_n (by omega)]
def on (W : Nat → Nat → Nat) : Nat → Nat → Nat := fun i j => if W i j = 0 then 0 else 1
theorem pc_nb {p : Nat} (h10 : n ≤ 10) : pc (nb W p n) = sm (fun j => on W p j) n := by
  unfold pc
  have e : ∀ k, sm (fun i => if (nb W p n).testBit i then 1 else 0) (n + k) = sm (fun j => on W p j) n := by
    intro k
    induction k with
    | zero =>
      refine sm_congr (fun j hj => ?_)
      rw [nb_bit]
      unfold on
      have hj' : j < n := hj
      by_cases c : W p j = 0 <;> simp [c, hj']
    | succ k ih =>
      rw [← Nat.add_assoc, sm, ih, nb_bit, decide_eq_false (show ¬ n + k < n by omega)]
      rfl
  have := e (10 - n)
  rw [show n + (10 - n) = 10 by omega] at this
  exact this
theorem tc_n (h : CW pl st fp w n a f W) (hw : WF n a f W) (hN : 600 ≤ N) : f_X4_tieCount N (nI n) w = some (nI (sm (upr n (on W)) n)) := by
  have h10 := hw.2.1
  have hW := hw.2.2.2.2.2.2.2.1
  have h3 : 2 ^ n ≤ 1024 := p2_10 h10
  unfold f_X4_tieCount
  refine up (fun m i => f_X4_tieCount_L4 N (nI n) w (fun x8 => f_X4_tieCount_E29 x8) m (nI (sm (fun i => sm (fun j => on W i j) n) i)) (nI i)) _ n (fun m i hi => ?_) (fun m => ?_) N 0 (by omega) (by omega)
  · show f_X4_tieCount_L4 N (nI n) w _ (m + 1) (nI (sm _ i)) (nI i) = f_X4_tieCount_L4 N (nI n) w _ m (nI (sm _ (i + 1))) (nI (i + 1))
    have hlt := nb_lt W i n
    rw [f_X4_tieCount_L4, if_neg (nI_ge hi (by omega)), nbC h hW h10 hN hi]
    simp only [bd1_ok]
    rw [pc_c _ (by omega), pc_nb h10]
    simp only [bd1_ok]
    rw [nI_add, l1, nI_add, sm]
  · show f_X4_tieCount_L4 N (nI n) w _ (m + 1) (nI (sm _ n)) (nI n) = _
    rw [f_X4_tieCount_L4, if_pos (nI_le (Nat.le_refl _) (by omega))]
    unfold f_X4_tieCount_E29
    have hon : ∀ i j, on W i j ≤ 99 := fun i j => by unfold on; split <;> omega
    have hb : sm (upr n (on W)) n ≤ n * (n * 99) := sm_le (fun i _ => upr_le hon i)
    have := sq_le h10
    rw [upr_two (fun i j => by unfold on; rw [hw.2.2.2.2.2.1]) (fun i => by unfold on; rw [hw.2.2.2.2.2.2.1]; rfl), half_n (by omega)]
theorem op_19 (h : RW s 0 n a f W) (hW : ∀ i j, W i j ≤ 99) (h10 : n ≤ 10) (hN : 600 ≤ N) (p : Int32) (F : Nat → Nat → Nat) (hF : (p = 0 ∧ F = on W) ∨ (p ≠ 0 ∧ F = W)) {i : Nat} (hi : i < n) (S : Nat) (k : Int32 → Option Int32) : f_X6_overPairs_L19 s p (nI i) k N (nI S) (nI (i + 1)) = k (nI (S + upr n F i)) := by
  have z : sm (fun j => if i < j then F i j else 0) (i + 1) = 0 := sm_zero (fun j hj => if_neg (by omega))
  have key := upx (σ := Unit) (fun m j _ => f_X6_overPairs_L19 s p (nI i) k m (nI (S + upr j F i)) (nI j)) (fun j _ => i + 1 ≤ j) n (fun x => x = k (nI (S + upr n F i))) (fun m j _ hj h1 => ⟨(), Nat.le_succ_of_le h1, ?_⟩) (fun m _ _ => ?_) N (i + 1) () (by omega) (by omega) (Nat.le_refl _)
  · unfold upr at key ⊢
    rw [z, Nat.add_zero] at key
    exact key
  · show f_X6_overPairs_L19 s p (nI i) k (m + 1) (nI (S + upr j F i)) (nI j) = f_X6_overPairs_L19 s p (nI i) k m (nI (S + upr (j + 1) F i)) (nI (j + 1))
    rw [f_X6_overPairs_L19, h.1, if_neg (nI_ge hj (by omega)), tied_w h (by omega) (by omega)]
    simp only [bd1_ok]
    have hb := hW i j
    have e : upr (j + 1) F i = upr j F i + F i j := by
      unfold upr; rw [sm, if_pos (show i < j by omega)]
    unfold f_X6_overPairs_J60
    rw [e]
    rcases hF with ⟨rfl, rfl⟩ | ⟨hp, rfl⟩
    · rw [if_pos (show (0 : Int32) = 0 from rfl)]
      by_cases c : W i j = 0
      · rw [c, l0, if_pos (nI_le (Nat.le_refl _) (by omega)), nI_add, l1, nI_add, show on W i j = 0 by unfold on; rw [if_pos c], Nat.add_assoc]
      · rw [l0, if_neg (nI_ge (by omega) (by omega)), l1, nI_add, nI_add, show on W i j = 1 by unfold on; rw [if_neg c], Nat.add_assoc]
    · rw [if_neg hp, nI_add, l1, nI_add, Nat.add_assoc]
  · show f_X6_overPairs_L19 s p (nI i) k (m + 1) (nI (S + upr n F i)) (nI n) = _
    rw [f_X6_overPairs_L19, h.1, if_pos (nI_le (Nat.le_refl _) (by omega))]
theorem op_n (h : RW s 0 n a f W) (hW : ∀ i j, W i j ≤ 99) (h10 : n ≤ 10) (hN : 600 ≤ N) (p : Int32) (F : Nat → Nat → Nat) (hF : (p = 0 ∧ F = on W) ∨ (p ≠ 0 ∧ F = W)) : f_X6_overPairs N p s = some (nI (sm (upr n F) n)) := by
  unfold f_X6_overPairs
  refine up (fun m i => f_X6_overPairs_L4 N s p (fun x15 => f_X6_overPairs_E74 x15) m (nI (sm (upr n F) i)) (nI i)) _ n (fun m i hi => ?_) (fun m => ?_) N 0 (by omega) (by omega)
  · show f_X6_overPairs_L4 N s p _ (m + 1) (nI (sm (upr n F) i)) (nI i) = f_X6_overPairs_L4 N s p _ m (nI (sm (upr n F) (i + 1))) (nI (i + 1))
    rw [f_X6_overPairs_L4, h.1, if_neg (nI_ge hi (by omega)), l1, nI_add, op_19 h hW h10 hN p F hF hi]
    unfold f_X6_overPairs_E68
    rw [l1, nI_add, sm]
  · show f_X6_overPairs_L4 N s p _ (m + 1) (nI (sm (upr n F) n)) (nI n) = _
    rw [f_X6_overPairs_L4, h.1, if_pos (nI_le (Nat.le_refl _) (by omega))]
    rfl
-- how many pairs are tight, or tight at a place
theorem tm_19 (h : RW s 0 n a f W) (h10 : n ≤ 10) (hN : 600 ≤ N) (p : Int32) (P : Nat → Bool) (hS : ∀ i j m S k, i < j → j < n → f_X6_tightMany_L19 N s p (nI i) k (m + 1) (nI S) (nI j) = f_X6_tightMany_L19 N s p (nI i) k m (nI (S + if P (10 * i + j) then 1 else 0)) (nI (j + 1))) {i : Nat} (hi : i < n) (k : Int32 → Option Int32) : f_X6_tightMany_L19 N s p (nI i) k N (nI (ct P (10 * i + (i + 1)))) (nI (i + 1)) = k (nI (ct P (10 * i + n))) := by
  refine upx (σ := Unit) (fun m j _ => f_X6_tightMany_L19 N s p (nI i) k m (nI (ct P (10 * i + j))) (nI j)) (fun j _ => i + 1 ≤ j) n (fun x => x = k (nI (ct P (10 * i + n)))) (fun m j _ hj h1 => ⟨(), Nat.le_succ_of_le h1, ?_⟩) (fun m _ _ => ?_) N (i + 1) () (by omega) (by omega) (Nat.le_refl _)
  · show f_X6_tightMany_L19 N s p (nI i) k (m + 1) (nI (ct P (10 * i + j))) (nI j) = f_X6_tightMany_L19 N s p (nI i) k m (nI (ct P (10 * i + (j + 1)))) (nI (j + 1))
    rw [hS i j m _ k (by omega) hj, show 10 * i + (j + 1) = (10 * i + j) + 1 by omega, ct]
  · show f_X6_tightMany_L19 N s p (nI i) k (m + 1) (nI (ct P (10 * i + n))) (nI n) = _
    rw [f_X6_tightMany_L19, h.1, if_pos (nI_le (Nat.le_refl _) (by omega))]
theorem tm_n (h : RW s 0 n a f W) (h10 : n ≤ 10) (hN : 600 ≤ N) (p : Int32) (P : Nat → Bool) (hP : ∀ q, P q = true → q / 10 < q % 10 ∧ q % 10 < n) (hS : ∀ i j m S k, i < j → j < n → f_X6_tightMany_L19 N s p (nI i) k (m + 1) (nI S) (nI j) = f_X6_tightMany_L19 N s p (nI i) k m (nI (S + if P (10 * i + j) then 1 else 0)) (nI (j + 1))) : f_X6_tightMany N p s = some (nI (ct P 100)) := by
  unfold f_X6_tightMany
  have z0 := pr_0 hP
  have key := up (fun m i => f_X6_tightMany_L4 N s p (fun x16 => f_X6_tightMany_E77 x16) m (nI (ct P (10 * i + (i + 1)))) (nI i)) (some (nI (ct P 100))) n (fun m i hi => ?_) (fun m => ?_) N 0 (by omega) (by omega)
  · rw [z0] at key
    exact key
  · show f_X6_tightMany_L4 N s p _ (m + 1) (nI (ct P (10 * i + (i + 1)))) (nI i) = f_X6_tightMany_L4 N s p _ m (nI (ct P (10 * (i + 1) + (i + 1 + 1)))) (nI (i + 1))
    rw [f_X6_tightMany_L4, h.1, if_neg (nI_ge hi (by omega)), l1, nI_add, tm_19 h h10 hN p P hS hi]
    unfold f_X6_tightMany_E71
    rw [l1, nI_add, pr_row hP h10]
  · show f_X6_tightMany_L4 N s p _ (m + 1) (nI (ct P (10 * n + (n + 1)))) (nI n) = _
    rw [f_X6_tightMany_L4, h.1, if_pos (nI_le (Nat.le_refl _) (by omega)), pr_end hP h10]
    rfl
theorem tm_all {v : Nat} (h : RW s 0 n a f W) (hW : ∀ i j, W i j ≤ 99) (h2 : 2 ≤ n) (h10 : n ≤ 10) (hN : 600 ≤ N) (hv : IsMin (fun t => cut n W (2 * t)) (2 ^ (n - 1)) v) : f_X6_tightMany N (-5) s = some (nI (ct (tQ n W v) 100)) := by
  refine tm_n h h10 hN _ _ (fun q => tQ_p) (fun i j m S k hij hj => ?_)
  rw [f_X6_tightMany_L19, h.1, if_neg (nI_ge hj (by omega)), if_pos (show (-5 : Int32) = -5 from rfl)]
  unfold f_X6_tightMany_J63
  rcases it_n h hW h2 h10 hN hv hij hj with ⟨c1, c2⟩ | ⟨c1, c2⟩
  · rw [c2]
    simp only [bd1_ok]
    rw [if_neg (show ¬ (1 : Int32) = 0 by decide), if_pos (show tQ n W v (10 * i + j) = true from tq_t (by omega) c1), l1, nI_add, nI_add]
  · rw [c2]
    simp only [bd1_ok]
    have z : tQ n W v (10 * i + j) = false := tq_f (by omega) c1
    rw [z, l0, l1]
    simp only [if_true]
    rw [nI_add, nI_add]
    rfl
end CO
theorem cpC {n a f N : Nat} {W : Nat → Nat → Nat} {s w : Nat → Int32} {pl st fp : Int32} (q1 : WF n a f W) (q2 : CW pl st fp w n a f W) (q3 : RW s 0 n a f W) (hN : 600 ≤ N) (p lw0 : Int32) (wts0 pls0 ls0 tp0 : Nat → Int32) (hz : Zero wts0 pls0) : ∃ (r x1 x2 x3 x4 x5 : Int32) (a6 a7 a8 a9 : Nat → Int32), f_X5_countPartings N p pl fp w lw0 wts0 pls0 ls0 tp0 = some (r, x1, x2, x3, x4, x5, a6, a7, a8, a9) ∧ Zero a6 a7 ∧ (if p = 3 then f_X6_leastMany N s else if p = 4 then f_X6_tightMany N (-5) s else f_X6_fairMany N s) = some r := by
  have g2 := q1.1
  have g10 := q1.2.1
  have hW := q1.2.2.2.2.2.2.2.1
  unfold f_X5_countPartings
  obtain ⟨v, wts, pls, ls, tp, m1, m2, m3⟩ := meas_n q2 q1 hN lw0 wts0 pls0 ls0 tp0 hz
  rw [m1, q2.2.2.1]
  simp only [bd9_ok]
  by_cases c3 : p = 3
  · rw [if_pos c3, if_pos c3, lm_n q3 hW g2 g10 hN m2.2.1]
    exact ⟨_, _, _, _, _, _, _, _, _, _, rfl, m3, rfl⟩
  · rw [if_neg c3, if_neg c3]
    by_cases c4 : p = 4
    · rw [if_pos c4, if_pos c4, tm_all q3 hW g2 g10 hN m2.2.1]
      exact ⟨_, _, _, _, _, _, _, _, _, _, rfl, m3, rfl⟩
    · rw [if_neg c4, if_neg c4, fcR q3 g2 g10 hN, fcC g2 g10 hN]
      exact ⟨_, _, _, _, _, _, _, _, _, _, rfl, m3, rfl⟩
theorem eq_count {x_kept_ : Int32} {x_web_places_ : Int32} {x_web_start_ : Int32} {x_web_fairPlaces_ : Int32} {x_web_weights_ : Nat → Int32} {x_snapshot_places_ : Int32} {x_snapshot_start_ : Int32} {x_snapshot_fairPlaces_ : Int32} {x_snapshot_weights_ : Nat → Int32} {x_history_size_ : Int32} {x_history_pl_ : Nat → Int32} {x_history_st_ : Nat → Int32} {x_history_fp_ : Nat → Int32} {x_history_wt_ : Nat → Nat → Int32} {x_text_length_ : Int32} {x_text_signs_ : Nat → Int32} {x_partings_places_ : Int32} {x_partings_end_ : Int32} {x_partings_leastWeight_ : Int32} {x_partings_leastCount_ : Int32} {x_partings_tightCount_ : Int32} {x_partings_weights_ : Nat → Int32} {x_partings_pulls_ : Nat → Int32} {x_partings_leastSets_ : Nat → Int32} {x_partings_tightPairs_ : Nat → Int32} {m_savedMany_ : Int32} {m_hasSnapshot_ : Int32} {m_length_ : Int32} {m_s_ : Nat → Int32} {m_saved_ : Nat → Int32} {m_snapshot_ : Nat → Int32} {m_text_ : Nat → Int32} (N : Nat) (hN : 600 ≤ N) (p1 : Int32) (h : Same x_web_places_ x_web_start_ x_web_fairPlaces_ x_web_weights_ m_s_ 0 ∧ HistR x_history_size_ x_history_pl_ x_history_st_ x_history_fp_ x_history_wt_ m_savedMany_ m_saved_ ∧ SnapR x_kept_ x_snapshot_places_ x_snapshot_start_ x_snapshot_fairPlaces_ x_snapshot_weights_ m_hasSnapshot_ m_snapshot_ ∧ TextR x_text_length_ x_text_signs_ m_length_ m_text_ ∧ Zero x_partings_weights_ x_partings_pulls_) : ∃ (r_ : Int32) (x_partings_places_' : Int32) (x_partings_end_' : Int32) (x_partings_leastWeight_' : Int32) (x_partings_leastCount_' : Int32) (x_partings_tightCount_' : Int32) (x_partings_weights_' : Nat → Int32) (x_partings_pulls_' : Nat → Int32) (x_partings_leastSets_' : Nat → Int32) (x_partings_tightPairs_' : Nat → Int32) (m_thrown_' : Int32), f_X5_count N p1 x_web_places_ x_web_start_ x_web_fairPlaces_ x_web_weights_ x_history_size_ x_text_length_ x_partings_places_ x_partings_end_ x_partings_leastWeight_ x_partings_leastCount_ x_partings_tightCount_ x_partings_weights_ x_partings_pulls_ x_partings_leastSets_ x_partings_tightPairs_ = some (r_, x_partings_places_', x_partings_end_', x_partings_leastWeight_', x_partings_leastCount_', x_partings_tightCount_', x_partings_weights_', x_partings_pulls_', x_partings_leastSets_', x_partings_tightPairs_') ∧ f_X6_count N p1 m_savedMany_ m_length_ m_s_ = some (r_, m_thrown_') ∧ (Same x_web_places_ x_web_start_ x_web_fairPlaces_ x_web_weights_ m_s_ 0 ∧ HistR x_history_size_ x_history_pl_ x_history_st_ x_history_fp_ x_history_wt_ m_savedMany_ m_saved_ ∧ SnapR x_kept_ x_snapshot_places_ x_snapshot_start_ x_snapshot_fairPlaces_ x_snapshot_weights_ m_hasSnapshot_ m_snapshot_ ∧ TextR x_text_length_ x_text_signs_ m_length_ m_text_ ∧ Zero x_partings_weights_' x_partings_pulls_') := by
  obtain ⟨h1, h2, h3, h4, h5⟩ := h
  have hS := h1
  obtain ⟨n, a, f, W, q1, q2, q3⟩ := h1
  have g2 := q1.1
  have g10 := q1.2.1
  have hW := q1.2.2.2.2.2.2.2.1
  have k1 := tc_n q2 q1 hN
  have k2 := aw_n q2 q1 hN
  have k5 := pcC q2 hW g10 hN
  rw [← q2.1] at k1 k2 k5
  have r1 := op_n q3 hW g10 hN 0 (on W) (Or.inl ⟨rfl, rfl⟩)
  have r2 := op_n q3 hW g10 hN 1 W (Or.inr ⟨by decide, rfl⟩)
  have r5 := pcR q3 q1.2.2.2.2.2.1 hW g10 hN
  have e9 : x_history_size_ = m_savedMany_ := by
    obtain ⟨m, -, z1, z2, -⟩ := h2
    rw [z1, z2]
  have e10 : x_text_length_ = m_length_ := by
    obtain ⟨m, -, z1, z2, -⟩ := h4
    rw [z1, z2]
  obtain ⟨y, x1, x2, x3, x4, x5, a6, a7, a8, a9, cp1, cp2, cp3⟩ := cpC q1 q2 q3 hN p1 x_partings_leastWeight_ x_partings_weights_ x_partings_pulls_ x_partings_leastSets_ x_partings_tightPairs_ h5
  unfold f_X5_count f_X6_count
  rw [k1, k2, k5, r1, r2, r5, cp1, q3.1, q3.2.1, q3.2.2.1, e9, e10, q2.1, q2.2.1, q2.2.2.1]
  rw [q2.1, q2.2.1, q2.2.2.1] at hS
  simp only [bd1_ok, bd10_ok]
  by_cases c0 : p1 = 0
  · rw [if_pos c0, if_pos c0]; exact ⟨_, _, _, _, _, _, _, _, _, _, _, rfl, rfl, hS, e9 ▸ h2, h3, e10 ▸ h4, h5⟩
  rw [if_neg c0, if_neg c0]
  by_cases c1 : p1 = 1
  · rw [if_pos c1, if_pos c1]; exact ⟨_, _, _, _, _, _, _, _, _, _, _, rfl, rfl, hS, e9 ▸ h2, h3, e10 ▸ h4, h5⟩
  rw [if_neg c1, if_neg c1]
  by_cases c2 : p1 = 2
  · rw [if_pos c2, if_pos c2]; exact ⟨_, _, _, _, _, _, _, _, _, _, _, rfl, rfl, hS, e9 ▸ h2, h3, e10 ▸ h4, h5⟩
  rw [if_neg c2, if_neg c2]
  by_cases c3 : p1 = 3
  · rw [if_pos c3] at cp3
    rw [if_pos c3, if_pos c3, cp3]; exact ⟨_, _, _, _, _, _, _, _, _, _, _, rfl, rfl, hS, e9 ▸ h2, h3, e10 ▸ h4, cp2⟩
  rw [if_neg c3] at cp3
  rw [if_neg c3, if_neg c3]
  by_cases c4 : p1 = 4
  · rw [if_pos c4] at cp3
    rw [if_pos c4, if_pos c4, cp3]; exact ⟨_, _, _, _, _, _, _, _, _, _, _, rfl, rfl, hS, e9 ▸ h2, h3, e10 ▸ h4, cp2⟩
  rw [if_neg c4] at cp3
  rw [if_neg c4, if_neg c4]
  by_cases c5 : p1 = 5
  · rw [if_pos c5, if_pos c5]; exact ⟨_, _, _, _, _, _, _, _, _, _, _, rfl, rfl, hS, e9 ▸ h2, h3, e10 ▸ h4, h5⟩
  rw [if_neg c5, if_neg c5]
  by_cases c6 : p1 = 6
  · rw [if_pos c6, if_pos c6]; exact ⟨_, _, _, _, _, _, _, _, _, _, _, rfl, rfl, hS, e9 ▸ h2, h3, e10 ▸ h4, h5⟩
  rw [if_neg c6, if_neg c6]
  by_cases c7 : p1 = 7
  · rw [if_pos c7, if_pos c7]; exact ⟨_, _, _, _, _, _, _, _, _, _, _, rfl, rfl, hS, e9 ▸ h2, h3, e10 ▸ h4, h5⟩
  rw [if_neg c7, if_neg c7]
  by_cases c8 : p1 = 8
  · rw [if_pos c8, if_pos c8, cp3]; exact ⟨_, _, _, _, _, _, _, _, _, _, _, rfl, rfl, hS, e9 ▸ h2, h3, e10 ▸ h4, cp2⟩
  rw [if_neg c8, if_neg c8]
  by_cases c9 : p1 = 9
  · rw [if_pos c9, if_pos c9]; exact ⟨_, _, _, _, _, _, _, _, _, _, _, rfl, rfl, hS, e9 ▸ h2, h3, e10 ▸ h4, h5⟩
  rw [if_neg c9, if_neg c9]
  by_cases c10 : p1 = 10
  · rw [if_pos c10, if_pos c10]; exact ⟨_, _, _, _, _, _, _, _, _, _, _, rfl, rfl, hS, e9 ▸ h2, h3, e10 ▸ h4, h5⟩
  rw [if_neg c10, if_neg c10]
  exact ⟨_, _, _, _, _, _, _, _, _, _, _, rfl, rfl, hS, e9 ▸ h2, h3, e10 ▸ h4, h5⟩
