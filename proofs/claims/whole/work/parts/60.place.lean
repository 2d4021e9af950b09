-- place: tight pairs of a place, its rank
def gp (p : Nat) : Nat → Bool := fun q => decide (q / 10 = p) || decide (q % 10 = p)
section PL
variable {n a f N v : Nat} {W : Nat → Nat → Nat} {s w : Nat → Int32} {pl st fp : Int32}
theorem ct_and (p g : Nat → Bool) : ∀ k, ct (fun q => p q && g q) k ≤ ct p k := ct_sub (fun i h => by
  rw [Bool.and_eq_true] at h; exact h.1)
theorem tp_n {wts ls tp : Nat → Int32} (hm : Meas n W wts ls tp v) (hN : 600 ≤ N) {p : Nat} (hp : p < 10) : f_X1_tightPairsOf N (nI p) (nI (ct (tQ n W v) 100)) tp = some (nI (ct (fun q => tQ n W v q && gp p q) 100)) := by
  have h45 : ct (tQ n W v) 100 ≤ 45 := tq_45 100 (Nat.le_refl _)
  have hT := hm.2.2.2
  have e0 : ct (fun q => tQ n W v q && (gp p q && decide (ct (tQ n W v) q < 0))) 100 = 0 := ct_zero (fun i _ => by simp)
  have eN : ct (fun q => tQ n W v q && (gp p q && decide (ct (tQ n W v) q < ct (tQ n W v) 100))) 100 = ct (fun q => tQ n W v q && gp p q) 100 := ct_congr (fun i hi => by
    cases h : tQ n W v i with
    | false => rfl
    | true => rw [decide_eq_true (ct_lt _ hi h)]; simp)
  unfold f_X1_tightPairsOf
  have key := up (fun m i => f_X1_tightPairsOf_L4 (nI (ct (tQ n W v) 100)) tp (nI p) (fun x7 => f_X1_tightPairsOf_E47 x7) m (nI (ct (fun q => tQ n W v q && (gp p q && decide (ct (tQ n W v) q < i))) 100)) (nI i)) (some (nI (ct (fun q => tQ n W v q && gp p q) 100))) (ct (tQ n W v) 100) (fun m i hi => ?_) (fun m => ?_) N 0 (by omega) (by omega)
  · rw [e0] at key
    exact key
  · show f_X1_tightPairsOf_L4 (nI (ct (tQ n W v) 100)) tp (nI p) _ (m + 1) (nI (ct (fun q => tQ n W v q && (gp p q && decide (ct (tQ n W v) q < i))) 100)) (nI i) = f_X1_tightPairsOf_L4 (nI (ct (tQ n W v) 100)) tp (nI p) _ m (nI (ct (fun q => tQ n W v q && (gp p q && decide (ct (tQ n W v) q < i + 1))) 100)) (nI (i + 1))
    obtain ⟨q, q1, q2, q3⟩ := ct_kth hi
    have ht := hT q q1 q2
    have ht2 : tp i = nI q := by rw [← q3]; exact ht
    rw [f_X1_tightPairsOf_L4, if_neg (nI_ge hi (by omega)), chk_n (by omega) (by omega), chk_n (by omega) (by omega), nI_clamp (by omega), ht2, l10, pk_rem (by omega) (by omega) (by omega), pk_div (by omega) (by omega) (by omega)]
    unfold f_X1_tightPairsOf_J41
    have step : (gp p q = true → ct (fun q => tQ n W v q && (gp p q && decide (ct (tQ n W v) q < i))) 100 + 1 = ct (fun q => tQ n W v q && (gp p q && decide (ct (tQ n W v) q < i + 1))) 100) ∧ (gp p q = false → ct (fun q => tQ n W v q && (gp p q && decide (ct (tQ n W v) q < i))) 100 = ct (fun q => tQ n W v q && (gp p q && decide (ct (tQ n W v) q < i + 1))) 100) := by
      have other : ∀ y, y ≠ q → (tQ n W v y && (gp p y && decide (ct (tQ n W v) y < i))) = (tQ n W v y && (gp p y && decide (ct (tQ n W v) y < i + 1))) := by
        intro y hy
        cases h : tQ n W v y with
        | false => rfl
        | true =>
          have : ct (tQ n W v) y ≠ i := fun e => hy (ct_inj h q2 (by rw [e, q3]))
          have : decide (ct (tQ n W v) y < i) = decide (ct (tQ n W v) y < i + 1) := by simp; omega
          rw [this]
      refine ⟨fun hg => ct_rem (x := q) ?_ ?_ other q1, fun hg => ct_congr (fun y _ => ?_)⟩
      · rw [q2, hg, q3]; simp
      · rw [q2, hg, q3]; simp
      · by_cases e : y = q
        · subst e; rw [hg]; simp
        · exact other y e
    by_cases c : q / 10 = p
    · have hg : gp p q = true := by unfold gp; simp [c]
      rw [if_pos (by rw [c]), l1, nI_add, nI_add, step.1 hg]
    · rw [if_neg (fun e => c (nI_inj (by omega) (by omega) e))]
      by_cases d : q % 10 = p
      · have hg : gp p q = true := by unfold gp; simp [d]
        rw [if_pos (by rw [d]), l1, nI_add, nI_add, step.1 hg]
      · have hg : gp p q = false := by unfold gp; simp [c, d]
        rw [if_neg (fun e => d (nI_inj (by omega) (by omega) e)), l1, nI_add, step.2 hg]
  · show f_X1_tightPairsOf_L4 (nI (ct (tQ n W v) 100)) tp (nI p) _ (m + 1) (nI _) (nI (ct (tQ n W v) 100)) = _
    rw [f_X1_tightPairsOf_L4, if_pos (nI_le (Nat.le_refl _) (by omega)), eN]
    rfl
theorem tm_p (h : RW s 0 n a f W) (hW : ∀ i j, W i j ≤ 99) (h2 : 2 ≤ n) (h10 : n ≤ 10) (hN : 600 ≤ N) (hv : IsMin (fun t => cut n W (2 * t)) (2 ^ (n - 1)) v) {p : Nat} (hp : p < 10) : f_X6_tightMany N (nI p) s = some (nI (ct (fun q => tQ n W v q && gp p q) 100)) := by
  refine tm_n h h10 hN _ _ (fun q hq => by rw [Bool.and_eq_true] at hq; exact tQ_p hq.1) (fun i j m S k hij hj => ?_)
  rw [f_X6_tightMany_L19, h.1, if_neg (nI_ge hj (by omega)), if_neg (bR_ne p (by omega))]
  unfold f_X6_tightMany_J63
  have e10 : gp p (10 * i + j) = (decide (i = p) || decide (j = p)) := by
    unfold gp
    rw [show (10 * i + j) / 10 = i by omega, show (10 * i + j) % 10 = j by omega]
  have hin : bd1 (f_X6_isTight N (nI i) (nI j) s) (fun r5 => if r5 = (0 : Int32) then f_X6_tightMany_L19 N s (nI p) (nI i) k m (nI S + 0) (nI j + 1) else f_X6_tightMany_L19 N s (nI p) (nI i) k m (nI S + 1) (nI j + 1)) = f_X6_tightMany_L19 N s (nI p) (nI i) k m (nI (S + if tQ n W v (10 * i + j) then 1 else 0)) (nI (j + 1)) := by
    rcases it_n h hW h2 h10 hN hv hij hj with ⟨c1, c2⟩ | ⟨c1, c2⟩
    · rw [c2]
      simp only [bd1_ok]
      rw [if_neg (show ¬ (1 : Int32) = 0 by decide), if_pos (show tQ n W v (10 * i + j) = true from tq_t (by omega) c1), l1, nI_add, nI_add]
    · rw [c2]
      simp only [bd1_ok]
      have z : tQ n W v (10 * i + j) = false := tq_f (by omega) c1
      rw [z, l0, l1]
      simp only [if_true]
      rw [nI_add, nI_add]
      rfl
  rw [hin, e10]
  by_cases c : i = p
  · rw [if_pos (by rw [c]), decide_eq_true c, Bool.true_or, Bool.and_true]
  · rw [if_neg (fun e => c (nI_inj (by omega) (by omega) e)), decide_eq_false c, Bool.false_or]
    by_cases d : j = p
    · rw [if_pos (by rw [d]), decide_eq_true d, Bool.and_true]
    · rw [if_neg (fun e => d (nI_inj (by omega) (by omega) e)), decide_eq_false d, Bool.and_false, l0, nI_add, l1, nI_add]
      rfl
theorem deg_n (hw : WF n a f W) {p : Nat} (hp : p < n) : cut n W (2 ^ p) = sm (fun j => W p j) n := by
  have := cut_or (b := 0) hw.2.2.2.2.2.1 hw.2.2.2.2.2.2.1 hp (Nat.zero_testBit p)
  rw [Nat.zero_or, pull_0, cut_0] at this
  omega
/-- the rank of a place in the first phase -/
theorem rank_ex (hw : WF n a f W) {p : Nat} (hp : p < n) : ∃ j, j < n ∧ Od n W a 0 j = p ∧ ∀ i, i < n → Od n W a 0 i = p → i = j := by
  have hP := mm_part (W := W) hw.1 hw.2.2.1 0 (by have := hw.1; omega)
  have hs := bit_ne (hP.nm hw.2.2.1).2
  have hx : mm n W a 0 p ≠ 0 := by
    show (if p < n then 2 ^ p else 0) ≠ 0
    rw [if_pos hp]; exact Nat.pos_iff_ne_zero.mp (Nat.two_pow_pos p)
  obtain ⟨j, j1, j2⟩ := od_sur (W := W) hP (by have := hw.1; omega) hs hx
  refine ⟨j, j1, j2, fun i hi e => ?_⟩
  rcases Nat.lt_trichotomy i j with c | c | c
  · exact absurd (by rw [j2]; exact e) (od_ne (W := W) hP hs c j1)
  · exact c
  · exact absurd (by rw [j2]; exact e.symm) (od_ne (W := W) hP hs c hi)
theorem frC {nm nn pa un : Nat → Int32} (hp : Ph n W a n nm nn pa un) (hw : WF n a f W) (hN : 600 ≤ N) {p j : Nat} (hpn : p < n) (hj : j < n) (hj2 : Od n W a 0 j = p) (hu : ∀ i, i < n → Od n W a 0 i = p → i = j) : f_X2_firstRankOf N (nI p) (nI n) nm = some (nI j) := by
  have h2 := hw.1
  have h10 := hw.2.1
  unfold f_X2_firstRankOf
  have key := up (fun m i => f_X2_firstRankOf_L4 (nI n) nm (nI p) (fun x8 => f_X2_firstRankOf_E30 x8) m (nI (if j < i then j else 0)) (nI i)) (some (nI j)) n (fun m i hi => ?_) (fun m => ?_) N 0 (by omega) (by omega)
  · rw [if_neg (by omega)] at key
    exact key
  · show f_X2_firstRankOf_L4 (nI n) nm (nI p) _ (m + 1) (nI (if j < i then j else 0)) (nI i) = f_X2_firstRankOf_L4 (nI n) nm (nI p) _ m (nI (if j < i + 1 then j else 0)) (nI (i + 1))
    have hO := (Od_alive (k := 0) hw (by omega) (show i < n - 0 from hi)).2
    have hnm := (hp 0 (by omega) (by omega)).1 i hi
    rw [f_X2_firstRankOf_L4, if_neg (nI_ge hi (by omega)), l0, nameAt_n (k := 0) (by omega) h10 hi, hnm]
    simp only [bd1_ok]
    unfold f_X2_firstRankOf_J24
    by_cases c : Od n W a 0 i = p
    · have := hu i hi c
      subst this
      rw [if_pos (by rw [c]), l1, nI_add, if_pos (by omega)]
    · have : i ≠ j := fun e => c (e ▸ hj2)
      rw [if_neg (fun e => c (nI_inj (by omega) (by omega) e)), l1, nI_add]
      by_cases d : j < i
      · rw [if_pos d, if_pos (by omega)]
      · rw [if_neg d, if_neg (by omega)]
  · show f_X2_firstRankOf_L4 (nI n) nm (nI p) _ (m + 1) (nI (if j < n then j else 0)) (nI n) = _
    rw [f_X2_firstRankOf_L4, if_pos (nI_le (Nat.le_refl _) (by omega)), if_pos hj]
    rfl
theorem rkR (h : RW s 0 n a f W) (hw : WF n a f W) (hN : 600 ≤ N) {p j : Nat} (hpn : p < n) (hj : j < n) (hj2 : Od n W a 0 j = p) (hu : ∀ i, i < n → Od n W a 0 i = p → i = j) (l0' o0 r0 : Nat → Int32) : ∃ (x1 x2 x3 : Int32) (lu o r : Nat → Int32), f_X6_rankOf N (nI p) s l0' o0 r0 = some (nI j, x1, x2, x3, lu, o, r) ∧ r j = nI (Nr n W a 0 j) := by
  have h2 := hw.1
  have h10 := hw.2.1
  obtain ⟨lu, o, r, e1, e2⟩ := lay_n (k := 0) h hw hN (by omega) l0' o0 r0
  unfold f_X6_rankOf
  rw [show (0 : Int32) = nI 0 from rfl, e1]
  simp only [bd6_ok]
  have ho : ∀ i, i < n → o i = nI (2 ^ Od n W a 0 i) := fun i hi => by
    rw [e2.2.1 i hi]
    have hO := (Od_alive (k := 0) hw (by omega) (show i < n - 0 from hi)).2
    show nI (if Od n W a 0 i < n then 2 ^ Od n W a 0 i else 0) = _
    rw [if_pos hO]
  refine ⟨nI (n - 0), nI (Pg n W a 0), nI (Wt n W a 0), lu, o, r, ?_, e2.2.2 j hj⟩
  refine up (fun m i => f_X6_rankOf_L7 o (nI p) (fun x11 => f_X6_rankOf_E25 (nI (n - 0)) (nI (Pg n W a 0)) (nI (Wt n W a 0)) lu o r x11) m (nI i)) _ j (fun m i hi => ?_) (fun m => ?_) N 0 (by omega) (by omega)
  · show f_X6_rankOf_L7 o (nI p) _ (m + 1) (nI i) = f_X6_rankOf_L7 o (nI p) _ m (nI (i + 1))
    have hO := (Od_alive (k := 0) hw (by omega) (show i < n - 0 by omega)).2
    have p1 := p2_10 (i := Od n W a 0 i) (by omega)
    have p2 := p2_10 (i := p) (by omega)
    rw [f_X6_rankOf_L7, chk_n (by omega) (by omega), nI_clamp (by omega), ho i (by omega), sh_1 p (by omega), if_neg (fun e => by
      have := p2_inj (nI_inj (by omega) (by omega) e)
      have := hu i (by omega) this
      omega), l1, nI_add]
  · show f_X6_rankOf_L7 o (nI p) _ (m + 1) (nI j) = _
    rw [f_X6_rankOf_L7, chk_n (by omega) (by omega), nI_clamp (by omega), ho j hj, sh_1 p (by omega), if_pos (by rw [hj2])]
    rfl
end PL
theorem eq_place {x_kept_ : Int32} {x_web_places_ : Int32} {x_web_start_ : Int32} {x_web_fairPlaces_ : Int32} {x_web_weights_ : Nat → Int32} {x_snapshot_places_ : Int32} {x_snapshot_start_ : Int32} {x_snapshot_fairPlaces_ : Int32} {x_snapshot_weights_ : Nat → Int32} {x_history_size_ : Int32} {x_history_pl_ : Nat → Int32} {x_history_st_ : Nat → Int32} {x_history_fp_ : Nat → Int32} {x_history_wt_ : Nat → Nat → Int32} {x_text_length_ : Int32} {x_text_signs_ : Nat → Int32} {x_phases_places_ : Int32} {x_phases_members_ : Nat → Int32} {x_phases_ties_ : Nat → Int32} {x_phases_nears_ : Nat → Int32} {x_phases_names_ : Nat → Int32} {x_phases_nearnesses_ : Nat → Int32} {x_phases_partings_ : Nat → Int32} {x_phases_unions_ : Nat → Int32} {x_partings_places_ : Int32} {x_partings_end_ : Int32} {x_partings_leastWeight_ : Int32} {x_partings_leastCount_ : Int32} {x_partings_tightCount_ : Int32} {x_partings_weights_ : Nat → Int32} {x_partings_pulls_ : Nat → Int32} {x_partings_leastSets_ : Nat → Int32} {x_partings_tightPairs_ : Nat → Int32} {m_savedMany_ : Int32} {m_hasSnapshot_ : Int32} {m_length_ : Int32} {m_lumpMany_ : Int32} {m_partingSet_ : Int32} {m_partingWeight_ : Int32} {m_s_ : Nat → Int32} {m_saved_ : Nat → Int32} {m_snapshot_ : Nat → Int32} {m_text_ : Nat → Int32} {m_lumps_ : Nat → Int32} {m_order_ : Nat → Int32} {m_nears_ : Nat → Int32} (N : Nat) (hN : 600 ≤ N) (p1 : Int32) (p2 : Int32) (h : Same x_web_places_ x_web_start_ x_web_fairPlaces_ x_web_weights_ m_s_ 0 ∧ HistR x_history_size_ x_history_pl_ x_history_st_ x_history_fp_ x_history_wt_ m_savedMany_ m_saved_ ∧ SnapR x_kept_ x_snapshot_places_ x_snapshot_start_ x_snapshot_fairPlaces_ x_snapshot_weights_ m_hasSnapshot_ m_snapshot_ ∧ TextR x_text_length_ x_text_signs_ m_length_ m_text_ ∧ Zero x_partings_weights_ x_partings_pulls_) : ∃ (r_ : Int32) (x_phases_places_' : Int32) (x_phases_members_' : Nat → Int32) (x_phases_ties_' : Nat → Int32) (x_phases_nears_' : Nat → Int32) (x_phases_names_' : Nat → Int32) (x_phases_nearnesses_' : Nat → Int32) (x_phases_partings_' : Nat → Int32) (x_phases_unions_' : Nat → Int32) (x_partings_places_' : Int32) (x_partings_end_' : Int32) (x_partings_leastWeight_' : Int32) (x_partings_leastCount_' : Int32) (x_partings_tightCount_' : Int32) (x_partings_weights_' : Nat → Int32) (x_partings_pulls_' : Nat → Int32) (x_partings_leastSets_' : Nat → Int32) (x_partings_tightPairs_' : Nat → Int32) (m_thrown_' : Int32) (m_lumpMany_' : Int32) (m_partingSet_' : Int32) (m_partingWeight_' : Int32) (m_lumps_' : Nat → Int32) (m_order_' : Nat → Int32) (m_nears_' : Nat → Int32), f_X5_place N p1 p2 x_web_places_ x_web_start_ x_web_weights_ x_phases_places_ x_phases_members_ x_phases_ties_ x_phases_nears_ x_phases_names_ x_phases_nearnesses_ x_phases_partings_ x_phases_unions_ x_partings_places_ x_partings_end_ x_partings_leastWeight_ x_partings_leastCount_ x_partings_tightCount_ x_partings_weights_ x_partings_pulls_ x_partings_leastSets_ x_partings_tightPairs_ = some (r_, x_phases_places_', x_phases_members_', x_phases_ties_', x_phases_nears_', x_phases_names_', x_phases_nearnesses_', x_phases_partings_', x_phases_unions_', x_partings_places_', x_partings_end_', x_partings_leastWeight_', x_partings_leastCount_', x_partings_tightCount_', x_partings_weights_', x_partings_pulls_', x_partings_leastSets_', x_partings_tightPairs_') ∧ f_X6_place N p1 p2 m_lumpMany_ m_partingSet_ m_partingWeight_ m_s_ m_lumps_ m_order_ m_nears_ = some (r_, m_thrown_', m_lumpMany_', m_partingSet_', m_partingWeight_', m_lumps_', m_order_', m_nears_') ∧ (Same x_web_places_ x_web_start_ x_web_fairPlaces_ x_web_weights_ m_s_ 0 ∧ HistR x_history_size_ x_history_pl_ x_history_st_ x_history_fp_ x_history_wt_ m_savedMany_ m_saved_ ∧ SnapR x_kept_ x_snapshot_places_ x_snapshot_start_ x_snapshot_fairPlaces_ x_snapshot_weights_ m_hasSnapshot_ m_snapshot_ ∧ TextR x_text_length_ x_text_signs_ m_length_ m_text_ ∧ Zero x_partings_weights_' x_partings_pulls_') := by
  obtain ⟨h1, h2, h3, h4, h5⟩ := h
  have hS := h1
  obtain ⟨n, a, f, W, q1, q2, q3⟩ := h1
  have g2 := q1.1
  have g10 := q1.2.1
  have hW := q1.2.2.2.2.2.2.2.1
  unfold f_X5_place f_X6_place
  rcases place_x p1 (by omega) g10 q3.1 with ⟨p, hp, rfl, e1, e2⟩ | ⟨-, e1, e2⟩
  · have k0 := weightsOf_n q2 g10 hN hp
    have k1 := nbC q2 hW g10 hN hp
    have k2 := rcC q2 hW g10 hN hp
    have r0 := wOf_n q3 hW g10 hN (b := 2 ^ p) (by have := p2_10 (i := p) (by omega); omega)
    rw [deg_n q1 hp] at r0
    have r1 := nbR q3 hW g10 hN hp
    have r2 := rcR q3 hW g10 hN hp
    rw [q2.1] at k0
    obtain ⟨v, wts, pls, ls, tp, m1, m2, m3⟩ := meas_n q2 q1 hN x_partings_leastWeight_ x_partings_weights_ x_partings_pulls_ x_partings_leastSets_ x_partings_tightPairs_ h5
    have k3 := tp_n (N := N) m2 hN (p := p) (by omega)
    have r3 := tm_p q3 hW g2 g10 hN m2.2.1 (p := p) (by omega)
    obtain ⟨j, j1, j2, j3⟩ := rank_ex q1 hp
    obtain ⟨m, t, r, nm, nn, pa, un, c1, c2⟩ := run_n q2 q1 hN x_phases_members_ x_phases_ties_ x_phases_nears_ x_phases_names_ x_phases_nearnesses_ x_phases_partings_ x_phases_unions_
    have c3 := frC (N := N) c2 q1 hN hp j1 j2 j3
    obtain ⟨y1, y2, y3, lu, o, rr, d1, d2⟩ := rkR q3 q1 hN hp j1 j2 j3 m_lumps_ m_order_ m_nears_
    have c4 := nearAt_n (k := 0) (by omega) g10 j1 nn
    rw [(c2 0 (by omega) (by omega)).2.1 j j1] at c4
    rw [q2.1] at m1 c1 hS ⊢
    rw [e1, e2, sh_1 p (by omega), k0, k1, k2, r0, r1, r2, r3, m1, c1, d1]
    simp only [bd1_ok, bd7_ok, bd8_ok, bd9_ok]
    rw [k3, c3]
    simp only [bd1_ok]
    rw [show f_X2_nearnessAt (0 : Int32) (nI j) (nI n) nn = _ from c4, chk_n (by omega) (by omega), nI_clamp (by omega), d2, if_neg (show ¬ (1 : Int32) = 0 by decide), if_neg (show ¬ (1 : Int32) = 0 by decide)]
    simp only [bd1_ok]
    by_cases b0 : p2 = 0
    · rw [if_pos b0, if_pos b0]; exact ⟨_, _, _, _, _, _, _, _, _, _, _, _, _, _, _, _, _, _, _, _, _, _, _, _, _, rfl, rfl, hS, h2, h3, h4, h5⟩
    rw [if_neg b0, if_neg b0]
    by_cases b1 : p2 = 1
    · rw [if_pos b1, if_pos b1]; exact ⟨_, _, _, _, _, _, _, _, _, _, _, _, _, _, _, _, _, _, _, _, _, _, _, _, _, rfl, rfl, hS, h2, h3, h4, h5⟩
    rw [if_neg b1, if_neg b1]
    by_cases b2 : p2 = 2
    · rw [if_pos b2, if_pos b2]; exact ⟨_, _, _, _, _, _, _, _, _, _, _, _, _, _, _, _, _, _, _, _, _, _, _, _, _, rfl, rfl, hS, h2, h3, h4, h5⟩
    rw [if_neg b2, if_neg b2]
    by_cases b3 : p2 = 3
    · rw [if_pos b3, if_pos b3]; exact ⟨_, _, _, _, _, _, _, _, _, _, _, _, _, _, _, _, _, _, _, _, _, _, _, _, _, rfl, rfl, hS, h2, h3, h4, m3⟩
    rw [if_neg b3, if_neg b3]
    by_cases b4 : p2 = 4
    · rw [if_pos b4, if_pos b4]; exact ⟨_, _, _, _, _, _, _, _, _, _, _, _, _, _, _, _, _, _, _, _, _, _, _, _, _, rfl, rfl, hS, h2, h3, h4, h5⟩
    rw [if_neg b4, if_neg b4]
    by_cases b5 : p2 = 5
    · rw [if_pos b5, if_pos b5]; exact ⟨_, _, _, _, _, _, _, _, _, _, _, _, _, _, _, _, _, _, _, _, _, _, _, _, _, rfl, rfl, hS, h2, h3, h4, h5⟩
    rw [if_neg b5, if_neg b5]
    exact ⟨_, _, _, _, _, _, _, _, _, _, _, _, _, _, _, _, _, _, _, _, _, _, _, _, _, rfl, rfl, hS, h2, h3, h4, h5⟩
  · rw [q2.1, e1, e2, ← q2.1]
    simp only [bd1_ok]
    exact ⟨_, _, _, _, _, _, _, _, _, _, _, _, _, _, _, _, _, _, _, _, _, _, _, _, _, rfl, rfl, hS, h2, h3, h4, h5⟩
