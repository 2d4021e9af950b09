-- strengthen: both look for the first pair that the parting parts and that may be tied more strongly
def Good (W : Nat → Nat → Nat) (S i j : Nat) : Prop := S.testBit i ≠ S.testBit j ∧ 1 ≤ W i j ∧ W i j ≤ 98
section ST
variable {n a f N : Nat} {W : Nat → Nat → Nat} {s : Nat → Int32} {pl st fp : Int32} {w : Nat → Int32}
theorem st_in (q2 : CW pl st fp w n a f W) (q3 : RW s 0 n a f W) (q1 : WF n a f W) (hN : 600 ≤ N) {S : Nat} (hS : S < 2 ^ n) (hs : Int32) (ha hb : Nat → Nat) (hp ht hf : Nat → Int32) (hwt : Nat → Nat → Int32) (x1 : Int32) (a2 a3 a4 a5 a6 a7 a8 : Nat → Int32) (sm' : Int32) (sv : Nat → Int32) (y2 y3 y4 : Int32) (b5 b6 b7 : Nat → Int32) {i : Nat} (hi : i < n) (k24 : _) (k17 : _) : (∃ j, i < j ∧ j < n ∧ Good W S i j ∧ f_X5_strengthen_L43 (nI n) (nI i) w (nI S) hs ha hb hp ht hf hwt st fp x1 a2 a3 a4 a5 a6 a7 a8 k24 N (nI (i + 1)) = bd7 (f_X0_remember hs ha hb hp ht hf hwt (nI n) st fp w) (fun x15 a16 a17 a18 a19 a20 a21 => bd1 (f_X4_bind (nI i) (nI j) (nI (W i j + 1)) (nI n) w) (fun a22 => bd1 (f_X5_pairNumber (nI i) (nI j)) (fun r23 => some (r23, a22, x15, a16, a17, a18, a19, a20, a21, x1, a2, a3, a4, a5, a6, a7, a8)))) ∧ f_X6_strengthen_L26 N s (nI S) (nI i) sm' sv y2 y3 y4 b5 b6 b7 k17 N (nI (i + 1)) = bd2 (f_X6_records N sm' s sv) (fun x13 a14 => bd1 (f_X6_ties (nI i) (nI j) (nI (W i j + 1)) s) (fun a16 => some ((((10 : Int32) * nI i) + nI j), (0 : Int32), x13, y2, y3, y4, a16, a14, b5, b6, b7)))) ∨ (f_X5_strengthen_L43 (nI n) (nI i) w (nI S) hs ha hb hp ht hf hwt st fp x1 a2 a3 a4 a5 a6 a7 a8 k24 N (nI (i + 1)) = k24 ∧ f_X6_strengthen_L26 N s (nI S) (nI i) sm' sv y2 y3 y4 b5 b6 b7 k17 N (nI (i + 1)) = k17) := by
  have h10 := q1.2.1
  have hn2 : 2 ^ n ≤ 1024 := p2_10 h10
  have hW := q1.2.2.2.2.2.2.2.1
  refine upe (σ := Unit) (fun m j _ => (f_X5_strengthen_L43 (nI n) (nI i) w (nI S) hs ha hb hp ht hf hwt st fp x1 a2 a3 a4 a5 a6 a7 a8 k24 m (nI j), f_X6_strengthen_L26 N s (nI S) (nI i) sm' sv y2 y3 y4 b5 b6 b7 k17 m (nI j))) (fun j _ => i + 1 ≤ j) n (fun x => (∃ j, i < j ∧ j < n ∧ Good W S i j ∧ x.1 = bd7 (f_X0_remember hs ha hb hp ht hf hwt (nI n) st fp w) (fun x15 a16 a17 a18 a19 a20 a21 => bd1 (f_X4_bind (nI i) (nI j) (nI (W i j + 1)) (nI n) w) (fun a22 => bd1 (f_X5_pairNumber (nI i) (nI j)) (fun r23 => some (r23, a22, x15, a16, a17, a18, a19, a20, a21, x1, a2, a3, a4, a5, a6, a7, a8)))) ∧ x.2 = bd2 (f_X6_records N sm' s sv) (fun x13 a14 => bd1 (f_X6_ties (nI i) (nI j) (nI (W i j + 1)) s) (fun a16 => some ((((10 : Int32) * nI i) + nI j), (0 : Int32), x13, y2, y3, y4, a16, a14, b5, b6, b7)))) ∨ (x.1 = k24 ∧ x.2 = k17)) (fun m j _ hj hI => ?_) (fun m _ hI => ?_) N (i + 1) () (by omega) (by omega) (Nat.le_refl _)
  · have hwb := hW i j
    have ht' := tieOf_w q2 h10 hi hj
    rw [q2.1] at ht'
    rw [f_X5_strengthen_L43, f_X6_strengthen_L26, if_neg (nI_ge hj (by omega)), q3.1, if_neg (nI_ge hj (by omega)), ht', parts_n (by omega) (by omega), bt_r (by omega) (by omega), bt_r (by omega) (by omega)]
    simp only [bd1_ok]
    unfold f_X6_strengthen_J54
    rw [tied_w q3 (by omega) (by omega)]
    simp only [bd1_ok]
    by_cases c : S.testBit i = S.testBit j
    · rw [if_pos c, if_pos (show (0 : Int32) = 0 from rfl), if_pos (by rw [c])]
      simp only [if_true]
      rw [l1, nI_add]
      exact Or.inr ⟨(), by omega, rfl⟩
    · rw [if_neg c, if_neg (show ¬ (1 : Int32) = 0 by decide), if_neg (show ¬ nI (if S.testBit i = true then 1 else 0) = nI (if S.testBit j = true then 1 else 0) from fun e => by
        cases x : S.testBit i <;> cases y : S.testBit j <;> rw [x, y] at e c <;> first | exact c rfl | exact absurd e (by decide)), if_neg (show ¬ (1 : Int32) = 0 by decide)]
      rw [show f_X6_in (nI (W i j)) (1 : Int32) (98 : Int32) = f_X6_in (nI (W i j)) (nI 1) (nI 98) from rfl]
      rcases in_n (nI (W i j)) (a := 1) (b := 98) (by omega) (by omega) with ⟨x, x1', x2', x3', e⟩ | ⟨x1', e⟩
      · have := nI_inj (by omega) (by omega) x3'
        subst this
        rw [e]
        simp only [bd1_ok]
        rw [if_neg (show ¬ (1 : Int32) = 0 by decide), l1, nI_add, nI_add, l99, if_neg (nI_nlt (by omega) (by omega)), if_neg (nI_ge (by omega) (by omega))]
        exact Or.inl (Or.inl ⟨j, by omega, hj, ⟨c, x1', x2'⟩, rfl, rfl⟩)
      · rw [e]
        simp only [bd1_ok, if_true]
        have hno : ¬ (1 ≤ W i j ∧ W i j ≤ 98) := fun q => x1' _ q.1 q.2 rfl
        rw [l1, nI_add, l99]
        by_cases d : W i j = 0
        · rw [if_pos (nI_lt (by omega) (by omega))]
          exact Or.inr ⟨(), by omega, rfl⟩
        · rw [if_neg (nI_nlt (by omega) (by omega)), if_pos (nI_le (by omega) (by omega))]
          exact Or.inr ⟨(), by omega, rfl⟩
  · rw [f_X5_strengthen_L43, f_X6_strengthen_L26, if_pos (nI_le (Nat.le_refl _) (by omega)), q3.1, if_pos (nI_le (Nat.le_refl _) (by omega))]
    exact Or.inr ⟨rfl, rfl⟩
theorem st_out (q2 : CW pl st fp w n a f W) (q3 : RW s 0 n a f W) (q1 : WF n a f W) (hN : 600 ≤ N) {S : Nat} (hS : S < 2 ^ n) (hs : Int32) (ha hb : Nat → Nat) (hp ht hf : Nat → Int32) (hwt : Nat → Nat → Int32) (x1 : Int32) (a2 a3 a4 a5 a6 a7 a8 : Nat → Int32) (sm' : Int32) (sv : Nat → Int32) (y2 y3 y4 : Int32) (b5 b6 b7 : Nat → Int32) (k27 : _) (k20 : _) : (∃ i j, i < j ∧ j < n ∧ Good W S i j ∧ f_X5_strengthen_L28 N (nI n) w (nI S) hs ha hb hp ht hf hwt st fp x1 a2 a3 a4 a5 a6 a7 a8 k27 N (nI 0) = bd7 (f_X0_remember hs ha hb hp ht hf hwt (nI n) st fp w) (fun x15 a16 a17 a18 a19 a20 a21 => bd1 (f_X4_bind (nI i) (nI j) (nI (W i j + 1)) (nI n) w) (fun a22 => bd1 (f_X5_pairNumber (nI i) (nI j)) (fun r23 => some (r23, a22, x15, a16, a17, a18, a19, a20, a21, x1, a2, a3, a4, a5, a6, a7, a8)))) ∧ f_X6_strengthen_L12 N s (nI S) sm' sv y2 y3 y4 b5 b6 b7 k20 N (nI 0) = bd2 (f_X6_records N sm' s sv) (fun x13 a14 => bd1 (f_X6_ties (nI i) (nI j) (nI (W i j + 1)) s) (fun a16 => some ((((10 : Int32) * nI i) + nI j), (0 : Int32), x13, y2, y3, y4, a16, a14, b5, b6, b7)))) ∨ (f_X5_strengthen_L28 N (nI n) w (nI S) hs ha hb hp ht hf hwt st fp x1 a2 a3 a4 a5 a6 a7 a8 k27 N (nI 0) = k27 ∧ f_X6_strengthen_L12 N s (nI S) sm' sv y2 y3 y4 b5 b6 b7 k20 N (nI 0) = k20) := by
  have h10 := q1.2.1
  refine upe (σ := Unit) (fun m i _ => (f_X5_strengthen_L28 N (nI n) w (nI S) hs ha hb hp ht hf hwt st fp x1 a2 a3 a4 a5 a6 a7 a8 k27 m (nI i), f_X6_strengthen_L12 N s (nI S) sm' sv y2 y3 y4 b5 b6 b7 k20 m (nI i))) (fun _ _ => True) n (fun x => (∃ i j, i < j ∧ j < n ∧ Good W S i j ∧ x.1 = bd7 (f_X0_remember hs ha hb hp ht hf hwt (nI n) st fp w) (fun x15 a16 a17 a18 a19 a20 a21 => bd1 (f_X4_bind (nI i) (nI j) (nI (W i j + 1)) (nI n) w) (fun a22 => bd1 (f_X5_pairNumber (nI i) (nI j)) (fun r23 => some (r23, a22, x15, a16, a17, a18, a19, a20, a21, x1, a2, a3, a4, a5, a6, a7, a8)))) ∧ x.2 = bd2 (f_X6_records N sm' s sv) (fun x13 a14 => bd1 (f_X6_ties (nI i) (nI j) (nI (W i j + 1)) s) (fun a16 => some ((((10 : Int32) * nI i) + nI j), (0 : Int32), x13, y2, y3, y4, a16, a14, b5, b6, b7)))) ∨ (x.1 = k27 ∧ x.2 = k20)) (fun m i _ hi hI => ?_) (fun m _ hI => ?_) N 0 () (by omega) (by omega) trivial
  · rw [f_X5_strengthen_L28, f_X6_strengthen_L12, if_neg (nI_ge hi (by omega)), q3.1, if_neg (nI_ge hi (by omega)), l1, nI_add]
    rcases st_in q2 q3 q1 hN hS hs ha hb hp ht hf hwt x1 a2 a3 a4 a5 a6 a7 a8 sm' sv y2 y3 y4 b5 b6 b7 hi (f_X5_strengthen_E123 (f_X5_strengthen_L28 N (nI n) w (nI S) hs ha hb hp ht hf hwt st fp x1 a2 a3 a4 a5 a6 a7 a8 k27 m) (nI i)) (f_X6_strengthen_E107 (f_X6_strengthen_L12 N s (nI S) sm' sv y2 y3 y4 b5 b6 b7 k20 m) (nI i)) with ⟨j, z1, z2, z3, z4, z5⟩ | ⟨z4, z5⟩
    · rw [z4, z5]
      exact Or.inl (Or.inl ⟨i, j, z1, z2, z3, rfl, rfl⟩)
    · rw [z4, z5]
      unfold f_X5_strengthen_E123 f_X6_strengthen_E107
      rw [l1, nI_add]
      exact Or.inr ⟨(), trivial, rfl⟩
  · rw [f_X5_strengthen_L28, f_X6_strengthen_L12, if_pos (nI_le (Nat.le_refl _) (by omega)), q3.1, if_pos (nI_le (Nat.le_refl _) (by omega))]
    exact Or.inr ⟨rfl, rfl⟩
end ST
theorem eq_strengthen {x_kept_ : Int32} {x_web_places_ : Int32} {x_web_start_ : Int32} {x_web_fairPlaces_ : Int32} {x_web_weights_ : Nat → Int32} {x_snapshot_places_ : Int32} {x_snapshot_start_ : Int32} {x_snapshot_fairPlaces_ : Int32} {x_snapshot_weights_ : Nat → Int32} {x_history_size_ : Int32} {x_history_ha_ : Nat → Nat} {x_history_hb_ : Nat → Nat} {x_history_pl_ : Nat → Int32} {x_history_st_ : Nat → Int32} {x_history_fp_ : Nat → Int32} {x_history_wt_ : Nat → Nat → Int32} {x_text_length_ : Int32} {x_text_signs_ : Nat → Int32} {x_phases_members_ : Nat → Int32} {x_phases_ties_ : Nat → Int32} {x_phases_nears_ : Nat → Int32} {x_phases_names_ : Nat → Int32} {x_phases_nearnesses_ : Nat → Int32} {x_phases_partings_ : Nat → Int32} {x_phases_unions_ : Nat → Int32} {x_partings_weights_ : Nat → Int32} {x_partings_pulls_ : Nat → Int32} {m_savedMany_ : Int32} {m_hasSnapshot_ : Int32} {m_length_ : Int32} {m_s_ : Nat → Int32} {m_saved_ : Nat → Int32} {m_snapshot_ : Nat → Int32} {m_text_ : Nat → Int32} {m_lumps_ : Nat → Int32} {m_order_ : Nat → Int32} {m_nears_ : Nat → Int32} (N : Nat) (hN : 600 ≤ N) (h : Same x_web_places_ x_web_start_ x_web_fairPlaces_ x_web_weights_ m_s_ 0 ∧ HistR x_history_size_ x_history_pl_ x_history_st_ x_history_fp_ x_history_wt_ m_savedMany_ m_saved_ ∧ SnapR x_kept_ x_snapshot_places_ x_snapshot_start_ x_snapshot_fairPlaces_ x_snapshot_weights_ m_hasSnapshot_ m_snapshot_ ∧ TextR x_text_length_ x_text_signs_ m_length_ m_text_ ∧ Zero x_partings_weights_ x_partings_pulls_) : ∃ (r_ : Int32) (x_web_weights_' : Nat → Int32) (x_history_size_' : Int32) (x_history_ha_' : Nat → Nat) (x_history_hb_' : Nat → Nat) (x_history_pl_' : Nat → Int32) (x_history_st_' : Nat → Int32) (x_history_fp_' : Nat → Int32) (x_history_wt_' : Nat → Nat → Int32) (x_phases_places_' : Int32) (x_phases_members_' : Nat → Int32) (x_phases_ties_' : Nat → Int32) (x_phases_nears_' : Nat → Int32) (x_phases_names_' : Nat → Int32) (x_phases_nearnesses_' : Nat → Int32) (x_phases_partings_' : Nat → Int32) (x_phases_unions_' : Nat → Int32) (m_thrown_' : Int32) (m_savedMany_' : Int32) (m_lumpMany_' : Int32) (m_partingSet_' : Int32) (m_partingWeight_' : Int32) (m_s_' : Nat → Int32) (m_saved_' : Nat → Int32) (m_lumps_' : Nat → Int32) (m_order_' : Nat → Int32) (m_nears_' : Nat → Int32), f_X5_strengthen N x_web_places_ x_web_start_ x_web_fairPlaces_ x_web_weights_ x_history_size_ x_history_ha_ x_history_hb_ x_history_pl_ x_history_st_ x_history_fp_ x_history_wt_ x_phases_members_ x_phases_ties_ x_phases_nears_ x_phases_names_ x_phases_nearnesses_ x_phases_partings_ x_phases_unions_ = some (r_, x_web_weights_', x_history_size_', x_history_ha_', x_history_hb_', x_history_pl_', x_history_st_', x_history_fp_', x_history_wt_', x_phases_places_', x_phases_members_', x_phases_ties_', x_phases_nears_', x_phases_names_', x_phases_nearnesses_', x_phases_partings_', x_phases_unions_') ∧ f_X6_strengthen N m_savedMany_ m_s_ m_saved_ m_lumps_ m_order_ m_nears_ = some (r_, m_thrown_', m_savedMany_', m_lumpMany_', m_partingSet_', m_partingWeight_', m_s_', m_saved_', m_lumps_', m_order_', m_nears_') ∧ (Same x_web_places_ x_web_start_ x_web_fairPlaces_ x_web_weights_' m_s_' 0 ∧ HistR x_history_size_' x_history_pl_' x_history_st_' x_history_fp_' x_history_wt_' m_savedMany_' m_saved_' ∧ SnapR x_kept_ x_snapshot_places_ x_snapshot_start_ x_snapshot_fairPlaces_ x_snapshot_weights_ m_hasSnapshot_ m_snapshot_ ∧ TextR x_text_length_ x_text_signs_ m_length_ m_text_ ∧ Zero x_partings_weights_ x_partings_pulls_) := by
  obtain ⟨h1, h2, h3, h4, h5⟩ := h
  have hS := h1
  obtain ⟨n, a, f, W, q1, q2, q3⟩ := h1
  have g2 := q1.1
  have g10 := q1.2.1
  have hW := q1.2.2.2.2.2.2.2.1
  have hb := bl_le (Wt n W a) (n - 2)
  obtain ⟨m, t, r, nm, nn, pa, un, r1, r2⟩ := run_n q2 q1 hN x_phases_members_ x_phases_ties_ x_phases_nears_ x_phases_names_ x_phases_nearnesses_ x_phases_partings_ x_phases_unions_
  have r3 := lphC (N := N) r2 hW g2 g10 hN
  obtain ⟨p3, -⟩ := pOf_n (k := bl (Wt n W a) (n - 2)) r2 g10 (by omega)
  obtain ⟨z2, z3, z4, lu', o', rr', e2⟩ := lbpR q3 q1 hN m_lumps_ m_order_ m_nears_
  have hpl := Pg_lt (k := bl (Wt n W a) (n - 2)) q1 (by omega)
  unfold f_X5_strengthen f_X6_strengthen
  rw [r1, e2]
  simp only [bd8_ok, bd7_ok]
  rw [r3]
  simp only [bd1_ok]
  rw [p3]
  simp only [bd1_ok]
  rw [q2.1]
  rw [q2.1] at hS
  rcases st_out (N := N) (pl := x_web_places_) (st := x_web_start_) (fp := x_web_fairPlaces_) q2 q3 q1 hN hpl x_history_size_ x_history_ha_ x_history_hb_ x_history_pl_ x_history_st_ x_history_fp_ x_history_wt_ (nI n) m t r nm nn pa un m_savedMany_ m_saved_ z2 z3 z4 lu' o' rr' (f_X5_strengthen_E129 x_web_weights_ x_history_size_ x_history_ha_ x_history_hb_ x_history_pl_ x_history_st_ x_history_fp_ x_history_wt_ (nI n) m t r nm nn pa un) (f_X6_strengthen_E113 m_savedMany_ z2 z3 z4 m_s_ m_saved_ lu' o' rr') with ⟨i, j, hij, hj, hg, w1, w2⟩ | ⟨w1, w2⟩
  · rw [l0, w1, w2]
    obtain ⟨z, ha', hb', pl', st', fp', wt', many', saved', v1, v2, v3⟩ := hist_rec hN x_history_ha_ x_history_hb_ h2 hS
    rw [v1, v2]
    simp only [bd7_ok, bd2_ok]
    rw [bind_n (by omega) hj g10, ties_n (by omega) (by omega)]
    simp only [bd1_ok]
    unfold f_X5_pairNumber
    simp only [bd1_ok]
    have hk := hg.2.2
    refine ⟨_, _, _, _, _, _, _, _, _, _, _, _, _, _, _, _, _, _, _, _, _, _, _, _, _, _, _, rfl, rfl, ⟨n, a, f, setW W i j (W i j + 1), setW_wf q1 (by omega) hj (by omega) (by omega), by rw [← q2.1]; exact setW_cw q2 g10 (by omega) hj, setW_rw q3 (by omega) (by omega)⟩, v3, h3, h4, h5⟩
  · rw [l0, w1, w2]
    unfold f_X5_strengthen_E129 f_X6_strengthen_E113
    exact ⟨_, _, _, _, _, _, _, _, _, _, _, _, _, _, _, _, _, _, _, _, _, _, _, _, _, _, _, rfl, rfl, hS, h2, h3, h4, h5⟩
