-- tie, grow, set
def setW (W : Nat → Nat → Nat) (i j k : Nat) : Nat → Nat → Nat := fun a b => if (a = i ∧ b = j) ∨ (a = j ∧ b = i) then k else W a b
theorem upd2_c {w : Nat → Int32} {i j a b : Nat} {v : Int32} (hi : i < 10) (hj : j < 10) (ha : a < 10) (hb : b < 10) : upd (upd w (10 * i + j) v) (10 * j + i) v (10 * a + b) = if (a = i ∧ b = j) ∨ (a = j ∧ b = i) then v else w (10 * a + b) := by
  unfold upd
  by_cases h1 : a = j ∧ b = i
  · rw [if_pos (by omega), if_pos (Or.inr h1)]
  · rw [if_neg (by omega)]
    by_cases h2 : a = i ∧ b = j
    · rw [if_pos (by omega), if_pos (Or.inl h2)]
    · rw [if_neg (by omega), if_neg (by omega)]
theorem upd2_r {w : Nat → Int32} {i j a b : Nat} {v : Int32} (hi : i < 10) (hj : j < 10) (ha : a < 10) (hb : b < 10) : upd (upd w (3 + 10 * i + j) v) (3 + 10 * j + i) v (3 + 10 * a + b) = if (a = i ∧ b = j) ∨ (a = j ∧ b = i) then v else w (3 + 10 * a + b) := by
  unfold upd
  by_cases h1 : a = j ∧ b = i
  · rw [if_pos (by omega), if_pos (Or.inr h1)]
  · rw [if_neg (by omega)]
    by_cases h2 : a = i ∧ b = j
    · rw [if_pos (by omega), if_pos (Or.inl h2)]
    · rw [if_neg (by omega), if_neg (by omega)]
theorem upd2_lo {w : Nat → Int32} {i j q : Nat} {v : Int32} (hq : q < 3) : upd (upd w (3 + 10 * i + j) v) (3 + 10 * j + i) v q = w q := by
  rw [upd_ne _ _ (by omega), upd_ne _ _ (by omega)]
theorem setW_wf {n a f i j k : Nat} {W : Nat → Nat → Nat} (h : WF n a f W) (hi : i < n) (hj : j < n) (hij : i ≠ j) (hk : k ≤ 99) : WF n a f (setW W i j k) := by
  obtain ⟨h1, h2, h3, h4, h5, h6, h7, h8, h9⟩ := h
  refine ⟨h1, h2, h3, h4, h5, fun x y => ?_, fun x => ?_, fun x y => ?_, fun x y hx => ?_⟩
  · unfold setW
    by_cases c : (x = i ∧ y = j) ∨ (x = j ∧ y = i)
    · rw [if_pos c, if_pos (by omega)]
    · rw [if_neg c, if_neg (by omega)]; exact h6 x y
  · unfold setW; rw [if_neg (by omega)]; exact h7 x
  · unfold setW; split
    · exact hk
    · exact h8 x y
  · unfold setW; rw [if_neg (by omega)]; exact h9 x y hx
theorem setW_cw {pl st fp : Int32} {w : Nat → Int32} {n a f i j k : Nat} {W : Nat → Nat → Nat} (h : CW pl st fp w n a f W) (hn : n ≤ 10) (hi : i < n) (hj : j < n) : CW pl st fp (upd (upd w (10 * i + j) (nI k)) (10 * j + i) (nI k)) n a f (setW W i j k) := by
  refine ⟨h.1, h.2.1, h.2.2.1, fun x y hx hy => ?_⟩
  rw [upd2_c (by omega) (by omega) (by omega) (by omega)]
  unfold setW
  split
  · rfl
  · exact h.2.2.2 x y hx hy
theorem setW_rw {s : Nat → Int32} {n a f i j k : Nat} {W : Nat → Nat → Nat} (h : RW s 0 n a f W) (hi : i < 10) (hj : j < 10) : RW (upd (upd s (3 + 10 * i + j) (nI k)) (3 + 10 * j + i) (nI k)) 0 n a f (setW W i j k) := by
  refine ⟨?_, ?_, ?_, fun x y hx hy => ?_⟩
  · rw [upd2_lo (by omega)]; exact h.1
  · rw [upd2_lo (by omega)]; exact h.2.1
  · rw [upd2_lo (by omega)]; exact h.2.2.1
  · rw [show 0 + 3 + 10 * x + y = 3 + 10 * x + y by omega, upd2_r (by omega) (by omega) (by omega) (by omega)]
    unfold setW
    split
    · rfl
    · exact RW0 h hx hy
theorem eq_tie {x_kept_ : Int32} {x_web_places_ : Int32} {x_web_start_ : Int32} {x_web_fairPlaces_ : Int32} {x_web_weights_ : Nat → Int32} {x_snapshot_places_ : Int32} {x_snapshot_start_ : Int32} {x_snapshot_fairPlaces_ : Int32} {x_snapshot_weights_ : Nat → Int32} {x_history_size_ : Int32} {x_history_ha_ : Nat → Nat} {x_history_hb_ : Nat → Nat} {x_history_pl_ : Nat → Int32} {x_history_st_ : Nat → Int32} {x_history_fp_ : Nat → Int32} {x_history_wt_ : Nat → Nat → Int32} {x_text_length_ : Int32} {x_text_signs_ : Nat → Int32} {x_partings_weights_ : Nat → Int32} {x_partings_pulls_ : Nat → Int32} {m_savedMany_ : Int32} {m_hasSnapshot_ : Int32} {m_length_ : Int32} {m_s_ : Nat → Int32} {m_saved_ : Nat → Int32} {m_snapshot_ : Nat → Int32} {m_text_ : Nat → Int32} (N : Nat) (hN : 600 ≤ N) (p1 : Int32) (p2 : Int32) (p3 : Int32) (h : Same x_web_places_ x_web_start_ x_web_fairPlaces_ x_web_weights_ m_s_ 0 ∧ HistR x_history_size_ x_history_pl_ x_history_st_ x_history_fp_ x_history_wt_ m_savedMany_ m_saved_ ∧ SnapR x_kept_ x_snapshot_places_ x_snapshot_start_ x_snapshot_fairPlaces_ x_snapshot_weights_ m_hasSnapshot_ m_snapshot_ ∧ TextR x_text_length_ x_text_signs_ m_length_ m_text_ ∧ Zero x_partings_weights_ x_partings_pulls_) : ∃ (r_ : Int32) (x_web_weights_' : Nat → Int32) (x_history_size_' : Int32) (x_history_ha_' : Nat → Nat) (x_history_hb_' : Nat → Nat) (x_history_pl_' : Nat → Int32) (x_history_st_' : Nat → Int32) (x_history_fp_' : Nat → Int32) (x_history_wt_' : Nat → Nat → Int32) (m_thrown_' : Int32) (m_savedMany_' : Int32) (m_s_' : Nat → Int32) (m_saved_' : Nat → Int32), f_X5_tie p1 p2 p3 x_web_places_ x_web_start_ x_web_fairPlaces_ x_web_weights_ x_history_size_ x_history_ha_ x_history_hb_ x_history_pl_ x_history_st_ x_history_fp_ x_history_wt_ = some (r_, x_web_weights_', x_history_size_', x_history_ha_', x_history_hb_', x_history_pl_', x_history_st_', x_history_fp_', x_history_wt_') ∧ f_X6_tie N p1 p2 p3 m_savedMany_ m_s_ m_saved_ = some (r_, m_thrown_', m_savedMany_', m_s_', m_saved_') ∧ (Same x_web_places_ x_web_start_ x_web_fairPlaces_ x_web_weights_' m_s_' 0 ∧ HistR x_history_size_' x_history_pl_' x_history_st_' x_history_fp_' x_history_wt_' m_savedMany_' m_saved_' ∧ SnapR x_kept_ x_snapshot_places_ x_snapshot_start_ x_snapshot_fairPlaces_ x_snapshot_weights_ m_hasSnapshot_ m_snapshot_ ∧ TextR x_text_length_ x_text_signs_ m_length_ m_text_ ∧ Zero x_partings_weights_ x_partings_pulls_) := by
  obtain ⟨h1, h2, h3, h4, h5⟩ := h
  have hS := h1
  obtain ⟨n, a, f, W, q1, q2, q3⟩ := h1
  have hs : m_s_ 0 = nI n := q3.1
  have h10 := q1.2.1
  unfold f_X5_tie f_X6_tie
  rcases tie_x p1 p2 p3 (by have := q1.1; omega) q1.2.1 hs with ⟨i, j, k, hi, hj, hij, hk, rfl, rfl, rfl, e1, e2⟩ | ⟨e, he, e1, e2⟩
  · rw [q2.1, e1, e2]
    have e4 := tieOf_w q2 h10 hi hj
    rw [q2.1] at e4
    rw [e4, tied_w q3 (by omega) (by omega)]
    simp only [bd1_ok, if_true]
    have hW := q1.2.2.2.2.2.2.2.1 i j
    by_cases c : W i j = k
    · rw [c, if_pos rfl, if_pos rfl]
      exact ⟨-5, _, _, x_history_ha_, x_history_hb_, _, _, _, _, 0, _, _, _, rfl, rfl, by rw [← q2.1]; exact hS, h2, h3, h4, h5⟩
    · have c2 : ¬ nI (W i j) = nI k := fun e => c (nI_inj (by omega) (by omega) e)
      rw [if_neg c2, if_neg c2, ← q2.1]
      obtain ⟨z, ha', hb', pl', st', fp', wt', many', saved', r1, r2, r3⟩ := hist_rec hN x_history_ha_ x_history_hb_ h2 hS
      rw [r1, r2]
      simp only [bd7_ok, bd2_ok]
      rw [q2.1, bind_n hi hj h10, ties_n (by omega) (by omega)]
      simp only [bd1_ok]
      exact ⟨nI (W i j), _, z, ha', hb', pl', st', fp', wt', 0, many', _, saved', rfl, rfl, ⟨n, a, f, setW W i j k, setW_wf q1 hi hj hij hk, by rw [← q2.1]; exact setW_cw q2 h10 hi hj, setW_rw q3 (by omega) (by omega)⟩, r3, h3, h4, h5⟩
  · rw [q2.1, e1, e2]
    simp only [bd1_ok, he, if_false]
    exact ⟨e, _, _, x_history_ha_, x_history_hb_, _, _, _, _, 0, _, _, _, rfl, rfl, by rw [← q2.1]; exact hS, h2, h3, h4, h5⟩
theorem addPlace_n {n N : Nat} (hn : n < 10) (hN : 600 ≤ N) (w : Nat → Int32) : ∃ w' : Nat → Int32, f_X4_addPlace N (nI n) w = some (nI (n + 1), w') ∧ (∀ a b, a < n → b < n → w' (10 * a + b) = w (10 * a + b)) ∧ (∀ b, b < n + 1 → w' (10 * n + b) = 0 ∧ w' (10 * b + n) = 0) := by
  unfold f_X4_addPlace
  rw [l10, if_pos (nI_lt (by omega) (by omega))]
  refine upx (fun m i b => f_X4_addPlace_L22 (nI n) (fun a7 => f_X4_addPlace_E48 (nI n) a7) m (nI i) b) (fun i w' => (∀ a b, a < n → b < n → w' (10 * a + b) = w (10 * a + b)) ∧ (∀ b, b < i → w' (10 * n + b) = 0 ∧ w' (10 * b + n) = 0)) (n + 1) (fun r => ∃ w' : Nat → Int32, r = some (nI (n + 1), w') ∧ (∀ a b, a < n → b < n → w' (10 * a + b) = w (10 * a + b)) ∧ (∀ b, b < n + 1 → w' (10 * n + b) = 0 ∧ w' (10 * b + n) = 0)) (fun m i b hi hb => ?_) (fun m b hb => ?_) N 0 w (by omega) (by omega) ⟨fun _ _ _ _ => rfl, fun k hk => absurd hk (by omega)⟩
  · refine ⟨upd (upd b (10 * n + i) 0) (10 * i + n) 0, ⟨fun x y hx hy => ?_, fun x hx => ?_⟩, ?_⟩
    · rw [upd2_c (by omega) (by omega) (by omega) (by omega), if_neg (by omega)]; exact hb.1 x y hx hy
    · rw [upd2_c (by omega) (by omega) (by omega) (by omega), upd2_c (by omega) (by omega) (by omega) (by omega)]
      by_cases e : x = i
      · subst e; rw [if_pos (by omega), if_pos (by omega)]; exact ⟨rfl, rfl⟩
      · rw [if_neg (by omega), if_neg (by omega)]; exact hb.2 x (by omega)
    · show f_X4_addPlace_L22 (nI n) _ (m + 1) (nI i) b = _
      rw [f_X4_addPlace_L22, l1, nI_add, if_neg (nI_ge hi (by omega)), pk_sub (by omega), show n + 1 - 1 = n from rfl, bind_n (by omega) hi (by omega)]
      simp only [bd1_ok]
      rw [nI_add]
  · show ∃ c, f_X4_addPlace_L22 (nI n) _ (m + 1) (nI (n + 1)) b = _ ∧ _
    rw [f_X4_addPlace_L22, l1, nI_add, if_pos (nI_le (Nat.le_refl _) (by omega))]
    exact ⟨b, by unfold f_X4_addPlace_E48; rw [l1, nI_add], hb⟩
theorem eq_grow {x_kept_ : Int32} {x_web_places_ : Int32} {x_web_start_ : Int32} {x_web_fairPlaces_ : Int32} {x_web_weights_ : Nat → Int32} {x_snapshot_places_ : Int32} {x_snapshot_start_ : Int32} {x_snapshot_fairPlaces_ : Int32} {x_snapshot_weights_ : Nat → Int32} {x_history_size_ : Int32} {x_history_ha_ : Nat → Nat} {x_history_hb_ : Nat → Nat} {x_history_pl_ : Nat → Int32} {x_history_st_ : Nat → Int32} {x_history_fp_ : Nat → Int32} {x_history_wt_ : Nat → Nat → Int32} {x_text_length_ : Int32} {x_text_signs_ : Nat → Int32} {x_partings_weights_ : Nat → Int32} {x_partings_pulls_ : Nat → Int32} {m_savedMany_ : Int32} {m_hasSnapshot_ : Int32} {m_length_ : Int32} {m_s_ : Nat → Int32} {m_saved_ : Nat → Int32} {m_snapshot_ : Nat → Int32} {m_text_ : Nat → Int32} (N : Nat) (hN : 600 ≤ N) (h : Same x_web_places_ x_web_start_ x_web_fairPlaces_ x_web_weights_ m_s_ 0 ∧ HistR x_history_size_ x_history_pl_ x_history_st_ x_history_fp_ x_history_wt_ m_savedMany_ m_saved_ ∧ SnapR x_kept_ x_snapshot_places_ x_snapshot_start_ x_snapshot_fairPlaces_ x_snapshot_weights_ m_hasSnapshot_ m_snapshot_ ∧ TextR x_text_length_ x_text_signs_ m_length_ m_text_ ∧ Zero x_partings_weights_ x_partings_pulls_) : ∃ (r_ : Int32) (x_web_places_' : Int32) (x_web_weights_' : Nat → Int32) (x_history_size_' : Int32) (x_history_ha_' : Nat → Nat) (x_history_hb_' : Nat → Nat) (x_history_pl_' : Nat → Int32) (x_history_st_' : Nat → Int32) (x_history_fp_' : Nat → Int32) (x_history_wt_' : Nat → Nat → Int32) (m_thrown_' : Int32) (m_savedMany_' : Int32) (m_s_' : Nat → Int32) (m_saved_' : Nat → Int32), f_X5_grow N x_web_places_ x_web_start_ x_web_fairPlaces_ x_web_weights_ x_history_size_ x_history_ha_ x_history_hb_ x_history_pl_ x_history_st_ x_history_fp_ x_history_wt_ = some (r_, x_web_places_', x_web_weights_', x_history_size_', x_history_ha_', x_history_hb_', x_history_pl_', x_history_st_', x_history_fp_', x_history_wt_') ∧ f_X6_grow N m_savedMany_ m_s_ m_saved_ = some (r_, m_thrown_', m_savedMany_', m_s_', m_saved_') ∧ (Same x_web_places_' x_web_start_ x_web_fairPlaces_ x_web_weights_' m_s_' 0 ∧ HistR x_history_size_' x_history_pl_' x_history_st_' x_history_fp_' x_history_wt_' m_savedMany_' m_saved_' ∧ SnapR x_kept_ x_snapshot_places_ x_snapshot_start_ x_snapshot_fairPlaces_ x_snapshot_weights_ m_hasSnapshot_ m_snapshot_ ∧ TextR x_text_length_ x_text_signs_ m_length_ m_text_ ∧ Zero x_partings_weights_ x_partings_pulls_) := by
  obtain ⟨h1, h2, h3, h4, h5⟩ := h
  have hS := h1
  obtain ⟨n, a, f, W, q1, q2, q3⟩ := h1
  have h10 := q1.2.1
  unfold f_X5_grow f_X6_grow
  rw [q3.1]
  by_cases c : n = 10
  · subst c
    rw [q2.1, l10, if_neg (nI_nlt (Nat.le_refl _) (by omega)), if_pos rfl]
    exact ⟨-3, _, _, _, x_history_ha_, x_history_hb_, _, _, _, _, 0, _, _, _, rfl, rfl, by rw [← q2.1]; exact hS, h2, h3, h4, h5⟩
  · obtain ⟨z, ha', hb', pl', st', fp', wt', many', saved', r1, r2, r3⟩ := hist_rec hN x_history_ha_ x_history_hb_ h2 hS
    rw [r1, r2]
    simp only [bd7_ok, bd2_ok]
    obtain ⟨w', e1, e2, e3⟩ := addPlace_n (by omega : n < 10) hN x_web_weights_
    rw [q2.1, e1, l10, if_pos (nI_lt (by omega) (by omega)), if_neg (fun e => c (nI_inj (by omega) (by omega) e))]
    simp only [bd2_ok]
    rw [l1, nI_add]
    refine ⟨nI (n + 1) - nI 1, nI (n + 1), w', z, ha', hb', pl', st', fp', wt', 0, many', upd m_s_ 0 (nI (n + 1)), saved', rfl, ?_, ⟨n + 1, a, f, W, ?_, ⟨rfl, q2.2.1, q2.2.2.1, fun x y hx hy => ?_⟩, ⟨?_, ?_, ?_, fun x y hx hy => ?_⟩⟩, r3, h3, h4, h5⟩
    · rw [upd_same]
    · obtain ⟨g1, g2, g3, g4, g5, g6, g7, g8, g9⟩ := q1
      exact ⟨by omega, by omega, by omega, g4, g5, g6, g7, g8, fun x y hx => g9 x y (by omega)⟩
    · obtain ⟨g1, g2, g3, g4, g5, g6, g7, g8, g9⟩ := q1
      by_cases hxn : x = n
      · subst hxn
        rw [(e3 y hy).1, g9 x y (Nat.le_refl _)]; rfl
      · by_cases hyn : y = n
        · subst hyn
          rw [(e3 x hx).2, g6 x y, g9 y x (Nat.le_refl _)]; rfl
        · rw [e2 x y (by omega) (by omega)]; exact q2.2.2.2 x y (by omega) (by omega)
    · rw [upd_same]
    · rw [upd_ne _ _ (by omega)]; exact q3.2.1
    · rw [upd_ne _ _ (by omega)]; exact q3.2.2.1
    · rw [upd_ne _ _ (by omega)]; exact q3.2.2.2 x y hx hy
