-- keep, undo, restore, set, tie, grow
theorem CW.pl {pl st fp : Int32} {w : Nat → Int32} {n a f : Nat} {W : Nat → Nat → Nat} (h : CW pl st fp w n a f W) : pl = nI n := h.1
/-- a row of 103 numbers is copied: the reference's loops -/
theorem keep_l {N : Nat} (hN : 600 ≤ N) (s sn : Nat → Int32) : ∃ b : Nat → Int32, f_X6_keep N s sn = some (s 0, 0, 1, b) ∧ ∀ q, q < 103 → b q = s q := by
  unfold f_X6_keep
  refine upx (fun m i b => f_X6_keep_L7 s (fun a6 => f_X6_keep_E31 s a6) m (nI i) b) (fun i b => ∀ q, q < i → b q = s q) 103 (fun r => ∃ b : Nat → Int32, r = some (s 0, 0, 1, b) ∧ ∀ q, q < 103 → b q = s q) (fun m i b hi hb => ?_) (fun m b hb => ?_) N 0 sn (by omega) (by omega) (fun k hk => absurd hk (by omega))
  · refine ⟨upd b i (s i), fun q hq => ?_, ?_⟩
    · by_cases e : q = i
      · rw [e, upd_same]
      · rw [upd_ne _ _ e]; exact hb q (by omega)
    · show f_X6_keep_L7 s _ (m + 1) (nI i) b = _
      rw [f_X6_keep_L7, l103, if_neg (nI_ge hi (by omega)), chk_n (by omega) (by omega), chk_n (by omega) (by omega), nI_clamp (by omega), l1, nI_add]
  · show ∃ c, f_X6_keep_L7 s _ (m + 1) (nI 103) b = _ ∧ _
    rw [f_X6_keep_L7, l103, if_pos (nI_le (Nat.le_refl _) (by omega))]
    exact ⟨b, rfl, hb⟩
theorem eq_keep {x_kept_ : Int32} {x_web_places_ : Int32} {x_web_start_ : Int32} {x_web_fairPlaces_ : Int32} {x_web_weights_ : Nat → Int32} {x_snapshot_places_ : Int32} {x_snapshot_start_ : Int32} {x_snapshot_fairPlaces_ : Int32} {x_snapshot_weights_ : Nat → Int32} {x_history_size_ : Int32} {x_history_pl_ : Nat → Int32} {x_history_st_ : Nat → Int32} {x_history_fp_ : Nat → Int32} {x_history_wt_ : Nat → Nat → Int32} {x_text_length_ : Int32} {x_text_signs_ : Nat → Int32} {x_partings_weights_ : Nat → Int32} {x_partings_pulls_ : Nat → Int32} {m_savedMany_ : Int32} {m_hasSnapshot_ : Int32} {m_length_ : Int32} {m_s_ : Nat → Int32} {m_saved_ : Nat → Int32} {m_snapshot_ : Nat → Int32} {m_text_ : Nat → Int32} (N : Nat) (hN : 600 ≤ N) (h : Same x_web_places_ x_web_start_ x_web_fairPlaces_ x_web_weights_ m_s_ 0 ∧ HistR x_history_size_ x_history_pl_ x_history_st_ x_history_fp_ x_history_wt_ m_savedMany_ m_saved_ ∧ SnapR x_kept_ x_snapshot_places_ x_snapshot_start_ x_snapshot_fairPlaces_ x_snapshot_weights_ m_hasSnapshot_ m_snapshot_ ∧ TextR x_text_length_ x_text_signs_ m_length_ m_text_ ∧ Zero x_partings_weights_ x_partings_pulls_) : ∃ (r_ : Int32) (x_kept_' : Int32) (x_snapshot_places_' : Int32) (x_snapshot_start_' : Int32) (x_snapshot_fairPlaces_' : Int32) (x_snapshot_weights_' : Nat → Int32) (m_thrown_' : Int32) (m_hasSnapshot_' : Int32) (m_snapshot_' : Nat → Int32), f_X5_keep x_web_places_ x_web_start_ x_web_fairPlaces_ x_web_weights_ x_snapshot_weights_ = some (r_, x_kept_', x_snapshot_places_', x_snapshot_start_', x_snapshot_fairPlaces_', x_snapshot_weights_') ∧ f_X6_keep N m_s_ m_snapshot_ = some (r_, m_thrown_', m_hasSnapshot_', m_snapshot_') ∧ (Same x_web_places_ x_web_start_ x_web_fairPlaces_ x_web_weights_ m_s_ 0 ∧ HistR x_history_size_ x_history_pl_ x_history_st_ x_history_fp_ x_history_wt_ m_savedMany_ m_saved_ ∧ SnapR x_kept_' x_snapshot_places_' x_snapshot_start_' x_snapshot_fairPlaces_' x_snapshot_weights_' m_hasSnapshot_' m_snapshot_' ∧ TextR x_text_length_ x_text_signs_ m_length_ m_text_ ∧ Zero x_partings_weights_ x_partings_pulls_) := by
  obtain ⟨h1, h2, h3, h4, h5⟩ := h
  obtain ⟨b, e1, e2⟩ := keep_l hN m_s_ m_snapshot_
  have e0 : x_web_places_ = m_s_ 0 := by
    obtain ⟨n, a, f, W, q1, q2, q3⟩ := h1
    rw [q2.1, q3.1]
  refine ⟨x_web_places_, 1, _, _, _, _, 0, 1, b, rfl, by rw [e1, e0], h1, h2, Or.inr ⟨rfl, rfl, ?_⟩, h4, h5⟩
  exact h1.cg (fun q hq => cpy_in hq) (fun q hq => by rw [Nat.zero_add]; exact e2 q hq)
theorem undo_l {N m : Nat} (hN : 600 ≤ N) (hm : m < 4) (s saved : Nat → Int32) : ∃ b : Nat → Int32, f_X6_undo N (nI (m + 1)) s saved = some (nI m, 0, nI m, b) ∧ ∀ q, q < 103 → b q = saved (103 * m + q) := by
  unfold f_X6_undo
  rw [if_neg (nI_ne0 (by omega) (by omega))]
  refine upx (fun k i b => f_X6_undo_L27 (nI (m + 1)) saved (fun a6 => f_X6_undo_E59 (nI (m + 1)) a6) k (nI i) b) (fun i b => ∀ q, q < i → b q = saved (103 * m + q)) 103 (fun r => ∃ b : Nat → Int32, r = some (nI m, 0, nI m, b) ∧ ∀ q, q < 103 → b q = saved (103 * m + q)) (fun k i b hi hb => ?_) (fun k b hb => ?_) N 0 s (by omega) (by omega) (fun k hk => absurd hk (by omega))
  · refine ⟨upd b i (saved (103 * m + i)), fun q hq => ?_, ?_⟩
    · by_cases e : q = i
      · rw [e, upd_same]
      · rw [upd_ne _ _ e]; exact hb q (by omega)
    · show f_X6_undo_L27 (nI (m + 1)) saved _ (k + 1) (nI i) b = _
      rw [f_X6_undo_L27, nI_pred, l103, if_neg (nI_ge hi (by omega)), pk_mul, nI_add, chk_n (by omega) (by omega), chk_n (by omega) (by omega), nI_clamp (by omega), nI_clamp (by omega), l1, nI_add]
  · show ∃ c, f_X6_undo_L27 (nI (m + 1)) saved _ (k + 1) (nI 103) b = _ ∧ _
    rw [f_X6_undo_L27, l103, if_pos (nI_le (Nat.le_refl _) (by omega))]
    refine ⟨b, ?_, hb⟩
    unfold f_X6_undo_E59
    rw [nI_pred]
theorem take_n {m : Nat} (hm : m < 4) (pl st fp : Nat → Int32) (wt : Nat → Nat → Int32) (a b c : Int32) (w : Nat → Int32) : f_X0_takeBack (nI (m + 1)) pl st fp wt a b c w = some (nI m, pl m, st m, fp m, va_cpy (wt m) w 0 0 100) := by
  unfold f_X0_takeBack f_X4_copyFrom
  match m, hm with
  | 0, _ => rfl
  | 1, _ => rfl
  | 2, _ => rfl
  | 3, _ => rfl
theorem eq_undo {x_kept_ : Int32} {x_web_places_ : Int32} {x_web_start_ : Int32} {x_web_fairPlaces_ : Int32} {x_web_weights_ : Nat → Int32} {x_snapshot_places_ : Int32} {x_snapshot_start_ : Int32} {x_snapshot_fairPlaces_ : Int32} {x_snapshot_weights_ : Nat → Int32} {x_history_size_ : Int32} {x_history_pl_ : Nat → Int32} {x_history_st_ : Nat → Int32} {x_history_fp_ : Nat → Int32} {x_history_wt_ : Nat → Nat → Int32} {x_text_length_ : Int32} {x_text_signs_ : Nat → Int32} {x_partings_weights_ : Nat → Int32} {x_partings_pulls_ : Nat → Int32} {m_savedMany_ : Int32} {m_hasSnapshot_ : Int32} {m_length_ : Int32} {m_s_ : Nat → Int32} {m_saved_ : Nat → Int32} {m_snapshot_ : Nat → Int32} {m_text_ : Nat → Int32} (N : Nat) (hN : 600 ≤ N) (h : Same x_web_places_ x_web_start_ x_web_fairPlaces_ x_web_weights_ m_s_ 0 ∧ HistR x_history_size_ x_history_pl_ x_history_st_ x_history_fp_ x_history_wt_ m_savedMany_ m_saved_ ∧ SnapR x_kept_ x_snapshot_places_ x_snapshot_start_ x_snapshot_fairPlaces_ x_snapshot_weights_ m_hasSnapshot_ m_snapshot_ ∧ TextR x_text_length_ x_text_signs_ m_length_ m_text_ ∧ Zero x_partings_weights_ x_partings_pulls_) : ∃ (r_ : Int32) (x_web_places_' : Int32) (x_web_start_' : Int32) (x_web_fairPlaces_' : Int32) (x_web_weights_' : Nat → Int32) (x_history_size_' : Int32) (m_thrown_' : Int32) (m_savedMany_' : Int32) (m_s_' : Nat → Int32), f_X5_undo x_web_places_ x_web_start_ x_web_fairPlaces_ x_web_weights_ x_history_size_ x_history_pl_ x_history_st_ x_history_fp_ x_history_wt_ = some (r_, x_web_places_', x_web_start_', x_web_fairPlaces_', x_web_weights_', x_history_size_') ∧ f_X6_undo N m_savedMany_ m_s_ m_saved_ = some (r_, m_thrown_', m_savedMany_', m_s_') ∧ (Same x_web_places_' x_web_start_' x_web_fairPlaces_' x_web_weights_' m_s_' 0 ∧ HistR x_history_size_' x_history_pl_ x_history_st_ x_history_fp_ x_history_wt_ m_savedMany_' m_saved_ ∧ SnapR x_kept_ x_snapshot_places_ x_snapshot_start_ x_snapshot_fairPlaces_ x_snapshot_weights_ m_hasSnapshot_ m_snapshot_ ∧ TextR x_text_length_ x_text_signs_ m_length_ m_text_ ∧ Zero x_partings_weights_ x_partings_pulls_) := by
  obtain ⟨h1, ⟨m, hm, rfl, rfl, hk⟩, h3, h4, h5⟩ := h
  cases m with
  | zero =>
    refine ⟨-5, _, _, _, _, _, 0, _, _, rfl, rfl, h1, ⟨0, by omega, rfl, rfl, hk⟩, h3, h4, h5⟩
  | succ m =>
    obtain ⟨b, e1, e2⟩ := undo_l hN (by omega : m < 4) m_s_ m_saved_
    unfold f_X5_undo
    rw [l0, if_pos (nI_lt (by omega) (by omega)), take_n (by omega)]
    refine ⟨nI m, _, _, _, _, nI m, 0, nI m, b, rfl, e1, ?_, ⟨m, by omega, rfl, rfl, fun k hk2 => hk k (by omega)⟩, h3, h4, h5⟩
    exact (hk m (by omega)).cg (fun q hq => cpy_in hq) (fun q hq => by rw [Nat.zero_add]; exact e2 q hq)
theorem restore_l {N : Nat} (hN : 600 ≤ N) (x1 : Int32) (a2 s sn : Nat → Int32) : ∃ b : Nat → Int32, f_X6_restore_L21 sn (fun a8 => f_X6_restore_E45 x1 a2 a8) N (0 : Int32) s = some (sn 0, 0, x1, b, a2) ∧ ∀ q, q < 103 → b q = sn q := by
  refine upx (fun m i b => f_X6_restore_L21 sn (fun a8 => f_X6_restore_E45 x1 a2 a8) m (nI i) b) (fun i b => ∀ q, q < i → b q = sn q) 103 (fun r => ∃ b : Nat → Int32, r = some (sn 0, 0, x1, b, a2) ∧ ∀ q, q < 103 → b q = sn q) (fun m i b hi hb => ?_) (fun m b hb => ?_) N 0 s (by omega) (by omega) (fun k hk => absurd hk (by omega))
  · refine ⟨upd b i (sn i), fun q hq => ?_, ?_⟩
    · by_cases e : q = i
      · rw [e, upd_same]
      · rw [upd_ne _ _ e]; exact hb q (by omega)
    · show f_X6_restore_L21 sn _ (m + 1) (nI i) b = _
      rw [f_X6_restore_L21, l103, if_neg (nI_ge hi (by omega)), chk_n (by omega) (by omega), chk_n (by omega) (by omega), nI_clamp (by omega), l1, nI_add]
  · show ∃ c, f_X6_restore_L21 sn _ (m + 1) (nI 103) b = _ ∧ _
    rw [f_X6_restore_L21, l103, if_pos (nI_le (Nat.le_refl _) (by omega))]
    exact ⟨b, by unfold f_X6_restore_E45; rw [hb 0 (by omega)], hb⟩
theorem eq_restore {x_kept_ : Int32} {x_web_places_ : Int32} {x_web_start_ : Int32} {x_web_fairPlaces_ : Int32} {x_web_weights_ : Nat → Int32} {x_snapshot_places_ : Int32} {x_snapshot_start_ : Int32} {x_snapshot_fairPlaces_ : Int32} {x_snapshot_weights_ : Nat → Int32} {x_history_size_ : Int32} {x_history_ha_ : Nat → Nat} {x_history_hb_ : Nat → Nat} {x_history_pl_ : Nat → Int32} {x_history_st_ : Nat → Int32} {x_history_fp_ : Nat → Int32} {x_history_wt_ : Nat → Nat → Int32} {x_text_length_ : Int32} {x_text_signs_ : Nat → Int32} {x_partings_weights_ : Nat → Int32} {x_partings_pulls_ : Nat → Int32} {m_savedMany_ : Int32} {m_hasSnapshot_ : Int32} {m_length_ : Int32} {m_s_ : Nat → Int32} {m_saved_ : Nat → Int32} {m_snapshot_ : Nat → Int32} {m_text_ : Nat → Int32} (N : Nat) (hN : 600 ≤ N) (h : Same x_web_places_ x_web_start_ x_web_fairPlaces_ x_web_weights_ m_s_ 0 ∧ HistR x_history_size_ x_history_pl_ x_history_st_ x_history_fp_ x_history_wt_ m_savedMany_ m_saved_ ∧ SnapR x_kept_ x_snapshot_places_ x_snapshot_start_ x_snapshot_fairPlaces_ x_snapshot_weights_ m_hasSnapshot_ m_snapshot_ ∧ TextR x_text_length_ x_text_signs_ m_length_ m_text_ ∧ Zero x_partings_weights_ x_partings_pulls_) : ∃ (r_ : Int32) (x_web_places_' : Int32) (x_web_start_' : Int32) (x_web_fairPlaces_' : Int32) (x_web_weights_' : Nat → Int32) (x_history_size_' : Int32) (x_history_ha_' : Nat → Nat) (x_history_hb_' : Nat → Nat) (x_history_pl_' : Nat → Int32) (x_history_st_' : Nat → Int32) (x_history_fp_' : Nat → Int32) (x_history_wt_' : Nat → Nat → Int32) (m_thrown_' : Int32) (m_savedMany_' : Int32) (m_s_' : Nat → Int32) (m_saved_' : Nat → Int32), f_X5_restore x_kept_ x_web_places_ x_web_start_ x_web_fairPlaces_ x_web_weights_ x_snapshot_places_ x_snapshot_start_ x_snapshot_fairPlaces_ x_snapshot_weights_ x_history_size_ x_history_ha_ x_history_hb_ x_history_pl_ x_history_st_ x_history_fp_ x_history_wt_ = some (r_, x_web_places_', x_web_start_', x_web_fairPlaces_', x_web_weights_', x_history_size_', x_history_ha_', x_history_hb_', x_history_pl_', x_history_st_', x_history_fp_', x_history_wt_') ∧ f_X6_restore N m_savedMany_ m_hasSnapshot_ m_s_ m_saved_ m_snapshot_ = some (r_, m_thrown_', m_savedMany_', m_s_', m_saved_') ∧ (Same x_web_places_' x_web_start_' x_web_fairPlaces_' x_web_weights_' m_s_' 0 ∧ HistR x_history_size_' x_history_pl_' x_history_st_' x_history_fp_' x_history_wt_' m_savedMany_' m_saved_' ∧ SnapR x_kept_ x_snapshot_places_ x_snapshot_start_ x_snapshot_fairPlaces_ x_snapshot_weights_ m_hasSnapshot_ m_snapshot_ ∧ TextR x_text_length_ x_text_signs_ m_length_ m_text_ ∧ Zero x_partings_weights_ x_partings_pulls_) := by
  obtain ⟨h1, h2, h3, h4, h5⟩ := h
  unfold f_X5_restore f_X6_restore
  rcases h3 with ⟨rfl, rfl⟩ | ⟨rfl, rfl, h3⟩
  · exact ⟨-5, _, _, _, _, _, x_history_ha_, x_history_hb_, _, _, _, _, 0, _, _, _, rfl, rfl, h1, h2, Or.inl ⟨rfl, rfl⟩, h4, h5⟩
  · obtain ⟨z, ha', hb', pl', st', fp', wt', many', saved', e1, e2, e3⟩ := hist_rec hN x_history_ha_ x_history_hb_ h2 h1
    obtain ⟨b, e4, e5⟩ := restore_l hN many' saved' m_s_ m_snapshot_
    rw [e1, e2]
    simp only [bd7_ok, bd2_ok, (by decide : ¬ (1 : Int32) = 0), if_false]
    rw [e4]
    have e0 : x_snapshot_places_ = m_snapshot_ 0 := by
      obtain ⟨n, a, f, W, q1, q2, q3⟩ := h3
      rw [q2.1, q3.1]
    refine ⟨x_snapshot_places_, _, _, _, _, z, ha', hb', pl', st', fp', wt', 0, many', b, saved', rfl, by rw [e0], ?_, e3, Or.inr ⟨rfl, rfl, h3⟩, h4, h5⟩
    exact h3.cg (fun q hq => cpy_in hq) (fun q hq => by simp only [Nat.zero_add]; exact e5 q hq)
