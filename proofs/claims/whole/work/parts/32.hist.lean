-- states: copies, the history, the snapshot, the text
theorem Same.cg {pl st fp : Int32} {w w' s s' : Nat → Int32} {off off' : Nat} (h : Same pl st fp w s off) (hw : ∀ q, q < 100 → w' q = w q) (hs : ∀ q, q < 103 → s' (off' + q) = s (off + q)) : Same pl st fp w' s' off' := by
  obtain ⟨n, a, f, W, h1, h2, h3⟩ := h
  refine ⟨n, a, f, W, h1, ⟨h2.1, h2.2.1, h2.2.2.1, fun i j hi hj => ?_⟩, ?_⟩
  · rw [hw _ (by have := h1.2.1; omega)]; exact h2.2.2.2 i j hi hj
  · refine ⟨?_, ?_, ?_, fun i j hi hj => ?_⟩
    · have := hs 0 (by omega); rw [Nat.add_zero, Nat.add_zero] at this; rw [this]; exact h3.1
    · rw [hs 1 (by omega)]; exact h3.2.1
    · rw [hs 2 (by omega)]; exact h3.2.2.1
    · have := hs (3 + 10 * i + j) (by omega)
      rw [show off' + 3 + 10 * i + j = off' + (3 + 10 * i + j) by omega, this, show off + (3 + 10 * i + j) = off + 3 + 10 * i + j by omega]
      exact h3.2.2.2 i j hi hj
theorem cpy_in {f g : Nat → Int32} {q : Nat} (h : q < 100) : va_cpy f g 0 0 100 q = f q := by
  unfold va_cpy
  rw [if_pos ⟨Nat.zero_le q, by omega⟩, Nat.zero_add, Nat.sub_zero]
theorem up_same {α : Type} (f : Nat → α) (k : Nat) (v : α) : va_up f k v k = v := by unfold va_up; rw [if_pos rfl]
theorem up_ne {α : Type} (f : Nat → α) {k j : Nat} (v : α) (h : j ≠ k) : va_up f k v j = f j := by unfold va_up; rw [if_neg h]
theorem upd_same (f : Nat → Int32) (k : Nat) (v : Int32) : upd f k v k = v := by unfold upd; rw [if_pos rfl]
theorem upd_ne (f : Nat → Int32) {k j : Nat} (v : Int32) (h : j ≠ k) : upd f k v j = f j := by unfold upd; rw [if_neg h]
theorem rem_j {wp ws wf : Int32} {ww : Nat → Int32} (m : Nat) (hm : m < 4) (ha hb : Nat → Nat) (pl st fp : Nat → Int32) (wt : Nat → Nat → Int32) : f_X0_remember_J12 wp ws wf ww (nI m) ha hb pl st fp wt = some (nI (m + 1), ha, hb, va_up pl m wp, va_up st m ws, va_up fp m wf, va_up wt m (va_cpy ww (wt m) 0 0 100)) := by
  unfold f_X0_remember_J12 f_X4_copyFrom
  match m, hm with
  | 0, _ => rfl
  | 1, _ => rfl
  | 2, _ => rfl
  | 3, _ => rfl
theorem saved_copy {s : Nat → Int32} {x N : Nat} (hx : x ≤ 3) (hN : 600 ≤ N) (a : Nat → Int32) (P : Option (Int32 × (Nat → Int32)) → Prop) (hP : ∀ b : Nat → Int32, (∀ k, k < 103 → b (103 * x + k) = s k) → (∀ q, q < 103 * x → b q = a q) → P (some (nI (x + 1), b))) : P (f_X6_records_J48 N s (nI x) a) := by
  unfold f_X6_records_J48
  refine upx (fun m i b => f_X6_records_L50 (nI x) s (fun a14 => f_X6_records_E82 (nI x) a14) m (nI i) b) (fun i b => (∀ k, k < i → b (103 * x + k) = s k) ∧ (∀ q, q < 103 * x → b q = a q)) 103 P (fun m i b hi hb => ?_) (fun m b hb => ?_) N 0 a (by omega) (by omega) ⟨fun k hk => absurd hk (by omega), fun q _ => rfl⟩
  · refine ⟨upd b (103 * x + i) (s i), ⟨fun k hk => ?_, fun q hq => ?_⟩, ?_⟩
    · by_cases e : k = i
      · rw [e, upd_same]
      · rw [upd_ne _ _ (by omega)]; exact hb.1 k (by omega)
    · rw [upd_ne _ _ (by omega)]; exact hb.2 q hq
    · show f_X6_records_L50 (nI x) s _ (m + 1) (nI i) b = _
      rw [f_X6_records_L50, l103, if_neg (nI_ge hi (by omega)), pk_mul, nI_add, chk_n hi (by omega), chk_n (by omega) (by omega), nI_clamp (by omega), nI_clamp (by omega), l1, nI_add]
  · show P (f_X6_records_L50 (nI x) s _ (m + 1) (nI 103) b)
    rw [f_X6_records_L50, l103, if_pos (nI_le (Nat.le_refl _) (by omega))]
    unfold f_X6_records_E82
    rw [l1, nI_add]
    exact hP b hb.1 hb.2
theorem hist_rec {size many wp ws wf : Int32} {pl st fp : Nat → Int32} {wt : Nat → Nat → Int32} {saved s ww : Nat → Int32} {N : Nat} (hN : 600 ≤ N) (ha hb : Nat → Nat) (hH : HistR size pl st fp wt many saved) (hS : Same wp ws wf ww s 0) : ∃ (z : Int32) (ha' hb' : Nat → Nat) (pl' st' fp' : Nat → Int32) (wt' : Nat → Nat → Int32) (many' : Int32) (saved' : Nat → Int32), f_X0_remember size ha hb pl st fp wt wp ws wf ww = some (z, ha', hb', pl', st', fp', wt') ∧ f_X6_records N many s saved = some (many', saved') ∧ HistR z pl' st' fp' wt' many' saved' := by
  obtain ⟨m, hm, rfl, rfl, hk⟩ := hH
  by_cases h4 : m = 4
  · subst h4
    unfold f_X0_remember f_X0_dropOldest f_X6_records
    rw [l4, if_neg (nI_nlt (Nat.le_refl 4) (by omega)), if_pos rfl]
    simp only [bd7_ok]
    rw [l3, rem_j 3 (by omega)]
    have key : ∃ saved', f_X6_records_L10 (fun a6 => f_X6_records_E38 N s (nI 4) a6) N (0 : Int32) saved = some (nI 4, saved') ∧ (∀ k, k < 103 → saved' (309 + k) = s k) ∧ (∀ q, q < 309 → saved' q = saved (q + 103)) := by
      refine upx (fun m i b => f_X6_records_L10 (fun a6 => f_X6_records_E38 N s (nI 4) a6) m (nI i) b) (fun i b => (∀ q, q < i → b q = saved (q + 103)) ∧ (∀ q, i ≤ q → b q = saved q)) 309 (fun r => ∃ saved', r = some (nI 4, saved') ∧ (∀ k, k < 103 → saved' (309 + k) = s k) ∧ (∀ q, q < 309 → saved' q = saved (q + 103))) (fun m i b hi hb => ?_) (fun m b hb => ?_) N 0 saved (by omega) (by omega) ⟨fun k hk => absurd hk (by omega), fun q _ => rfl⟩
      · refine ⟨upd b i (b (i + 103)), ⟨fun q hq => ?_, fun q hq => ?_⟩, ?_⟩
        · by_cases e : q = i
          · rw [e, upd_same]; exact hb.2 _ (by omega)
          · rw [upd_ne _ _ e]; exact hb.1 q (by omega)
        · rw [upd_ne _ _ (by omega)]; exact hb.2 q (by omega)
        · show f_X6_records_L10 _ (m + 1) (nI i) b = _
          rw [f_X6_records_L10, l309, if_neg (nI_ge hi (by omega)), l103, nI_add, chk_n (by omega) (by omega), chk_n (by omega) (by omega), nI_clamp (by omega), nI_clamp (by omega), l1, nI_add]
      · show ∃ saved', f_X6_records_L10 _ (m + 1) (nI 309) b = _ ∧ _
        rw [f_X6_records_L10, l309, if_pos (nI_le (Nat.le_refl _) (by omega))]
        show ∃ saved', f_X6_records_E38 N s (nI 4) b = _ ∧ _
        unfold f_X6_records_E38
        rw [l1, pk_sub (by omega)]
        refine saved_copy (x := 3) (by omega) hN b (fun r => ∃ saved', r = some (nI 4, saved') ∧ (∀ k, k < 103 → saved' (309 + k) = s k) ∧ (∀ q, q < 309 → saved' q = saved (q + 103))) (fun c h1 h2 => ⟨c, rfl, fun k hk => h1 k hk, fun q hq => ?_⟩)
        rw [h2 q (by omega)]; exact hb.1 q hq
    obtain ⟨saved', e1, e2, e3⟩ := key
    refine ⟨_, _, _, _, _, _, _, nI 4, saved', rfl, e1, 4, by omega, rfl, rfl, fun k hk4 => ?_⟩
    by_cases e : k = 3
    · subst e
      rw [up_same, up_same, up_same, up_same]
      exact hS.cg (fun q hq => cpy_in hq) (fun q hq => by rw [Nat.zero_add]; exact e2 q hq)
    · rw [up_ne _ _ e, up_ne _ _ e, up_ne _ _ e, up_ne _ _ e]
      unfold rot
      rw [if_neg e, if_neg e, if_neg e, if_neg e]
      exact (hk (k + 1) (by omega)).cg (fun q hq => rfl) (fun q hq => by rw [e3 _ (by omega)]; congr 1; omega)
  · unfold f_X0_remember f_X6_records
    rw [l4, if_pos (nI_lt (by omega) (by omega)), if_neg (fun e => h4 (nI_inj (by omega) (by omega) e)), rem_j m (by omega)]
    obtain ⟨c, e1, h1, h2⟩ : ∃ c, f_X6_records_J48 N s (nI m) saved = some (nI (m + 1), c) ∧ (∀ k, k < 103 → c (103 * m + k) = s k) ∧ (∀ q, q < 103 * m → c q = saved q) := saved_copy (x := m) (by omega) hN saved (fun r => ∃ c, r = some (nI (m + 1), c) ∧ (∀ k, k < 103 → c (103 * m + k) = s k) ∧ (∀ q, q < 103 * m → c q = saved q)) (fun c h1 h2 => ⟨c, rfl, h1, h2⟩)
    refine ⟨_, _, _, _, _, _, _, nI (m + 1), c, rfl, e1, m + 1, by omega, rfl, rfl, fun k hk4 => ?_⟩
    by_cases e : k = m
    · subst e
      rw [up_same, up_same, up_same, up_same]
      exact hS.cg (fun q hq => cpy_in hq) (fun q hq => by rw [Nat.zero_add]; exact h1 q hq)
    · rw [up_ne _ _ e, up_ne _ _ e, up_ne _ _ e, up_ne _ _ e]
      exact (hk k (by omega)).cg (fun q hq => rfl) (fun q hq => h2 _ (by omega))
theorem eq_clearText {x_kept_ : Int32} {x_web_places_ : Int32} {x_web_start_ : Int32} {x_web_fairPlaces_ : Int32} {x_web_weights_ : Nat → Int32} {x_snapshot_places_ : Int32} {x_snapshot_start_ : Int32} {x_snapshot_fairPlaces_ : Int32} {x_snapshot_weights_ : Nat → Int32} {x_history_size_ : Int32} {x_history_pl_ : Nat → Int32} {x_history_st_ : Nat → Int32} {x_history_fp_ : Nat → Int32} {x_history_wt_ : Nat → Nat → Int32} {x_text_length_ : Int32} {x_text_signs_ : Nat → Int32} {x_partings_weights_ : Nat → Int32} {x_partings_pulls_ : Nat → Int32} {m_savedMany_ : Int32} {m_hasSnapshot_ : Int32} {m_length_ : Int32} {m_s_ : Nat → Int32} {m_saved_ : Nat → Int32} {m_snapshot_ : Nat → Int32} {m_text_ : Nat → Int32} (N : Nat) (hN : 600 ≤ N) (h : Same x_web_places_ x_web_start_ x_web_fairPlaces_ x_web_weights_ m_s_ 0 ∧ HistR x_history_size_ x_history_pl_ x_history_st_ x_history_fp_ x_history_wt_ m_savedMany_ m_saved_ ∧ SnapR x_kept_ x_snapshot_places_ x_snapshot_start_ x_snapshot_fairPlaces_ x_snapshot_weights_ m_hasSnapshot_ m_snapshot_ ∧ TextR x_text_length_ x_text_signs_ m_length_ m_text_ ∧ Zero x_partings_weights_ x_partings_pulls_) : ∃ (r_ : Int32) (x_text_length_' : Int32) (m_thrown_' : Int32) (m_length_' : Int32), f_X5_clearText x_text_length_ = some (r_, x_text_length_') ∧ f_X6_clearText m_length_ = some (r_, m_thrown_', m_length_') ∧ (Same x_web_places_ x_web_start_ x_web_fairPlaces_ x_web_weights_ m_s_ 0 ∧ HistR x_history_size_ x_history_pl_ x_history_st_ x_history_fp_ x_history_wt_ m_savedMany_ m_saved_ ∧ SnapR x_kept_ x_snapshot_places_ x_snapshot_start_ x_snapshot_fairPlaces_ x_snapshot_weights_ m_hasSnapshot_ m_snapshot_ ∧ TextR x_text_length_' x_text_signs_ m_length_' m_text_ ∧ Zero x_partings_weights_ x_partings_pulls_) := by
  obtain ⟨h1, h2, h3, ⟨L, hL, rfl, rfl, hk⟩, h5⟩ := h
  exact ⟨nI L, 0, 0, 0, rfl, rfl, h1, h2, h3, ⟨0, by omega, rfl, rfl, fun k hk => absurd hk (by omega)⟩, h5⟩
theorem eq_type {x_kept_ : Int32} {x_web_places_ : Int32} {x_web_start_ : Int32} {x_web_fairPlaces_ : Int32} {x_web_weights_ : Nat → Int32} {x_snapshot_places_ : Int32} {x_snapshot_start_ : Int32} {x_snapshot_fairPlaces_ : Int32} {x_snapshot_weights_ : Nat → Int32} {x_history_size_ : Int32} {x_history_pl_ : Nat → Int32} {x_history_st_ : Nat → Int32} {x_history_fp_ : Nat → Int32} {x_history_wt_ : Nat → Nat → Int32} {x_text_length_ : Int32} {x_text_signs_ : Nat → Int32} {x_partings_weights_ : Nat → Int32} {x_partings_pulls_ : Nat → Int32} {m_savedMany_ : Int32} {m_hasSnapshot_ : Int32} {m_length_ : Int32} {m_s_ : Nat → Int32} {m_saved_ : Nat → Int32} {m_snapshot_ : Nat → Int32} {m_text_ : Nat → Int32} (N : Nat) (hN : 600 ≤ N) (p1 : Int32) (hc : ∃ q : Nat, q < 65536 ∧ p1 = nI q) (h : Same x_web_places_ x_web_start_ x_web_fairPlaces_ x_web_weights_ m_s_ 0 ∧ HistR x_history_size_ x_history_pl_ x_history_st_ x_history_fp_ x_history_wt_ m_savedMany_ m_saved_ ∧ SnapR x_kept_ x_snapshot_places_ x_snapshot_start_ x_snapshot_fairPlaces_ x_snapshot_weights_ m_hasSnapshot_ m_snapshot_ ∧ TextR x_text_length_ x_text_signs_ m_length_ m_text_ ∧ Zero x_partings_weights_ x_partings_pulls_) : ∃ (r_ : Int32) (x_text_length_' : Int32) (x_text_signs_' : Nat → Int32) (m_thrown_' : Int32) (m_length_' : Int32) (m_text_' : Nat → Int32), f_X5_type p1 x_text_length_ x_text_signs_ = some (r_, x_text_length_', x_text_signs_') ∧ f_X6_type p1 m_length_ m_text_ = some (r_, m_thrown_', m_length_', m_text_') ∧ (Same x_web_places_ x_web_start_ x_web_fairPlaces_ x_web_weights_ m_s_ 0 ∧ HistR x_history_size_ x_history_pl_ x_history_st_ x_history_fp_ x_history_wt_ m_savedMany_ m_saved_ ∧ SnapR x_kept_ x_snapshot_places_ x_snapshot_start_ x_snapshot_fairPlaces_ x_snapshot_weights_ m_hasSnapshot_ m_snapshot_ ∧ TextR x_text_length_' x_text_signs_' m_length_' m_text_' ∧ Zero x_partings_weights_ x_partings_pulls_) := by
  obtain ⟨h1, h2, h3, ⟨L, hL, rfl, rfl, hk⟩, h5⟩ := h
  obtain ⟨c, hc1, rfl⟩ := hc
  unfold f_X5_type f_X3_append f_X6_type
  by_cases e : L = 60
  · subst e
    rw [l60, if_neg (nI_nlt (Nat.le_refl _) (by omega)), if_pos rfl]
    exact ⟨-3, _, _, 0, _, _, rfl, rfl, h1, h2, h3, ⟨60, by omega, rfl, rfl, hk⟩, h5⟩
  · rw [l60, if_pos (nI_lt (by omega) (by omega)), if_neg (fun q => e (nI_inj (by omega) (by omega) q)), if_neg (nI_ge (by omega) (by omega)), chk_n (by omega) (by omega), nI_clamp (by omega), l1, nI_add, chk_n (by omega) (by omega)]
    refine ⟨nI (L + 1), nI (L + 1), _, 0, nI (L + 1), _, rfl, rfl, h1, h2, h3, ⟨L + 1, by omega, rfl, rfl, fun k hk2 => ?_⟩, h5⟩
    by_cases q : k = L
    · subst q
      refine ⟨c, hc1, ?_, upd_same _ _ _⟩
      rw [upd_same, vp_nar_char]
      exact Value.int.inj (pk_charN hc1).1
    · rw [upd_ne _ _ q, upd_ne _ _ q]
      exact hk k (by omega)
theorem eq_weight {x_kept_ : Int32} {x_web_places_ : Int32} {x_web_start_ : Int32} {x_web_fairPlaces_ : Int32} {x_web_weights_ : Nat → Int32} {x_snapshot_places_ : Int32} {x_snapshot_start_ : Int32} {x_snapshot_fairPlaces_ : Int32} {x_snapshot_weights_ : Nat → Int32} {x_history_size_ : Int32} {x_history_pl_ : Nat → Int32} {x_history_st_ : Nat → Int32} {x_history_fp_ : Nat → Int32} {x_history_wt_ : Nat → Nat → Int32} {x_text_length_ : Int32} {x_text_signs_ : Nat → Int32} {x_partings_weights_ : Nat → Int32} {x_partings_pulls_ : Nat → Int32} {m_savedMany_ : Int32} {m_hasSnapshot_ : Int32} {m_length_ : Int32} {m_s_ : Nat → Int32} {m_saved_ : Nat → Int32} {m_snapshot_ : Nat → Int32} {m_text_ : Nat → Int32} (N : Nat) (hN : 600 ≤ N) (p1 : Int32) (p2 : Int32) (h : Same x_web_places_ x_web_start_ x_web_fairPlaces_ x_web_weights_ m_s_ 0 ∧ HistR x_history_size_ x_history_pl_ x_history_st_ x_history_fp_ x_history_wt_ m_savedMany_ m_saved_ ∧ SnapR x_kept_ x_snapshot_places_ x_snapshot_start_ x_snapshot_fairPlaces_ x_snapshot_weights_ m_hasSnapshot_ m_snapshot_ ∧ TextR x_text_length_ x_text_signs_ m_length_ m_text_ ∧ Zero x_partings_weights_ x_partings_pulls_) : ∃ (r_ : Int32) (m_thrown_' : Int32), f_X5_weight p1 p2 x_web_places_ x_web_weights_ = some r_ ∧ f_X6_weight p1 p2 m_s_ = some (r_, m_thrown_') ∧ (Same x_web_places_ x_web_start_ x_web_fairPlaces_ x_web_weights_ m_s_ 0 ∧ HistR x_history_size_ x_history_pl_ x_history_st_ x_history_fp_ x_history_wt_ m_savedMany_ m_saved_ ∧ SnapR x_kept_ x_snapshot_places_ x_snapshot_start_ x_snapshot_fairPlaces_ x_snapshot_weights_ m_hasSnapshot_ m_snapshot_ ∧ TextR x_text_length_ x_text_signs_ m_length_ m_text_ ∧ Zero x_partings_weights_ x_partings_pulls_) := by
  have hh := h
  obtain ⟨⟨n, a, f, W, h1, h2, h3⟩, -⟩ := h
  unfold f_X5_weight f_X6_weight
  have hs : m_s_ 0 = nI n := h3.1
  rw [h2.1]
  rcases pair_x p1 p2 (by have := h1.1; omega) h1.2.1 hs with ⟨i, j, hi, hj, hij, rfl, rfl, e1, e2⟩ | ⟨e, he, e1, e2⟩
  · rw [e1, e2]
    have e3 : f_X6_in (0 : Int32) (0 : Int32) (99 : Int32) = some 1 := by decide
    rw [e3]
    simp only [bd1_ok, if_true, (by decide : ¬ (1 : Int32) = 0), if_false]
    have h10 := h1.2.1
    have e4 := tieOf_w h2 h10 hi hj
    rw [h2.1] at e4
    rw [e4, tied_w h3 (by omega) (by omega)]
    exact ⟨_, 0, rfl, rfl, by rw [← h2.1]; exact hh⟩
  · rw [e1, e2]
    simp only [bd1_ok, he, if_false]
    exact ⟨_, 0, rfl, rfl, by rw [← h2.1]; exact hh⟩
