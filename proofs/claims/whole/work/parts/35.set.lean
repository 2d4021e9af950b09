-- set
theorem chk_c {α : Type} {i : Int32} {n : Nat} {k : Option α} (h : ¬ (i < 0 ∨ n ≤ i.toNatClampNeg)) : chk i n k = k := by unfold chk; rw [if_neg h]
theorem setS_r {N : Nat} {many : Int32} {s saved : Nat → Int32} {v : Int32} {n : Nat} (many' : Int32) (saved' : Nat → Int32) (h1 : 1 ≤ n) (h2 : n ≤ 10) (hs : s 0 = nI n) (hr : f_X6_records N many s saved = some (many', saved')) : (∃ i, i < n ∧ v = nI i ∧ f_X4_has v (nI n) = some 1 ∧ f_X6_set N 0 v many s saved = if s 1 = v then some (-5, 0, many, s, saved) else some (s 1, 0, many', upd s 1 v, saved')) ∨ (f_X4_has v (nI n) = some 0 ∧ f_X6_set N 0 v many s saved = some (-2, 0, many, s, saved)) := by
  unfold f_X6_set f_X6_set_J36
  rw [if_pos rfl]
  rcases place_x v h1 h2 hs with ⟨i, hi, e0, e1, e2⟩ | ⟨-, e1, e2⟩
  · refine Or.inl ⟨i, hi, e0, e1, ?_⟩
    rw [e2]
    simp only [bd1_ok, (by decide : ¬ (1 : Int32) = 0), if_false]
    rw [chk_c (by decide), show ((1 : Int32) + 0).toNatClampNeg = 1 from rfl, hr]
    simp only [bd2_ok]
    rw [chk_c (by decide)]
  · refine Or.inr ⟨e1, ?_⟩
    rw [e2]
    simp only [bd1_ok, if_true]
theorem setF_r {N : Nat} {many : Int32} {s saved : Nat → Int32} {v : Int32} (many' : Int32) (saved' : Nat → Int32) (hr : f_X6_records N many s saved = some (many', saved')) : (∃ i, 1 ≤ i ∧ i ≤ 5 ∧ v = nI i ∧ f_X6_set N 1 v many s saved = if s 2 = v then some (-5, 0, many, s, saved) else some (s 2, 0, many', upd s 2 v, saved')) ∨ ((∀ i, 1 ≤ i → i ≤ 5 → v ≠ nI i) ∧ f_X6_set N 1 v many s saved = some (-2, 0, many, s, saved)) := by
  unfold f_X6_set f_X6_set_J36
  rw [if_neg (by decide), if_pos rfl, show f_X6_in v (1 : Int32) (5 : Int32) = f_X6_in v (nI 1) (nI 5) from rfl]
  rcases in_n v (a := 1) (b := 5) (by omega) (by omega) with ⟨i, a1, a2, e0, e1⟩ | ⟨a1, e1⟩
  · refine Or.inl ⟨i, a1, a2, e0, ?_⟩
    rw [e1]
    simp only [bd1_ok, (by decide : ¬ (1 : Int32) = 0), if_false]
    rw [chk_c (by decide), show ((1 : Int32) + 1).toNatClampNeg = 2 from rfl, hr]
    simp only [bd2_ok]
    rw [chk_c (by decide)]
  · refine Or.inr ⟨a1, ?_⟩
    rw [e1]
    simp only [bd1_ok, if_true]
theorem eq_set {x_kept_ : Int32} {x_web_places_ : Int32} {x_web_start_ : Int32} {x_web_fairPlaces_ : Int32} {x_web_weights_ : Nat → Int32} {x_snapshot_places_ : Int32} {x_snapshot_start_ : Int32} {x_snapshot_fairPlaces_ : Int32} {x_snapshot_weights_ : Nat → Int32} {x_history_size_ : Int32} {x_history_ha_ : Nat → Nat} {x_history_hb_ : Nat → Nat} {x_history_pl_ : Nat → Int32} {x_history_st_ : Nat → Int32} {x_history_fp_ : Nat → Int32} {x_history_wt_ : Nat → Nat → Int32} {x_text_length_ : Int32} {x_text_signs_ : Nat → Int32} {x_partings_weights_ : Nat → Int32} {x_partings_pulls_ : Nat → Int32} {m_savedMany_ : Int32} {m_hasSnapshot_ : Int32} {m_length_ : Int32} {m_s_ : Nat → Int32} {m_saved_ : Nat → Int32} {m_snapshot_ : Nat → Int32} {m_text_ : Nat → Int32} (N : Nat) (hN : 600 ≤ N) (p1 : Int32) (p2 : Int32) (h : Same x_web_places_ x_web_start_ x_web_fairPlaces_ x_web_weights_ m_s_ 0 ∧ HistR x_history_size_ x_history_pl_ x_history_st_ x_history_fp_ x_history_wt_ m_savedMany_ m_saved_ ∧ SnapR x_kept_ x_snapshot_places_ x_snapshot_start_ x_snapshot_fairPlaces_ x_snapshot_weights_ m_hasSnapshot_ m_snapshot_ ∧ TextR x_text_length_ x_text_signs_ m_length_ m_text_ ∧ Zero x_partings_weights_ x_partings_pulls_) : ∃ (r_ : Int32) (x_web_start_' : Int32) (x_web_fairPlaces_' : Int32) (x_history_size_' : Int32) (x_history_ha_' : Nat → Nat) (x_history_hb_' : Nat → Nat) (x_history_pl_' : Nat → Int32) (x_history_st_' : Nat → Int32) (x_history_fp_' : Nat → Int32) (x_history_wt_' : Nat → Nat → Int32) (m_thrown_' : Int32) (m_savedMany_' : Int32) (m_s_' : Nat → Int32) (m_saved_' : Nat → Int32), f_X5_set p1 p2 x_web_places_ x_web_start_ x_web_fairPlaces_ x_web_weights_ x_history_size_ x_history_ha_ x_history_hb_ x_history_pl_ x_history_st_ x_history_fp_ x_history_wt_ = some (r_, x_web_start_', x_web_fairPlaces_', x_history_size_', x_history_ha_', x_history_hb_', x_history_pl_', x_history_st_', x_history_fp_', x_history_wt_') ∧ f_X6_set N p1 p2 m_savedMany_ m_s_ m_saved_ = some (r_, m_thrown_', m_savedMany_', m_s_', m_saved_') ∧ (Same x_web_places_ x_web_start_' x_web_fairPlaces_' x_web_weights_ m_s_' 0 ∧ HistR x_history_size_' x_history_pl_' x_history_st_' x_history_fp_' x_history_wt_' m_savedMany_' m_saved_' ∧ SnapR x_kept_ x_snapshot_places_ x_snapshot_start_ x_snapshot_fairPlaces_ x_snapshot_weights_ m_hasSnapshot_ m_snapshot_ ∧ TextR x_text_length_ x_text_signs_ m_length_ m_text_ ∧ Zero x_partings_weights_ x_partings_pulls_) := by
  obtain ⟨h1, h2, h3, h4, h5⟩ := h
  have hS := h1
  obtain ⟨n, a, f, W, q1, q2, q3⟩ := h1
  have h10 := q1.2.1
  have hs : m_s_ 0 = nI n := q3.1
  obtain ⟨z, ha', hb', pl', st', fp', wt', many', saved', r1, r2, r3⟩ := hist_rec hN x_history_ha_ x_history_hb_ h2 hS
  unfold f_X5_set
  by_cases c0 : p1 = 0
  · subst c0
    rw [if_pos rfl]
    unfold f_X5_setStart
    rcases setS_r (v := p2) many' saved' (by have := q1.1; omega) h10 hs r2 with ⟨i, hi, rfl, e1, e2⟩ | ⟨e1, e2⟩
    · rw [q2.1, e1, ← q2.1, r1, e2]
      have h31 : m_s_ 1 = nI a := q3.2.1
      rw [h31, q2.2.1]
      simp only [bd1_ok, bd7_ok, (by decide : ¬ (1 : Int32) = 0), if_false]
      have ha := q1.2.2.1
      by_cases c : a = i
      · subst c
        rw [if_pos rfl, if_pos rfl]
        exact ⟨-5, _, _, _, x_history_ha_, x_history_hb_, _, _, _, _, 0, _, _, _, rfl, rfl, by rw [← q2.2.1]; exact hS, h2, h3, h4, h5⟩
      · have c2 : ¬ nI a = nI i := fun e => c (nI_inj (by omega) (by omega) e)
        have c3 : ¬ nI i = nI a := fun e => c2 e.symm
        rw [if_neg c2, if_neg c3]
        refine ⟨nI a, nI i, _, z, ha', hb', pl', st', fp', wt', 0, many', _, saved', rfl, rfl, ⟨n, i, f, W, ⟨q1.1, q1.2.1, hi, q1.2.2.2⟩, ⟨q2.1, rfl, q2.2.2⟩, ⟨?_, upd_same _ _ _, ?_, fun x y hx hy => ?_⟩⟩, r3, h3, h4, h5⟩
        · rw [upd_ne _ _ (by omega)]; exact q3.1
        · rw [upd_ne _ _ (by omega)]; exact q3.2.2.1
        · rw [upd_ne _ _ (by omega)]; exact q3.2.2.2 x y hx hy
    · rw [q2.1, e1, e2]
      simp only [bd1_ok, bd9_ok, if_true]
      exact ⟨-2, _, _, _, x_history_ha_, x_history_hb_, _, _, _, _, 0, _, _, _, rfl, rfl, by rw [← q2.1]; exact hS, h2, h3, h4, h5⟩
  · by_cases c1 : p1 = 1
    · subst c1
      rw [if_neg (by decide), if_pos rfl]
      unfold f_X5_setFairPlaces
      rcases setF_r (v := p2) many' saved' r2 with ⟨i, hi1, hi5, rfl, e2⟩ | ⟨a1, e2⟩
      · rw [r1, e2]
        have h32 : m_s_ 2 = nI f := q3.2.2.1
        rw [h32, q2.2.2.1, l1, l5, if_neg (nI_nlt hi1 (by omega)), if_pos (nI_le hi5 (by omega))]
        have hf := q1.2.2.2.2.1
        simp only [bd7_ok]
        by_cases c : f = i
        · subst c
          rw [if_pos rfl, if_pos rfl]
          exact ⟨-5, _, _, _, x_history_ha_, x_history_hb_, _, _, _, _, 0, _, _, _, rfl, rfl, by rw [← q2.2.2.1]; exact hS, h2, h3, h4, h5⟩
        · have c2 : ¬ nI f = nI i := fun e => c (nI_inj (by omega) (by omega) e)
          have c3 : ¬ nI i = nI f := fun e => c2 e.symm
          rw [if_neg c2, if_neg c3]
          refine ⟨nI f, _, nI i, z, ha', hb', pl', st', fp', wt', 0, many', _, saved', rfl, rfl, ⟨n, a, i, W, ⟨q1.1, q1.2.1, q1.2.2.1, hi1, hi5, q1.2.2.2.2.2⟩, ⟨q2.1, q2.2.1, rfl, q2.2.2.2⟩, ⟨?_, ?_, upd_same _ _ _, fun x y hx hy => ?_⟩⟩, r3, h3, h4, h5⟩
          · rw [upd_ne _ _ (by omega)]; exact q3.1
          · rw [upd_ne _ _ (by omega)]; exact q3.2.1
          · rw [upd_ne _ _ (by omega)]; exact q3.2.2.2 x y hx hy
      · rw [e2]
        have e1 : (if p2 < (1 : Int32) then (some ((-2 : Int32), x_web_fairPlaces_, x_history_size_, x_history_ha_, x_history_hb_, x_history_pl_, x_history_st_, x_history_fp_, x_history_wt_)) else if p2 ≤ (5 : Int32) then if p2 = x_web_fairPlaces_ then some ((-5 : Int32), x_web_fairPlaces_, x_history_size_, x_history_ha_, x_history_hb_, x_history_pl_, x_history_st_, x_history_fp_, x_history_wt_) else bd7 (f_X0_remember x_history_size_ x_history_ha_ x_history_hb_ x_history_pl_ x_history_st_ x_history_fp_ x_history_wt_ x_web_places_ x_web_start_ x_web_fairPlaces_ x_web_weights_) (fun x1 a2 a3 a4 a5 a6 a7 => some (x_web_fairPlaces_, p2, x1, a2, a3, a4, a5, a6, a7)) else some ((-2 : Int32), x_web_fairPlaces_, x_history_size_, x_history_ha_, x_history_hb_, x_history_pl_, x_history_st_, x_history_fp_, x_history_wt_)) = some ((-2 : Int32), x_web_fairPlaces_, x_history_size_, x_history_ha_, x_history_hb_, x_history_pl_, x_history_st_, x_history_fp_, x_history_wt_) := by
          by_cases d1 : p2 < 1
          · rw [if_pos d1]
          · rw [if_neg d1]
            by_cases d2 : p2 ≤ 5
            · exfalso
              have d3 : ¬ p2 < 0 := fun z => d1 (by
                rw [Int32.lt_iff_toInt_lt] at z ⊢
                have : (0 : Int32).toInt = 0 := rfl
                have : (1 : Int32).toInt = 1 := rfl
                omega)
              obtain ⟨j, hj, rfl⟩ := nI_of2 (M := 5) (n := 5) rfl d3 d2
              refine a1 j ?_ hj rfl
              rcases Nat.lt_or_ge j 1 with w | w
              · exact absurd (nI_lt w (by omega)) d1
              · exact w
            · rw [if_neg d2]
        rw [e1]
        simp only [bd9_ok]
        exact ⟨-2, _, _, _, x_history_ha_, x_history_hb_, _, _, _, _, 0, _, _, _, rfl, rfl, hS, h2, h3, h4, h5⟩
    · rw [if_neg c0, if_neg c1]
      unfold f_X6_set f_X6_set_J36
      rw [if_neg c0, if_neg c1, if_pos rfl]
      exact ⟨-2, _, _, _, x_history_ha_, x_history_hb_, _, _, _, _, 0, _, _, _, rfl, rfl, hS, h2, h3, h4, h5⟩
