-- the class's way, remove, join
def dW (W : Nat → Nat → Nat) (p one other : Nat) : Nat → Nat → Nat := fun x y => if (x < one ∨ (x = one ∧ y < other)) ∧ (y < one ∨ (y = one ∧ x < other)) then W (sk p x) (sk p y) else W x y
section DC
variable {n a f p N : Nat} {W : Nat → Nat → Nat} {P0 : Option (Int32 × Int32 × (Nat → Int32)) → Prop}
theorem dc_14 (hsym : ∀ i j, W i j = W j i) (hdg : ∀ i, W i i = 0) (h2 : 2 < n) (h10 : n ≤ 10) (hp : p < n) (hN : 600 ≤ N) {one : Nat} (ho : one < n - 1) {st fp : Int32} (k : (Nat → Int32) → Option (Int32 × Int32 × (Nat → Int32))) (P : Option (Int32 × Int32 × (Nat → Int32)) → Prop) (hP : ∀ w, CW (nI n) st fp w n a f (dW W p (one + 1) 0) → P (k w)) (w : Nat → Int32) (h : CW (nI n) st fp w n a f (dW W p one 0)) : P (f_X4_dropPlace_L14 (nI one) (nI p) (nI n) k N (nI 0) w) := by
  refine upx (fun m i w => f_X4_dropPlace_L14 (nI one) (nI p) (nI n) k m (nI i) w) (fun i w => CW (nI n) st fp w n a f (dW W p one i)) one P (fun m i w hi hI => ?_) (fun m w hI => ?_) N 0 w (by omega) (by omega) h
  · have hs1 : sk p one < n := by unfold sk; split <;> omega
    have hs2 : sk p i < n := by unfold sk; split <;> omega
    refine ⟨_, (setW_cw (i := one) (j := i) (k := W (sk p one) (sk p i)) hI h10 (by omega) (by omega)).ext (fun x y hx hy => ?_), ?_⟩
    · have z := hsym (sk p one) (sk p i)
      unfold setW dW
      grind
    · have e0 : dW W p one i (sk p one) (sk p i) = W (sk p one) (sk p i) := by
        unfold dW sk
        grind
      have e1 := tieOf_w hI h10 hs1 hs2
      rw [e0] at e1
      show f_X4_dropPlace_L14 (nI one) (nI p) (nI n) k (m + 1) (nI i) w = _
      rw [f_X4_dropPlace_L14, if_neg (nI_ge hi (by omega))]
      have j31 : ∀ x3' : Int32, True := fun _ => trivial
      have key : ∀ x5 : Int32, x5 = nI (sk p one) → f_X4_dropPlace_J31 (nI p) (nI i) (nI n) w (nI one) (f_X4_dropPlace_L14 (nI one) (nI p) (nI n) k m) x5 = f_X4_dropPlace_L14 (nI one) (nI p) (nI n) k m (nI (i + 1)) (upd (upd w (10 * one + i) (nI (W (sk p one) (sk p i)))) (10 * i + one) (nI (W (sk p one) (sk p i)))) := by
        intro x5 hx5
        have key2 : ∀ x6 : Int32, x6 = nI (sk p i) → f_X4_dropPlace_J45 x5 (nI n) w (nI one) (nI i) (f_X4_dropPlace_L14 (nI one) (nI p) (nI n) k m) x6 = f_X4_dropPlace_L14 (nI one) (nI p) (nI n) k m (nI (i + 1)) (upd (upd w (10 * one + i) (nI (W (sk p one) (sk p i)))) (10 * i + one) (nI (W (sk p one) (sk p i)))) := by
          intro x6 hx6
          unfold f_X4_dropPlace_J45
          rw [hx5, hx6, e1]
          simp only [bd1_ok]
          rw [bind_n (by omega) (by omega) h10]
          simp only [bd1_ok]
          rw [l1, nI_add]
        unfold f_X4_dropPlace_J31
        by_cases c : p ≤ i
        · rw [if_pos (nI_le c (by omega))]
          exact key2 _ (by rw [l1, nI_add]; unfold sk; rw [if_neg (by omega)])
        · rw [if_neg (nI_ge (by omega) (by omega))]
          exact key2 _ (by unfold sk; rw [if_pos (by omega)])
      by_cases c : p ≤ one
      · rw [if_pos (nI_le c (by omega))]
        exact key _ (by rw [l1, nI_add]; unfold sk; rw [if_neg (by omega)])
      · rw [if_neg (nI_ge (by omega) (by omega))]
        exact key _ (by unfold sk; rw [if_pos (by omega)])
  · show P (f_X4_dropPlace_L14 (nI one) (nI p) (nI n) k (m + 1) (nI one) w)
    rw [f_X4_dropPlace_L14, if_pos (nI_le (Nat.le_refl _) (by omega))]
    refine hP w (hI.ext (fun x y hx hy => ?_))
    have z1 := hdg one
    have z2 := hdg (sk p one)
    unfold dW
    grind
theorem drop_c (hW : WF n a f W) (h2 : 2 < n) (hp : p < n) (hN : 600 ≤ N) {pl st fp : Int32} {w : Nat → Int32} (h : CW pl st fp w n a f W) : ∃ w' : Nat → Int32, f_X4_dropPlace N (nI p) pl st w = some (nI (n - 1), nI (if a = p then 0 else if a ≤ p then a else a - 1), w') ∧ ∀ x y, x < n - 1 → y < n - 1 → w' (10 * x + y) = nI (dropW W n p x y) := by
  have h10 := hW.2.1
  have ha := hW.2.2.1
  unfold f_X4_dropPlace
  rw [h.1, h.2.1]
  refine upx (fun m i w => f_X4_dropPlace_L2 N (nI n) (nI p) (fun a16 => f_X4_dropPlace_E73 (nI a) (nI p) (nI n) a16) m (nI i) w) (fun i w => CW (nI n) st fp w n a f (dW W p i 0)) (n - 1) (fun r => ∃ w' : Nat → Int32, r = some (nI (n - 1), nI (if a = p then 0 else if a ≤ p then a else a - 1), w') ∧ ∀ x y, x < n - 1 → y < n - 1 → w' (10 * x + y) = nI (dropW W n p x y)) (fun m i w hi hI => ?_) (fun m w hI => ?_) N 0 w (by omega) (by omega) ?_
  · show ∃ s', _ ∧ f_X4_dropPlace_L2 N (nI n) (nI p) _ (m + 1) (nI i) w = _
    rw [f_X4_dropPlace_L2, l1, pk_sub (by omega), if_neg (nI_ge hi (by omega))]
    refine dc_14 hW.2.2.2.2.2.1 hW.2.2.2.2.2.2.1 h2 h10 hp hN hi _ (fun r => ∃ s', CW (nI n) st fp s' n a f (dW W p (i + 1) 0) ∧ r = f_X4_dropPlace_L2 N (nI n) (nI p) _ m (nI (i + 1)) s') (fun t ht => ⟨t, ht, ?_⟩) w hI
    unfold f_X4_dropPlace_E67
    rw [l1, nI_add]
  · show ∃ w', f_X4_dropPlace_L2 N (nI n) (nI p) _ (m + 1) (nI (n - 1)) w = _ ∧ _
    rw [f_X4_dropPlace_L2, l1, pk_sub (by omega), if_pos (nI_le (Nat.le_refl _) (by omega))]
    refine ⟨w, ?_, fun x y hx hy => ?_⟩
    · unfold f_X4_dropPlace_E73
      by_cases c : a = p
      · subst c
        rw [if_pos rfl, if_pos rfl, l1, pk_sub (by omega)]; rfl
      · rw [if_neg (fun e => c (nI_inj (by omega) (by omega) e)), if_neg c]
        by_cases c2 : a ≤ p
        · rw [if_pos (nI_le c2 (by omega)), if_pos c2, l1, pk_sub (by omega)]
        · rw [if_neg (nI_ge (by omega) (by omega)), if_neg c2, l1, pk_sub (by omega), pk_sub (by omega)]
    · rw [hI.2.2.2 x y (by omega) (by omega)]
      congr 1
      unfold dW dropW
      grind
  · have h' := h
    rw [h.1] at h'
    exact h'.ext (fun x y _ _ => by unfold dW; grind)
end DC
theorem eq_remove {x_kept_ : Int32} {x_web_places_ : Int32} {x_web_start_ : Int32} {x_web_fairPlaces_ : Int32} {x_web_weights_ : Nat → Int32} {x_snapshot_places_ : Int32} {x_snapshot_start_ : Int32} {x_snapshot_fairPlaces_ : Int32} {x_snapshot_weights_ : Nat → Int32} {x_history_size_ : Int32} {x_history_ha_ : Nat → Nat} {x_history_hb_ : Nat → Nat} {x_history_pl_ : Nat → Int32} {x_history_st_ : Nat → Int32} {x_history_fp_ : Nat → Int32} {x_history_wt_ : Nat → Nat → Int32} {x_text_length_ : Int32} {x_text_signs_ : Nat → Int32} {x_partings_weights_ : Nat → Int32} {x_partings_pulls_ : Nat → Int32} {m_savedMany_ : Int32} {m_hasSnapshot_ : Int32} {m_length_ : Int32} {m_s_ : Nat → Int32} {m_saved_ : Nat → Int32} {m_snapshot_ : Nat → Int32} {m_text_ : Nat → Int32} (N : Nat) (hN : 600 ≤ N) (p1 : Int32) (h : Same x_web_places_ x_web_start_ x_web_fairPlaces_ x_web_weights_ m_s_ 0 ∧ HistR x_history_size_ x_history_pl_ x_history_st_ x_history_fp_ x_history_wt_ m_savedMany_ m_saved_ ∧ SnapR x_kept_ x_snapshot_places_ x_snapshot_start_ x_snapshot_fairPlaces_ x_snapshot_weights_ m_hasSnapshot_ m_snapshot_ ∧ TextR x_text_length_ x_text_signs_ m_length_ m_text_ ∧ Zero x_partings_weights_ x_partings_pulls_) : ∃ (r_ : Int32) (x_web_places_' : Int32) (x_web_start_' : Int32) (x_web_weights_' : Nat → Int32) (x_history_size_' : Int32) (x_history_ha_' : Nat → Nat) (x_history_hb_' : Nat → Nat) (x_history_pl_' : Nat → Int32) (x_history_st_' : Nat → Int32) (x_history_fp_' : Nat → Int32) (x_history_wt_' : Nat → Nat → Int32) (m_thrown_' : Int32) (m_savedMany_' : Int32) (m_s_' : Nat → Int32) (m_saved_' : Nat → Int32), f_X5_remove N p1 x_web_places_ x_web_start_ x_web_fairPlaces_ x_web_weights_ x_history_size_ x_history_ha_ x_history_hb_ x_history_pl_ x_history_st_ x_history_fp_ x_history_wt_ = some (r_, x_web_places_', x_web_start_', x_web_weights_', x_history_size_', x_history_ha_', x_history_hb_', x_history_pl_', x_history_st_', x_history_fp_', x_history_wt_') ∧ f_X6_remove N p1 m_savedMany_ m_s_ m_saved_ = some (r_, m_thrown_', m_savedMany_', m_s_', m_saved_') ∧ (Same x_web_places_' x_web_start_' x_web_fairPlaces_ x_web_weights_' m_s_' 0 ∧ HistR x_history_size_' x_history_pl_' x_history_st_' x_history_fp_' x_history_wt_' m_savedMany_' m_saved_' ∧ SnapR x_kept_ x_snapshot_places_ x_snapshot_start_ x_snapshot_fairPlaces_ x_snapshot_weights_ m_hasSnapshot_ m_snapshot_ ∧ TextR x_text_length_ x_text_signs_ m_length_ m_text_ ∧ Zero x_partings_weights_ x_partings_pulls_) := by
  obtain ⟨h1, h2, h3, h4, h5⟩ := h
  have hS := h1
  obtain ⟨n, a, f, W, q1, q2, q3⟩ := h1
  have h10 := q1.2.1
  have hs : m_s_ 0 = nI n := q3.1
  unfold f_X5_remove f_X6_remove
  rcases place_x p1 (by have := q1.1; omega) h10 hs with ⟨p, hp, rfl, e1, e2⟩ | ⟨-, e1, e2⟩
  · rw [q2.1, e1, e2]
    simp only [bd1_ok, (by decide : ¬ (1 : Int32) = 0), if_false]
    rw [hs]
    by_cases c : n = 2
    · subst c
      rw [l2, if_neg (nI_nlt (Nat.le_refl _) (by omega)), if_pos rfl]
      exact ⟨-4, _, _, _, _, x_history_ha_, x_history_hb_, _, _, _, _, 0, _, _, _, rfl, rfl, by rw [← q2.1]; exact hS, h2, h3, h4, h5⟩
    · have hn2 : 2 < n := by have := q1.1; omega
      rw [l2, if_pos (nI_lt hn2 (by omega)), if_neg (fun e => c (nI_inj (by omega) (by omega) e))]
      obtain ⟨z, ha', hb', pl', st', fp', wt', many', saved', r1, r2, r3⟩ := hist_rec hN x_history_ha_ x_history_hb_ h2 hS
      rw [← q2.1, r1, r2]
      simp only [bd7_ok, bd2_ok]
      obtain ⟨w', d1, d2⟩ := drop_c q1 hn2 hp hN q2
      obtain ⟨s', d3, d4⟩ := drops_n hn2 h10 hp hN q3 q1.2.2.2.2.2.2.2.2 (fun x y hy => by rw [q1.2.2.2.2.2.1 x y]; exact q1.2.2.2.2.2.2.2.2 y x hy)
      rw [d1, d3]
      simp only [bd3_ok, bd1_ok]
      have ha := q1.2.2.1
      generalize ha9 : (if a = p then 0 else if a ≤ p then a else a - 1) = a9
      have hs1 : s' 1 = nI a := d4.2.1
      have key : (if s' 1 = nI p then f_X6_remove_J83 s' many' saved' (0 : Int32) else if s' 1 ≤ nI p then f_X6_remove_J83 s' many' saved' (s' 1) else f_X6_remove_J83 s' many' saved' ((s' 1) - (1 : Int32))) = f_X6_remove_J83 s' many' saved' (nI a9) := by
        rw [hs1]
        by_cases c1 : a = p
        · rw [if_pos c1] at ha9; rw [if_pos (by rw [c1]), ← ha9]; rfl
        · rw [if_neg c1] at ha9
          rw [if_neg (fun e => c1 (nI_inj (by omega) (by omega) e))]
          by_cases c2 : a ≤ p
          · rw [if_pos c2] at ha9; rw [if_pos (nI_le c2 (by omega)), ha9]
          · rw [if_neg c2] at ha9; rw [if_neg (nI_ge (by omega) (by omega)), l1, pk_sub (by omega), ha9]
      rw [key]
      unfold f_X6_remove_J83
      have ha10 : a9 < n - 1 := by rw [← ha9]; split <;> (try split) <;> omega
      refine ⟨nI (n - 1), nI (n - 1), nI a9, w', z, ha', hb', pl', st', fp', wt', 0, many', upd s' 1 (nI a9), saved', rfl, ?_, ⟨n - 1, a9, f, dropW W n p, dropW_wf q1 hn2 ha10, ⟨rfl, rfl, q2.2.2.1, d2⟩, ⟨?_, upd_same _ _ _, ?_, fun x y hx hy => ?_⟩⟩, r3, h3, h4, h5⟩
      · rw [upd_ne _ _ (by omega), d4.1]
      · rw [upd_ne _ _ (by omega)]; exact d4.1
      · rw [upd_ne _ _ (by omega)]; exact d4.2.2.1
      · rw [upd_ne _ _ (by omega)]; exact d4.2.2.2 x y hx hy
  · rw [q2.1, e1, e2]
    simp only [bd1_ok, if_true]
    exact ⟨-1, _, _, _, _, x_history_ha_, x_history_hb_, _, _, _, _, 0, _, _, _, rfl, rfl, by rw [← q2.1]; exact hS, h2, h3, h4, h5⟩
-- join
def mgW (W : Nat → Nat → Nat) (lo hi t : Nat) : Nat → Nat → Nat := fun x y => if x = lo ∧ y < t ∧ y ≠ lo ∧ y ≠ hi then min (W lo y + W hi y) 99 else if y = lo ∧ x < t ∧ x ≠ lo ∧ x ≠ hi then min (W lo x + W hi x) 99 else W x y
theorem mgW_wf {n a f lo hi : Nat} {W : Nat → Nat → Nat} (h : WF n a f W) (hl : lo < n) (hh : hi < n) (hne : lo < hi) : WF n a f (mgW W lo hi n) := by
  obtain ⟨h1, h2, h3, h4, h5, h6, h7, h8, h9⟩ := h
  refine ⟨h1, h2, h3, h4, h5, fun x y => ?_, fun x => ?_, fun x y => ?_, fun x y hx => ?_⟩
  · have := h6 x y; unfold mgW; grind
  · have := h7 x; unfold mgW; grind
  · have := h8 x y; unfold mgW; grind
  · have := h9 x y hx; unfold mgW; grind
theorem mgW_step {W : Nat → Nat → Nat} {lo hi i : Nat} (hsym : ∀ i j, W i j = W j i) (hne : lo < hi) (h1 : i ≠ lo) (h2 : i ≠ hi) (x y : Nat) : setW (mgW W lo hi i) lo i (min (W lo i + W hi i) 99) x y = mgW W lo hi (i + 1) x y := by
  have := hsym x y
  unfold setW mgW
  grind
theorem mgW_skip {W : Nat → Nat → Nat} {lo hi i : Nat} (h : i = lo ∨ i = hi) (x y : Nat) : mgW W lo hi i x y = mgW W lo hi (i + 1) x y := by
  unfold mgW
  grind
theorem mgW_lo {W : Nat → Nat → Nat} {lo hi i : Nat} (hne : lo < hi) (h1 : i ≠ lo) (h2 : i ≠ hi) : mgW W lo hi i lo i = W lo i ∧ mgW W lo hi i hi i = W hi i := by
  unfold mgW
  grind
theorem merge_c {n a f lo hi N : Nat} {W : Nat → Nat → Nat} (hW : WF n a f W) (h2 : 2 < n) (hl : lo < hi) (hh : hi < n) (hN : 600 ≤ N) {pl st fp : Int32} {w : Nat → Int32} (h : CW pl st fp w n a f W) : ∃ w' : Nat → Int32, f_X4_mergePlaces N (nI lo) (nI hi) pl st w = some (nI (n - 1), nI (if a = hi then lo else if a ≤ hi then a else a - 1), w') ∧ ∀ x y, x < n - 1 → y < n - 1 → w' (10 * x + y) = nI (dropW (mgW W lo hi n) n hi x y) := by
  have h10 := hW.2.1
  have ha := hW.2.2.1
  unfold f_X4_mergePlaces
  rw [h.1, h.2.1]
  refine upx (fun m i w => f_X4_mergePlaces_L2 (nI n) (nI lo) (nI hi) (fun a10 => f_X4_mergePlaces_E54 N (nI a) (nI hi) (nI n) (nI lo) a10) m (nI i) w) (fun i w => CW (nI n) st fp w n a f (mgW W lo hi i)) n (fun r => ∃ w' : Nat → Int32, r = some (nI (n - 1), nI (if a = hi then lo else if a ≤ hi then a else a - 1), w') ∧ ∀ x y, x < n - 1 → y < n - 1 → w' (10 * x + y) = nI (dropW (mgW W lo hi n) n hi x y)) (fun m i w hi' hI => ?_) (fun m w hI => ?_) N 0 w (by omega) (by omega) ?_
  · show ∃ s', _ ∧ f_X4_mergePlaces_L2 (nI n) (nI lo) (nI hi) _ (m + 1) (nI i) w = _
    rw [f_X4_mergePlaces_L2, if_neg (nI_ge hi' (by omega))]
    by_cases c1 : i = lo
    · refine ⟨w, hI.ext (fun x y _ _ => mgW_skip (Or.inl c1) x y), ?_⟩
      rw [if_pos (by rw [c1])]
      unfold f_X4_mergePlaces_J48
      rw [l1, nI_add]
    · rw [if_neg (fun e => c1 (nI_inj (by omega) (by omega) e))]
      by_cases c2 : i = hi
      · refine ⟨w, hI.ext (fun x y _ _ => mgW_skip (Or.inr c2) x y), ?_⟩
        rw [if_pos (by rw [c2])]
        unfold f_X4_mergePlaces_J48
        rw [l1, nI_add]
      · rw [if_neg (fun e => c2 (nI_inj (by omega) (by omega) e))]
        obtain ⟨g1, g2⟩ := mgW_lo (W := W) hl c1 c2
        have t1 := tieOf_w hI h10 (by omega : lo < n) hi'
        have t2 := tieOf_w hI h10 hh hi'
        rw [g1] at t1
        rw [g2] at t2
        have b1 := hW.2.2.2.2.2.2.2.1 lo i
        have b2 := hW.2.2.2.2.2.2.2.1 hi i
        refine ⟨_, (setW_cw (i := lo) (j := i) (k := min (W lo i + W hi i) 99) hI h10 (by omega) hi').ext (fun x y _ _ => mgW_step hW.2.2.2.2.2.1 hl c1 c2 x y), ?_⟩
        rw [t1]
        simp only [bd1_ok]
        rw [t2]
        simp only [bd1_ok]
        rw [nI_add, l99]
        have e9 : (if nI 99 < nI (W lo i + W hi i) then nI 99 else nI (W lo i + W hi i)) = nI (min (W lo i + W hi i) 99) := by
          by_cases c : 99 < W lo i + W hi i
          · rw [if_pos (nI_lt c (by omega))]; congr 1; omega
          · rw [if_neg (nI_nlt (by omega) (by omega))]; congr 1; omega
        rw [e9, bind_n (by omega) hi' h10]
        simp only [bd1_ok]
        unfold f_X4_mergePlaces_J48
        rw [l1, nI_add]
  · show ∃ w', f_X4_mergePlaces_L2 (nI n) (nI lo) (nI hi) _ (m + 1) (nI n) w = _ ∧ _
    rw [f_X4_mergePlaces_L2, if_pos (nI_le (Nat.le_refl _) (by omega))]
    show ∃ w', f_X4_mergePlaces_E54 N (nI a) (nI hi) (nI n) (nI lo) w = _ ∧ _
    have key : ∀ a1 : Nat, a1 < n → a1 ≠ hi → (if a1 ≤ hi then a1 else a1 - 1) = (if a = hi then lo else if a ≤ hi then a else a - 1) → ∃ w' : Nat → Int32, f_X4_mergePlaces_J67 N (nI hi) (nI n) w (nI a1) = some (nI (n - 1), nI (if a = hi then lo else if a ≤ hi then a else a - 1), w') ∧ ∀ x y, x < n - 1 → y < n - 1 → w' (10 * x + y) = nI (dropW (mgW W lo hi n) n hi x y) := by
      intro a1 ha1 hne he
      have hW1 := mgW_wf hW (by omega : lo < n) hh hl
      have hW2 : WF n a1 f (mgW W lo hi n) := ⟨hW1.1, hW1.2.1, ha1, hW1.2.2.2⟩
      have hI2 : CW (nI n) (nI a1) fp w n a1 f (mgW W lo hi n) := ⟨rfl, rfl, hI.2.2⟩
      obtain ⟨w', d1, d2⟩ := drop_c hW2 h2 hh hN hI2
      rw [if_neg hne, he] at d1
      unfold f_X4_mergePlaces_J67
      rw [d1]
      exact ⟨w', rfl, d2⟩
    unfold f_X4_mergePlaces_E54
    by_cases c : a = hi
    · rw [if_pos (by rw [c])]
      exact key lo (by omega) (by omega) (by rw [if_pos c, if_pos (by omega)])
    · rw [if_neg (fun e => c (nI_inj (by omega) (by omega) e))]
      exact key a (by omega) c (by rw [if_neg c])
  · have h' := h
    rw [h.1] at h'
    exact h'.ext (fun x y _ _ => by unfold mgW; grind)
theorem merge_r {n a f lo hi N : Nat} {p1 p2 x5 : Int32} {W : Nat → Nat → Nat} {s : Nat → Int32} (hW : WF n a f W) (h2 : 2 < n) (hl : lo < hi) (hh : hi < n) (hN : 600 ≤ N) (h : RW s 0 n a f W) (e5 : x5 = nI lo) (e6 : (p1 + p2) - x5 = nI hi) (x3 : Int32) (a4 : Nat → Int32) : ∃ s' : Nat → Int32, f_X6_join_J58 N p1 p2 x3 a4 s x5 = some (nI (n - 1), 0, x3, s', a4) ∧ RW s' 0 (n - 1) (if a = hi then lo else if a ≤ hi then a else a - 1) f (dropW (mgW W lo hi n) n hi) := by
  have h10 := hW.2.1
  have ha := hW.2.2.1
  unfold f_X6_join_J58
  refine upx (fun m i s => f_X6_join_L69 x5 p1 p2 (fun a16 => f_X6_join_E138 N p1 p2 x5 x3 a4 a16) m (nI i) s) (fun i s => RW s 0 n a f (mgW W lo hi i)) n (fun r => ∃ s' : Nat → Int32, r = some (nI (n - 1), 0, x3, s', a4) ∧ RW s' 0 (n - 1) (if a = hi then lo else if a ≤ hi then a else a - 1) f (dropW (mgW W lo hi n) n hi)) (fun m i s hi' hI => ?_) (fun m s hI => ?_) N 0 s (by omega) (by omega) (h.ext (fun x y _ _ => by unfold mgW; grind))
  · have hs : s 0 = nI n := hI.1
    show ∃ s', _ ∧ f_X6_join_L69 x5 p1 p2 _ (m + 1) (nI i) s = _
    rw [f_X6_join_L69, hs, if_neg (nI_ge hi' (by omega)), e6, e5]
    by_cases c1 : i = lo
    · refine ⟨s, hI.ext (fun x y _ _ => mgW_skip (Or.inl c1) x y), ?_⟩
      rw [if_pos (by rw [c1])]
      unfold f_X6_join_J132
      rw [l1, nI_add]
    · rw [if_neg (fun e => c1 (nI_inj (by omega) (by omega) e))]
      by_cases c2 : i = hi
      · refine ⟨s, hI.ext (fun x y _ _ => mgW_skip (Or.inr c2) x y), ?_⟩
        rw [if_pos (by rw [c2])]
        unfold f_X6_join_J132
        rw [l1, nI_add]
      · rw [if_neg (fun e => c2 (nI_inj (by omega) (by omega) e))]
        obtain ⟨g1, g2⟩ := mgW_lo (W := W) hl c1 c2
        have t1 := tied_w hI (by omega : lo < 10) (by omega : i < 10)
        have t2 := tied_w hI (by omega : hi < 10) (by omega : i < 10)
        rw [g1] at t1
        rw [g2] at t2
        have b1 := hW.2.2.2.2.2.2.2.1 lo i
        have b2 := hW.2.2.2.2.2.2.2.1 hi i
        refine ⟨_, (setW_rw (i := lo) (j := i) (k := min (W lo i + W hi i) 99) hI (by omega) (by omega)).ext (fun x y _ _ => mgW_step hW.2.2.2.2.2.1 hl c1 c2 x y), ?_⟩
        rw [t1]
        simp only [bd1_ok]
        rw [t2]
        simp only [bd1_ok]
        rw [nI_add, l99]
        have key : ∀ z : Int32, z = nI (min (W lo i + W hi i) 99) → f_X6_join_J129 (nI lo) (nI i) s (f_X6_join_L69 (nI lo) p1 p2 (fun a16 => f_X6_join_E138 N p1 p2 (nI lo) x3 a4 a16) m) z = f_X6_join_L69 (nI lo) p1 p2 (fun a16 => f_X6_join_E138 N p1 p2 (nI lo) x3 a4 a16) m (nI (i + 1)) (upd (upd s (3 + 10 * lo + i) (nI (min (W lo i + W hi i) 99))) (3 + 10 * i + lo) (nI (min (W lo i + W hi i) 99))) := by
          intro z hz
          unfold f_X6_join_J129
          rw [hz, ties_n (by omega) (by omega)]
          simp only [bd1_ok]
          unfold f_X6_join_J132
          rw [l1, nI_add]
        by_cases c : W lo i + W hi i ≤ 99
        · rw [if_pos (nI_le c (by omega))]; exact key _ (by congr 1; omega)
        · rw [if_neg (nI_ge (by omega) (by omega))]; exact key _ (by congr 1; omega)
  · show ∃ s', f_X6_join_L69 x5 p1 p2 _ (m + 1) (nI n) s = _ ∧ _
    rw [f_X6_join_L69, hI.1, if_pos (nI_le (Nat.le_refl _) (by omega))]
    show ∃ s', f_X6_join_E138 N p1 p2 x5 x3 a4 s = _ ∧ _
    have hW1 := mgW_wf hW (by omega : lo < n) hh hl
    obtain ⟨s', d3, d4⟩ := drops_n h2 h10 hh hN hI hW1.2.2.2.2.2.2.2.2 (fun x y hy => by rw [hW1.2.2.2.2.2.1 x y]; exact hW1.2.2.2.2.2.2.2.2 y x hy)
    unfold f_X6_join_E138
    rw [e6, d3, e5]
    simp only [bd1_ok]
    generalize ha9 : (if a = hi then lo else if a ≤ hi then a else a - 1) = a9
    have hs1 : s' 1 = nI a := d4.2.1
    have key : (if s' 1 = nI hi then f_X6_join_J192 s' x3 a4 (nI lo) else if s' 1 ≤ nI hi then f_X6_join_J192 s' x3 a4 (s' 1) else f_X6_join_J192 s' x3 a4 ((s' 1) - (1 : Int32))) = f_X6_join_J192 s' x3 a4 (nI a9) := by
      rw [hs1]
      by_cases c1 : a = hi
      · rw [if_pos c1] at ha9; rw [if_pos (by rw [c1]), ← ha9]
      · rw [if_neg c1] at ha9
        rw [if_neg (fun e => c1 (nI_inj (by omega) (by omega) e))]
        by_cases c2 : a ≤ hi
        · rw [if_pos c2] at ha9; rw [if_pos (nI_le c2 (by omega)), ha9]
        · rw [if_neg c2] at ha9; rw [if_neg (nI_ge (by omega) (by omega)), l1, pk_sub (by omega), ha9]
    rw [key]
    unfold f_X6_join_J192
    refine ⟨upd s' 1 (nI a9), ?_, ?_, upd_same _ _ _, ?_, fun x y hx hy => ?_⟩
    · rw [upd_ne _ _ (by omega), d4.1]
    · rw [upd_ne _ _ (by omega)]; exact d4.1
    · rw [upd_ne _ _ (by omega)]; exact d4.2.2.1
    · rw [upd_ne _ _ (by omega)]; exact d4.2.2.2 x y hx hy
theorem eq_join {x_kept_ : Int32} {x_web_places_ : Int32} {x_web_start_ : Int32} {x_web_fairPlaces_ : Int32} {x_web_weights_ : Nat → Int32} {x_snapshot_places_ : Int32} {x_snapshot_start_ : Int32} {x_snapshot_fairPlaces_ : Int32} {x_snapshot_weights_ : Nat → Int32} {x_history_size_ : Int32} {x_history_ha_ : Nat → Nat} {x_history_hb_ : Nat → Nat} {x_history_pl_ : Nat → Int32} {x_history_st_ : Nat → Int32} {x_history_fp_ : Nat → Int32} {x_history_wt_ : Nat → Nat → Int32} {x_text_length_ : Int32} {x_text_signs_ : Nat → Int32} {x_partings_weights_ : Nat → Int32} {x_partings_pulls_ : Nat → Int32} {m_savedMany_ : Int32} {m_hasSnapshot_ : Int32} {m_length_ : Int32} {m_s_ : Nat → Int32} {m_saved_ : Nat → Int32} {m_snapshot_ : Nat → Int32} {m_text_ : Nat → Int32} (N : Nat) (hN : 600 ≤ N) (p1 : Int32) (p2 : Int32) (h : Same x_web_places_ x_web_start_ x_web_fairPlaces_ x_web_weights_ m_s_ 0 ∧ HistR x_history_size_ x_history_pl_ x_history_st_ x_history_fp_ x_history_wt_ m_savedMany_ m_saved_ ∧ SnapR x_kept_ x_snapshot_places_ x_snapshot_start_ x_snapshot_fairPlaces_ x_snapshot_weights_ m_hasSnapshot_ m_snapshot_ ∧ TextR x_text_length_ x_text_signs_ m_length_ m_text_ ∧ Zero x_partings_weights_ x_partings_pulls_) : ∃ (r_ : Int32) (x_web_places_' : Int32) (x_web_start_' : Int32) (x_web_weights_' : Nat → Int32) (x_history_size_' : Int32) (x_history_ha_' : Nat → Nat) (x_history_hb_' : Nat → Nat) (x_history_pl_' : Nat → Int32) (x_history_st_' : Nat → Int32) (x_history_fp_' : Nat → Int32) (x_history_wt_' : Nat → Nat → Int32) (m_thrown_' : Int32) (m_savedMany_' : Int32) (m_s_' : Nat → Int32) (m_saved_' : Nat → Int32), f_X5_join N p1 p2 x_web_places_ x_web_start_ x_web_fairPlaces_ x_web_weights_ x_history_size_ x_history_ha_ x_history_hb_ x_history_pl_ x_history_st_ x_history_fp_ x_history_wt_ = some (r_, x_web_places_', x_web_start_', x_web_weights_', x_history_size_', x_history_ha_', x_history_hb_', x_history_pl_', x_history_st_', x_history_fp_', x_history_wt_') ∧ f_X6_join N p1 p2 m_savedMany_ m_s_ m_saved_ = some (r_, m_thrown_', m_savedMany_', m_s_', m_saved_') ∧ (Same x_web_places_' x_web_start_' x_web_fairPlaces_ x_web_weights_' m_s_' 0 ∧ HistR x_history_size_' x_history_pl_' x_history_st_' x_history_fp_' x_history_wt_' m_savedMany_' m_saved_' ∧ SnapR x_kept_ x_snapshot_places_ x_snapshot_start_ x_snapshot_fairPlaces_ x_snapshot_weights_ m_hasSnapshot_ m_snapshot_ ∧ TextR x_text_length_ x_text_signs_ m_length_ m_text_ ∧ Zero x_partings_weights_ x_partings_pulls_) := by
  obtain ⟨h1, h2, h3, h4, h5⟩ := h
  have hS := h1
  obtain ⟨n, a, f, W, q1, q2, q3⟩ := h1
  have h10 := q1.2.1
  have hs : m_s_ 0 = nI n := q3.1
  have ha := q1.2.2.1
  unfold f_X5_join f_X6_join f_X5_pairError
  rcases place_x p1 (by have := q1.1; omega) h10 hs with ⟨i, hi, rfl, e1, e2⟩ | ⟨-, e1, e2⟩
  · rw [q2.1, e1, e2]
    simp only [bd1_ok, (by decide : ¬ (1 : Int32) = 0), if_false]
    rcases place_x p2 (by have := q1.1; omega) h10 hs with ⟨j, hj, rfl, e3, e4⟩ | ⟨-, e3, e4⟩
    · rw [e3, e4]
      simp only [bd1_ok, (by decide : ¬ (1 : Int32) = 0), if_false]
      by_cases hij : i = j
      · subst hij
        rw [if_pos rfl, if_pos rfl]
        simp only [bd1_ok, (by decide : ¬ (-2 : Int32) = 0), if_false]
        exact ⟨-2, _, _, _, _, x_history_ha_, x_history_hb_, _, _, _, _, 0, _, _, _, rfl, rfl, by rw [← q2.1]; exact hS, h2, h3, h4, h5⟩
      · have hne : ¬ nI i = nI j := fun e => hij (nI_inj (by omega) (by omega) e)
        rw [if_neg hne, if_neg hne]
        simp only [bd1_ok, if_true]
        rw [hs]
        by_cases c : n = 2
        · subst c
          rw [l2, if_neg (nI_nlt (Nat.le_refl _) (by omega)), if_pos rfl]
          exact ⟨-4, _, _, _, _, x_history_ha_, x_history_hb_, _, _, _, _, 0, _, _, _, rfl, rfl, by rw [← q2.1]; exact hS, h2, h3, h4, h5⟩
        · have hn2 : 2 < n := by have := q1.1; omega
          rw [l2, if_pos (nI_lt hn2 (by omega)), if_neg (fun e => c (nI_inj (by omega) (by omega) e))]
          obtain ⟨z, ha', hb', pl', st', fp', wt', many', saved', r1, r2, r3⟩ := hist_rec hN x_history_ha_ x_history_hb_ h2 hS
          rw [← q2.1, r1, r2]
          simp only [bd7_ok, bd2_ok]
          have fin : ∀ lo hi : Nat, lo < hi → hi < n → (if nI j < nI i then nI j else nI i) = nI lo → (if nI i < nI j then nI j else nI i) = nI hi → ∀ x5 : Int32, x5 = nI lo → (nI i + nI j) - x5 = nI hi → ∃ (r_ : Int32) (x_web_places_' : Int32) (x_web_start_' : Int32) (x_web_weights_' : Nat → Int32) (s' : Nat → Int32), bd3 (f_X4_mergePlaces N (if nI j < nI i then nI j else nI i) (if nI i < nI j then nI j else nI i) x_web_places_ x_web_start_ x_web_weights_) (fun x9 x10 a11 => some (x9, x9, x10, a11, z, ha', hb', pl', st', fp', wt')) = some (r_, x_web_places_', x_web_start_', x_web_weights_', z, ha', hb', pl', st', fp', wt') ∧ f_X6_join_J58 N (nI i) (nI j) many' saved' m_s_ x5 = some (r_, 0, many', s', saved') ∧ Same x_web_places_' x_web_start_' x_web_fairPlaces_ x_web_weights_' s' 0 := by
            intro lo hi hl hh g1 g2 x5 g3 g4
            obtain ⟨w', d1, d2⟩ := merge_c q1 hn2 hl hh hN q2
            obtain ⟨s', d3, d4⟩ := merge_r q1 hn2 hl hh hN q3 g3 g4 many' saved'
            rw [g1, g2, d1, d3]
            refine ⟨nI (n - 1), nI (n - 1), _, w', s', rfl, rfl, n - 1, _, f, dropW (mgW W lo hi n) n hi, dropW_wf (mgW_wf q1 (by omega) hh hl) hn2 ?_, ⟨rfl, rfl, q2.2.2.1, d2⟩, d4⟩
            split <;> (try split) <;> omega
          by_cases c1 : j ≤ i
          · rw [if_pos (nI_le c1 (by omega))]
            obtain ⟨r_, y1, y2, y3, s', g1, g2, g3⟩ := fin j i (by omega) hi (by rw [if_pos (nI_lt (by omega) (by omega))]) (by rw [if_neg (nI_nlt (by omega) (by omega))]) (nI j) rfl (by rw [nI_add, pk_sub (by omega)]; congr 1; omega)
            exact ⟨r_, y1, y2, y3, z, ha', hb', pl', st', fp', wt', 0, many', s', saved', g1, g2, g3, r3, h3, h4, h5⟩
          · rw [if_neg (nI_ge (by omega) (by omega))]
            obtain ⟨r_, y1, y2, y3, s', g1, g2, g3⟩ := fin i j (by omega) hj (by rw [if_neg (nI_nlt (by omega) (by omega))]) (by rw [if_pos (nI_lt (by omega) (by omega))]) (nI i) rfl (by rw [nI_add, pk_sub (by omega)]; congr 1; omega)
            exact ⟨r_, y1, y2, y3, z, ha', hb', pl', st', fp', wt', 0, many', s', saved', g1, g2, g3, r3, h3, h4, h5⟩
    · rw [e3, e4]
      simp only [bd1_ok, if_true, (by decide : ¬ (-1 : Int32) = 0), if_false]
      exact ⟨-1, _, _, _, _, x_history_ha_, x_history_hb_, _, _, _, _, 0, _, _, _, rfl, rfl, by rw [← q2.1]; exact hS, h2, h3, h4, h5⟩
  · rw [q2.1, e1, e2]
    simp only [bd1_ok, if_true, (by decide : ¬ (-1 : Int32) = 0), if_false]
    exact ⟨-1, _, _, _, _, x_history_ha_, x_history_hb_, _, _, _, _, 0, _, _, _, rfl, rfl, by rw [← q2.1]; exact hS, h2, h3, h4, h5⟩
