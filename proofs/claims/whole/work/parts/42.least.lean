-- all least partings; tight pairs; measure
/-- a counted loop that may end early -/
theorem upe {σ β : Type} (F : Nat → Nat → σ → β) (I : Nat → σ → Prop) (n : Nat) (Post : β → Prop) (hs : ∀ m i s, i < n → I i s → Post (F (m + 1) i s) ∨ ∃ s', I (i + 1) s' ∧ F (m + 1) i s = F m (i + 1) s') (he : ∀ m s, I n s → Post (F (m + 1) n s)) : ∀ m i s, i ≤ n → n < m + i → I i s → Post (F m i s) := by
  intro m
  induction m with
  | zero => intro i s h1 h2; omega
  | succ m ih =>
    intro i s h1 h2 h3
    rcases Nat.lt_or_ge i n with h | h
    · rcases hs m i s h h3 with h4 | ⟨s', h4, h5⟩
      · exact h4
      · rw [h5]; exact ih (i + 1) s' h (by omega) h4
    · have e : i = n := by omega
      subst e; exact he m s h3
def PL (c : Nat → Nat) (v : Nat) : Nat → Bool := fun t => decide (1 ≤ t) && decide (c t = v)
def IsMin (c : Nat → Nat) (k v : Nat) : Prop := (∀ u, 1 ≤ u → u < k → v ≤ c u) ∧ ∃ u, 1 ≤ u ∧ u < k ∧ c u = v
theorem PL_t {c : Nat → Nat} {v t : Nat} (h : 1 ≤ t) (e : c t = v) : PL c v t = true := by unfold PL; simp [h, e]
theorem PL_f {c : Nat → Nat} {v t : Nat} (e : c t ≠ v) : PL c v t = false := by unfold PL; simp [e]
theorem PL_e {c : Nat → Nat} {v t : Nat} (h : PL c v t = true) : 1 ≤ t ∧ c t = v := by unfold PL at h; simpa using h
theorem PL_0 {c : Nat → Nat} {v : Nat} : PL c v 0 = false := rfl
theorem PL_ct {c : Nat → Nat} {v k : Nat} (h : 1 ≤ k) : ct (PL c v) k ≤ k - 1 := by
  obtain ⟨m, rfl⟩ : ∃ m, k = m + 1 := ⟨k - 1, by omega⟩
  clear h
  induction m with
  | zero => rw [ct, PL_0]; exact Nat.le_refl 0
  | succ m ih => rw [ct]; split <;> omega
theorem IsMin.one {c : Nat → Nat} {k v v' : Nat} (h : IsMin c k v) (h' : IsMin c k v') : v = v' := by
  obtain ⟨a1, u, a2, a3, a4⟩ := h
  obtain ⟨b1, x, b2, b3, b4⟩ := h'
  have := a1 x b2 b3
  have := b1 u a2 a3
  omega
/-- what the rows of the least hold, before k -/
def LsR (c : Nat → Nat) (k v : Nat) (ls : Nat → Int32) : Prop := ∀ u, u < k → PL c v u = true → ls (ct (PL c v) u) = nI (2 * u)
theorem fl_n {M N : Nat} {c : Nat → Nat} {wts : Nat → Int32} (hM2 : 2 ≤ M) (hM : M ≤ 512) (hN : 600 ≤ N) (hc : ∀ t, c t ≤ 20000) (hw : ∀ t, t < M → wts (2 * t) = nI (c t)) (lw0 : Int32) (ls0 : Nat → Int32) : ∃ (v : Nat) (ls : Nat → Int32), f_X1_findLeast N (nI (2 * M)) lw0 wts ls0 = some (nI v, nI (ct (PL c v) M), ls) ∧ IsMin c M v ∧ LsR c M v ls := by
  unfold f_X1_findLeast
  refine upx (σ := Int32 × Int32 × (Nat → Int32)) (fun m i s => f_X1_findLeast_L7 (nI (2 * M)) wts (fun x12 x13 a14 => f_X1_findLeast_E89 x12 x13 a14) m (nI (2 * i)) s.1 s.2.1 s.2.2) (fun i s => 1 ≤ i ∧ ((i = 1 ∧ s.2.1 = nI 0) ∨ (2 ≤ i ∧ ∃ v, IsMin c i v ∧ s.1 = nI v ∧ s.2.1 = nI (ct (PL c v) i) ∧ LsR c i v s.2.2))) M (fun r => ∃ (v : Nat) (ls : Nat → Int32), r = some (nI v, nI (ct (PL c v) M), ls) ∧ IsMin c M v ∧ LsR c M v ls) (fun m i s hi hI => ?_) (fun m s hI => ?_) N 1 (lw0, (0 : Int32), ls0) (by omega) (by omega) ⟨Nat.le_refl _, Or.inl ⟨rfl, rfl⟩⟩
  · obtain ⟨lw, lc, ls⟩ := s
    obtain ⟨hi1, hI⟩ := hI
    dsimp only at hI
    have hwi := hw i hi
    have hci := hc i
    show ∃ s', _ ∧ f_X1_findLeast_L7 (nI (2 * M)) wts _ (m + 1) (nI (2 * i)) lw lc ls = _
    rw [f_X1_findLeast_L7, if_neg (nI_ge (by omega) (by omega))]
    -- a new least one
    have fresh : (∀ u, 1 ≤ u → u < i → c i < c u) → ∃ s' : Int32 × Int32 × (Nat → Int32), (1 ≤ i + 1 ∧ ((i + 1 = 1 ∧ s'.2.1 = nI 0) ∨ (2 ≤ i + 1 ∧ ∃ v, IsMin c (i + 1) v ∧ s'.1 = nI v ∧ s'.2.1 = nI (ct (PL c v) (i + 1)) ∧ LsR c (i + 1) v s'.2.2))) ∧ f_X1_findLeast_J50 (nI (2 * i)) wts (f_X1_findLeast_L7 (nI (2 * M)) wts (fun x12 x13 a14 => f_X1_findLeast_E89 x12 x13 a14) m) ls (nI (c i)) (0 : Int32) = f_X1_findLeast_L7 (nI (2 * M)) wts (fun x12 x13 a14 => f_X1_findLeast_E89 x12 x13 a14) m (nI (2 * (i + 1))) s'.1 s'.2.1 s'.2.2 := by
      intro hlt
      have z : ct (PL c (c i)) i = 0 := ct_zero (fun u hu => by
        by_cases c0 : 1 ≤ u
        · exact PL_f (by have := hlt u c0 hu; omega)
        · have : u = 0 := by omega
          subst this; rfl)
      refine ⟨(nI (c i), nI 1, upd ls 0 (nI (2 * i))), ⟨by omega, Or.inr ⟨by omega, c i, ⟨fun u h1 h2 => ?_, i, hi1, by omega, rfl⟩, rfl, ?_, fun u hu hp => ?_⟩⟩, ?_⟩
      · by_cases e : u = i
        · subst e; exact Nat.le_refl _
        · have := hlt u h1 (by omega); omega
      · rw [ct, z, PL_t hi1 rfl]; rfl
      · have ⟨p1, p2⟩ := PL_e hp
        have e : u = i := by
          by_cases e : u = i
          · exact e
          · have := hlt u p1 (by omega); omega
        subst e
        rw [z]
        show upd ls 0 (nI (2 * u)) 0 = _
        exact upd_same _ _ _
      · unfold f_X1_findLeast_J50
        rw [chk_n (by omega) (by omega), nI_clamp (by omega), hwi, if_pos rfl, l0, chk_n (by omega) (by omega), nI_clamp (by omega)]
        unfold f_X1_findLeast_J83
        rw [l2, nI_add, l1, nI_add]
        rfl
    rcases hI with ⟨rfl, h0⟩ | ⟨h2, v, hv, rfl, rfl, hls⟩
    · rw [h0, if_pos (show nI 0 = 0 from rfl), chk_n (by omega) (by omega), nI_clamp (by omega), hwi]
      exact fresh (fun u h1 h2 => absurd h2 (by omega))
    · have hv2 := hv
      obtain ⟨m1, u0, m2, m3, m4⟩ := hv
      have hpos : 0 < ct (PL c v) i := by
        have := ct_lt (PL c v) m3 (PL_t m2 m4); omega
      have hle := PL_ct (c := c) (v := v) hi1
      have hvb : v ≤ 20000 := by rw [← m4]; exact hc u0
      rw [if_neg (nI_ne0 hpos (by omega)), chk_n (by omega) (by omega), nI_clamp (by omega), hwi]
      by_cases c1 : v ≤ c i
      · rw [if_pos (nI_le c1 (by omega))]
        unfold f_X1_findLeast_J50
        rw [chk_n (by omega) (by omega), nI_clamp (by omega), hwi]
        by_cases c2 : c i = v
        · rw [if_pos (by rw [c2]), chk_n (by omega) (by omega), nI_clamp (by omega)]
          refine ⟨(nI v, nI (ct (PL c v) i + 1), upd ls (ct (PL c v) i) (nI (2 * i))), ⟨by omega, Or.inr ⟨by omega, v, ⟨fun u h1 h2 => ?_, u0, m2, by omega, m4⟩, rfl, ?_, fun u hu hp => ?_⟩⟩, ?_⟩
          · by_cases e : u = i
            · subst e; exact c1
            · exact m1 u h1 (by omega)
          · rw [ct, PL_t hi1 c2]; rfl
          · by_cases e : u = i
            · subst e
              show upd ls (ct (PL c v) u) (nI (2 * u)) (ct (PL c v) u) = _
              exact upd_same _ _ _
            · have hl := ct_lt (PL c v) (by omega : u < i) hp
              show upd ls _ _ _ = _
              rw [upd_ne _ _ (by omega)]
              exact hls u (by omega) hp
          · unfold f_X1_findLeast_J83
            rw [l2, nI_add, l1, nI_add]
            rfl
        · rw [if_neg (fun e => c2 (nI_inj (by omega) (by omega) e))]
          refine ⟨(nI v, nI (ct (PL c v) i), ls), ⟨by omega, Or.inr ⟨by omega, v, ⟨fun u h1 h2 => ?_, u0, m2, by omega, m4⟩, rfl, ?_, fun u hu hp => ?_⟩⟩, ?_⟩
          · by_cases e : u = i
            · subst e; exact c1
            · exact m1 u h1 (by omega)
          · rw [ct, PL_f c2]; rfl
          · have : u ≠ i := fun e => by
              subst e
              rw [PL_f c2] at hp; cases hp
            exact hls u (by omega) hp
          · unfold f_X1_findLeast_J83
            rw [l2, nI_add]
            rfl
      · rw [if_neg (nI_ge (by omega) (by omega)), chk_n (by omega) (by omega)]
        exact fresh (fun u h1 h2 => by have := m1 u h1 h2; omega)
  · obtain ⟨lw, lc, ls⟩ := s
    obtain ⟨hi1, hI⟩ := hI
    rcases hI with ⟨h1, -⟩ | ⟨h2, v, hv, e1, e2, hls⟩
    · omega
    · show ∃ (v : Nat) (ls' : Nat → Int32), f_X1_findLeast_L7 (nI (2 * M)) wts _ (m + 1) (nI (2 * M)) lw lc ls = _ ∧ _
      rw [f_X1_findLeast_L7, if_pos (nI_le (Nat.le_refl _) (by omega))]
      dsimp only at e1 e2
      rw [e1, e2]
      exact ⟨v, ls, rfl, hv, hls⟩
-- whether a set parts two places
theorem holds_n {b i : Nat} (hi : i < 31) : f_X5_holds (nI b) (nI i) = some (if b.testBit i then 1 else 0) := by
  unfold f_X5_holds
  by_cases c : b.testBit i = true
  · rw [if_neg (fun e => by rw [bt_zero hi] at e; rw [e] at c; cases c), if_pos c]
  · rw [if_pos ((bt_zero hi).mpr (by simpa using c)), if_neg c]
theorem parts_n {b i j : Nat} (hi : i < 31) (hj : j < 31) : f_X5_parts (nI b) (nI i) (nI j) = some (if b.testBit i = b.testBit j then 0 else 1) := by
  unfold f_X5_parts
  rw [holds_n hi, holds_n hj]
  simp only [bd1_ok]
  cases b.testBit i <;> cases b.testBit j <;> simp
/-- a pair is parted by each of all least partings -/
def AllP (c : Nat → Nat) (M v i j : Nat) : Prop := ∀ u, 1 ≤ u → u < M → c u = v → (2 * u).testBit i ≠ (2 * u).testBit j
theorem pba_n {M N v i j : Nat} {c : Nat → Nat} {ls : Nat → Int32} (hM1 : 1 ≤ M) (hM : M ≤ 512) (hN : 600 ≤ N) (hi : i < 31) (hj : j < 31) (hls : LsR c M v ls) : (AllP c M v i j ∧ f_X1_partedByAllLeast N (nI i) (nI j) (nI (ct (PL c v) M)) ls = some 1) ∨ (¬ AllP c M v i j ∧ f_X1_partedByAllLeast N (nI i) (nI j) (nI (ct (PL c v) M)) ls = some 0) := by
  unfold f_X1_partedByAllLeast
  have hle := PL_ct (c := c) (v := v) hM1
  refine upe (σ := Unit) (fun m r _ => f_X1_partedByAllLeast_L2 (nI (ct (PL c v) M)) ls (nI i) (nI j) (f_X1_partedByAllLeast_E32) m (nI r)) (fun r _ => ∀ u, u < M → PL c v u = true → ct (PL c v) u < r → (2 * u).testBit i ≠ (2 * u).testBit j) (ct (PL c v) M) (fun x => (AllP c M v i j ∧ x = some 1) ∨ (¬ AllP c M v i j ∧ x = some 0)) (fun m r _ hr hI => ?_) (fun m _ hI => ?_) N 0 () (by omega) (by omega) (fun u _ _ h => absurd h (by omega))
  · obtain ⟨u, hu1, hu2, hu3⟩ := ct_kth hr
    have hls1 := hls u hu1 hu2
    rw [hu3] at hls1
    have e : f_X1_partedByAllLeast_L2 (nI (ct (PL c v) M)) ls (nI i) (nI j) (f_X1_partedByAllLeast_E32) (m + 1) (nI r) = if (2 * u).testBit i = (2 * u).testBit j then some 0 else f_X1_partedByAllLeast_L2 (nI (ct (PL c v) M)) ls (nI i) (nI j) (f_X1_partedByAllLeast_E32) m (nI (r + 1)) := by
      rw [f_X1_partedByAllLeast_L2, if_neg (nI_ge hr (by omega)), chk_n (by omega) (by omega), nI_clamp (by omega), hls1, parts_n hi hj]
      simp only [bd1_ok]
      by_cases q : (2 * u).testBit i = (2 * u).testBit j
      · rw [if_pos q, if_pos q, if_pos rfl]
      · rw [if_neg q, if_neg q, if_neg (by decide), l1, nI_add]
    by_cases q : (2 * u).testBit i = (2 * u).testBit j
    · refine Or.inl (Or.inr ⟨fun h => ?_, by rw [e, if_pos q]⟩)
      obtain ⟨p1, p2⟩ := PL_e hu2
      exact h u p1 hu1 p2 q
    · refine Or.inr ⟨(), fun x hx1 hx2 hx3 => ?_, by rw [e, if_neg q]⟩
      by_cases z : ct (PL c v) x < r
      · exact hI x hx1 hx2 z
      · have : x = u := ct_inj hx2 hu2 (by omega)
        subst this; exact q
  · show (_ ∧ f_X1_partedByAllLeast_L2 _ ls (nI i) (nI j) _ (m + 1) (nI (ct (PL c v) M)) = _) ∨ (_ ∧ f_X1_partedByAllLeast_L2 _ ls (nI i) (nI j) _ (m + 1) (nI (ct (PL c v) M)) = _)
    rw [f_X1_partedByAllLeast_L2, if_pos (nI_le (Nat.le_refl _) (by omega))]
    exact Or.inl ⟨fun u h1 h2 h3 => hI u h2 (PL_t h1 h3) (ct_lt _ h2 (PL_t h1 h3)), rfl⟩
