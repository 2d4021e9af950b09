-- small methods of both sides
theorem RW0 {s : Nat → Int32} {n st fp : Nat} {W : Nat → Nat → Nat} (h : RW s 0 n st fp W) {i j : Nat} (hi : i < 10) (hj : j < 10) : s (3 + 10 * i + j) = nI (W i j) := by
  have h1 := h.2.2.2 i j hi hj
  rw [Nat.zero_add] at h1; exact h1
theorem ix10 (i j : Nat) : (nI i * (10 : Int32)) + nI j = nI (10 * i + j) := by
  rw [l10, pk_mul, nI_add, Nat.mul_comm]
theorem ix3 (i j : Nat) : (((3 : Int32) + ((10 : Int32) * nI i)) + nI j) = nI (3 + 10 * i + j) := by
  rw [l10, l3, pk_mul, nI_add, nI_add]
theorem has_n {i n : Nat} (hi : i < 2 ^ 31) (hn : n < 2 ^ 31) : f_X4_has (nI i) (nI n) = some (if i < n then 1 else 0) := by
  unfold f_X4_has
  rw [if_neg (nI_pos hi)]
  by_cases h : i < n
  · rw [if_neg (nI_ge h hn), if_pos h]
  · rw [if_pos (nI_le (by omega) hi), if_neg h]
theorem has_in {i n : Nat} (h : i < n) (hn : n ≤ 10) : f_X4_has (nI i) (nI n) = some 1 := by
  rw [has_n (by omega) (by omega), if_pos h]
theorem in_n (p : Int32) {a b : Nat} (ha : a < 2 ^ 31) (hb : b < 2 ^ 31) : (∃ i, a ≤ i ∧ i ≤ b ∧ p = nI i ∧ f_X6_in p (nI a) (nI b) = some 1) ∨ ((∀ i, a ≤ i → i ≤ b → p ≠ nI i) ∧ f_X6_in p (nI a) (nI b) = some 0) := by
  unfold f_X6_in
  rcases pk_ix p (n := 2 ^ 31 - 1) (by omega) with h | h | ⟨i, hi, rfl⟩
  · refine Or.inr ⟨fun i h1 h2 e => nI_pos (n := i) (by omega) (e ▸ h), ?_⟩
    rw [if_pos]
    have := nI_pos' ha
    exact Int32.lt_of_lt_of_le h this
  · by_cases hb2 : b = 2 ^ 31 - 1
    · by_cases e : p = nI (2 ^ 31 - 1)
      · by_cases hab : a ≤ b
        · refine Or.inl ⟨b, hab, Nat.le_refl b, by rw [e, hb2], ?_⟩
          rw [e, ← hb2, if_neg (nI_nlt hab hb), if_neg (nI_nlt (Nat.le_refl b) hb)]
        · refine Or.inr ⟨fun i h1 h2 => absurd (Nat.le_trans h1 h2) hab, ?_⟩
          omega
      · exfalso
        have h1 : (nI (2 ^ 31 - 1)).toInt = 2 ^ 31 - 1 := nI_toInt (by omega)
        have h2 := Int32.le_iff_toInt_le.mp h
        have h3 : p.toInt < 2 ^ 31 := p.toInt_lt
        apply e
        apply Int32.toInt_inj.mp
        omega
    · have h1 : (nI (2 ^ 31 - 1)).toInt = 2 ^ 31 - 1 := nI_toInt (by omega)
      have h2 := Int32.le_iff_toInt_le.mp h
      have h3 : (nI b).toInt = b := nI_toInt hb
      have h4 : (nI a).toInt = a := nI_toInt ha
      refine Or.inr ⟨fun i h5 h6 e => ?_, ?_⟩
      · have h7 : (nI i).toInt = i := nI_toInt (by omega)
        rw [e] at h2; omega
      · by_cases q : p < nI a
        · rw [if_pos q]
        · rw [if_neg q, if_pos]
          rw [Int32.lt_iff_toInt_lt]; omega
  · by_cases h1 : a ≤ i
    · rw [if_neg (nI_nlt h1 (by omega))]
      by_cases h2 : i ≤ b
      · rw [if_neg (nI_nlt h2 hb)]
        exact Or.inl ⟨i, h1, h2, rfl, rfl⟩
      · rw [if_pos (nI_lt (by omega) (by omega))]
        refine Or.inr ⟨fun j h3 h4 e => ?_, rfl⟩
        have := nI_inj (by omega) (by omega) e
        omega
    · rw [if_pos (nI_lt (by omega) ha)]
      refine Or.inr ⟨fun j h3 h4 e => ?_, rfl⟩
      have := nI_inj (by omega) (by omega) e
      omega
/-- a number is a place for both, or for none -/
theorem place_x (p : Int32) {n : Nat} {s : Nat → Int32} (h1 : 1 ≤ n) (h2 : n ≤ 10) (hs : s 0 = nI n) : (∃ i, i < n ∧ p = nI i ∧ f_X4_has p (nI n) = some 1 ∧ f_X6_isPlace p s = some 1) ∨ ((∀ i, i < n → p ≠ nI i) ∧ f_X4_has p (nI n) = some 0 ∧ f_X6_isPlace p s = some 0) := by
  unfold f_X6_isPlace
  rw [hs, l1, pk_sub h1, l0]
  rcases in_n p (a := 0) (b := n - 1) (by omega) (by omega) with ⟨i, -, h3, h4, h5⟩ | ⟨h3, h5⟩
  · refine Or.inl ⟨i, by omega, h4, ?_, ?_⟩
    · rw [h4]; exact has_in (by omega) h2
    · rw [h5]; exact chkB_1
  · refine Or.inr ⟨fun i hi => h3 i (Nat.zero_le i) (by omega), ?_, ?_⟩
    · unfold f_X4_has
      rcases pk_ix p (n := n) (by omega) with h | h | ⟨i, hi, rfl⟩
      · rw [if_pos h]; rfl
      · by_cases q : p < 0
        · rw [if_pos q]; rfl
        · rw [if_neg q, if_pos h]; rfl
      · exact absurd rfl (h3 i (Nat.zero_le i) (by omega))
    · rw [h5]; exact chkB_0
theorem tieOf_n {i j n : Nat} {w : Nat → Int32} (hi : i < n) (hj : j < n) (hn : n ≤ 10) : f_X4_tieOf (nI i) (nI j) (nI n) w = some (w (10 * i + j)) := by
  unfold f_X4_tieOf
  rw [has_in hi hn, has_in hj hn]
  simp only [bd1_ok, (by decide : ¬ (1 : Int32) = 0), if_false]
  rw [ix10, chk_n (by omega) (by omega), nI_clamp (by omega)]
theorem bind_n {i j n : Nat} {w : Nat → Int32} {v : Int32} (hi : i < n) (hj : j < n) (hn : n ≤ 10) : f_X4_bind (nI i) (nI j) v (nI n) w = some (upd (upd w (10 * i + j) v) (10 * j + i) v) := by
  unfold f_X4_bind
  rw [has_in hi hn, has_in hj hn]
  simp only [bd1_ok, (by decide : ¬ (1 : Int32) = 0), if_false]
  rw [ix10, ix10, chk_n (by omega) (by omega), chk_n (by omega) (by omega), nI_clamp (by omega), nI_clamp (by omega)]
theorem tied_n {i j : Nat} {s : Nat → Int32} (hi : i < 10) (hj : j < 10) : f_X6_tied (nI i) (nI j) s = some (s (3 + 10 * i + j)) := by
  unfold f_X6_tied
  rw [ix3, chk_n (by omega) (by omega), nI_clamp (by omega)]
theorem ties_n {i j : Nat} {s : Nat → Int32} {v : Int32} (hi : i < 10) (hj : j < 10) : f_X6_ties (nI i) (nI j) v s = some (upd (upd s (3 + 10 * i + j) v) (3 + 10 * j + i) v) := by
  unfold f_X6_ties
  rw [ix3, ix3, chk_n (by omega) (by omega), chk_n (by omega) (by omega), nI_clamp (by omega), nI_clamp (by omega)]
theorem tieOf_w {i j n a f : Nat} {pl st fp : Int32} {w : Nat → Int32} {W : Nat → Nat → Nat} (h : CW pl st fp w n a f W) (hn : n ≤ 10) (hi : i < n) (hj : j < n) : f_X4_tieOf (nI i) (nI j) pl w = some (nI (W i j)) := by
  rw [h.1, tieOf_n hi hj hn, h.2.2.2 i j hi hj]
theorem tied_w {i j n a f : Nat} {s : Nat → Int32} {W : Nat → Nat → Nat} (h : RW s 0 n a f W) (hi : i < 10) (hj : j < 10) : f_X6_tied (nI i) (nI j) s = some (nI (W i j)) := by
  rw [tied_n hi hj, RW0 h hi hj]
/-- two places for both, or the same error -/
theorem pair_x (p q : Int32) {n : Nat} {s : Nat → Int32} (h1 : 1 ≤ n) (h2 : n ≤ 10) (hs : s 0 = nI n) : (∃ i j, i < n ∧ j < n ∧ i ≠ j ∧ p = nI i ∧ q = nI j ∧ f_X5_pairError p q (nI n) = some 0 ∧ ∀ v, f_X6_refusesPair p q v s = bd1 (f_X6_in v (0 : Int32) (99 : Int32)) (fun r3 => if r3 = (0 : Int32) then some (-2 : Int32) else some (0 : Int32))) ∨ (∃ e : Int32, e ≠ 0 ∧ f_X5_pairError p q (nI n) = some e ∧ ∀ v, f_X6_refusesPair p q v s = some e) := by
  unfold f_X5_pairError f_X6_refusesPair
  rcases place_x p h1 h2 hs with ⟨i, hi, rfl, e1, e2⟩ | ⟨-, e1, e2⟩
  · rw [e1, e2]
    rcases place_x q h1 h2 hs with ⟨j, hj, rfl, e3, e4⟩ | ⟨-, e3, e4⟩
    · rw [e3, e4]
      by_cases hij : i = j
      · subst hij
        exact Or.inr ⟨-2, by decide, by simp [bd1], fun v => by simp [bd1]⟩
      · have hne : ¬ nI i = nI j := fun e => hij (nI_inj (by omega) (by omega) e)
        refine Or.inl ⟨i, j, hi, hj, hij, rfl, rfl, by simp [bd1, hne], fun v => by simp [bd1, hne]⟩
    · rw [e3, e4]
      exact Or.inr ⟨-1, by decide, by simp [bd1], fun v => by simp [bd1]⟩
  · rw [e1, e2]
    exact Or.inr ⟨-1, by decide, by simp [bd1], fun v => by simp [bd1]⟩
theorem tie_x (p q v : Int32) {n : Nat} {s : Nat → Int32} (h1 : 1 ≤ n) (h2 : n ≤ 10) (hs : s 0 = nI n) : (∃ i j k, i < n ∧ j < n ∧ i ≠ j ∧ k ≤ 99 ∧ p = nI i ∧ q = nI j ∧ v = nI k ∧ f_X5_tieError p q v (nI n) = some 0 ∧ f_X6_refusesPair p q v s = some 0) ∨ (∃ e : Int32, e ≠ 0 ∧ f_X5_tieError p q v (nI n) = some e ∧ f_X6_refusesPair p q v s = some e) := by
  unfold f_X5_tieError
  rcases pair_x p q h1 h2 hs with ⟨i, j, hi, hj, hij, rfl, rfl, e1, e2⟩ | ⟨e, he, e1, e2⟩
  · rw [e1, e2 v]
    simp only [bd1_ok, if_true]
    rw [show f_X6_in v (0 : Int32) (99 : Int32) = f_X6_in v (nI 0) (nI 99) from rfl]
    rcases in_n v (a := 0) (b := 99) (by omega) (by omega) with ⟨k, -, hk, rfl, e3⟩ | ⟨h3, e3⟩
    · refine Or.inl ⟨i, j, k, hi, hj, hij, hk, rfl, rfl, rfl, ?_, ?_⟩
      · rw [l0, l99, if_neg (nI_nlt (Nat.zero_le k) (by omega)), if_pos (nI_le hk (by omega))]
      · rw [e3]; rfl
    · refine Or.inr ⟨-2, by decide, ?_, ?_⟩
      · rcases pk_ix v (n := 100) (by omega) with h | h | ⟨k, hk, rfl⟩
        · rw [if_pos h]
        · by_cases q0 : v < 0
          · rw [if_pos q0]
          · rw [if_neg q0, if_neg]
            rw [l99]
            intro z
            have a1 := Int32.le_iff_toInt_le.mp h
            have a2 := Int32.le_iff_toInt_le.mp z
            rw [nI_toInt (by omega)] at a1 a2
            omega
        · exact absurd rfl (h3 k (Nat.zero_le k) (by omega))
      · rw [e3]; rfl
  · refine Or.inr ⟨e, he, ?_, e2 v⟩
    rw [e1]
    show (if e = 0 then _ else some e) = _
    rw [if_neg he]
