-- the first least parting of a kind; fairness; a tie's least
/-- the first u in 1..k-1 with p whose c is least -/
def best (p : Nat → Bool) (c : Nat → Nat) : Nat → Option Nat
  | 0 => none
  | k + 1 => if k = 0 then none else if p k then (match best p c k with
    | none => some k
    | some r => if c r ≤ c k then some r else some k) else best p c k
theorem best_lt {p : Nat → Bool} {c : Nat → Nat} : ∀ {k r : Nat}, best p c k = some r → 1 ≤ r ∧ r < k ∧ p r = true
  | 0, r, h => by cases h
  | k + 1, r, h => by
    rw [best] at h
    by_cases z : k = 0
    · rw [if_pos z] at h; cases h
    · rw [if_neg z] at h
      by_cases q : p k = true
      · rw [if_pos q] at h
        split at h
        · cases h; exact ⟨by omega, by omega, q⟩
        · rename_i r' e
          have := best_lt e
          split at h
          · cases h; exact ⟨this.1, by omega, this.2.2⟩
          · cases h; exact ⟨by omega, by omega, q⟩
      · rw [if_neg q] at h
        have := best_lt h
        exact ⟨this.1, by omega, this.2.2⟩
theorem best_some {p : Nat → Bool} {c : Nat → Nat} : ∀ {k : Nat} {u : Nat}, 1 ≤ u → u < k → p u = true → best p c k ≠ none
  | 0, u, _, h, _ => absurd h (by omega)
  | k + 1, u, h1, h2, h3 => by
    rw [best, if_neg (by omega)]
    by_cases q : p k = true
    · rw [if_pos q]
      split
      · simp
      · split <;> simp
    · rw [if_neg q]
      have : u ≠ k := fun e => q (e ▸ h3)
      exact best_some h1 (by omega) h3
def bC (o : Option Nat) : Int32 := match o with
  | none => nI 0
  | some r => nI (2 * r)
def bR (o : Option Nat) : Int32 := match o with
  | none => (-5 : Int32)
  | some r => nI (2 * r)
def bW (c : Nat → Nat) (o : Option Nat) : Int32 := match o with
  | none => (0 : Int32)
  | some r => nI (c r)
theorem bR_ne (r : Nat) (h : r < 2 ^ 31) : ¬ nI r = (-5 : Int32) := by
  intro e
  have := nI_pos h
  rw [e] at this
  exact this (by decide)
-- sets of ones
def pc (b : Nat) : Nat := sm (fun i => if b.testBit i then 1 else 0) 10
theorem pc_c : ∀ b, b < 1024 → f_J6_bitCount_0f7a4 (nI b) = some (nI (pc b)) := by decide +kernel
theorem pc_le (b : Nat) : pc b ≤ 10 := sm_le (c := 1) (fun i _ => by split <;> omega)
theorem ones_n {N b : Nat} (hN : 600 ≤ N) (hb : b < 2 ^ 31) : f_X6_ones N (nI b) = some (nI (pc b)) := by
  unfold f_X6_ones
  refine up (fun m i => f_X6_ones_L4 (nI b) (fun x6 => f_X6_ones_E24 x6) m (nI (sm (fun i => if b.testBit i then 1 else 0) i)) (nI i)) _ 10 (fun m i hi => ?_) (fun m => rfl) N 0 (by omega) (by omega)
  show f_X6_ones_L4 (nI b) _ (m + 1) (nI (sm _ i)) (nI i) = f_X6_ones_L4 (nI b) _ m (nI (sm _ (i + 1))) (nI (i + 1))
  rw [f_X6_ones_L4, l10, if_neg (nI_ge hi (by omega)), bt_r hb (by omega), nI_add, l1, nI_add, sm]
def FV (n f b : Nat) : Int32 := if nI (pc b) < nI f then 0 else if (nI n - nI (pc b)) < nI f then 0 else 1
def fr (n f : Nat) : Nat → Bool := fun t => decide (FV n f (2 * t) ≠ 0)
theorem fr_c {n f b : Nat} (hb : b < 1024) : f_X1_isFair (nI b) (nI f) (nI n) = some (FV n f b) := by
  unfold f_X1_isFair
  rw [pc_c b hb]
  simp only [bd1_ok]
  unfold FV
  split
  · rfl
  · split <;> rfl
theorem fr_r {n a f N b : Nat} {W : Nat → Nat → Nat} {s : Nat → Int32} (h : RW s 0 n a f W) (hN : 600 ≤ N) (hb : b < 2 ^ 31) : f_X6_isFair N (nI b) s = some (FV n f b) := by
  unfold f_X6_isFair
  rw [ones_n hN hb, h.1, h.2.2.1]
  simp only [bd1_ok]
  unfold FV
  split
  · rfl
  · split <;> rfl
theorem fr_t {n f t : Nat} (q : fr n f t = true) : ¬ FV n f (2 * t) = 0 := by unfold fr at q; exact of_decide_eq_true q
theorem fr_f {n f t : Nat} (q : ¬ fr n f t = true) : FV n f (2 * t) = 0 := by unfold fr at q; simpa using q
def bp (i j : Nat) : Nat → Bool := fun t => decide ((2 * t).testBit i ≠ (2 * t).testBit j)
theorem bp_e {i j t : Nat} : bp i j t = true ↔ (2 * t).testBit i ≠ (2 * t).testBit j := by unfold bp; simp
theorem bp_t {i j t : Nat} (q : bp i j t = true) : ¬ (if (2 * t).testBit i = (2 * t).testBit j then (0 : Int32) else 1) = 0 := by
  rw [if_neg (bp_e.mp q)]; decide
theorem bp_f {i j t : Nat} (q : ¬ bp i j t = true) : (if (2 * t).testBit i = (2 * t).testBit j then (0 : Int32) else 1) = 0 := by
  rw [if_pos]
  cases x : (2 * t).testBit i <;> cases y : (2 * t).testBit j <;> first | rfl | (exfalso; exact q (bp_e.mpr (by rw [x, y]; decide)))
theorem lfC {n N f : Nat} {c : Nat → Nat} {wts : Nat → Int32} (h2 : 2 ≤ n) (h10 : n ≤ 10) (hN : 600 ≤ N) (hc : ∀ t, c t ≤ 20000) (hw : ∀ t, t < 2 ^ (n - 1) → wts (2 * t) = nI (c t)) : f_X1_leastFair N (nI f) (nI n) (nI (2 ^ n)) wts = some (bC (best (fr n f) c (2 ^ (n - 1)))) := by
  obtain ⟨hM, hM2, hM5⟩ := M_n h2 h10
  unfold f_X1_leastFair
  refine upx (σ := Unit) (fun m i _ => f_X1_leastFair_L4 (nI (2 ^ n)) (nI f) (nI n) wts (fun x8 => f_X1_leastFair_E48 x8) m (bC (best (fr n f) c i)) (nI (2 * i))) (fun i _ => 1 ≤ i) (2 ^ (n - 1)) (fun x => x = some (bC (best (fr n f) c (2 ^ (n - 1))))) (fun m i _ hi h1 => ⟨(), Nat.le_succ_of_le h1, ?_⟩) (fun m _ _ => ?_) N 1 () (by omega) (by omega) (Nat.le_refl _)
  · show f_X1_leastFair_L4 (nI (2 ^ n)) (nI f) (nI n) wts _ (m + 1) (bC (best (fr n f) c i)) (nI (2 * i)) = f_X1_leastFair_L4 (nI (2 ^ n)) (nI f) (nI n) wts _ m (bC (best (fr n f) c (i + 1))) (nI (2 * (i + 1)))
    rw [f_X1_leastFair_L4, if_neg (nI_ge (by omega) (by omega)), fr_c (by omega)]
    simp only [bd1_ok]
    rw [best, if_neg (show ¬ i = 0 by omega)]
    by_cases q : (fr n f) i = true
    · rw [if_pos q, if_neg (fr_t q)]
      cases e : best (fr n f) c i with
      | none =>
        rw [if_pos (show bC none = 0 from rfl)]
        unfold f_X1_leastFair_J42
        rw [l2, nI_add]
        rfl
      | some r =>
        obtain ⟨r1, r2, r3⟩ := best_lt e
        have hci := hc i
        have hcr := hc r
        have ei := hw i hi
        have er := hw r (by omega)
        show (if nI (2 * r) = 0 then _ else chk (nI (2 * i)) 1024 (chk (nI (2 * r)) 1024 _)) = _
        rw [if_neg (nI_ne0 (by omega) (by omega)), chk_n (by omega) (by omega), chk_n (by omega) (by omega)]
        show (if wts (nI (2 * r)).toNatClampNeg ≤ wts (nI (2 * i)).toNatClampNeg then _ else _) = _
        rw [nI_clamp (by omega), nI_clamp (by omega), ei, er]
        unfold f_X1_leastFair_J42
        by_cases d : c r ≤ c i
        · rw [if_pos (nI_le d (by omega)), l2, nI_add]
          dsimp only
          rw [if_pos d]
          rfl
        · rw [if_neg (nI_ge (by omega) (by omega)), l2, nI_add]
          dsimp only
          rw [if_neg d]
          rfl
    · rw [if_neg q, if_pos (fr_f q)]
      unfold f_X1_leastFair_J42
      rw [l2, nI_add]
      rfl
  · show f_X1_leastFair_L4 (nI (2 ^ n)) (nI f) (nI n) wts _ (m + 1) (bC (best (fr n f) c (2 ^ (n - 1)))) (nI (2 * 2 ^ (n - 1))) = _
    rw [f_X1_leastFair_L4, if_pos (nI_le (by omega) (by omega))]
    rfl
theorem lbC {n N i₀ j₀ : Nat} {c : Nat → Nat} {wts : Nat → Int32} (h2 : 2 ≤ n) (h10 : n ≤ 10) (hN : 600 ≤ N) (hi0 : i₀ < 31) (hj0 : j₀ < 31) (hc : ∀ t, c t ≤ 20000) (hw : ∀ t, t < 2 ^ (n - 1) → wts (2 * t) = nI (c t)) : f_X1_leastBetween N (nI i₀) (nI j₀) (nI (2 ^ n)) wts = some (bC (best (bp i₀ j₀) c (2 ^ (n - 1)))) := by
  obtain ⟨hM, hM2, hM5⟩ := M_n h2 h10
  unfold f_X1_leastBetween
  refine upx (σ := Unit) (fun m i _ => f_X1_leastBetween_L5 (nI (2 ^ n)) (nI i₀) (nI j₀) wts (fun x8 => f_X1_leastBetween_E53 x8) m (bC (best (bp i₀ j₀) c i)) (nI (2 * i))) (fun i _ => 1 ≤ i) (2 ^ (n - 1)) (fun x => x = some (bC (best (bp i₀ j₀) c (2 ^ (n - 1))))) (fun m i _ hi h1 => ⟨(), Nat.le_succ_of_le h1, ?_⟩) (fun m _ _ => ?_) N 1 () (by omega) (by omega) (Nat.le_refl _)
  · show f_X1_leastBetween_L5 (nI (2 ^ n)) (nI i₀) (nI j₀) wts _ (m + 1) (bC (best (bp i₀ j₀) c i)) (nI (2 * i)) = f_X1_leastBetween_L5 (nI (2 ^ n)) (nI i₀) (nI j₀) wts _ m (bC (best (bp i₀ j₀) c (i + 1))) (nI (2 * (i + 1)))
    rw [f_X1_leastBetween_L5, if_neg (nI_ge (by omega) (by omega)), parts_n hi0 hj0]
    simp only [bd1_ok]
    rw [best, if_neg (show ¬ i = 0 by omega)]
    by_cases q : (bp i₀ j₀) i = true
    · rw [if_pos q, if_neg (bp_t q)]
      cases e : best (bp i₀ j₀) c i with
      | none =>
        rw [if_pos (show bC none = 0 from rfl)]
        unfold f_X1_leastBetween_J47
        rw [l2, nI_add]
        rfl
      | some r =>
        obtain ⟨r1, r2, r3⟩ := best_lt e
        have hci := hc i
        have hcr := hc r
        have ei := hw i hi
        have er := hw r (by omega)
        show (if nI (2 * r) = 0 then _ else chk (nI (2 * i)) 1024 (chk (nI (2 * r)) 1024 _)) = _
        rw [if_neg (nI_ne0 (by omega) (by omega)), chk_n (by omega) (by omega), chk_n (by omega) (by omega)]
        show (if wts (nI (2 * r)).toNatClampNeg ≤ wts (nI (2 * i)).toNatClampNeg then _ else _) = _
        rw [nI_clamp (by omega), nI_clamp (by omega), ei, er]
        unfold f_X1_leastBetween_J47
        by_cases d : c r ≤ c i
        · rw [if_pos (nI_le d (by omega)), l2, nI_add]
          dsimp only
          rw [if_pos d]
          rfl
        · rw [if_neg (nI_ge (by omega) (by omega)), l2, nI_add]
          dsimp only
          rw [if_neg d]
          rfl
    · rw [if_neg q, if_pos (bp_f q)]
      unfold f_X1_leastBetween_J47
      rw [l2, nI_add]
      rfl
  · show f_X1_leastBetween_L5 (nI (2 ^ n)) (nI i₀) (nI j₀) wts _ (m + 1) (bC (best (bp i₀ j₀) c (2 ^ (n - 1)))) (nI (2 * 2 ^ (n - 1))) = _
    rw [f_X1_leastBetween_L5, if_pos (nI_le (by omega) (by omega))]
    rfl
