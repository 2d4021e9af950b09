-- the class's weights of all partings
theorem weightsOf_n {n a f N p : Nat} {pl st fp : Int32} {w : Nat → Int32} {W : Nat → Nat → Nat} (h : CW pl st fp w n a f W) (h10 : n ≤ 10) (hN : 600 ≤ N) (hp : p < n) : f_X4_weightsOf N (nI p) pl w = some (nI (sm (fun j => W p j) n)) := by
  unfold f_X4_weightsOf
  refine up (fun m i => f_X4_weightsOf_L4 pl (nI p) w (fun x7 => f_X4_weightsOf_E27 x7) m (nI (sm (fun j => W p j) i)) (nI i)) _ n (fun m i hi => ?_) (fun m => ?_) N 0 (by omega) (by omega)
  · show f_X4_weightsOf_L4 pl (nI p) w _ (m + 1) (nI (sm _ i)) (nI i) = f_X4_weightsOf_L4 pl (nI p) w _ m (nI (sm _ (i + 1))) (nI (i + 1))
    have ht := tieOf_w h h10 hp hi
    rw [f_X4_weightsOf_L4, ht, h.1, if_neg (nI_ge hi (by omega))]
    simp only [bd1_ok]
    rw [nI_add, l1, nI_add, sm]
  · show f_X4_weightsOf_L4 pl (nI p) w _ (m + 1) (nI (sm _ n)) (nI n) = _
    rw [f_X4_weightsOf_L4, h.1, if_pos (nI_le (Nat.le_refl _) (by omega))]
    rfl
theorem pull_or {n p l b : Nat} {W : Nat → Nat → Nat} (hl : l < n) (hb : b.testBit l = false) : pull n W p (b ||| 2 ^ l) = pull n W p b + W l p := by
  have a1 : pull n W p (b ||| 2 ^ l) = sm (fun i => (if b.testBit i then W i p else 0) + (if i = l then W i p else 0)) n := sm_congr (fun i hi => by
    rw [bit_or]
    by_cases c : i = l
    · subst c; rw [hb]; simp
    · simp [c])
  rw [a1, sm_add, sm_one (f := fun i => W i p) hl]; rfl
theorem pull_0 {n p : Nat} {W : Nat → Nat → Nat} : pull n W p 0 = 0 := sm_zero (fun i _ => by rw [Nat.zero_testBit]; rfl)
theorem cut_0 {n : Nat} {W : Nat → Nat → Nat} : cut n W 0 = 0 := sm_zero (fun i _ => by rw [Nat.zero_testBit]; rfl)
theorem pull_le {n p : Nat} {W : Nat → Nat → Nat} (h : ∀ i j, W i j ≤ 99) (hn : n ≤ 10) (b : Nat) : pull n W p b ≤ 990 := by
  have h1 : pull n W p b ≤ n * 99 := sm_le (fun i _ => by split; exact h _ _; omega)
  omega
theorem p2_s {l : Nat} (h : 1 ≤ l) : 2 ^ l = 2 * 2 ^ (l - 1) := by
  obtain ⟨m, rfl⟩ : ∃ m, l = m + 1 := ⟨l - 1, by omega⟩
  rw [Nat.pow_succ]; simp; omega
theorem or_add {b l : Nat} (h : b < 2 ^ l) : b ||| 2 ^ l = b + 2 ^ l := Nat.or_two_pow_eq_add_of_lt h
section MP
variable {n a f N : Nat} {pl st fp : Int32} {w : Nat → Int32} {W : Nat → Nat → Nat}
theorem mp_18 (hW : ∀ i j, W i j ≤ 99) (h10 : n ≤ 10) (hN : 600 ≤ N) {p l : Nat} (h1 : 1 ≤ l) (hl : l < p) (hp : p < n) (k : (Nat → Int32) → Option (Nat → Int32)) (P : Option (Nat → Int32) → Prop) (hP : ∀ A, (∀ u, 2 * u < 2 ^ (l + 1) → A (2 * u) = nI (pull n W p (2 * u))) → P (k A)) (A : Nat → Int32) (hA : ∀ u, 2 * u < 2 ^ l → A (2 * u) = nI (pull n W p (2 * u))) : P (f_X1_measurePulls_L18 (nI l) (nI (W l p)) k N (nI 0) A) := by
  have hq := p2_s h1
  have hl9 : 2 ^ l ≤ 2 ^ 8 := p2_le (by omega)
  refine upx (fun m i A => f_X1_measurePulls_L18 (nI l) (nI (W l p)) k m (nI (2 * i)) A) (fun i A => (∀ u, 2 * u < 2 ^ l → A (2 * u) = nI (pull n W p (2 * u))) ∧ ∀ u, u < i → A (2 * u + 2 ^ l) = nI (pull n W p (2 * u ||| 2 ^ l))) (2 ^ (l - 1)) P (fun m i A hi hI => ?_) (fun m A hI => ?_) N 0 A (by omega) (by omega) ⟨hA, fun u hu => absurd hu (by omega)⟩
  · refine ⟨upd A (2 * i + 2 ^ l) (nI (pull n W p (2 * i ||| 2 ^ l))), ⟨fun u hu => ?_, fun u hu => ?_⟩, ?_⟩
    · rw [upd_ne _ _ (by omega)]; exact hI.1 u hu
    · by_cases e : u = i
      · subst e; rw [upd_same]
      · rw [upd_ne _ _ (by omega)]; exact hI.2 u (by omega)
    · show f_X1_measurePulls_L18 (nI l) (nI (W l p)) k (m + 1) (nI (2 * i)) A = _
      have hlt : 2 * i < 2 ^ l := by omega
      rw [f_X1_measurePulls_L18, sh_1 l (by omega), if_neg (nI_ge hlt (by omega)), n_or, or_add hlt, chk_n (by omega) (by omega), chk_n (by omega) (by omega), nI_clamp (by omega), nI_clamp (by omega), hI.1 i hlt, nI_add, ← or_add hlt, ← pull_or (by omega) (Nat.testBit_lt_two_pow hlt), or_add hlt, l2, nI_add]
      rfl
  · show P (f_X1_measurePulls_L18 (nI l) (nI (W l p)) k (m + 1) (nI (2 * 2 ^ (l - 1))) A)
    rw [f_X1_measurePulls_L18, sh_1 l (by omega), ← hq, if_pos (nI_le (Nat.le_refl _) (by omega))]
    refine hP A (fun u hu => ?_)
    rw [Nat.pow_succ] at hu
    by_cases c : 2 * u < 2 ^ l
    · exact hI.1 u c
    · have e := hI.2 (u - 2 ^ (l - 1)) (by omega)
      rw [or_add (by omega), show 2 * (u - 2 ^ (l - 1)) + 2 ^ l = 2 * u by omega] at e
      exact e
theorem mp_n (h : CW pl st fp w n a f W) (hW : ∀ i j, W i j ≤ 99) (h10 : n ≤ 10) (hN : 600 ≤ N) {p : Nat} (h1 : 1 ≤ p) (hp : p < n) (A : Nat → Int32) (hA : A 0 = 0) : ∃ B : Nat → Int32, f_X1_measurePulls N (nI p) A pl w = some B ∧ ∀ u, 2 * u < 2 ^ p → B (2 * u) = nI (pull n W p (2 * u)) := by
  unfold f_X1_measurePulls
  refine upx (fun m i A => f_X1_measurePulls_L2 N (nI p) pl w (fun a13 => f_X1_measurePulls_E59 a13) m (nI i) A) (fun i A => 1 ≤ i ∧ ∀ u, 2 * u < 2 ^ i → A (2 * u) = nI (pull n W p (2 * u))) p (fun r => ∃ B : Nat → Int32, r = some B ∧ ∀ u, 2 * u < 2 ^ p → B (2 * u) = nI (pull n W p (2 * u))) (fun m i A hi hI => ?_) (fun m A hI => ?_) N 1 A (by omega) (by omega) ⟨Nat.le_refl _, fun u hu => ?_⟩
  · obtain ⟨hi1, hI⟩ := hI
    have ht := tieOf_w h h10 (by omega : i < n) hp
    show ∃ s', _ ∧ f_X1_measurePulls_L2 N (nI p) pl w _ (m + 1) (nI i) A = _
    rw [f_X1_measurePulls_L2, if_neg (nI_ge hi (by omega)), ht]
    simp only [bd1_ok]
    refine mp_18 hW h10 hN hi1 hi hp _ (fun r => ∃ s', (1 ≤ i + 1 ∧ ∀ u, 2 * u < 2 ^ (i + 1) → s' (2 * u) = nI (pull n W p (2 * u))) ∧ r = f_X1_measurePulls_L2 N (nI p) pl w (fun a13 => f_X1_measurePulls_E59 a13) m (nI (i + 1)) s') (fun B hB => ⟨B, ⟨by omega, hB⟩, ?_⟩) A hI
    unfold f_X1_measurePulls_E53
    rw [l1, nI_add]
  · show ∃ B, f_X1_measurePulls_L2 N (nI p) pl w _ (m + 1) (nI p) A = _ ∧ _
    rw [f_X1_measurePulls_L2, if_pos (nI_le (Nat.le_refl _) (by omega))]
    exact ⟨A, rfl, hI.2⟩
  · have : u = 0 := by omega
    subst this
    rw [pull_0]; exact hA
theorem mw_n (h : CW pl st fp w n a f W) (hw : WF n a f W) (hN : 600 ≤ N) {p : Nat} (h1 : 1 ≤ p) (hp : p < n) (B C : Nat → Int32) (hB : ∀ u, 2 * u < 2 ^ p → B (2 * u) = nI (pull n W p (2 * u))) (hC : ∀ u, 2 * u < 2 ^ p → C (2 * u) = nI (cut n W (2 * u))) : ∃ C' : Nat → Int32, f_X1_measureWith N (nI p) C B pl w = some C' ∧ ∀ u, 2 * u < 2 ^ (p + 1) → C' (2 * u) = nI (cut n W (2 * u)) := by
  have h10 := hw.2.1
  have hsym := hw.2.2.2.2.2.1
  have hdg := hw.2.2.2.2.2.2.1
  have hW := hw.2.2.2.2.2.2.2.1
  have hq := p2_s h1
  have hl9 : 2 ^ p ≤ 2 ^ 9 := p2_le (by omega)
  unfold f_X1_measureWith
  rw [weightsOf_n h h10 hN hp]
  simp only [bd1_ok]
  refine upx (fun m i A => f_X1_measureWith_L9 (nI p) (nI (sm (fun j => W p j) n)) B (fun a7 => f_X1_measureWith_E53 a7) m (nI (2 * i)) A) (fun i A => (∀ u, 2 * u < 2 ^ p → A (2 * u) = nI (cut n W (2 * u))) ∧ ∀ u, u < i → A (2 * u + 2 ^ p) = nI (cut n W (2 * u ||| 2 ^ p))) (2 ^ (p - 1)) (fun r => ∃ C' : Nat → Int32, r = some C' ∧ ∀ u, 2 * u < 2 ^ (p + 1) → C' (2 * u) = nI (cut n W (2 * u))) (fun m i A hi hI => ?_) (fun m A hI => ?_) N 0 C (by omega) (by omega) ⟨hC, fun u hu => absurd hu (by omega)⟩
  · refine ⟨upd A (2 * i + 2 ^ p) (nI (cut n W (2 * i ||| 2 ^ p))), ⟨fun u hu => ?_, fun u hu => ?_⟩, ?_⟩
    · rw [upd_ne _ _ (by omega)]; exact hI.1 u hu
    · by_cases e : u = i
      · subst e; rw [upd_same]
      · rw [upd_ne _ _ (by omega)]; exact hI.2 u (by omega)
    · show f_X1_measureWith_L9 (nI p) (nI (sm (fun j => W p j) n)) B _ (m + 1) (nI (2 * i)) A = _
      have hlt : 2 * i < 2 ^ p := by omega
      have hc := cut_or (b := 2 * i) hsym hdg hp (Nat.testBit_lt_two_pow hlt)
      have hb1 := cut_b hW h10 (2 * i)
      have hb2 := pull_le (p := p) hW h10 (2 * i)
      rw [f_X1_measureWith_L9, sh_1 p (by omega), if_neg (nI_ge hlt (by omega)), n_or, or_add hlt, chk_n (by omega) (by omega), chk_n (by omega) (by omega), chk_n (by omega) (by omega), nI_clamp (by omega), nI_clamp (by omega), hI.1 i hlt, hB i hlt, nI_add, l2, pk_mul, pk_sub (by omega), nI_add, show cut n W (2 * i) + sm (fun j => W p j) n - 2 * pull n W p (2 * i) = cut n W (2 * i ||| 2 ^ p) by omega, or_add hlt]
      rfl
  · show ∃ C', f_X1_measureWith_L9 (nI p) (nI (sm (fun j => W p j) n)) B _ (m + 1) (nI (2 * 2 ^ (p - 1))) A = _ ∧ _
    rw [f_X1_measureWith_L9, sh_1 p (by omega), ← hq, if_pos (nI_le (Nat.le_refl _) (by omega))]
    refine ⟨A, rfl, fun u hu => ?_⟩
    rw [Nat.pow_succ] at hu
    by_cases c : 2 * u < 2 ^ p
    · exact hI.1 u c
    · have e := hI.2 (u - 2 ^ (p - 1)) (by omega)
      rw [or_add (by omega), show 2 * (u - 2 ^ (p - 1)) + 2 ^ p = 2 * u by omega] at e
      exact e
end MP
-- counting
def ct (p : Nat → Bool) : Nat → Nat
  | 0 => 0
  | k + 1 => ct p k + if p k then 1 else 0
theorem ct_le (p : Nat → Bool) : ∀ k, ct p k ≤ k
  | 0 => Nat.le_refl 0
  | k + 1 => by have := ct_le p k; rw [ct]; split <;> omega
theorem ct_mono (p : Nat → Bool) {a b : Nat} (h : a ≤ b) : ct p a ≤ ct p b := by
  induction h with
  | refl => exact Nat.le_refl _
  | step _ ih => rw [ct]; omega
theorem ct_lt (p : Nat → Bool) {a b : Nat} (h : a < b) (hp : p a = true) : ct p a < ct p b := by
  have h1 := ct_mono p (by omega : a + 1 ≤ b)
  rw [ct, if_pos hp] at h1; omega
theorem ct_zero {p : Nat → Bool} : ∀ {k : Nat}, (∀ i, i < k → p i = false) → ct p k = 0
  | 0, _ => rfl
  | k + 1, h => by rw [ct, ct_zero (fun i hi => h i (by omega)), h k (by omega)]; rfl
theorem ct_congr {p q : Nat → Bool} : ∀ {k : Nat}, (∀ i, i < k → p i = q i) → ct p k = ct q k
  | 0, _ => rfl
  | k + 1, h => by rw [ct, ct, ct_congr (fun i hi => h i (by omega)), h k (by omega)]
theorem ct_flat {p : Nat → Bool} {a b : Nat} (h : a ≤ b) (hp : ∀ i, a ≤ i → i < b → p i = false) : ct p b = ct p a := by
  induction h with
  | refl => rfl
  | @step m hm ih => rw [ct, ih (fun i h1 h2 => hp i h1 (by omega)), hp m hm (by omega)]; rfl
theorem ct_kth {p : Nat → Bool} {r : Nat} : ∀ {k : Nat}, r < ct p k → ∃ i, i < k ∧ p i = true ∧ ct p i = r
  | 0, h => absurd h (by rw [ct]; omega)
  | k + 1, h => by
    rcases Nat.lt_or_ge r (ct p k) with c | c
    · obtain ⟨i, h1, h2, h3⟩ := ct_kth c
      exact ⟨i, by omega, h2, h3⟩
    · rw [ct] at h
      by_cases q : p k = true
      · rw [if_pos q] at h; exact ⟨k, by omega, q, by omega⟩
      · rw [if_neg q] at h; omega
theorem ct_inj {p : Nat → Bool} {i j : Nat} (hi : p i = true) (hj : p j = true) (e : ct p i = ct p j) : i = j := by
  rcases Nat.lt_trichotomy i j with h | h | h
  · have := ct_lt p h hi; omega
  · exact h
  · have := ct_lt p h hj; omega
