-- the class's phases: swallowing, uniting, running
theorem rowB_or {n U B i : Nat} {W : Nat → Nat → Nat} (h : U &&& B = 0) : rowB n W (U ||| B) i = rowB n W U i + rowB n W B i := by
  unfold rowB
  rw [← sm_add]
  refine sm_congr (fun j _ => ?_)
  have hj : (U &&& B).testBit j = false := by rw [h, Nat.zero_testBit]
  rw [Nat.testBit_and] at hj
  rw [Nat.testBit_or]
  cases x : U.testBit j <;> cases y : B.testBit j <;> rw [x, y] at hj <;> simp at hj ⊢
theorem wB_or {n A U B : Nat} {W : Nat → Nat → Nat} (h : U &&& B = 0) : wB n W A (U ||| B) = wB n W A U + wB n W A B := by
  unfold wB
  rw [← sm_add]
  refine sm_congr (fun j _ => ?_)
  rw [rowB_or h]
  split <;> rfl
theorem wB_comm {n A B : Nat} {W : Nat → Nat → Nat} (hsym : ∀ i j, W i j = W j i) : wB n W A B = wB n W B A := by
  have e : ∀ A B, wB n W A B = sm (fun i => sm (fun j => if A.testBit i && B.testBit j then W i j else 0) n) n := by
    intro A B
    unfold wB rowB
    refine sm_congr (fun i _ => ?_)
    cases A.testBit i
    · simp only [Bool.false_and]
      exact (sm_zero (fun _ _ => rfl)).symm
    · simp only [Bool.true_and]
      rfl
  rw [e A B, e B A, sm_swap (fun i j => if A.testBit i && B.testBit j then W i j else 0)]
  refine sm_congr (fun j _ => sm_congr (fun i _ => ?_))
  rw [Bool.and_comm, hsym]
section CS
variable {n a f N L k : Nat} {W : Nat → Nat → Nat} {mem : Nat → Nat}
theorem Us_lt (h : Part n L mem) {s0 : Nat} : ∀ i, Us n W mem s0 i < 2 ^ n
  | 0 => Nat.two_pow_pos n
  | i + 1 => by rw [Us]; exact Nat.or_lt_two_pow (Us_lt h i) (h.mlt _)
theorem sa_51 (hP : Part n L mem) (hL : L = n - k) (hk : k + 2 ≤ n) (hsym : ∀ i j, W i j = W j i) (hW : ∀ i j, W i j ≤ 99) (h10 : n ≤ 10) (hN : 600 ≤ N) {s0 : Nat} (hs : mem s0 ≠ 0) {t a9 names nns : Nat → Int32} (ht : ∀ x y, x ≠ y → mem x ≠ 0 → mem y ≠ 0 → t (10 * x + y) = nI (wB n W (mem x) (mem y))) {B : Nat} (hBl : B < 2 ^ n) (hB : ∀ x, B.testBit x = decide (mem x ≠ 0)) (h9 : ∀ x, x < n → a9 x = nI 0) : ∃ a' nm' nn' : Nat → Int32, f_X2_swallowAll_L51 N (nI k) (nI n) t (fun a22 a23 a24 => f_X2_swallowAll_E123 a22 a23 a24) N (nI B) (nI s0) (nI 0) a9 names nns = some (a', nm', nn') ∧ (∀ i, i < L → nm' (10 * k + i) = nI (od n W mem s0 i)) ∧ (∀ i, i < L → nn' (10 * k + i) = nI (nr n W mem s0 i)) ∧ ∀ q, q < 10 * k → nm' q = names q ∧ nn' q = nns q := by
  refine upx (σ := Int32 × Int32 × (Nat → Int32) × (Nat → Int32) × (Nat → Int32)) (fun m i s => f_X2_swallowAll_L51 N (nI k) (nI n) t (fun a22 a23 a24 => f_X2_swallowAll_E123 a22 a23 a24) m s.1 s.2.1 (nI i) s.2.2.1 s.2.2.2.1 s.2.2.2.2) (fun i s => (∃ B, s.1 = nI B ∧ B < 2 ^ n ∧ ∀ x, B.testBit x = lf mem (Us n W mem s0 i) x) ∧ (i < L → s.2.1 = nI (od n W mem s0 i)) ∧ (∀ x, lf mem (Us n W mem s0 i) x = true → s.2.2.1 x = nI (wB n W (mem x) (Us n W mem s0 i))) ∧ (∀ j, j < i → s.2.2.2.1 (10 * k + j) = nI (od n W mem s0 j)) ∧ (∀ j, j < i → s.2.2.2.2 (10 * k + j) = nI (nr n W mem s0 j)) ∧ ∀ q, q < 10 * k → s.2.2.2.1 q = names q ∧ s.2.2.2.2 q = nns q) L (fun r => ∃ a' nm' nn' : Nat → Int32, r = some (a', nm', nn') ∧ (∀ i, i < L → nm' (10 * k + i) = nI (od n W mem s0 i)) ∧ (∀ i, i < L → nn' (10 * k + i) = nI (nr n W mem s0 i)) ∧ ∀ q, q < 10 * k → nm' q = names q ∧ nn' q = nns q) (fun m i s hi hI => ?_) (fun m s hI => ?_) N 0 (nI B, nI s0, a9, names, nns) (by omega) (by omega) ⟨⟨B, rfl, hBl, fun x => ?_⟩, fun _ => rfl, fun x hx => ?_, fun j hj => absurd hj (by omega), fun j hj => absurd hj (by omega), fun q _ => ⟨rfl, rfl⟩⟩
  · obtain ⟨x10, x11, a13, a14, a15⟩ := s
    obtain ⟨⟨B, e1, hBl, hB⟩, e2, h3, h4, h5, h6⟩ := hI
    dsimp only at e1 e2 h3 h4 h5 h6
    obtain ⟨g1, g2, g3⟩ := sw_inv (W := W) hP hs i hi
    have g4 := lf_e.mp g1
    have ho := hP.lt g4.1
    have hn2 : 2 ^ n ≤ 1024 := p2_10 h10
    rw [e1, e2 hi]
    show ∃ s', _ ∧ f_X2_swallowAll_L51 N (nI k) (nI n) t _ (m + 1) (nI B) (nI (od n W mem s0 i)) (nI i) a13 a14 a15 = _
    rw [f_X2_swallowAll_L51]
    unfold f_X2_lumpsIn
    rw [pk_sub (by omega)]
    simp only [bd1_ok]
    rw [if_neg (nI_ge (by omega) (by omega)), ix10, chk_n (by omega) (by omega), chk_n (by omega) (by omega), chk_n (by omega) (by omega), sh_1 _ (by omega), not_n, n_and]
    have hB' : ∀ x, x < n → (B &&& (2 ^ od n W mem s0 i ^^^ 4294967295)).testBit x = lf mem (Us n W mem s0 (i + 1)) x := by
      intro x hx
      rw [g3, lf_step hP g1, Nat.testBit_and, hB, Nat.testBit_xor, show 4294967295 = 2 ^ 32 - 1 from rfl, Nat.testBit_two_pow_sub_one]
      have : decide (x < 32) = true := decide_eq_true (by omega)
      rw [this]
      by_cases e : x = od n W mem s0 i
      · rw [← e, Nat.testBit_two_pow_self]; simp
      · rw [Nat.testBit_two_pow_of_ne (Ne.symm e)]; simp [e]
    have hB'l : (B &&& (2 ^ od n W mem s0 i ^^^ 4294967295)) < 2 ^ n := Nat.lt_of_le_of_lt Nat.and_le_left hBl
    obtain ⟨a', d1, d2⟩ := dn_n (N := N) h10 hN (B := B &&& (2 ^ od n W mem s0 i ^^^ 4294967295)) ho t a13
    rw [d1]
    simp only [bd1_ok]
    have d3 : ∀ x, x < n → lf mem (Us n W mem s0 (i + 1)) x = true → a' x = nI (wB n W (mem x) (Us n W mem s0 (i + 1))) := by
      intro x hx hl
      have hl2 := hl
      rw [g3, lf_step hP g1, Bool.and_eq_true] at hl2
      have hne : x ≠ od n W mem s0 i := of_decide_eq_true hl2.2
      rw [d2 x hx, hB' x hx, hl, if_pos rfl, h3 x hl2.1, ht _ _ (Ne.symm hne) g4.1 (lf_e.mp hl2.1).1, nI_add, g3, wB_or (by rw [Nat.and_comm]; exact g4.2), wB_comm hsym (A := mem (od n W mem s0 i))]
    rw [no_n h10 hN hB' (fun x => by have := wB_b hW h10 (mem x) (Us n W mem s0 (i + 1)); omega) d3]
    simp only [bd1_ok]
    rw [l1, nI_add]
    refine ⟨(nI (B &&& (2 ^ od n W mem s0 i ^^^ 4294967295)), nI (od n W mem s0 (i + 1)), a', upd a14 (10 * k + i) (nI (od n W mem s0 i)), upd a15 (10 * k + i) (a13 (od n W mem s0 i))), ⟨⟨_, rfl, hB'l, fun x => ?_⟩, fun _ => ?_, fun x hx => ?_, fun j hj => ?_, fun j hj => ?_, fun q hq => ?_⟩, ?_⟩
    · by_cases hx : x < n
      · exact hB' x hx
      · have : lf mem (Us n W mem s0 (i + 1)) x = false := by
          cases e : lf mem (Us n W mem s0 (i + 1)) x with
          | false => rfl
          | true => exact absurd (hP.lt (lf_e.mp e).1) hx
        rw [this]
        exact Nat.testBit_lt_two_pow (Nat.lt_of_lt_of_le hB'l (Nat.pow_le_pow_right (by omega) (by omega)))
    · rfl
    · exact d3 x (hP.lt (lf_e.mp hx).1) hx
    · by_cases e : j = i
      · subst e; exact upd_same _ _ _
      · show upd a14 _ _ _ = _
        rw [upd_ne _ _ (by omega)]; exact h4 j (by omega)
    · by_cases e : j = i
      · subst e
        show upd a15 _ _ _ = _
        rw [upd_same, h3 _ g1]; rfl
      · show upd a15 _ _ _ = _
        rw [upd_ne _ _ (by omega)]; exact h5 j (by omega)
    · show upd a14 _ _ _ = _ ∧ upd a15 _ _ _ = _
      rw [upd_ne _ _ (by omega), upd_ne _ _ (by omega)]; exact h6 q hq
    · rw [nI_clamp (by omega), nI_clamp (by omega)]
      rfl
  · obtain ⟨x10, x11, a13, a14, a15⟩ := s
    obtain ⟨-, -, -, h4, h5, h6⟩ := hI
    show ∃ a' nm' nn', f_X2_swallowAll_L51 N (nI k) (nI n) t _ (m + 1) x10 x11 (nI L) a13 a14 a15 = _ ∧ _
    rw [f_X2_swallowAll_L51]
    unfold f_X2_lumpsIn
    rw [pk_sub (by omega)]
    simp only [bd1_ok]
    rw [if_pos (nI_le (by omega) (by omega))]
    exact ⟨a13, a14, a15, rfl, h4, h5, h6⟩
  · rw [hB]
    unfold lf Us
    simp
  · show a9 x = _
    rw [h9 x (hP.lt (lf_e.mp hx).1)]
    have : wB n W (mem x) (Us n W mem s0 0) = 0 := by
      unfold wB Us
      refine sm_zero (fun i _ => ?_)
      have : rowB n W 0 i = 0 := sm_zero (fun j _ => by rw [Nat.zero_testBit]; rfl)
      rw [this]; split <;> rfl
    rw [this]
theorem sa_n (hP : Part n L mem) (hL : L = n - k) (hk : k + 2 ≤ n) (hsym : ∀ i j, W i j = W j i) (hW : ∀ i j, W i j ≤ 99) (h10 : n ≤ 10) (hN : 600 ≤ N) {s0 : Nat} (hs : mem s0 ≠ 0) {m t : Nat → Int32} (nears names nns : Nat → Int32) (hm : ∀ x, x < n → m x = nI (mem x)) (ht : ∀ x y, x ≠ y → mem x ≠ 0 → mem y ≠ 0 → t (10 * x + y) = nI (wB n W (mem x) (mem y))) : ∃ a' nm' nn' : Nat → Int32, f_X2_swallowAll N (nI k) (nI s0) (nI n) m t nears names nns = some (a', nm', nn') ∧ (∀ i, i < L → nm' (10 * k + i) = nI (od n W mem s0 i)) ∧ (∀ i, i < L → nn' (10 * k + i) = nI (nr n W mem s0 i)) ∧ ∀ q, q < 10 * k → nm' q = names q ∧ nn' q = nns q := by
  have hn2 : 2 ^ n ≤ 1024 := p2_10 h10
  unfold f_X2_swallowAll
  refine upx (σ := Int32 × (Nat → Int32)) (fun c i s => f_X2_swallowAll_L5 (nI n) m (fun x8 a9 => f_X2_swallowAll_E45 N (nI k) (nI n) t (nI s0) names nns x8 a9) c s.1 (nI i) s.2) (fun i s => ∃ B, s.1 = nI B ∧ B < 2 ^ n ∧ (∀ x, B.testBit x = (decide (x < i) && decide (mem x ≠ 0))) ∧ ∀ x, x < i → s.2 x = nI 0) n (fun r => ∃ a' nm' nn' : Nat → Int32, r = some (a', nm', nn') ∧ (∀ i, i < L → nm' (10 * k + i) = nI (od n W mem s0 i)) ∧ (∀ i, i < L → nn' (10 * k + i) = nI (nr n W mem s0 i)) ∧ ∀ q, q < 10 * k → nm' q = names q ∧ nn' q = nns q) (fun c i s hi hI => ?_) (fun c s hI => ?_) N 0 (nI 0, nears) (by omega) (by omega) ⟨0, rfl, Nat.two_pow_pos n, fun x => by rw [Nat.zero_testBit]; simp, fun x hx => absurd hx (by omega)⟩
  · obtain ⟨x1, a3⟩ := s
    obtain ⟨B, e1, hBl, hB, h9⟩ := hI
    dsimp only at e1 h9
    subst e1
    show ∃ s', _ ∧ f_X2_swallowAll_L5 (nI n) m _ (c + 1) (nI B) (nI i) a3 = _
    rw [f_X2_swallowAll_L5, if_neg (nI_ge hi (by omega)), chk_n (by omega) (by omega), chk_n (by omega) (by omega), nI_clamp (by omega), hm i hi]
    unfold f_X2_swallowAll_J39
    rw [nI_clamp (by omega), l1, nI_add]
    have hml := hP.mlt i
    have h9' : ∀ x, x < i + 1 → upd a3 i (0 : Int32) x = nI 0 := by
      intro x hx
      by_cases e : x = i
      · subst e; exact upd_same _ _ _
      · rw [upd_ne _ _ (by omega)]; exact h9 x (by omega)
    by_cases c0 : mem i = 0
    · rw [c0, if_pos (show nI 0 = 0 from rfl)]
      refine ⟨(nI B, upd a3 i 0), ⟨B, rfl, hBl, fun x => ?_, h9'⟩, rfl⟩
      rw [hB]
      by_cases e : x = i
      · subst e; simp [c0]
      · have : decide (x < i + 1) = decide (x < i) := by simp; omega
        rw [this]
    · rw [if_neg (nI_ne0 (by omega) (by omega)), ← l1, sh_1 i (by omega), n_or]
      refine ⟨(nI (B ||| 2 ^ i), upd a3 i 0), ⟨B ||| 2 ^ i, rfl, Nat.or_lt_two_pow hBl (Nat.pow_lt_pow_right (by omega) hi), fun x => ?_, h9'⟩, rfl⟩
      rw [bit_or, hB]
      by_cases e : x = i
      · subst e; simp [c0]
      · have : decide (x < i + 1) = decide (x < i) := by simp; omega
        rw [this]; simp [e]
  · obtain ⟨x1, a3⟩ := s
    obtain ⟨B, e1, hBl, hB, h9⟩ := hI
    dsimp only at e1 h9
    subst e1
    show ∃ a' nm' nn', f_X2_swallowAll_L5 (nI n) m _ (c + 1) (nI B) (nI n) a3 = _ ∧ _
    rw [f_X2_swallowAll_L5, if_pos (nI_le (Nat.le_refl _) (by omega))]
    refine sa_51 hP hL hk hsym hW h10 hN hs ht hBl (fun x => ?_) h9
    rw [hB]
    by_cases c0 : mem x = 0
    · simp [c0]
    · have := hP.lt c0
      simp [this]
end CS
