-- neighbours, what is reached, the parts of a web
def nb (W : Nat → Nat → Nat) (p : Nat) : Nat → Nat
  | 0 => 0
  | k + 1 => if W p k = 0 then nb W p k else nb W p k ||| 2 ^ k
theorem nb_bit (W : Nat → Nat → Nat) (p q : Nat) : ∀ k, (nb W p k).testBit q = (decide (q < k) && decide (W p q ≠ 0))
  | 0 => by rw [nb, Nat.zero_testBit]; simp
  | k + 1 => by
    rw [nb]
    by_cases c : W p k = 0
    · rw [if_pos c, nb_bit W p q k]
      by_cases e : q = k
      · subst e; simp [c]
      · have : decide (q < k + 1) = decide (q < k) := by simp; omega
        rw [this]
    · rw [if_neg c, bit_or, nb_bit W p q k]
      by_cases e : q = k
      · subst e; simp [c]
      · have : decide (q < k + 1) = decide (q < k) := by simp; omega
        rw [this]; simp [e]
theorem nb_lt (W : Nat → Nat → Nat) (p : Nat) : ∀ k, nb W p k < 2 ^ k
  | 0 => by rw [nb]; decide
  | k + 1 => by
    have h := nb_lt W p k
    have h2 : 2 ^ k < 2 ^ (k + 1) := Nat.pow_lt_pow_right (by omega) (by omega)
    rw [nb]; split
    · omega
    · exact Nat.or_lt_two_pow (by omega) h2
/-- one round over the set, and rounds -/
def rd (n : Nat) (W : Nat → Nat → Nat) (b : Nat) : Nat → Nat
  | 0 => b
  | k + 1 => if (rd n W b k).testBit k then rd n W b k ||| nb W k n else rd n W b k
def rs (n : Nat) (W : Nat → Nat → Nat) (b : Nat) : Nat → Nat
  | 0 => b
  | k + 1 => rd n W (rs n W b k) n
theorem rd_lt {n : Nat} {W : Nat → Nat → Nat} {b : Nat} (h : b < 2 ^ n) : ∀ k, rd n W b k < 2 ^ n
  | 0 => h
  | k + 1 => by
    rw [rd]; split
    · exact Nat.or_lt_two_pow (rd_lt h k) (nb_lt W k n)
    · exact rd_lt h k
theorem rs_lt {n : Nat} {W : Nat → Nat → Nat} {b : Nat} (h : b < 2 ^ n) : ∀ k, rs n W b k < 2 ^ n
  | 0 => h
  | k + 1 => rd_lt (rs_lt h k) n
theorem rd_sub {n : Nat} {W : Nat → Nat → Nat} {b q : Nat} (h : b.testBit q = true) : ∀ k, (rd n W b k).testBit q = true
  | 0 => h
  | k + 1 => by
    rw [rd]; split
    · rw [Nat.testBit_or, rd_sub h k]; rfl
    · exact rd_sub h k
theorem rd_mono {n : Nat} {W : Nat → Nat → Nat} {b q : Nat} {k l : Nat} (hkl : k ≤ l) (h : (rd n W b k).testBit q = true) : (rd n W b l).testBit q = true := by
  induction l with
  | zero =>
    have : k = 0 := by omega
    subst this; exact h
  | succ l ih =>
    by_cases e : k = l + 1
    · subst e; exact h
    · have := ih (by omega)
      rw [rd]; split
      · rw [Nat.testBit_or, this]; rfl
      · exact this
theorem rd_nb {n : Nat} {W : Nat → Nat → Nat} {b k q : Nat} (hk : k < n) (h : b.testBit k = true) (hq : q < n) (hw : W k q ≠ 0) : (rd n W b n).testBit q = true := by
  refine rd_mono (k := k + 1) (by omega) ?_
  rw [rd, if_pos (rd_sub h k), Nat.testBit_or, nb_bit]
  simp [hq, hw]
def Cn (n : Nat) (W : Nat → Nat → Nat) (p q : Nat) : Prop := ∀ S : Nat → Prop, S p → (∀ x y, S x → x < n → y < n → W x y ≠ 0 → S y) → S q
theorem Cn.refl {n : Nat} {W : Nat → Nat → Nat} {p : Nat} : Cn n W p p := fun _ h _ => h
theorem Cn.step {n : Nat} {W : Nat → Nat → Nat} {p q r : Nat} (h : Cn n W p q) (hq : q < n) (hr : r < n) (hw : W q r ≠ 0) : Cn n W p r := fun S h1 h2 => h2 q r (h S h1 h2) hq hr hw
theorem Cn.trans {n : Nat} {W : Nat → Nat → Nat} {p q r : Nat} (h1 : Cn n W p q) (h2 : Cn n W q r) : Cn n W p r := fun S a b => h2 S (h1 S a b) b
theorem Cn.symm {n : Nat} {W : Nat → Nat → Nat} (hsym : ∀ i j, W i j = W j i) {p q : Nat} (h : Cn n W p q) : Cn n W q p :=
  h (fun x => Cn n W x p) Cn.refl (fun x y hx h1 h2 h3 => Cn.trans (Cn.step Cn.refl h2 h1 (by rw [hsym]; exact h3)) hx)
theorem rd_sound {n : Nat} {W : Nat → Nat → Nat} {b p : Nat} (h : ∀ q, b.testBit q = true → Cn n W p q) : ∀ k, k ≤ n → ∀ q, (rd n W b k).testBit q = true → Cn n W p q
  | 0, _ => h
  | k + 1, hk => by
    intro q hq
    rw [rd] at hq
    split at hq
    · rename_i c
      rw [Nat.testBit_or, nb_bit] at hq
      rcases Bool.or_eq_true _ _ ▸ hq with e | e
      · exact rd_sound h k (by omega) q e
      · have := rd_sound h k (by omega) k c
        simp at e
        exact this.step (by omega) e.1 e.2
    · exact rd_sound h k (by omega) q hq
theorem rs_sound {n : Nat} {W : Nat → Nat → Nat} {p : Nat} : ∀ k q, (rs n W (2 ^ p) k).testBit q = true → Cn n W p q
  | 0, q, h => by
    rw [rs] at h
    by_cases e : q = p
    · subst e; exact .refl
    · rw [Nat.testBit_two_pow_of_ne (Ne.symm e)] at h; cases h
  | k + 1, q, h => rd_sound (fun q => rs_sound k q) n (Nat.le_refl _) q h
theorem ct_strict {p q : Nat → Bool} (h : ∀ i, p i = true → q i = true) {i : Nat} (h1 : p i = false) (h2 : q i = true) : ∀ {k : Nat}, i < k → ct p k < ct q k
  | 0, hk => absurd hk (by omega)
  | k + 1, hk => by
    rw [ct, ct]
    by_cases e : i = k
    · subst e
      have := ct_sub h i
      rw [if_neg (by rw [h1]; decide), if_pos h2]; omega
    · have := ct_strict h h1 h2 (k := k) (by omega)
      have h3 := h k
      by_cases c : p k = true
      · rw [if_pos c, if_pos (h3 c)]; omega
      · rw [if_neg c]; omega
theorem rs_fix {n : Nat} {W : Nat → Nat → Nat} {b i : Nat} (h : rs n W b (i + 1) = rs n W b i) : ∀ j, i ≤ j → rs n W b j = rs n W b i
  | 0, hj => by rw [show i = 0 by omega]
  | j + 1, hj => by
    by_cases e : i = j + 1
    · rw [e]
    · have := rs_fix h j (by omega)
      rw [rs, this]; exact h
theorem rs_grow {n : Nat} {W : Nat → Nat → Nat} {b : Nat} (hb : b < 2 ^ n) (h0 : 0 < ct (fun q => b.testBit q) n) : ∀ i, (∀ j, j < i → rs n W b (j + 1) ≠ rs n W b j) → i < ct (fun q => (rs n W b i).testBit q) n
  | 0, _ => h0
  | i + 1, h => by
    have h1 := rs_grow hb h0 i (fun j hj => h j (by omega))
    have h2 := h i (by omega)
    have hs : ∀ q, (rs n W b i).testBit q = true → (rs n W b (i + 1)).testBit q = true := fun q hq => rd_sub hq n
    have hex : ∃ q, q < n ∧ (rs n W b i).testBit q = false ∧ (rs n W b (i + 1)).testBit q = true := by
      apply Classical.byContradiction
      intro hno
      apply h2
      apply Nat.eq_of_testBit_eq
      intro q
      cases x : (rs n W b i).testBit q with
      | true => exact hs q x
      | false =>
        cases y : (rs n W b (i + 1)).testBit q with
        | false => rfl
        | true =>
          refine absurd ⟨q, ?_, x, y⟩ hno
          apply Classical.byContradiction
          intro hq
          have h3 : rs n W b (i + 1) < 2 ^ q := Nat.lt_of_lt_of_le (rs_lt hb (i + 1)) (Nat.pow_le_pow_right (by omega) (by omega))
          rw [Nat.testBit_lt_two_pow h3] at y
          cases y
    obtain ⟨q, q1, q2, q3⟩ := hex
    have : ct (fun q => (rs n W b i).testBit q) n < ct (fun q => (rs n W b (i + 1)).testBit q) n := ct_strict hs q2 q3 q1
    omega
theorem rs_done {n p : Nat} {W : Nat → Nat → Nat} (hp : p < n) : rs n W (2 ^ p) (n + 1) = rs n W (2 ^ p) n := by
  have hb : 2 ^ p < 2 ^ n := Nat.pow_lt_pow_right (by omega) hp
  have h0 : 0 < ct (fun q => (2 ^ p).testBit q) n := by
    have := ct_lt (fun q => (2 ^ p).testBit q) hp (Nat.testBit_two_pow_self)
    omega
  have hex : ∃ j, j < n ∧ rs n W (2 ^ p) (j + 1) = rs n W (2 ^ p) j := by
    apply Classical.byContradiction
    intro hno
    have h1 := rs_grow (W := W) hb h0 n (fun j hj e => hno ⟨j, hj, e⟩)
    have h2 := ct_le (fun q => (rs n W (2 ^ p) n).testBit q) n
    omega
  obtain ⟨j, j1, j2⟩ := hex
  rw [rs_fix j2 (n + 1) (by omega), rs_fix j2 n (by omega)]
/-- all that p reaches -/
def rch (n : Nat) (W : Nat → Nat → Nat) (p : Nat) : Nat := rs n W (2 ^ p) n
theorem rs_sub {n : Nat} {W : Nat → Nat → Nat} {b q : Nat} (h : b.testBit q = true) : ∀ k, (rs n W b k).testBit q = true
  | 0 => h
  | k + 1 => rd_sub (rs_sub h k) n
theorem rch_bit {n p q : Nat} {W : Nat → Nat → Nat} (hp : p < n) : (rch n W p).testBit q = true ↔ Cn n W p q := by
  refine ⟨rs_sound n q, fun h => ?_⟩
  refine h (fun x => (rch n W p).testBit x = true) (rs_sub Nat.testBit_two_pow_self n) (fun x y hx h1 h2 h3 => ?_)
  have := rd_nb (W := W) h1 hx h2 h3
  unfold rch
  rw [← rs_done hp]
  exact this
theorem rch_lt {n p : Nat} {W : Nat → Nat → Nat} (hp : p < n) : rch n W p < 2 ^ n := rs_lt (Nat.pow_lt_pow_right (by omega) hp) n
