-- PURE ROWS: numbers, bits, loops
theorem l0 : (0 : Int32) = nI 0 := rfl
theorem l1 : (1 : Int32) = nI 1 := rfl
theorem l2 : (2 : Int32) = nI 2 := rfl
theorem l3 : (3 : Int32) = nI 3 := rfl
theorem l4 : (4 : Int32) = nI 4 := rfl
theorem l5 : (5 : Int32) = nI 5 := rfl
theorem l9 : (9 : Int32) = nI 9 := rfl
theorem l10 : (10 : Int32) = nI 10 := rfl
theorem l15 : (15 : Int32) = nI 15 := rfl
theorem l60 : (60 : Int32) = nI 60 := rfl
theorem l98 : (98 : Int32) = nI 98 := rfl
theorem l99 : (99 : Int32) = nI 99 := rfl
theorem l103 : (103 : Int32) = nI 103 := rfl
theorem l309 : (309 : Int32) = nI 309 := rfl
theorem chk_n {α : Type} {j n : Nat} {k : Option α} (h : j < n) (hn : n < 2 ^ 31) : chk (nI j) n k = k := by
  unfold chk; rw [if_neg (nI_in h hn)]
theorem chkB_0 {α : Type} {k : Option α} : chkB 0 k = k := by unfold chkB; rw [if_pos (Or.inl rfl)]
theorem chkB_1 {α : Type} {k : Option α} : chkB 1 k = k := by unfold chkB; rw [if_pos (Or.inr rfl)]
theorem chkB_n0 {α : Type} {k : Option α} : chkB (nI 0) k = k := chkB_0
theorem chkB_n1 {α : Type} {k : Option α} : chkB (nI 1) k = k := chkB_1
/-- a counted loop -/
theorem up {β : Sort _} (F : Nat → Nat → β) (r : β) (n : Nat) (hs : ∀ m i, i < n → F (m + 1) i = F m (i + 1)) (he : ∀ m, F (m + 1) n = r) : ∀ m i, i ≤ n → n < m + i → F m i = r := by
  intro m
  induction m with
  | zero => intro i h1 h2; omega
  | succ m ih =>
    intro i h1 h2
    rcases Nat.lt_or_ge i n with h | h
    · rw [hs m i h]; exact ih (i + 1) h (by omega)
    · have e : i = n := by omega
      subst e; exact he m
/-- a counted loop with an invariant that is found on the way -/
theorem upx {σ β : Type} (F : Nat → Nat → σ → β) (I : Nat → σ → Prop) (n : Nat) (Post : β → Prop) (hs : ∀ m i s, i < n → I i s → ∃ s', I (i + 1) s' ∧ F (m + 1) i s = F m (i + 1) s') (he : ∀ m s, I n s → Post (F (m + 1) n s)) : ∀ m i s, i ≤ n → n < m + i → I i s → Post (F m i s) := by
  intro m
  induction m with
  | zero => intro i s h1 h2; omega
  | succ m ih =>
    intro i s h1 h2 h3
    rcases Nat.lt_or_ge i n with h | h
    · obtain ⟨s', h4, h5⟩ := hs m i s h h3
      rw [h5]; exact ih (i + 1) s' h (by omega) h4
    · have e : i = n := by omega
      subst e; exact he m s h3
theorem nI_inj {a b : Nat} (ha : a < 2 ^ 31) (hb : b < 2 ^ 31) (h : nI a = nI b) : a = b := (nI_eq ha hb).mp h
-- bits
theorem sh_1 : ∀ i, i < 31 → ((1 : Int32) <<< (nI i &&& (31 : Int32))) = nI (2 ^ i) := by decide +kernel
theorem sh_k : ∀ n, n < 32 → ((nI n &&& (31 : Int32)).toBitVec.smod 32).toNat = n := by decide +kernel
theorem n_and (a b : Nat) : nI a &&& nI b = nI (a &&& b) := by
  apply Int32.toBitVec_inj.1
  show BitVec.ofNat 32 a &&& BitVec.ofNat 32 b = BitVec.ofNat 32 (a &&& b)
  apply BitVec.eq_of_getLsbD_eq
  intro i hi
  simp [hi]
theorem n_or (a b : Nat) : nI a ||| nI b = nI (a ||| b) := by
  apply Int32.toBitVec_inj.1
  show BitVec.ofNat 32 a ||| BitVec.ofNat 32 b = BitVec.ofNat 32 (a ||| b)
  apply BitVec.eq_of_getLsbD_eq
  intro i hi
  simp [hi]
theorem n_xor (a b : Nat) : nI a ^^^ nI b = nI (a ^^^ b) := by
  apply Int32.toBitVec_inj.1
  show BitVec.ofNat 32 a ^^^ BitVec.ofNat 32 b = BitVec.ofNat 32 (a ^^^ b)
  apply BitVec.eq_of_getLsbD_eq
  intro i hi
  simp [hi]
theorem and_p2 (b i : Nat) : b &&& 2 ^ i = if b.testBit i then 2 ^ i else 0 := by
  apply Nat.eq_of_testBit_eq
  intro j
  rw [Nat.testBit_and, Nat.testBit_two_pow]
  by_cases h : i = j
  · subst h
    cases q : b.testBit i <;> simp [Nat.testBit_two_pow]
  · cases q : b.testBit i <;> simp [Nat.testBit_two_pow, h]
theorem bt_c (b : Nat) {i : Nat} (hi : i < 31) : nI b &&& ((1 : Int32) <<< (nI i &&& (31 : Int32))) = nI (if b.testBit i then 2 ^ i else 0) := by
  rw [sh_1 i hi, n_and, and_p2]
theorem bt_r {b i : Nat} (hb : b < 2 ^ 31) (hi : i < 31) : ((nI b >>> (nI i &&& (31 : Int32))) &&& (1 : Int32)) = nI (if b.testBit i then 1 else 0) := by
  rw [pk_shrN hb _ i (sh_k i (by omega)), pk_andN (Nat.lt_of_le_of_lt (Nat.div_le_self _ _) (by omega)) 1 (by decide), Nat.testBit_eq_decide_div_mod_eq]
  have h : b / 2 ^ i % 2 ^ 1 = if b / 2 ^ i % 2 = 1 then 1 else 0 := by
    split <;> omega
  rw [h]
  simp
theorem p2_le {i k : Nat} (h : i ≤ k) : 2 ^ i ≤ 2 ^ k := Nat.pow_le_pow_right (by omega) h
theorem p2_10 {i : Nat} (h : i ≤ 10) : 2 ^ i ≤ 1024 := p2_le h
theorem bt_zero {b i : Nat} (hi : i < 31) : (nI b &&& ((1 : Int32) <<< (nI i &&& (31 : Int32)))) = 0 ↔ b.testBit i = false := by
  rw [bt_c b hi]
  have h : 2 ^ i ≤ 2 ^ 30 := p2_le (by omega)
  have h2 : 0 < 2 ^ i := Nat.two_pow_pos i
  cases b.testBit i
  · simp [nI_0]
  · simp only [if_true]
    constructor
    · intro q; exact absurd q (nI_ne0 h2 (by omega))
    · intro q; cases q
theorem bt_one {b i : Nat} (hb : b < 2 ^ 31) (hi : i < 31) : ((nI b >>> (nI i &&& (31 : Int32))) &&& (1 : Int32)) = 1 ↔ b.testBit i = true := by
  rw [bt_r hb hi]
  cases b.testBit i
  · simp only [Bool.false_eq_true, if_false, iff_false]; decide
  · simp only [if_true, iff_true]; rfl
