-- the text of ties
/-- what both rows hold of the ties that were read -/
def TT (T : Nat) (lw hg wt told : Nat → Int32) : Prop := ∀ t, t < T → ∃ lo hi k, lo < hi ∧ hi < 10 ∧ k ≤ 99 ∧ lw t = nI lo ∧ hg t = nI hi ∧ wt t = nI k ∧ told (3 * t) = nI lo ∧ told (3 * t + 1) = nI hi ∧ told (3 * t + 2) = nI k
theorem lt97 : ∀ b, b < 97 → (nI b - nI 97) < 0 := by decide +kernel
section TX
variable {N L : Nat} {signs text : Nat → Int32} {ch : Nat → Nat}
/-- the text as numbers, 0 beyond its end -/
def Tx (L : Nat) (signs text : Nat → Int32) (ch : Nat → Nat) : Prop := L ≤ 60 ∧ (∀ k, k < L → ch k < 65536 ∧ signs k = nI (ch k) ∧ text k = nI (ch k)) ∧ ∀ k, L ≤ k → ch k = 0
theorem Tx.b (h : Tx L signs text ch) (k : Nat) : ch k < 65536 := by
  by_cases c : k < L
  · exact (h.2.1 k c).1
  · rw [h.2.2 k (by omega)]; omega
theorem let_n (h : Tx L signs text ch) {i : Nat} (hi : i ≤ 100) : f_X6_letter (nI L) (nI i) text = some (nI (ch i)) := by
  have h60 := h.1
  unfold f_X6_letter
  by_cases c : i < L
  · rw [if_neg (nI_ge c (by omega)), chk_n (by omega) (by omega), nI_clamp (by omega), (h.2.1 i c).2.2]
  · rw [if_pos (nI_le (by omega) (by omega)), h.2.2 i (by omega)]; rfl
theorem wants0 (h : Tx L signs text ch) {i : Nat} (hi : i ≤ 100) (p q : Int32) : f_X6_wants p q (nI L) (nI i) 0 text = some (nI (ch i) - p, nI i, 0) := by
  unfold f_X6_wants f_X6_wants_J25 f_X6_wants_J52
  rw [if_pos (show (0 : Int32) = 0 from rfl), chkB_0, let_n h hi]
  simp only [bd1_ok, if_true]
  rw [l0, nI_add, Nat.add_zero]
theorem wants_n (h : Tx L signs text ch) {i : Nat} (hi : i ≤ 100) {x y : Nat} (hx : x < 2 ^ 31) (hy : y < 2 ^ 31) : f_X6_wants (nI x) (nI y) (nI L) (nI i) 1 text = if x ≤ ch i ∧ ch i ≤ y then some (nI (ch i - x), nI (i + 1), 1) else some (nI (ch i) - nI x, nI i, 0) := by
  have hb := h.b i
  unfold f_X6_wants f_X6_wants_J25 f_X6_wants_J52
  rw [if_neg (show ¬ (1 : Int32) = 0 by decide), let_n h hi]
  simp only [bd1_ok]
  rcases in_n (nI (ch i)) (a := x) (b := y) hx hy with ⟨z, z1, z2, z3, e⟩ | ⟨z1, e⟩
  · have := nI_inj (by omega) (by omega) z3
    subst this
    rw [e, if_pos (show x ≤ ch i ∧ ch i ≤ y from ⟨z1, z2⟩)]
    simp only [bd1_ok]
    rw [if_neg (show ¬ (1 : Int32) = 0 by decide), chkB_1, if_neg (show ¬ (1 : Int32) = 0 by decide), pk_sub z1, l1, nI_add]
  · rw [e, if_neg (show ¬ (x ≤ ch i ∧ ch i ≤ y) from fun q => z1 (ch i) q.1 q.2 rfl)]
    simp only [bd1_ok, if_true]
    rw [chkB_0, l0, nI_add, Nat.add_zero]
theorem dig_n {d : Nat} (hd : d < 65536) : f_X3_isDigit (nI d) = some (if 48 ≤ d ∧ d ≤ 57 then 1 else 0) := by
  unfold f_X3_isDigit
  by_cases c : 48 ≤ d
  · rw [if_neg (show ¬ nI d < 48 from (nI_nlt c (by omega) : ¬ nI d < nI 48))]
    by_cases e : d ≤ 57
    · rw [if_neg (show ¬ 57 < nI d from (nI_nlt e (by omega) : ¬ nI 57 < nI d)), if_pos ⟨c, e⟩]
    · rw [if_pos (show 57 < nI d from (nI_lt (by omega) (by omega) : nI 57 < nI d)), if_neg (by omega)]
  · rw [if_pos (show nI d < 48 from (nI_lt (by omega) (by omega) : nI d < nI 48)), if_neg (by omega)]
theorem fl_t (x : Nat) (hx : x < 65536) : f_X3_takesFirstLetter (nI x) = some ((if 97 ≤ x ∧ x ≤ 105 then 1 else 0), 1, nI x - nI 97) := by
  unfold f_X3_takesFirstLetter
  by_cases c : 97 ≤ x
  · rw [show (97 : Int32) = nI 97 from rfl, pk_sub c, if_neg (nI_pos (by omega))]
    by_cases d : x ≤ 105
    · rw [l9, if_neg (nI_ge (by omega) (by omega)), if_pos ⟨c, d⟩]
    · rw [l9, if_pos (nI_le (by omega) (by omega)), if_neg (by omega)]
  · rw [show (97 : Int32) = nI 97 from rfl, if_pos (lt97 x (by omega)), if_neg (by omega)]
theorem sl_t (x lo : Nat) (hx : x < 65536) (hl : lo ≤ 8) : f_X3_takesSecondLetter (nI x) (nI lo) = some ((if 97 + lo + 1 ≤ x ∧ x ≤ 106 then 1 else 0), 2, nI x - nI 97) := by
  unfold f_X3_takesSecondLetter
  by_cases c : 97 ≤ x
  · rw [show (97 : Int32) = nI 97 from rfl, pk_sub c]
    by_cases e : x - 97 ≤ lo
    · rw [if_pos (nI_le e (by omega)), if_neg (by omega)]
    · rw [if_neg (nI_ge (by omega) (by omega))]
      by_cases d : x ≤ 106
      · rw [l10, if_neg (nI_ge (by omega) (by omega)), if_pos (by omega)]
      · rw [l10, if_pos (nI_le (by omega) (by omega)), if_neg (by omega)]
  · rw [show (97 : Int32) = nI 97 from rfl, if_pos (Int32.le_of_lt (Int32.lt_of_lt_of_le (lt97 x (by omega)) (nI_pos' (by omega)))), if_neg (by omega)]
end TX
