-- one tie of the text, for both
def up3 (told : Nat → Int32) (T lo hi k : Nat) : Nat → Int32 := upd (upd (upd told (3 * T) (nI lo)) (3 * T + 1) (nI hi)) (3 * T + 2) (nI k)
section TI
variable {N L : Nat} {signs text : Nat → Int32} {ch : Nat → Nat}
def two (ch : Nat → Nat) (i : Nat) : Prop := ch (i + 2) ≠ 48 ∧ 48 ≤ ch (i + 3) ∧ ch (i + 3) ≤ 57
theorem rt_1 (h : Tx L signs text ch) {i T : Nat} (hi : i ≤ 90) (told : Nat → Int32) (g1 : ¬ (97 ≤ ch i ∧ ch i ≤ 105)) : f_X6_readsTie (nI L) (nI i) 1 (nI T) text told = some (nI i, 0, nI T, told) := by
  unfold f_X6_readsTie
  rw [show (97 : Int32) = nI 97 from rfl, show (105 : Int32) = nI 105 from rfl, wants_n h (by omega) (by omega) (by omega), if_neg g1]
  simp only [bd3_ok]
  rw [wants0 h (by omega)]
  simp only [bd3_ok]
  rw [wants0 h (by omega)]
  simp only [bd3_ok, if_true]
  unfold f_X6_readsTie_J83
  rw [if_pos (show (0 : Int32) = 0 from rfl)]
theorem rt_2 (h : Tx L signs text ch) {i T : Nat} (hi : i ≤ 90) (told : Nat → Int32) (g1 : 97 ≤ ch i ∧ ch i ≤ 105) (g2 : ¬ (ch i + 1 ≤ ch (i + 1) ∧ ch (i + 1) ≤ 106)) : f_X6_readsTie (nI L) (nI i) 1 (nI T) text told = some (nI (i + 1), 0, nI T, told) := by
  unfold f_X6_readsTie
  rw [show (97 : Int32) = nI 97 from rfl, show (105 : Int32) = nI 105 from rfl, wants_n h (by omega) (by omega) (by omega), if_pos g1]
  simp only [bd3_ok]
  rw [nI_add, l1, nI_add, show 97 + (ch i - 97) + 1 = ch i + 1 by omega, show (106 : Int32) = nI 106 from rfl, show f_X6_wants (nI (ch i + 1)) (nI 106) (nI L) (nI (i + 1)) (nI 1) text = _ from wants_n h (by omega) (by omega) (by omega), if_neg g2]
  simp only [bd3_ok]
  rw [wants0 h (by omega)]
  simp only [bd3_ok, if_true]
  unfold f_X6_readsTie_J83
  rw [if_pos (show (0 : Int32) = 0 from rfl)]
theorem rt_3 (h : Tx L signs text ch) {i T : Nat} (hi : i ≤ 90) (told : Nat → Int32) (g1 : 97 ≤ ch i ∧ ch i ≤ 105) (g2 : ch i + 1 ≤ ch (i + 1) ∧ ch (i + 1) ≤ 106) (g3 : ¬ (48 ≤ ch (i + 2) ∧ ch (i + 2) ≤ 57)) : f_X6_readsTie (nI L) (nI i) 1 (nI T) text told = some (nI (i + 2), 0, nI T, told) := by
  unfold f_X6_readsTie
  rw [show (97 : Int32) = nI 97 from rfl, show (105 : Int32) = nI 105 from rfl, wants_n h (by omega) (by omega) (by omega), if_pos g1]
  simp only [bd3_ok]
  rw [nI_add, l1, nI_add, show 97 + (ch i - 97) + 1 = ch i + 1 by omega, show (106 : Int32) = nI 106 from rfl, show f_X6_wants (nI (ch i + 1)) (nI 106) (nI L) (nI (i + 1)) (nI 1) text = _ from wants_n h (by omega) (by omega) (by omega), if_pos g2]
  simp only [bd3_ok]
  rw [show (48 : Int32) = nI 48 from rfl, show (57 : Int32) = nI 57 from rfl, show f_X6_wants (nI 48) (nI 57) (nI L) (nI (i + 1 + 1)) (1 : Int32) text = _ from wants_n h (by omega) (by omega) (by omega), if_neg g3]
  simp only [bd3_ok, if_true]
  unfold f_X6_readsTie_J83
  rw [if_pos (show (0 : Int32) = 0 from rfl)]
theorem rt_4 (h : Tx L signs text ch) {i T : Nat} (hi : i ≤ 90) (hT : T ≤ 20) (told : Nat → Int32) (g1 : 97 ≤ ch i ∧ ch i ≤ 105) (g2 : ch i + 1 ≤ ch (i + 1) ∧ ch (i + 1) ≤ 106) (g3 : 48 ≤ ch (i + 2) ∧ ch (i + 2) ≤ 57) : (two ch i ∧ f_X6_readsTie (nI L) (nI i) 1 (nI T) text told = some (nI (i + 4), 1, nI (T + 1), up3 told T (ch i - 97) (ch (i + 1) - 97) (10 * (ch (i + 2) - 48) + (ch (i + 3) - 48)))) ∨ (¬ two ch i ∧ f_X6_readsTie (nI L) (nI i) 1 (nI T) text told = some (nI (i + 3), 1, nI (T + 1), up3 told T (ch i - 97) (ch (i + 1) - 97) (ch (i + 2) - 48))) := by
  have hb := h.b (i + 3)
  have e1 : f_X6_wants (nI 97) (nI 105) (nI L) (nI i) 1 text = some (nI (ch i - 97), nI (i + 1), 1) := by rw [wants_n h (by omega) (by omega) (by omega), if_pos g1]
  have e2 : f_X6_wants (nI (ch i + 1)) (nI 106) (nI L) (nI (i + 1)) 1 text = some (nI (ch (i + 1) - (ch i + 1)), nI (i + 2), 1) := by rw [wants_n h (by omega) (by omega) (by omega), if_pos g2]
  have e3 : f_X6_wants (nI 48) (nI 57) (nI L) (nI (i + 2)) 1 text = some (nI (ch (i + 2) - 48), nI (i + 3), 1) := by rw [wants_n h (by omega) (by omega) (by omega), if_pos g3]
  have eJ : ∀ k j : Nat, f_X6_readsTie_J83 1 (nI T) told (nI (ch i - 97)) (nI (ch (i + 1) - (ch i + 1))) (nI k) (nI j) = some (nI j, 1, nI (T + 1), up3 told T (ch i - 97) (ch (i + 1) - 97) k) := by
    intro k j
    unfold f_X6_readsTie_J83 up3
    rw [if_neg (show ¬ (1 : Int32) = 0 by decide), show (3 : Int32) * nI T = nI (3 * T) from by rw [l3, pk_mul], l1, l2, nI_add, nI_add, nI_add, nI_add, nI_add, chk_n (by omega) (by omega), chk_n (by omega) (by omega), chk_n (by omega) (by omega), nI_clamp (by omega), nI_clamp (by omega), nI_clamp (by omega), show ch (i + 1) - (ch i + 1) + (ch i - 97) + 1 = ch (i + 1) - 97 by omega]
  have main : f_X6_readsTie (nI L) (nI i) 1 (nI T) text told = if nI (ch (i + 2) - 48) ≤ (0 : Int32) then f_X6_readsTie_J83 1 (nI T) told (nI (ch i - 97)) (nI (ch (i + 1) - (ch i + 1))) (nI (ch (i + 2) - 48)) (nI (i + 3)) else bd1 (f_X6_letter (nI L) (nI (i + 3)) text) (fun r10 => bd1 (f_X6_in r10 (48 : Int32) (57 : Int32)) (fun r11 => if r11 = (0 : Int32) then f_X6_readsTie_J83 1 (nI T) told (nI (ch i - 97)) (nI (ch (i + 1) - (ch i + 1))) (nI (ch (i + 2) - 48)) (nI (i + 3)) else bd1 (f_X6_letter (nI L) (nI (i + 3)) text) (fun r12 => f_X6_readsTie_J83 1 (nI T) told (nI (ch i - 97)) (nI (ch (i + 1) - (ch i + 1))) ((((10 : Int32) * nI (ch (i + 2) - 48)) + r12) - (48 : Int32)) (nI (i + 3) + (1 : Int32))))) := by
    unfold f_X6_readsTie
    rw [show f_X6_wants (97 : Int32) (105 : Int32) (nI L) (nI i) 1 text = _ from e1]
    simp only [bd3_ok]
    rw [show ((97 : Int32) + nI (ch i - 97)) + (1 : Int32) = nI (ch i + 1) from by rw [l1, show (97 : Int32) = nI 97 from rfl, nI_add, nI_add, show 97 + (ch i - 97) + 1 = ch i + 1 by omega], show f_X6_wants (nI (ch i + 1)) (106 : Int32) (nI L) (nI (i + 1)) 1 text = _ from e2]
    simp only [bd3_ok]
    rw [show f_X6_wants (48 : Int32) (57 : Int32) (nI L) (nI (i + 2)) 1 text = _ from e3]
    simp only [bd3_ok]
    rw [if_neg (show ¬ (1 : Int32) = 0 by decide)]
  rw [main, let_n h (by omega)]
  simp only [bd1_ok]
  by_cases d : ch (i + 2) = 48
  · rw [d, if_pos (show nI (48 - 48) ≤ 0 by decide)]
    refine Or.inr ⟨fun q => q.1 d, ?_⟩
    have := eJ (ch (i + 2) - 48) (i + 3)
    rw [d] at this
    exact this
  · rw [if_neg (show ¬ nI (ch (i + 2) - 48) ≤ 0 from (nI_ge (by omega) (by omega) : ¬ nI (ch (i + 2) - 48) ≤ nI 0))]
    rcases in_n (nI (ch (i + 3))) (a := 48) (b := 57) (by omega) (by omega) with ⟨z, z1, z2, z3, e⟩ | ⟨z1, e⟩
    · have := nI_inj (by omega) (by omega) z3
      subst this
      rw [show f_X6_in (nI (ch (i + 3))) (48 : Int32) (57 : Int32) = some 1 from e]
      simp only [bd1_ok]
      rw [if_neg (show ¬ (1 : Int32) = 0 by decide), show (((10 : Int32) * nI (ch (i + 2) - 48)) + nI (ch (i + 3))) - (48 : Int32) = nI (10 * (ch (i + 2) - 48) + (ch (i + 3) - 48)) from by
        rw [l10, pk_mul, nI_add, show (48 : Int32) = nI 48 from rfl, pk_sub (by omega), show 10 * (ch (i + 2) - 48) + ch (i + 3) - 48 = 10 * (ch (i + 2) - 48) + (ch (i + 3) - 48) by omega], l1, nI_add]
      exact Or.inl ⟨⟨d, z1, z2⟩, eJ _ _⟩
    · rw [show f_X6_in (nI (ch (i + 3))) (48 : Int32) (57 : Int32) = some 0 from e]
      simp only [bd1_ok, if_true]
      exact Or.inr ⟨fun q => z1 _ q.2.1 q.2.2 rfl, eJ _ _⟩
/-- the class's reading from a place on -/
def Cc (L : Nat) (signs : Nat → Int32) (m i T : Nat) (due lo hi : Int32) (lw hg wt : Nat → Int32) : Option (Int32 × Int32 × Int32 × Int32 × Int32 × (Nat → Int32) × (Nat → Int32) × (Nat → Int32)) := f_X3_read_L12 (nI L) signs (fun x20 x21 x22 x23 a24 a25 a26 => f_X3_read_E41 (nI L) x20 x21 x22 x23 a24 a25 a26) m (nI i) (nI T) due lo hi lw hg wt
def Flt (c : Option (Int32 × Int32 × Int32 × Int32 × Int32 × (Nat → Int32) × (Nat → Int32) × (Nat → Int32))) (q : Nat) : Prop := ∃ (x1 x2 x3 x4 : Int32) (a b d : Nat → Int32), c = some (nI q, x1, x2, x3, x4, a, b, d)
theorem Cc_end {m T : Nat} {due lo hi : Int32} {lw hg wt : Nat → Int32} (hL : L ≤ 60) (hd : due ≠ 3) (hd4 : due ≠ 4) : Flt (Cc L signs (m + 1) L T due lo hi lw hg wt) L := by
  unfold Cc
  rw [f_X3_read_L12, if_pos (nI_le (Nat.le_refl _) (by omega))]
  unfold f_X3_read_E41
  rw [if_neg hd, if_neg hd4]
  exact ⟨_, _, _, _, _, _, _, rfl⟩
theorem Cc_step (h : Tx L signs text ch) {m i T : Nat} {due lo hi : Int32} {lw hg wt : Nat → Int32} (hi' : i < L) : Cc L signs (m + 1) i T due lo hi lw hg wt = bd8 (f_X3_takes (nI (ch i)) (nI T) due lo hi lw hg wt) (fun r9 x10 x11 x12 x13 a14 a15 a16 => if r9 = (0 : Int32) then some (nI i, x10, x11, x12, x13, a14, a15, a16) else f_X3_read_L12 (nI L) signs (fun x20 x21 x22 x23 a24 a25 a26 => f_X3_read_E41 (nI L) x20 x21 x22 x23 a24 a25 a26) m (nI (i + 1)) x10 x11 x12 x13 a14 a15 a16) := by
  have h60 := h.1
  unfold Cc
  rw [f_X3_read_L12, if_neg (nI_ge hi' (by omega)), chk_n (by omega) (by omega), nI_clamp (by omega), (h.2.1 i hi').2.1, l1, nI_add]
theorem c_0 (h : Tx L signs text ch) {m i T : Nat} {lo hi : Int32} {lw hg wt : Nat → Int32} (hi' : i ≤ L) : (¬ (97 ≤ ch i ∧ ch i ≤ 105) → Flt (Cc L signs (m + 1) i T 0 lo hi lw hg wt) i) ∧ ((97 ≤ ch i ∧ ch i ≤ 105) → i < L ∧ Cc L signs (m + 1) i T 0 lo hi lw hg wt = Cc L signs m (i + 1) T 1 (nI (ch i - 97)) hi lw hg wt) := by
  have h60 := h.1
  by_cases c : i < L
  · have hs := Cc_step h (m := m) (T := T) (due := 0) (lo := lo) (hi := hi) (lw := lw) (hg := hg) (wt := wt) c
    rw [hs]
    unfold f_X3_takes
    rw [if_pos (show (0 : Int32) = 0 from rfl), fl_t _ (h.b i)]
    simp only [bd3_ok]
    refine ⟨fun q => ?_, fun q => ⟨c, ?_⟩⟩
    · rw [if_neg q, chkB_0]
      simp only [bd8_ok, if_true]
      exact ⟨_, _, _, _, _, _, _, rfl⟩
    · rw [if_pos q, chkB_1]
      simp only [bd8_ok]
      rw [if_neg (show ¬ (1 : Int32) = 0 by decide), pk_sub q.1]
      rfl
  · have : i = L := by omega
    subst this
    refine ⟨fun _ => Cc_end h60 (by decide) (by decide), fun q => ?_⟩
    rw [h.2.2 i (Nat.le_refl _)] at q
    omega
theorem c_1 (h : Tx L signs text ch) {m i T a : Nat} {hi : Int32} {lw hg wt : Nat → Int32} (hi' : i ≤ L) (ha : 97 ≤ a ∧ a ≤ 105) : (¬ (a + 1 ≤ ch i ∧ ch i ≤ 106) → Flt (Cc L signs (m + 1) i T 1 (nI (a - 97)) hi lw hg wt) i) ∧ ((a + 1 ≤ ch i ∧ ch i ≤ 106) → i < L ∧ Cc L signs (m + 1) i T 1 (nI (a - 97)) hi lw hg wt = Cc L signs m (i + 1) T 2 (nI (a - 97)) (nI (ch i - 97)) lw hg wt) := by
  have h60 := h.1
  by_cases c : i < L
  · have hs := Cc_step h (m := m) (T := T) (due := 1) (lo := nI (a - 97)) (hi := hi) (lw := lw) (hg := hg) (wt := wt) c
    rw [hs]
    unfold f_X3_takes
    rw [if_neg (show ¬ (1 : Int32) = 0 by decide), if_pos (show (1 : Int32) = 1 from rfl), sl_t _ _ (h.b i) (by omega), show 97 + (a - 97) + 1 = a + 1 by omega]
    simp only [bd3_ok]
    refine ⟨fun q => ?_, fun q => ⟨c, ?_⟩⟩
    · rw [if_neg q, chkB_0]
      simp only [bd8_ok, if_true]
      exact ⟨_, _, _, _, _, _, _, rfl⟩
    · rw [if_pos q, chkB_1]
      simp only [bd8_ok]
      rw [if_neg (show ¬ (1 : Int32) = 0 by decide), pk_sub (by omega)]
      rfl
  · have : i = L := by omega
    subst this
    refine ⟨fun _ => Cc_end h60 (by decide) (by decide), fun q => ?_⟩
    rw [h.2.2 i (Nat.le_refl _)] at q
    omega
theorem c_2 (h : Tx L signs text ch) {m i T a b : Nat} {lw hg wt : Nat → Int32} (hi' : i ≤ L) (hT : T < 15) : (¬ (48 ≤ ch i ∧ ch i ≤ 57) → Flt (Cc L signs (m + 1) i T 2 (nI a) (nI b) lw hg wt) i) ∧ ((48 ≤ ch i ∧ ch i ≤ 57) → i < L ∧ Cc L signs (m + 1) i T 2 (nI a) (nI b) lw hg wt = Cc L signs m (i + 1) (T + 1) (if ch i = 48 then 4 else 3) (nI a) (nI b) (upd lw T (nI a)) (upd hg T (nI b)) (upd wt T (nI (ch i - 48)))) := by
  have h60 := h.1
  have hb := h.b i
  by_cases c : i < L
  · have hs := Cc_step h (m := m) (T := T) (due := 2) (lo := nI a) (hi := nI b) (lw := lw) (hg := hg) (wt := wt) c
    rw [hs]
    unfold f_X3_takes f_X3_takesFirstDigit
    rw [if_neg (show ¬ (2 : Int32) = 0 by decide), if_neg (show ¬ (2 : Int32) = 1 by decide), if_pos (show (2 : Int32) = 2 from rfl), dig_n (h.b i)]
    simp only [bd1_ok]
    refine ⟨fun q => ?_, fun q => ⟨c, ?_⟩⟩
    · rw [if_neg q, if_pos (show (0 : Int32) = 0 from rfl)]
      simp only [bd6_ok]
      rw [chkB_0]
      simp only [bd8_ok, if_true]
      exact ⟨_, _, _, _, _, _, _, rfl⟩
    · rw [if_pos q, if_neg (show ¬ (1 : Int32) = 0 by decide), l15, if_pos (nI_lt hT (by omega)), chk_n (by omega) (by omega), chk_n (by omega) (by omega), chk_n (by omega) (by omega)]
      unfold f_X3_takesFirstDigit_J79
      rw [nI_clamp (by omega), show (48 : Int32) = nI 48 from rfl, pk_sub q.1]
      by_cases d : ch i = 48
      · rw [if_pos (by rw [d]), if_pos d]
        simp only [bd6_ok]
        rw [chkB_1]
        simp only [bd8_ok]
        rw [if_neg (show ¬ (1 : Int32) = 0 by decide), l1, nI_add]
        rfl
      · rw [if_neg (fun e => d (nI_inj (by omega) (by omega) e)), if_neg d]
        simp only [bd6_ok]
        rw [chkB_1]
        simp only [bd8_ok]
        rw [if_neg (show ¬ (1 : Int32) = 0 by decide), l1, nI_add]
        rfl
  · have : i = L := by omega
    subst this
    refine ⟨fun _ => Cc_end h60 (by decide) (by decide), fun q => ?_⟩
    rw [h.2.2 i (Nat.le_refl _)] at q
    omega
theorem c_3 (h : Tx L signs text ch) {m i T : Nat} {lo hi : Int32} {lw hg wt : Nat → Int32} (hT : T < 15) (q : 48 ≤ ch i ∧ ch i ≤ 57) {k : Nat} (hk : wt T = nI k) : i < L ∧ Cc L signs (m + 1) i (T + 1) 3 lo hi lw hg wt = Cc L signs m (i + 1) (T + 1) 4 lo hi lw hg (upd wt T (nI (10 * k + (ch i - 48)))) := by
  have h60 := h.1
  have c : i < L := by
    apply Classical.byContradiction
    intro c
    rw [h.2.2 i (by omega)] at q
    omega
  have hs := Cc_step h (m := m) (T := T + 1) (due := 3) (lo := lo) (hi := hi) (lw := lw) (hg := hg) (wt := wt) c
  refine ⟨c, ?_⟩
  rw [hs]
  unfold f_X3_takes f_X3_takesSecondDigit
  rw [if_neg (show ¬ (3 : Int32) = 0 by decide), if_neg (show ¬ (3 : Int32) = 1 by decide), if_neg (show ¬ (3 : Int32) = 2 by decide), if_pos (show (3 : Int32) = 3 from rfl), dig_n (h.b i)]
  simp only [bd1_ok]
  rw [if_pos q, if_neg (show ¬ (1 : Int32) = 0 by decide), l1, if_pos (nI_le (by omega) (by omega)), pk_sub (by omega), show T + 1 - 1 = T from rfl, chk_n (by omega) (by omega), chk_n (by omega) (by omega), nI_clamp (by omega), hk, l10, pk_mul, show (48 : Int32) = nI 48 from rfl, pk_sub q.1, nI_add]
  simp only [bd3_ok]
  rw [if_neg (show ¬ nI 1 = 0 by decide)]
  simp only [bd8_ok]
  rw [if_neg (show ¬ nI 1 = 0 by decide)]
  rfl
end TI
