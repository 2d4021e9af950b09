section TA
variable {N L : Nat} {signs text : Nat → Int32} {ch : Nat → Nat}
theorem c_comma (h : Tx L signs text ch) {m j T : Nat} {due lo hi : Int32} {lw hg wt : Nat → Int32} (hj : j < L) (hd : due = 3 ∨ due = 4) (hq : due = 3 → ¬ (48 ≤ ch j ∧ ch j ≤ 57)) : (ch j = 44 → Cc L signs (m + 1) j T due lo hi lw hg wt = Cc L signs m (j + 1) T 0 lo hi lw hg wt) ∧ (ch j ≠ 44 → Flt (Cc L signs (m + 1) j T due lo hi lw hg wt) j) := by
  have hb := h.b j
  have hs := Cc_step h (m := m) (T := T) (due := due) (lo := lo) (hi := hi) (lw := lw) (hg := hg) (wt := wt) hj
  have hc : f_X3_takesComma (nI (ch j)) = some ((if ch j = 44 then 1 else 0), 0) := by
    unfold f_X3_takesComma
    by_cases c : ch j = 44
    · rw [if_pos (show nI (ch j) = 44 by rw [c]; rfl), if_pos c]
    · rw [if_neg (show ¬ nI (ch j) = 44 from fun e => c (nI_inj (b := 44) (by omega) (by omega) e)), if_neg c]
  have ht : f_X3_takes (nI (ch j)) (nI T) due lo hi lw hg wt = some ((if ch j = 44 then 1 else 0), nI T, 0, lo, hi, lw, hg, wt) := by
    unfold f_X3_takes
    rcases hd with rfl | rfl
    · unfold f_X3_takesSecondDigit
      rw [if_neg (show ¬ (3 : Int32) = 0 by decide), if_neg (show ¬ (3 : Int32) = 1 by decide), if_neg (show ¬ (3 : Int32) = 2 by decide), if_pos (show (3 : Int32) = 3 from rfl), dig_n hb, if_neg (hq rfl)]
      simp only [bd1_ok, if_true, bd3_ok]
      rw [hc]
      simp only [bd2_ok]
      by_cases c : ch j = 44
      · rw [if_pos c, if_neg (show ¬ (1 : Int32) = 0 by decide)]
      · rw [if_neg c, if_pos (show (0 : Int32) = 0 from rfl)]
    · rw [if_neg (show ¬ (4 : Int32) = 0 by decide), if_neg (show ¬ (4 : Int32) = 1 by decide), if_neg (show ¬ (4 : Int32) = 2 by decide), if_neg (show ¬ (4 : Int32) = 3 by decide), hc]
      simp only [bd2_ok]
      by_cases c : ch j = 44
      · rw [if_pos c, chkB_1]
      · rw [if_neg c, chkB_0]
  rw [hs, ht]
  simp only [bd8_ok]
  refine ⟨fun c => ?_, fun c => ?_⟩
  · rw [if_pos c, if_neg (show ¬ (1 : Int32) = 0 by decide)]
    rfl
  · rw [if_neg c, if_pos (show (0 : Int32) = 0 from rfl)]
    exact ⟨_, _, _, _, _, _, _, rfl⟩
def Rf (L : Nat) (text : Nat → Int32) (m : Nat) (x5 x6 x7 : Int32) (a8 : Nat → Int32) : Option (Int32 × Int32 × Int32 × Int32 × (Nat → Int32)) := f_X6_reads_L19 (nI L) text (fun x19 x20 x21 a22 => f_X6_reads_E60 x19 x20 x21 a22) m x5 x6 x7 a8
def Fin' (c : Option (Int32 × Int32 × Int32 × Int32 × Int32 × (Nat → Int32) × (Nat → Int32) × (Nat → Int32))) (r : Option (Int32 × Int32 × Int32 × Int32 × (Nat → Int32))) : Prop := (∃ (T : Nat) (x2 x3 x4 : Int32) (a b d : Nat → Int32) (y2 y3 : Int32) (told : Nat → Int32), T ≤ 15 ∧ c = some (-1, nI T, x2, x3, x4, a, b, d) ∧ r = some (-5, y2, y3, nI T, told) ∧ TT T a b d told) ∨ ∃ (q : Nat) (y2 y3 y4 : Int32) (told : Nat → Int32), q ≤ 60 ∧ Flt c q ∧ r = some (nI q, y2, y3, y4, told)
theorem Rf_0 {m q T : Nat} {told : Nat → Int32} : Rf L text (m + 1) (nI q) 0 (nI T) told = some (nI q, nI q, 0, nI T, told) := by
  unfold Rf
  rw [f_X6_reads_L19, if_pos (show (0 : Int32) = 0 from rfl)]
  unfold f_X6_reads_E60
  rw [if_pos (show (0 : Int32) = 0 from rfl)]
theorem TT_up {T lo hi k : Nat} {lw hg wt wt' told : Nat → Int32} (h : TT T lw hg wt told) (h1 : lo < hi) (h2 : hi < 10) (h3 : k ≤ 99) (hw : ∀ t, wt' t = if t = T then nI k else wt t) : TT (T + 1) (upd lw T (nI lo)) (upd hg T (nI hi)) wt' (up3 told T lo hi k) := by
  intro t ht
  unfold up3
  by_cases e : t = T
  · subst e
    refine ⟨lo, hi, k, h1, h2, h3, upd_same _ _ _, upd_same _ _ _, ?_, ?_, ?_, upd_same _ _ _⟩
    · rw [hw, if_pos rfl]
    · rw [upd_ne _ _ (by omega), upd_ne _ _ (by omega), upd_same]
    · rw [upd_ne _ _ (by omega), upd_same]
  · obtain ⟨lo', hi', k', g1, g2, g3, g4, g5, g6, g7, g8, g9⟩ := h t (by omega)
    refine ⟨lo', hi', k', g1, g2, g3, ?_, ?_, ?_, ?_, ?_, ?_⟩
    · rw [upd_ne _ _ e]; exact g4
    · rw [upd_ne _ _ e]; exact g5
    · rw [hw, if_neg e]; exact g6
    · rw [upd_ne _ _ (by omega), upd_ne _ _ (by omega), upd_ne _ _ (by omega)]; exact g7
    · rw [upd_ne _ _ (by omega), upd_ne _ _ (by omega), upd_ne _ _ (by omega)]; exact g8
    · rw [upd_ne _ _ (by omega), upd_ne _ _ (by omega), upd_ne _ _ (by omega)]; exact g9
theorem mac (h : Tx L signs text ch) {m m2 i T : Nat} {lo hi : Int32} {lw hg wt told : Nat → Int32} (hi' : i ≤ L) (h4 : 4 * T ≤ i) (hm : L < m + i) (hm2 : 1 ≤ m2) (tt : TT T lw hg wt told) (rec : ∀ (j m' : Nat) (due lo' hi' : Int32) (lw' hg' wt' told' : Nat → Int32), i + 3 ≤ j → j ≤ L → L < m' + j → (due = 3 ∨ due = 4) → (due = 3 → ¬ (48 ≤ ch j ∧ ch j ≤ 57)) → TT (T + 1) lw' hg' wt' told' → Fin' (Cc L signs m' j (T + 1) due lo' hi' lw' hg' wt') (Rf L text m2 (nI j) 1 (nI (T + 1)) told')) : Fin' (Cc L signs m i T 0 lo hi lw hg wt) (bd4 (f_X6_readsTie (nI L) (nI i) 1 (nI T) text told) (fun x12 x13 x14 a15 => Rf L text m2 x12 x13 x14 a15)) := by
  have h60 := h.1
  obtain ⟨m2', rfl⟩ : ∃ k, m2 = k + 1 := ⟨m2 - 1, by omega⟩
  obtain ⟨m1, rfl⟩ : ∃ k, m = k + 1 := ⟨m - 1, by omega⟩
  obtain ⟨a1, a2⟩ := c_0 h (m := m1) (T := T) (lo := lo) (hi := hi) (lw := lw) (hg := hg) (wt := wt) hi'
  by_cases g1 : 97 ≤ ch i ∧ ch i ≤ 105
  · obtain ⟨i1, e1⟩ := a2 g1
    rw [e1]
    obtain ⟨m3, rfl⟩ : ∃ k, m1 = k + 1 := ⟨m1 - 1, by omega⟩
    obtain ⟨b1, b2⟩ := c_1 h (m := m3) (T := T) (hi := hi) (lw := lw) (hg := hg) (wt := wt) (i := i + 1) (by omega) g1
    by_cases g2 : ch i + 1 ≤ ch (i + 1) ∧ ch (i + 1) ≤ 106
    · obtain ⟨i2, e2⟩ := b2 g2
      rw [e2]
      obtain ⟨m4, rfl⟩ : ∃ k, m3 = k + 1 := ⟨m3 - 1, by omega⟩
      by_cases g3 : 48 ≤ ch (i + 2) ∧ ch (i + 2) ≤ 57
      · have i3 : i + 2 < L := by
          apply Classical.byContradiction
          intro c
          rw [h.2.2 (i + 2) (by omega)] at g3
          omega
        obtain ⟨d1, d2⟩ := c_2 h (m := m4) (T := T) (i := i + 1 + 1) (a := ch i - 97) (b := ch (i + 1) - 97) (lw := lw) (hg := hg) (wt := wt) (by omega) (by omega)
        obtain ⟨-, e3⟩ := d2 g3
        rw [e3]
        rcases rt_4 (T := T) h (by omega) (by omega) told g1 g2 g3 with ⟨w1, w2⟩ | ⟨w1, w2⟩
        · rw [w2]
          simp only [bd4_ok]
          obtain ⟨m5, rfl⟩ : ∃ k, m4 = k + 1 := ⟨m4 - 1, by omega⟩
          rw [if_neg (show ¬ ch (i + 1 + 1) = 48 from w1.1)]
          obtain ⟨i4, e4⟩ := c_3 h (m := m5) (i := i + 1 + 1 + 1) (T := T) (lo := nI (ch i - 97)) (hi := nI (ch (i + 1) - 97)) (lw := upd lw T (nI (ch i - 97))) (hg := upd hg T (nI (ch (i + 1) - 97))) (wt := upd wt T (nI (ch (i + 1 + 1) - 48))) (by omega) w1.2 (k := ch (i + 2) - 48) (upd_same _ _ _)
          rw [e4]
          refine rec (i + 4) m5 4 _ _ _ _ _ _ (by omega) (by omega) (by omega) (Or.inr rfl) (fun q => absurd q (by decide)) (TT_up tt (by omega) (by omega) (by have := w1.2; omega) (fun t => ?_))
          by_cases z : t = T
          · subst z; rw [upd_same, if_pos rfl]
          · rw [upd_ne _ _ z, upd_ne _ _ z, if_neg z]
        · rw [w2]
          simp only [bd4_ok]
          have hT2 : TT (T + 1) (upd lw T (nI (ch i - 97))) (upd hg T (nI (ch (i + 1) - 97))) (upd wt T (nI (ch (i + 1 + 1) - 48))) (up3 told T (ch i - 97) (ch (i + 1) - 97) (ch (i + 2) - 48)) := TT_up tt (by omega) (by omega) (by omega) (fun t => by
            by_cases z : t = T
            · subst z; rw [upd_same, if_pos rfl]
            · rw [upd_ne _ _ z, if_neg z])
          by_cases z : ch (i + 2) = 48
          · rw [if_pos (show ch (i + 1 + 1) = 48 from z)]
            exact rec (i + 3) m4 4 _ _ _ _ _ _ (by omega) (by omega) (by omega) (Or.inr rfl) (fun q => absurd q (by decide)) hT2
          · rw [if_neg (show ¬ ch (i + 1 + 1) = 48 from z)]
            exact rec (i + 3) m4 3 _ _ _ _ _ _ (by omega) (by omega) (by omega) (Or.inl rfl) (fun _ q => w1 ⟨z, q⟩) hT2
      · rw [rt_3 h (by omega) told g1 g2 g3]
        simp only [bd4_ok]
        rw [Rf_0]
        refine Or.inr ⟨i + 2, _, _, _, _, by omega, ?_, rfl⟩
        by_cases z : T < 15
        · exact (c_2 h (m := m4) (T := T) (i := i + 1 + 1) (a := ch i - 97) (b := ch (i + 1) - 97) (by omega) z).1 g3
        · have : i + 1 + 1 = L := by omega
          rw [this]
          exact Cc_end h60 (by decide) (by decide)
    · rw [rt_2 h (by omega) told g1 g2]
      simp only [bd4_ok]
      rw [Rf_0]
      exact Or.inr ⟨i + 1, _, _, _, _, by omega, b1 g2, rfl⟩
  · rw [rt_1 h (by omega) told g1]
    simp only [bd4_ok]
    rw [Rf_0]
    exact Or.inr ⟨i, _, _, _, _, by omega, a1 g1, rfl⟩
theorem fin_n (h : Tx L signs text ch) : ∀ (k j m m2 T : Nat) (due lo hi : Int32) (lw hg wt told : Nat → Int32), L ≤ j + k → j ≤ L → L < m + j → L + 2 ≤ m2 + j → 4 * T ≤ j + 1 → (due = 3 ∨ due = 4) → (due = 3 → ¬ (48 ≤ ch j ∧ ch j ≤ 57)) → TT T lw hg wt told → Fin' (Cc L signs m j T due lo hi lw hg wt) (Rf L text m2 (nI j) 1 (nI T) told) := by
  intro k
  have h60 := h.1
  induction k with
  | zero =>
    intro j m m2 T due lo hi lw hg wt told h1 h2 h3 h4 h5 h6 h7 h8
    have : j = L := by omega
    subst this
    obtain ⟨m1, rfl⟩ : ∃ k, m = k + 1 := ⟨m - 1, by omega⟩
    obtain ⟨m3, rfl⟩ : ∃ k, m2 = k + 1 := ⟨m2 - 1, by omega⟩
    unfold Cc Rf
    rw [f_X3_read_L12, if_pos (nI_le (Nat.le_refl _) (by omega)), f_X6_reads_L19, if_neg (show ¬ (1 : Int32) = 0 by decide), if_pos (nI_le (Nat.le_refl _) (by omega))]
    unfold f_X3_read_E41 f_X6_reads_E60
    rw [if_neg (show ¬ (1 : Int32) = 0 by decide)]
    refine Or.inl ?_
    rcases h6 with rfl | rfl
    · rw [if_pos rfl]
      exact ⟨T, _, _, _, _, _, _, _, _, _, by omega, rfl, rfl, h8⟩
    · rw [if_neg (by decide), if_pos rfl]
      exact ⟨T, _, _, _, _, _, _, _, _, _, by omega, rfl, rfl, h8⟩
  | succ k ih =>
    intro j m m2 T due lo hi lw hg wt told h1 h2 h3 h4 h5 h6 h7 h8
    by_cases c : L ≤ j + k
    · exact ih j m m2 T due lo hi lw hg wt told c h2 h3 h4 h5 h6 h7 h8
    · have hj : j < L := by omega
      obtain ⟨m1, rfl⟩ : ∃ k, m = k + 1 := ⟨m - 1, by omega⟩
      obtain ⟨m3, rfl⟩ : ∃ k, m2 = k + 1 + 1 := ⟨m2 - 2, by omega⟩
      obtain ⟨k1, k2⟩ := c_comma h (m := m1) (T := T) (lo := lo) (hi := hi) (lw := lw) (hg := hg) (wt := wt) hj h6 h7
      have hR : Rf L text (m3 + 1 + 1) (nI j) 1 (nI T) told = bd3 (f_X6_wants (nI 44) (nI 44) (nI L) (nI j) 1 text) (fun r9 x10 x11 => if x11 = (0 : Int32) then Rf L text (m3 + 1) x10 x11 (nI T) told else bd4 (f_X6_readsTie (nI L) x10 x11 (nI T) text told) (fun x12 x13 x14 a15 => Rf L text (m3 + 1) x12 x13 x14 a15)) := by
        unfold Rf
        rw [f_X6_reads_L19, if_neg (show ¬ (1 : Int32) = 0 by decide), if_neg (nI_ge hj (by omega))]
        rfl
      rw [hR, wants_n h (by omega) (by omega) (by omega)]
      by_cases e : ch j = 44
      · rw [if_pos (show 44 ≤ ch j ∧ ch j ≤ 44 by omega), k1 e]
        simp only [bd3_ok]
        rw [if_neg (show ¬ (1 : Int32) = 0 by decide)]
        refine mac h (by omega) h5 (by omega) (by omega) h8 (fun j' m' due' lo' hi' lw' hg' wt' told' z1 z2 z3 z4 z5 z6 => ?_)
        exact ih j' m' (m3 + 1) (T + 1) due' lo' hi' lw' hg' wt' told' (by omega) z2 z3 (by omega) (by omega) z4 z5 z6
      · rw [if_neg (show ¬ (44 ≤ ch j ∧ ch j ≤ 44) by omega)]
        simp only [bd3_ok, if_true]
        rw [Rf_0]
        exact Or.inr ⟨j, _, _, _, _, by omega, k2 e, rfl⟩
theorem read_x (h : Tx L signs text ch) (hN : 600 ≤ N) (lo hi : Int32) (lw hg wt told : Nat → Int32) : Fin' (f_X3_read N (nI L) lo hi signs lw hg wt) (f_X6_reads N (nI L) text told) := by
  have h60 := h.1
  unfold f_X3_read f_X6_reads
  refine mac (T := 0) (i := 0) h (by omega) (by omega) (by omega) (by omega) (fun t ht => absurd ht (by omega)) (fun j' m' due' lo' hi' lw' hg' wt' told' z1 z2 z3 z4 z5 z6 => ?_)
  exact fin_n h L j' m' N 1 due' lo' hi' lw' hg' wt' told' (by omega) z2 z3 (by omega) (by omega) z4 z5 z6
end TA
section TF
variable {n a f N T : Nat} {W : Nat → Nat → Nat} {s w : Nat → Int32} {pl st fp : Int32} {lw hg wt told : Nat → Int32}
theorem fit_x (hN : 600 ≤ N) (h1 : 1 ≤ n) (h10 : n ≤ 10) (hs : s 0 = nI n) (hT : T ≤ 15) (tt : TT T lw hg wt told) (sm' x2 x3 : Int32) (sv : Nat → Int32) (k8 : _) : (f_X3_fits N (nI T) hg (nI n) = some 1 ∧ f_X6_tieAll_L23 (nI T) told s sm' x2 x3 sv k8 N (nI 0) = k8 ∧ ∀ t i, t < T → i < 10 → hg t = nI i → i < n) ∨ (f_X3_fits N (nI T) hg (nI n) = some 0 ∧ f_X6_tieAll_L23 (nI T) told s sm' x2 x3 sv k8 N (nI 0) = some ((-1 : Int32), (0 : Int32), sm', x2, x3, nI T, s, sv, told)) := by
  unfold f_X3_fits
  refine upe (σ := Unit) (fun m t _ => (f_X3_fits_L2 (nI T) hg (nI n) f_X3_fits_E31 m (nI t), f_X6_tieAll_L23 (nI T) told s sm' x2 x3 sv k8 m (nI t))) (fun t _ => ∀ u i, u < t → i < 10 → hg u = nI i → i < n) T (fun x => (x.1 = some 1 ∧ x.2 = k8 ∧ ∀ t i, t < T → i < 10 → hg t = nI i → i < n) ∨ (x.1 = some 0 ∧ x.2 = some ((-1 : Int32), (0 : Int32), sm', x2, x3, nI T, s, sv, told))) (fun m t _ ht hI => ?_) (fun m _ hI => ?_) N 0 () (by omega) (by omega) (fun u i hu => absurd hu (by omega))
  · obtain ⟨lo, hi, k, g1, g2, g3, g4, g5, g6, g7, g8, g9⟩ := tt t ht
    rw [f_X3_fits_L2, f_X6_tieAll_L23, if_neg (nI_ge ht (by omega)), if_neg (nI_ge ht (by omega)), chk_n (by omega) (by omega), nI_clamp (by omega), g5, show ((3 : Int32) * nI t) + (1 : Int32) = nI (3 * t + 1) from by rw [l3, pk_mul, l1, nI_add], chk_n (by omega) (by omega), nI_clamp (by omega), g8]
    rcases place_x (nI hi) h1 h10 hs with ⟨i, hi2, e, e1, e2⟩ | ⟨-, e1, e2⟩
    · rw [e1, e2]
      simp only [bd1_ok]
      rw [if_neg (show ¬ (1 : Int32) = 0 by decide), if_neg (show ¬ (1 : Int32) = 0 by decide), l1, nI_add]
      refine Or.inr ⟨(), fun u j hu hj hq => ?_, rfl⟩
      by_cases z : u = t
      · subst z
        rw [g5] at hq
        have := nI_inj (by omega) (by omega) hq
        have := nI_inj (by omega) (by omega) e
        omega
      · exact hI u j (by omega) hj hq
    · rw [e1, e2]
      simp only [bd1_ok, if_true]
      exact Or.inl (Or.inr ⟨trivial, trivial⟩)
  · rw [f_X3_fits_L2, f_X6_tieAll_L23, if_pos (nI_le (Nat.le_refl _) (by omega)), if_pos (nI_le (Nat.le_refl _) (by omega))]
    exact Or.inl ⟨rfl, rfl, hI⟩
theorem bindAll_x (hN : 600 ≤ N) (q1 : WF n a f W) (q2 : CW (nI n) st fp w n a f W) (q3 : RW s 0 n a f W) (hT : T ≤ 15) (tt : TT T lw hg wt told) (hh : ∀ t i, t < T → i < 10 → hg t = nI i → i < n) (k16 : (Nat → Int32) → _) : ∃ (w' s' : Nat → Int32), f_X3_bindAll N (nI T) lw hg wt (nI n) w = some w' ∧ f_X6_tieAll_L62 (nI T) told k16 N (nI 0) s = k16 s' ∧ ∃ W', WF n a f W' ∧ CW (nI n) st fp w' n a f W' ∧ RW s' 0 n a f W' := by
  have h10 := q1.2.1
  unfold f_X3_bindAll
  refine upx (σ := (Nat → Int32) × (Nat → Int32)) (fun m t x => (f_X3_bindAll_L2 (nI T) lw hg wt (nI n) (fun a7 => f_X3_bindAll_E38 a7) m (nI t) x.1, f_X6_tieAll_L62 (nI T) told k16 m (nI t) x.2)) (fun t x => ∃ W', WF n a f W' ∧ CW (nI n) st fp x.1 n a f W' ∧ RW x.2 0 n a f W') T (fun x => ∃ (w' s' : Nat → Int32), x.1 = some w' ∧ x.2 = k16 s' ∧ ∃ W', WF n a f W' ∧ CW (nI n) st fp w' n a f W' ∧ RW s' 0 n a f W') (fun m t x ht hI => ?_) (fun m x hI => ?_) N 0 (w, s) (by omega) (by omega) ⟨W, q1, q2, q3⟩
  · obtain ⟨w1, s1⟩ := x
    obtain ⟨W', z1, z2, z3⟩ := hI
    obtain ⟨lo, hi, k, g1, g2, g3, g4, g5, g6, g7, g8, g9⟩ := tt t ht
    have hin := hh t hi ht g2 g5
    show ∃ s', _ ∧ (f_X3_bindAll_L2 (nI T) lw hg wt (nI n) _ (m + 1) (nI t) w1, f_X6_tieAll_L62 (nI T) told k16 (m + 1) (nI t) s1) = _
    rw [f_X3_bindAll_L2, f_X6_tieAll_L62, if_neg (nI_ge ht (by omega)), if_neg (nI_ge ht (by omega)), chk_n (by omega) (by omega), chk_n (by omega) (by omega), chk_n (by omega) (by omega), nI_clamp (by omega), g4, g5, g6, bind_n (by omega) hin h10, show (3 : Int32) * nI t = nI (3 * t) from by rw [l3, pk_mul], l1, l2, nI_add, nI_add, nI_add, chk_n (by omega) (by omega), chk_n (by omega) (by omega), chk_n (by omega) (by omega), nI_clamp (by omega), nI_clamp (by omega), nI_clamp (by omega), g7, g8, g9, ties_n (by omega) (by omega)]
    simp only [bd1_ok]
    exact ⟨(_, _), ⟨setW W' lo hi k, setW_wf z1 (by omega) hin (by omega) g3, setW_cw z2 h10 (by omega) hin, setW_rw z3 (by omega) (by omega)⟩, rfl⟩
  · obtain ⟨w1, s1⟩ := x
    show ∃ w' s', f_X3_bindAll_L2 (nI T) lw hg wt (nI n) _ (m + 1) (nI T) w1 = _ ∧ f_X6_tieAll_L62 (nI T) told k16 (m + 1) (nI T) s1 = _ ∧ _
    rw [f_X3_bindAll_L2, f_X6_tieAll_L62, if_pos (nI_le (Nat.le_refl _) (by omega)), if_pos (nI_le (Nat.le_refl _) (by omega))]
    exact ⟨w1, s1, rfl, rfl, hI⟩
end TF
theorem eq_tieAll {x_kept_ : Int32} {x_web_places_ : Int32} {x_web_start_ : Int32} {x_web_fairPlaces_ : Int32} {x_web_weights_ : Nat → Int32} {x_snapshot_places_ : Int32} {x_snapshot_start_ : Int32} {x_snapshot_fairPlaces_ : Int32} {x_snapshot_weights_ : Nat → Int32} {x_history_size_ : Int32} {x_history_ha_ : Nat → Nat} {x_history_hb_ : Nat → Nat} {x_history_pl_ : Nat → Int32} {x_history_st_ : Nat → Int32} {x_history_fp_ : Nat → Int32} {x_history_wt_ : Nat → Nat → Int32} {x_text_length_ : Int32} {x_text_lower_ : Int32} {x_text_higher_ : Int32} {x_text_signs_ : Nat → Int32} {x_text_lowers_ : Nat → Int32} {x_text_highers_ : Nat → Int32} {x_text_weights_ : Nat → Int32} {x_partings_weights_ : Nat → Int32} {x_partings_pulls_ : Nat → Int32} {m_savedMany_ : Int32} {m_hasSnapshot_ : Int32} {m_length_ : Int32} {m_s_ : Nat → Int32} {m_saved_ : Nat → Int32} {m_snapshot_ : Nat → Int32} {m_text_ : Nat → Int32} {m_told_ : Nat → Int32} (N : Nat) (hN : 600 ≤ N) (h : Same x_web_places_ x_web_start_ x_web_fairPlaces_ x_web_weights_ m_s_ 0 ∧ HistR x_history_size_ x_history_pl_ x_history_st_ x_history_fp_ x_history_wt_ m_savedMany_ m_saved_ ∧ SnapR x_kept_ x_snapshot_places_ x_snapshot_start_ x_snapshot_fairPlaces_ x_snapshot_weights_ m_hasSnapshot_ m_snapshot_ ∧ TextR x_text_length_ x_text_signs_ m_length_ m_text_ ∧ Zero x_partings_weights_ x_partings_pulls_) : ∃ (r_ : Int32) (x_web_weights_' : Nat → Int32) (x_history_size_' : Int32) (x_history_ha_' : Nat → Nat) (x_history_hb_' : Nat → Nat) (x_history_pl_' : Nat → Int32) (x_history_st_' : Nat → Int32) (x_history_fp_' : Nat → Int32) (x_history_wt_' : Nat → Nat → Int32) (x_text_ties_' : Int32) (x_text_due_' : Int32) (x_text_lower_' : Int32) (x_text_higher_' : Int32) (x_text_lowers_' : Nat → Int32) (x_text_highers_' : Nat → Int32) (x_text_weights_' : Nat → Int32) (m_thrown_' : Int32) (m_savedMany_' : Int32) (m_at_' : Int32) (m_isWell_' : Int32) (m_toldMany_' : Int32) (m_s_' : Nat → Int32) (m_saved_' : Nat → Int32) (m_told_' : Nat → Int32), f_X5_tieAll N x_web_places_ x_web_start_ x_web_fairPlaces_ x_web_weights_ x_history_size_ x_history_ha_ x_history_hb_ x_history_pl_ x_history_st_ x_history_fp_ x_history_wt_ x_text_length_ x_text_lower_ x_text_higher_ x_text_signs_ x_text_lowers_ x_text_highers_ x_text_weights_ = some (r_, x_web_weights_', x_history_size_', x_history_ha_', x_history_hb_', x_history_pl_', x_history_st_', x_history_fp_', x_history_wt_', x_text_ties_', x_text_due_', x_text_lower_', x_text_higher_', x_text_lowers_', x_text_highers_', x_text_weights_') ∧ f_X6_tieAll N m_savedMany_ m_length_ m_s_ m_saved_ m_text_ m_told_ = some (r_, m_thrown_', m_savedMany_', m_at_', m_isWell_', m_toldMany_', m_s_', m_saved_', m_told_') ∧ (Same x_web_places_ x_web_start_ x_web_fairPlaces_ x_web_weights_' m_s_' 0 ∧ HistR x_history_size_' x_history_pl_' x_history_st_' x_history_fp_' x_history_wt_' m_savedMany_' m_saved_' ∧ SnapR x_kept_ x_snapshot_places_ x_snapshot_start_ x_snapshot_fairPlaces_ x_snapshot_weights_ m_hasSnapshot_ m_snapshot_ ∧ TextR x_text_length_ x_text_signs_ m_length_ m_text_ ∧ Zero x_partings_weights_ x_partings_pulls_) := by
  obtain ⟨h1, h2, h3, h4, h5⟩ := h
  have hS := h1
  have h4' := h4
  obtain ⟨n, a, f, W, q1, q2, q3⟩ := h1
  obtain ⟨L, hL, t1, t2, t3⟩ := h4'
  have g2 := q1.1
  have g10 := q1.2.1
  have hTx : Tx L x_text_signs_ m_text_ (fun k => if k < L then (x_text_signs_ k).toInt.toNat else 0) := by
    refine ⟨hL, fun k hk => ?_, fun k hk => if_neg (by omega)⟩
    obtain ⟨c, c1, c2, c3⟩ := t3 k hk
    have e : (if k < L then (x_text_signs_ k).toInt.toNat else 0) = c := by
      rw [if_pos hk, c2, nI_toInt (by omega)]; rfl
    dsimp only
    rw [e]
    exact ⟨c1, c2, c3⟩
  unfold f_X5_tieAll f_X6_tieAll
  have h4n := h4
  rw [t1, t2] at h4n
  rw [t1, t2]
  rcases read_x hTx hN x_text_lower_ x_text_higher_ x_text_lowers_ x_text_highers_ x_text_weights_ m_told_ with ⟨T, x2, x3, x4, lw, hg, wt, y2, y3, told, b1, b2, b3, b4⟩ | ⟨q, y2, y3, y4, told, b1, ⟨x1, x2, x3, x4, lw, hg, wt, b2⟩, b3⟩
  · rw [b2, b3]
    simp only [bd8_ok, bd5_ok, if_true]
    rw [q2.1]
    rw [q2.1] at hS
    rcases fit_x hN (by omega) g10 q3.1 b1 b4 m_savedMany_ y2 y3 m_saved_ (f_X6_tieAll_E56 N m_savedMany_ m_s_ m_saved_ (nI T) told y2 y3) with ⟨c1, c2, c3⟩ | ⟨c1, c2⟩
    · rw [c1, show f_X6_tieAll_L23 (nI T) told m_s_ m_savedMany_ y2 y3 m_saved_ (f_X6_tieAll_E56 N m_savedMany_ m_s_ m_saved_ (nI T) told y2 y3) N (0 : Int32) = _ from c2]
      simp only [bd1_ok]
      rw [if_neg (show ¬ (1 : Int32) = 0 by decide)]
      unfold f_X6_tieAll_E56
      obtain ⟨z, ha', hb', pl', st', fp', wt', many', saved', v1, v2, v3⟩ := hist_rec hN x_history_ha_ x_history_hb_ h2 hS
      rw [v1, v2]
      simp only [bd7_ok, bd2_ok]
      obtain ⟨w', s', d1, d2, W', d3, d4, d5⟩ := bindAll_x (told := told) hN q1 (q2.1 ▸ q2) q3 b1 b4 c3 (fun a19 => f_X6_tieAll_E108 (nI T) many' y2 y3 saved' told a19)
      rw [d1, show f_X6_tieAll_L62 (nI T) told (fun a19 => f_X6_tieAll_E108 (nI T) many' y2 y3 saved' told a19) N (0 : Int32) m_s_ = _ from d2]
      simp only [bd1_ok]
      unfold f_X6_tieAll_E108
      exact ⟨_, _, _, _, _, _, _, _, _, _, _, _, _, _, _, _, _, _, _, _, _, _, _, _, rfl, rfl, ⟨n, a, f, W', d3, d4, d5⟩, v3, h3, h4n, h5⟩
    · rw [c1, show f_X6_tieAll_L23 (nI T) told m_s_ m_savedMany_ y2 y3 m_saved_ (f_X6_tieAll_E56 N m_savedMany_ m_s_ m_saved_ (nI T) told y2 y3) N (0 : Int32) = _ from c2]
      simp only [bd1_ok, if_true]
      exact ⟨_, _, _, _, _, _, _, _, _, _, _, _, _, _, _, _, _, _, _, _, _, _, _, _, rfl, rfl, hS, h2, h3, h4n, h5⟩
  · rw [b2, b3]
    simp only [bd8_ok, bd5_ok]
    rw [if_neg (show ¬ nI q = -1 from fun e => nI_pos (n := q) (by omega) (by rw [e]; decide)), if_neg (bR_ne q (by omega))]
    exact ⟨_, _, _, _, _, _, _, _, _, _, _, _, _, _, _, _, _, _, _, _, _, _, _, _, rfl, rfl, hS, h2, h3, h4n, h5⟩
