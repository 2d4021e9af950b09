-- the class's phases
section CP
variable {n a f N L : Nat} {W : Nat → Nat → Nat} {mem : Nat → Nat} {w : Nat → Int32} {pl st fp : Int32}
theorem begin_n (h : CW pl st fp w n a f W) (h10 : n ≤ 10) (hN : 600 ≤ N) (m0 t0 : Nat → Int32) : ∃ m t : Nat → Int32, f_X2_begin N m0 t0 (nI n) w = some (nI n, m, t) ∧ (∀ x, x < n → m x = nI (2 ^ x)) ∧ ∀ x y, x < n → y < n → t (10 * x + y) = nI (W x y) := by
  unfold f_X2_begin
  refine upx (σ := (Nat → Int32) × (Nat → Int32)) (fun m i s => f_X2_begin_L10 N (nI n) w (fun a14 a15 => f_X2_begin_E66 (nI n) a14 a15) m (nI i) s.1 s.2) (fun i s => (∀ x, x < i → s.1 x = nI (2 ^ x)) ∧ ∀ x y, x < i → y < n → s.2 (10 * x + y) = nI (W x y)) n (fun r => ∃ m t : Nat → Int32, r = some (nI n, m, t) ∧ (∀ x, x < n → m x = nI (2 ^ x)) ∧ ∀ x y, x < n → y < n → t (10 * x + y) = nI (W x y)) (fun m i s hi hI => ?_) (fun m s hI => ?_) N 0 (m0, t0) (by omega) (by omega) ⟨fun x hx => absurd hx (by omega), fun x y hx => absurd hx (by omega)⟩
  · obtain ⟨A, B⟩ := s
    obtain ⟨h1, h2⟩ := hI
    dsimp only at h1 h2
    show ∃ s', _ ∧ f_X2_begin_L10 N (nI n) w _ (m + 1) (nI i) A B = _
    rw [f_X2_begin_L10, if_neg (nI_ge hi (by omega)), chk_n (by omega) (by omega), l0]
    refine upx (fun m' j B => f_X2_begin_L29 (nI n) (nI i) w (fun a10 => f_X2_begin_E60 (f_X2_begin_L10 N (nI n) w (fun a14 a15 => f_X2_begin_E66 (nI n) a14 a15) m) (nI i) A a10) m' (nI j) B) (fun j B => (∀ x y, x < i → y < n → B (10 * x + y) = nI (W x y)) ∧ ∀ y, y < j → B (10 * i + y) = nI (W i y)) n (fun r => ∃ s' : (Nat → Int32) × (Nat → Int32), ((∀ x, x < i + 1 → s'.1 x = nI (2 ^ x)) ∧ ∀ x y, x < i + 1 → y < n → s'.2 (10 * x + y) = nI (W x y)) ∧ r = f_X2_begin_L10 N (nI n) w (fun a14 a15 => f_X2_begin_E66 (nI n) a14 a15) m (nI (i + 1)) s'.1 s'.2) (fun m' j B hj hB => ?_) (fun m' B hB => ?_) N 0 B (by omega) (by omega) ⟨h2, fun y hy => absurd hy (by omega)⟩
    · obtain ⟨h3, h4⟩ := hB
      have ht := tieOf_w h h10 hi hj
      rw [h.1] at ht
      show ∃ s', _ ∧ f_X2_begin_L29 (nI n) (nI i) w _ (m' + 1) (nI j) B = _
      rw [f_X2_begin_L29, if_neg (nI_ge hj (by omega)), ht]
      simp only [bd1_ok]
      rw [ix10, chk_n (by omega) (by omega), nI_clamp (by omega), l1, nI_add]
      refine ⟨_, ⟨fun x y hx hy => ?_, fun y hy => ?_⟩, rfl⟩
      · rw [upd_ne _ _ (by omega)]; exact h3 x y hx hy
      · by_cases e : y = j
        · subst e; exact upd_same _ _ _
        · rw [upd_ne _ _ (by omega)]; exact h4 y (by omega)
    · obtain ⟨h3, h4⟩ := hB
      show ∃ s', _ ∧ f_X2_begin_L29 (nI n) (nI i) w _ (m' + 1) (nI n) B = _
      rw [f_X2_begin_L29, if_pos (nI_le (Nat.le_refl _) (by omega))]
      unfold f_X2_begin_E60
      rw [sh_1 i (by omega), nI_clamp (by omega), l1, nI_add]
      refine ⟨(upd A i (nI (2 ^ i)), B), ⟨fun x hx => ?_, fun x y hx hy => ?_⟩, rfl⟩
      · by_cases e : x = i
        · subst e; exact upd_same _ _ _
        · show upd A i _ x = _
          rw [upd_ne _ _ (by omega)]; exact h1 x (by omega)
      · by_cases e : x = i
        · subst e; exact h4 y hy
        · exact h3 x y (by omega) hy
  · obtain ⟨A, B⟩ := s
    show ∃ m' t, f_X2_begin_L10 N (nI n) w _ (m + 1) (nI n) A B = _ ∧ _
    rw [f_X2_begin_L10, if_pos (nI_le (Nat.le_refl _) (by omega))]
    exact ⟨A, B, rfl, hI.1, hI.2⟩
theorem nol_n (hP : Part n L mem) (h10 : n ≤ 10) (hN : 600 ≤ N) (ha : a < n) {m : Nat → Int32} (hm : ∀ x, x < n → m x = nI (mem x)) : f_X2_nameOfLumpWith N (nI a) (nI n) m = some (nI (nmL n mem a)) := by
  obtain ⟨g1, g2⟩ := hP.nm ha
  unfold f_X2_nameOfLumpWith
  refine up (fun k i => f_X2_nameOfLumpWith_L2 (nI n) m (nI a) f_X2_nameOfLumpWith_E31 k (nI i)) _ (nmL n mem a) (fun k i hi => ?_) (fun k => ?_) N 0 (by omega) (by omega)
  · show f_X2_nameOfLumpWith_L2 (nI n) m (nI a) _ (k + 1) (nI i) = f_X2_nameOfLumpWith_L2 (nI n) m (nI a) _ k (nI (i + 1))
    have hno : (mem i).testBit a = false := by
      cases e : (mem i).testBit a with
      | false => rfl
      | true => have := hP.uniq e g2; omega
    rw [f_X2_nameOfLumpWith_L2, if_neg (nI_ge (by omega) (by omega)), chk_n (by omega) (by omega), nI_clamp (by omega), hm i (by omega), holds_n (by omega), hno]
    simp only [bd1_ok]
    rw [if_neg (show ¬ false = true by decide), if_pos (show (0 : Int32) = 0 from rfl), l1, nI_add]
  · show f_X2_nameOfLumpWith_L2 (nI n) m (nI a) _ (k + 1) (nI (nmL n mem a)) = _
    rw [f_X2_nameOfLumpWith_L2, if_neg (nI_ge (by omega) (by omega)), chk_n (by omega) (by omega), nI_clamp (by omega), hm _ (by omega), holds_n (by omega), g2]
    simp only [bd1_ok]
    simp only [if_true]
    rw [if_neg (show ¬ (1 : Int32) = 0 by decide)]
theorem dn_n (h10 : n ≤ 10) (hN : 600 ≤ N) {B o : Nat} (ho : o < n) (t nears : Nat → Int32) : ∃ a' : Nat → Int32, f_X2_drawNearer N (nI B) (nI o) (nI n) t nears = some a' ∧ ∀ x, x < n → a' x = if B.testBit x then nears x + t (10 * o + x) else nears x := by
  unfold f_X2_drawNearer
  refine upx (fun m i s => f_X2_drawNearer_L2 (nI n) (nI B) (nI o) t (fun a8 => f_X2_drawNearer_E44 a8) m (nI i) s) (fun i s => (∀ x, x < i → s x = if B.testBit x then nears x + t (10 * o + x) else nears x) ∧ ∀ x, i ≤ x → s x = nears x) n (fun r => ∃ a' : Nat → Int32, r = some a' ∧ ∀ x, x < n → a' x = if B.testBit x then nears x + t (10 * o + x) else nears x) (fun m i s hi hI => ?_) (fun m s hI => ?_) N 0 nears (by omega) (by omega) ⟨fun x hx => absurd hx (by omega), fun x _ => rfl⟩
  · obtain ⟨h1, h2⟩ := hI
    show ∃ s', _ ∧ f_X2_drawNearer_L2 (nI n) (nI B) (nI o) t _ (m + 1) (nI i) s = _
    rw [f_X2_drawNearer_L2, if_neg (nI_ge hi (by omega)), holds_n (by omega)]
    simp only [bd1_ok]
    unfold f_X2_drawNearer_J38
    by_cases c : B.testBit i = true
    · rw [if_pos c, if_neg (show ¬ (1 : Int32) = 0 by decide), chk_n (by omega) (by omega), ix10, chk_n (by omega) (by omega), chk_n (by omega) (by omega), nI_clamp (by omega), nI_clamp (by omega), l1, nI_add]
      refine ⟨_, ⟨fun x hx => ?_, fun x hx => ?_⟩, rfl⟩
      · by_cases e : x = i
        · subst e; rw [upd_same, if_pos c, h2 x (Nat.le_refl _)]
        · rw [upd_ne _ _ (by omega)]; exact h1 x (by omega)
      · rw [upd_ne _ _ (by omega)]; exact h2 x (by omega)
    · rw [if_neg c, if_pos (show (0 : Int32) = 0 from rfl), l1, nI_add]
      refine ⟨s, ⟨fun x hx => ?_, fun x hx => h2 x (by omega)⟩, rfl⟩
      by_cases e : x = i
      · subst e; rw [if_neg c]; exact h2 x (Nat.le_refl _)
      · exact h1 x (by omega)
  · obtain ⟨h1, h2⟩ := hI
    show ∃ a', f_X2_drawNearer_L2 (nI n) (nI B) (nI o) t _ (m + 1) (nI n) s = _ ∧ _
    rw [f_X2_drawNearer_L2, if_pos (nI_le (Nat.le_refl _) (by omega))]
    exact ⟨s, rfl, h1⟩
def bN (o : Option Nat) : Int32 := nI (o.getD 0)
def bV (c : Nat → Nat) (o : Option Nat) : Int32 := match o with
  | none => (-1 : Int32)
  | some r => nI (c r)
theorem no_n (h10 : n ≤ 10) (hN : 600 ≤ N) {B : Nat} {p : Nat → Bool} {c : Nat → Nat} {nears : Nat → Int32} (hp : ∀ x, x < n → B.testBit x = p x) (hc : ∀ x, c x ≤ 20000) (hv : ∀ x, x < n → p x = true → nears x = nI (c x)) : f_X2_nearestOf N (nI B) (nI n) nears = some (nI ((bm p c n).getD 0)) := by
  unfold f_X2_nearestOf
  refine up (fun m i => f_X2_nearestOf_L7 (nI n) (nI B) nears (fun x10 => f_X2_nearestOf_E53 x10) m (bN (bm p c i)) (bV c (bm p c i)) (nI i)) _ n (fun m i hi => ?_) (fun m => ?_) N 0 (by omega) (by omega)
  · show f_X2_nearestOf_L7 (nI n) (nI B) nears _ (m + 1) (bN (bm p c i)) (bV c (bm p c i)) (nI i) = f_X2_nearestOf_L7 (nI n) (nI B) nears _ m (bN (bm p c (i + 1))) (bV c (bm p c (i + 1))) (nI (i + 1))
    rw [f_X2_nearestOf_L7, if_neg (nI_ge hi (by omega)), holds_n (by omega), hp i hi]
    simp only [bd1_ok]
    rw [bm]
    unfold f_X2_nearestOf_J47
    by_cases q : p i = true
    · rw [if_pos q, if_pos q, if_neg (show ¬ (1 : Int32) = 0 by decide), chk_n (by omega) (by omega), nI_clamp (by omega), hv i hi q]
      have hci := hc i
      cases e : bm p c i with
      | none =>
        rw [if_neg (show ¬ nI (c i) ≤ bV c none by
          show ¬ nI (c i) ≤ -1
          have := nI_pos' (n := c i) (by omega)
          intro z
          exact absurd (Int32.le_trans this z) (by decide)), chk_n (by omega) (by omega), l1, nI_add]
        rfl
      | some r =>
        have hcr := hc r
        show (if nI (c i) ≤ nI (c r) then _ else _) = _
        dsimp only
        by_cases d : c i ≤ c r
        · rw [if_pos (nI_le d (by omega)), if_pos d, l1, nI_add]
        · rw [if_neg (nI_ge (by omega) (by omega)), if_neg d, chk_n (by omega) (by omega), l1, nI_add]
          rfl
    · rw [if_neg q, if_neg q, if_pos (show (0 : Int32) = 0 from rfl), l1, nI_add]
  · show f_X2_nearestOf_L7 (nI n) (nI B) nears _ (m + 1) _ _ (nI n) = _
    rw [f_X2_nearestOf_L7, if_pos (nI_le (Nat.le_refl _) (by omega))]
    rfl
end CP
