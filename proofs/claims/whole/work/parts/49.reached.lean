section RE
variable {n a f N : Nat} {W : Nat → Nat → Nat} {s w : Nat → Int32} {pl st fp : Int32}
theorem nbC (h : CW pl st fp w n a f W) (hW : ∀ i j, W i j ≤ 99) (h10 : n ≤ 10) (hN : 600 ≤ N) {p : Nat} (hp : p < n) : f_X4_neighboursOf N (nI p) (nI n) w = some (nI (nb W p n)) := by
  unfold f_X4_neighboursOf
  refine up (fun m i => f_X4_neighboursOf_L4 (nI n) (nI p) w (fun x8 => f_X4_neighboursOf_E33 x8) m (nI (nb W p i)) (nI i)) _ n (fun m i hi => ?_) (fun m => ?_) N 0 (by omega) (by omega)
  · show f_X4_neighboursOf_L4 (nI n) (nI p) w _ (m + 1) (nI (nb W p i)) (nI i) = f_X4_neighboursOf_L4 (nI n) (nI p) w _ m (nI (nb W p (i + 1))) (nI (i + 1))
    have ht := tieOf_w h h10 hp hi
    rw [h.1] at ht
    rw [f_X4_neighboursOf_L4, if_neg (nI_ge hi (by omega)), ht]
    simp only [bd1_ok]
    have hb := hW p i
    unfold f_X4_neighboursOf_J27
    rw [nb]
    by_cases c : W p i = 0
    · rw [c, l0, if_pos (nI_le (Nat.le_refl _) (by omega)), if_pos rfl, l1, nI_add]
    · rw [l0, if_neg (nI_ge (by omega) (by omega)), if_neg c, sh_1 i (by omega), n_or, l1, nI_add]
  · show f_X4_neighboursOf_L4 (nI n) (nI p) w _ (m + 1) (nI (nb W p n)) (nI n) = _
    rw [f_X4_neighboursOf_L4, if_pos (nI_le (Nat.le_refl _) (by omega))]
    rfl
theorem nbR (h : RW s 0 n a f W) (hW : ∀ i j, W i j ≤ 99) (h10 : n ≤ 10) (hN : 600 ≤ N) {p : Nat} (hp : p < n) : f_X6_tiedTo N (nI p) s = some (nI (nb W p n)) := by
  unfold f_X6_tiedTo
  refine up (fun m i => f_X6_tiedTo_L4 s (nI p) (fun x8 => f_X6_tiedTo_E39 x8) m (nI (nb W p i)) (nI i)) _ n (fun m i hi => ?_) (fun m => ?_) N 0 (by omega) (by omega)
  · show f_X6_tiedTo_L4 s (nI p) _ (m + 1) (nI (nb W p i)) (nI i) = f_X6_tiedTo_L4 s (nI p) _ m (nI (nb W p (i + 1))) (nI (i + 1))
    rw [f_X6_tiedTo_L4, h.1, if_neg (nI_ge hi (by omega)), tied_w h (by omega) (by omega)]
    simp only [bd1_ok]
    have hb := hW p i
    unfold f_X6_tiedTo_J31
    rw [nb]
    by_cases c : W p i = 0
    · rw [c, l0, if_pos (nI_le (Nat.le_refl _) (by omega)), if_pos rfl, n_or, Nat.or_zero, l1, nI_add]
    · rw [l0, if_neg (nI_ge (by omega) (by omega)), if_neg c, sh_1 i (by omega), n_or, l1, nI_add]
  · show f_X6_tiedTo_L4 s (nI p) _ (m + 1) (nI (nb W p n)) (nI n) = _
    rw [f_X6_tiedTo_L4, h.1, if_pos (nI_le (Nat.le_refl _) (by omega))]
    rfl
theorem rcC17 (h : CW pl st fp w n a f W) (hW : ∀ i j, W i j ≤ 99) (h10 : n ≤ 10) (hN : 600 ≤ N) (b : Nat) (k : Int32 → Option Int32) : f_X4_reachedFrom_L17 N (nI n) w k N (nI b) (nI 0) = k (nI (rd n W b n)) := by
  refine up (fun m i => f_X4_reachedFrom_L17 N (nI n) w k m (nI (rd n W b i)) (nI i)) _ n (fun m i hi => ?_) (fun m => ?_) N 0 (by omega) (by omega)
  · show f_X4_reachedFrom_L17 N (nI n) w k (m + 1) (nI (rd n W b i)) (nI i) = f_X4_reachedFrom_L17 N (nI n) w k m (nI (rd n W b (i + 1))) (nI (i + 1))
    rw [f_X4_reachedFrom_L17, if_neg (nI_ge hi (by omega)), holds_n (by omega)]
    simp only [bd1_ok]
    unfold f_X4_reachedFrom_J44
    rw [rd]
    by_cases c : (rd n W b i).testBit i = true
    · rw [if_pos c, if_pos c, if_neg (show ¬ (1 : Int32) = 0 by decide), nbC h hW h10 hN hi]
      simp only [bd1_ok]
      rw [n_or, l1, nI_add]
    · rw [if_neg c, if_neg c, if_pos (show (0 : Int32) = 0 from rfl), l1, nI_add]
  · show f_X4_reachedFrom_L17 N (nI n) w k (m + 1) (nI (rd n W b n)) (nI n) = _
    rw [f_X4_reachedFrom_L17, if_pos (nI_le (Nat.le_refl _) (by omega))]
theorem rcC (h : CW pl st fp w n a f W) (hW : ∀ i j, W i j ≤ 99) (h10 : n ≤ 10) (hN : 600 ≤ N) {p : Nat} (hp : p < n) : f_X4_reachedFrom N (nI p) (nI n) w = some (nI (rch n W p)) := by
  unfold f_X4_reachedFrom
  rw [sh_1 p (by omega)]
  refine up (fun m i => f_X4_reachedFrom_L6 N (nI n) w (fun x15 => f_X4_reachedFrom_E56 x15) m (nI (rs n W (2 ^ p) i)) (nI i)) _ n (fun m i hi => ?_) (fun m => ?_) N 0 (by omega) (by omega)
  · show f_X4_reachedFrom_L6 N (nI n) w _ (m + 1) (nI (rs n W (2 ^ p) i)) (nI i) = f_X4_reachedFrom_L6 N (nI n) w _ m (nI (rs n W (2 ^ p) (i + 1))) (nI (i + 1))
    rw [f_X4_reachedFrom_L6, if_neg (nI_ge hi (by omega)), l0, rcC17 h hW h10 hN]
    unfold f_X4_reachedFrom_E50
    rw [l1, nI_add]
    rfl
  · show f_X4_reachedFrom_L6 N (nI n) w _ (m + 1) (nI (rs n W (2 ^ p) n)) (nI n) = _
    rw [f_X4_reachedFrom_L6, if_pos (nI_le (Nat.le_refl _) (by omega))]
    rfl
theorem rcR19 (h : RW s 0 n a f W) (hW : ∀ i j, W i j ≤ 99) (h10 : n ≤ 10) (hN : 600 ≤ N) {b : Nat} (hb : b < 2 ^ n) (k : Int32 → Option Int32) : f_X6_reached_L19 N s k N (nI b) (nI 0) = k (nI (rd n W b n)) := by
  have h3 : 2 ^ n ≤ 1024 := p2_10 h10
  refine up (fun m i => f_X6_reached_L19 N s k m (nI (rd n W b i)) (nI i)) _ n (fun m i hi => ?_) (fun m => ?_) N 0 (by omega) (by omega)
  · show f_X6_reached_L19 N s k (m + 1) (nI (rd n W b i)) (nI i) = f_X6_reached_L19 N s k m (nI (rd n W b (i + 1))) (nI (i + 1))
    have hlt := rd_lt (W := W) hb i
    rw [f_X6_reached_L19, h.1, if_neg (nI_ge hi (by omega))]
    unfold f_X6_reached_J51
    rw [rd]
    by_cases c : (rd n W b i).testBit i = true
    · rw [if_pos ((bt_one (by omega) (by omega)).mpr c), if_pos c, nbR h hW h10 hN hi]
      simp only [bd1_ok]
      rw [n_or, l1, nI_add]
    · rw [if_neg (fun e => c ((bt_one (by omega) (by omega)).mp e)), if_neg c, l0, n_or, Nat.or_zero, l1, nI_add]
  · show f_X6_reached_L19 N s k (m + 1) (nI (rd n W b n)) (nI n) = _
    rw [f_X6_reached_L19, h.1, if_pos (nI_le (Nat.le_refl _) (by omega))]
theorem rcR (h : RW s 0 n a f W) (hW : ∀ i j, W i j ≤ 99) (h10 : n ≤ 10) (hN : 600 ≤ N) {p : Nat} (hp : p < n) : f_X6_reached N (nI p) s = some (nI (rch n W p)) := by
  unfold f_X6_reached
  have hb : 2 ^ p < 2 ^ n := Nat.pow_lt_pow_right (by omega) hp
  rw [sh_1 p (by omega)]
  refine up (fun m i => f_X6_reached_L6 N s (fun x14 => f_X6_reached_E65 x14) m (nI (rs n W (2 ^ p) i)) (nI i)) _ n (fun m i hi => ?_) (fun m => ?_) N 0 (by omega) (by omega)
  · show f_X6_reached_L6 N s _ (m + 1) (nI (rs n W (2 ^ p) i)) (nI i) = f_X6_reached_L6 N s _ m (nI (rs n W (2 ^ p) (i + 1))) (nI (i + 1))
    rw [f_X6_reached_L6, h.1, if_neg (nI_ge hi (by omega)), l0, rcR19 h hW h10 hN (rs_lt hb i)]
    unfold f_X6_reached_E59
    rw [l1, nI_add]
    rfl
  · show f_X6_reached_L6 N s _ (m + 1) (nI (rs n W (2 ^ p) n)) (nI n) = _
    rw [f_X6_reached_L6, h.1, if_pos (nI_le (Nat.le_refl _) (by omega))]
    rfl
/-- the lowest place of a set -/
def Lo (b l : Nat) : Prop := b.testBit l = true ∧ ∀ j, j < l → b.testBit j = false
theorem Lo.ex {b q : Nat} (h : b.testBit q = true) : ∃ l, l ≤ q ∧ Lo b l := by
  induction q using Nat.strongRecOn with
  | _ q ih =>
    by_cases c : ∃ j, j < q ∧ b.testBit j = true
    · obtain ⟨j, j1, j2⟩ := c
      obtain ⟨l, l1, l2⟩ := ih j j1 j2
      exact ⟨l, by omega, l2⟩
    · refine ⟨q, Nat.le_refl _, h, fun j hj => ?_⟩
      cases e : b.testBit j with
      | false => rfl
      | true => exact absurd ⟨j, hj, e⟩ c
theorem Lo.one {b l l' : Nat} (h : Lo b l) (h' : Lo b l') : l = l' := by
  rcases Nat.lt_trichotomy l l' with c | c | c
  · have := h'.2 l c; rw [h.1] at this; cases this
  · exact c
  · have := h.2 l' c; rw [h'.1] at this; cases this
theorem name_n {b l : Nat} (hN : 600 ≤ N) (hb : b < 2 ^ 31) (hl : l < 31) (h : Lo b l) : f_X6_nameOf N (nI b) = some (nI l) := by
  unfold f_X6_nameOf
  refine up (fun m i => f_X6_nameOf_L2 (nI b) (fun x5 => f_X6_nameOf_E16 x5) m (nI i)) _ l (fun m i hi => ?_) (fun m => ?_) N 0 (by omega) (by omega)
  · show f_X6_nameOf_L2 (nI b) _ (m + 1) (nI i) = f_X6_nameOf_L2 (nI b) _ m (nI (i + 1))
    rw [f_X6_nameOf_L2, bt_r hb (by omega), h.2 i hi, if_pos (show nI (if false = true then 1 else 0) = 0 from rfl), l1, nI_add]
  · show f_X6_nameOf_L2 (nI b) _ (m + 1) (nI l) = _
    rw [f_X6_nameOf_L2, bt_r hb hl, h.1, if_neg (show ¬ nI (if true = true then 1 else 0) = 0 by decide)]
    rfl
def ld (n : Nat) (W : Nat → Nat → Nat) (p : Nat) : Bool := decide (∀ r, r < p → (rch n W r).testBit p = false)
theorem pcC (h : CW pl st fp w n a f W) (hW : ∀ i j, W i j ≤ 99) (h10 : n ≤ 10) (hN : 600 ≤ N) : f_X4_partCount N (nI n) w = some (nI (ct (ld n W) n)) := by
  unfold f_X4_partCount
  refine upx (σ := Int32) (fun m i x1 => f_X4_partCount_L6 N (nI n) w (fun x11 => f_X4_partCount_E39 x11) m x1 (nI (ct (ld n W) i)) (nI i)) (fun i x1 => ∃ B, x1 = nI B ∧ ∀ q, B.testBit q = true ↔ ∃ r, r < i ∧ (rch n W r).testBit q = true) n (fun x => x = some (nI (ct (ld n W) n))) (fun m i x1 hi hI => ?_) (fun m x1 hI => ?_) N 0 (nI 0) (by omega) (by omega) ⟨0, rfl, fun q => by rw [Nat.zero_testBit]; exact ⟨fun e => (by cases e), fun ⟨r, h, _⟩ => absurd h (by omega)⟩⟩
  · obtain ⟨B, rfl, hB⟩ := hI
    rw [f_X4_partCount_L6, if_neg (nI_ge hi (by omega)), holds_n (by omega)]
    simp only [bd1_ok]
    unfold f_X4_partCount_J33
    by_cases c : B.testBit i = true
    · rw [if_pos c, if_neg (show ¬ (1 : Int32) = 0 by decide)]
      refine ⟨nI B, ⟨B, rfl, fun q => ⟨fun e => ?_, fun ⟨r, r1, r2⟩ => ?_⟩⟩, ?_⟩
      · obtain ⟨r, r1, r2⟩ := (hB q).mp e
        exact ⟨r, by omega, r2⟩
      · by_cases e : r = i
        · subst e
          obtain ⟨r', r3, r4⟩ := (hB r).mp c
          refine (hB q).mpr ⟨r', r3, ?_⟩
          exact (rch_bit (by omega)).mpr (((rch_bit (by omega)).mp r4).trans ((rch_bit (by omega)).mp r2))
        · exact (hB q).mpr ⟨r, by omega, r2⟩
      · have : ld n W i = false := by
          unfold ld
          refine decide_eq_false (fun q => ?_)
          obtain ⟨r, r1, r2⟩ := (hB i).mp c
          rw [q r r1] at r2; cases r2
        rw [l1, nI_add, ct, this]
        rfl
    · rw [if_neg c, if_pos (show (0 : Int32) = 0 from rfl), rcC h hW h10 hN hi]
      simp only [bd1_ok]
      refine ⟨nI (B ||| rch n W i), ⟨B ||| rch n W i, rfl, fun q => ?_⟩, ?_⟩
      · rw [Nat.testBit_or, Bool.or_eq_true, hB q]
        refine ⟨fun e => ?_, fun ⟨r, r1, r2⟩ => ?_⟩
        · rcases e with ⟨r, r1, r2⟩ | e
          · exact ⟨r, by omega, r2⟩
          · exact ⟨i, by omega, e⟩
        · by_cases e : r = i
          · subst e; exact Or.inr r2
          · exact Or.inl ⟨r, by omega, r2⟩
      · have : ld n W i = true := by
          unfold ld
          refine decide_eq_true (fun r hr => ?_)
          cases e : (rch n W r).testBit i with
          | false => rfl
          | true => exact absurd ((hB i).mpr ⟨r, hr, e⟩) c
        rw [l1, nI_add, nI_add, n_or, ct, this]
        rfl
  · rw [f_X4_partCount_L6, if_pos (nI_le (Nat.le_refl _) (by omega))]
    rfl
theorem pcR (h : RW s 0 n a f W) (hsym : ∀ i j, W i j = W j i) (hW : ∀ i j, W i j ≤ 99) (h10 : n ≤ 10) (hN : 600 ≤ N) : f_X6_parts N s = some (nI (ct (ld n W) n)) := by
  unfold f_X6_parts
  refine up (fun m i => f_X6_parts_L4 N s (fun x9 => f_X6_parts_E40 x9) m (nI (ct (ld n W) i)) (nI i)) _ n (fun m i hi => ?_) (fun m => ?_) N 0 (by omega) (by omega)
  · show f_X6_parts_L4 N s _ (m + 1) (nI (ct (ld n W) i)) (nI i) = f_X6_parts_L4 N s _ m (nI (ct (ld n W) (i + 1))) (nI (i + 1))
    have h3 : 2 ^ n ≤ 1024 := p2_10 h10
    have hlt := rch_lt (W := W) hi
    rw [f_X6_parts_L4, h.1, if_neg (nI_ge hi (by omega)), rcR h hW h10 hN hi]
    simp only [bd1_ok]
    obtain ⟨l, l1', l2'⟩ := Lo.ex ((rch_bit (W := W) (q := i) hi).mpr Cn.refl)
    rw [name_n hN (by omega) (by omega) l2']
    simp only [bd1_ok]
    have key : ∀ r, r < n → ((rch n W r).testBit i = (rch n W i).testBit r) := by
      intro r hr
      cases x : (rch n W i).testBit r with
      | true => exact (rch_bit hr).mpr (((rch_bit hi).mp x).symm hsym)
      | false =>
        cases y : (rch n W r).testBit i with
        | false => rfl
        | true =>
          have := (rch_bit hi).mpr (((rch_bit hr).mp y).symm hsym)
          rw [x] at this; cases this
    unfold f_X6_parts_J32
    by_cases c : l = i
    · subst c
      have : ld n W l = true := by
        unfold ld
        exact decide_eq_true (fun r hr => by rw [key r (by omega)]; exact l2'.2 r hr)
      rw [if_pos rfl, l1, nI_add, nI_add, ct, this]
      rfl
    · have : ld n W i = false := by
        unfold ld
        refine decide_eq_false (fun q => ?_)
        have := q l (by omega)
        rw [key l (by omega), l2'.1] at this; cases this
      rw [if_neg (fun e => c (nI_inj (by omega) (by omega) e)), l0, nI_add, l1, nI_add, ct, this]
      rfl
  · show f_X6_parts_L4 N s _ (m + 1) (nI (ct (ld n W) n)) (nI n) = _
    rw [f_X6_parts_L4, h.1, if_pos (nI_le (Nat.le_refl _) (by omega))]
    rfl
end RE
