-- sums, cuts; the reference's weights
def sm (f : Nat → Nat) : Nat → Nat
  | 0 => 0
  | n + 1 => sm f n + f n
theorem sm_congr {f g : Nat → Nat} : ∀ {n : Nat}, (∀ i, i < n → f i = g i) → sm f n = sm g n
  | 0, _ => rfl
  | n + 1, h => by rw [sm, sm, sm_congr (fun i hi => h i (by omega)), h n (by omega)]
theorem sm_add (f g : Nat → Nat) : ∀ n : Nat, sm (fun i => f i + g i) n = sm f n + sm g n
  | 0 => rfl
  | n + 1 => by rw [sm, sm, sm, sm_add f g n]; omega
theorem sm_zero {f : Nat → Nat} : ∀ {n : Nat}, (∀ i, i < n → f i = 0) → sm f n = 0
  | 0, _ => rfl
  | n + 1, h => by rw [sm, sm_zero (fun i hi => h i (by omega)), h n (by omega)]
theorem sm_le {f : Nat → Nat} {c : Nat} : ∀ {n : Nat}, (∀ i, i < n → f i ≤ c) → sm f n ≤ n * c
  | 0, _ => by rw [sm]; omega
  | n + 1, h => by
    have h1 := sm_le (fun i hi => h i (by omega) : ∀ i, i < n → f i ≤ c)
    have h2 := h n (by omega)
    rw [sm, Nat.succ_mul]; omega
theorem sm_one {f : Nat → Nat} {p : Nat} : ∀ {n : Nat}, p < n → sm (fun j => if j = p then f j else 0) n = f p
  | 0, h => absurd h (by omega)
  | n + 1, h => by
    rw [sm]
    by_cases e : n = p
    · rw [if_pos e, sm_zero (fun i hi => if_neg (by omega)), e, Nat.zero_add]
    · rw [if_neg e, sm_one (by omega : p < n), Nat.add_zero]
/-- the weight of all ties between two sets -/
def rowB (n : Nat) (W : Nat → Nat → Nat) (B i : Nat) : Nat := sm (fun j => if B.testBit j then W i j else 0) n
def wB (n : Nat) (W : Nat → Nat → Nat) (A B : Nat) : Nat := sm (fun i => if A.testBit i then rowB n W B i else 0) n
/-- the weight of a parting -/
def rowC (n : Nat) (W : Nat → Nat → Nat) (b i : Nat) : Nat := sm (fun j => if b.testBit j then 0 else W i j) n
def cut (n : Nat) (W : Nat → Nat → Nat) (b : Nat) : Nat := sm (fun i => if b.testBit i then rowC n W b i else 0) n
def pull (n : Nat) (W : Nat → Nat → Nat) (p b : Nat) : Nat := sm (fun i => if b.testBit i then W i p else 0) n
theorem rowB_le {n : Nat} {W : Nat → Nat → Nat} (h : ∀ i j, W i j ≤ 99) (B i : Nat) : rowB n W B i ≤ n * 99 := sm_le (fun j _ => by split; exact h _ _; omega)
theorem rowC_le {n : Nat} {W : Nat → Nat → Nat} (h : ∀ i j, W i j ≤ 99) (B i : Nat) : rowC n W B i ≤ n * 99 := sm_le (fun j _ => by split; omega; exact h _ _)
theorem wB_le {n : Nat} {W : Nat → Nat → Nat} (h : ∀ i j, W i j ≤ 99) (A B : Nat) : wB n W A B ≤ n * (n * 99) := sm_le (fun j _ => by split; exact rowB_le h _ _; omega)
theorem cut_le {n : Nat} {W : Nat → Nat → Nat} (h : ∀ i j, W i j ≤ 99) (b : Nat) : cut n W b ≤ n * (n * 99) := sm_le (fun j _ => by split; exact rowC_le h _ _; omega)
theorem sq_le {n : Nat} (h : n ≤ 10) : n * (n * 99) ≤ 9900 := by
  have h1 : n * 99 ≤ 990 := by omega
  have h2 : n * (n * 99) ≤ 10 * 990 := Nat.mul_le_mul h h1
  omega
theorem cut_b {n : Nat} {W : Nat → Nat → Nat} (h : ∀ i j, W i j ≤ 99) (hn : n ≤ 10) (b : Nat) : cut n W b ≤ 9900 := Nat.le_trans (cut_le h b) (sq_le hn)
theorem wB_b {n : Nat} {W : Nat → Nat → Nat} (h : ∀ i j, W i j ≤ 99) (hn : n ≤ 10) (A B : Nat) : wB n W A B ≤ 9900 := Nat.le_trans (wB_le h A B) (sq_le hn)
theorem bit_or {b p i : Nat} : (b ||| 2 ^ p).testBit i = (b.testBit i || decide (i = p)) := by
  rw [Nat.testBit_or, Nat.testBit_two_pow]
  by_cases h : p = i
  · subst h; simp
  · have h2 : ¬ i = p := fun e => h e.symm
    simp [h, h2]
theorem cut_or {n p b : Nat} {W : Nat → Nat → Nat} (hsym : ∀ i j, W i j = W j i) (hdg : ∀ i, W i i = 0) (hp : p < n) (hb : b.testBit p = false) : cut n W (b ||| 2 ^ p) + 2 * pull n W p b = cut n W b + sm (fun j => W p j) n := by
  have e1 : ∀ i, i < n → rowC n W (b ||| 2 ^ p) i + W i p = rowC n W b i := by
    intro i hi
    have a1 : rowC n W b i = sm (fun j => (if (b ||| 2 ^ p).testBit j then 0 else W i j) + (if j = p then W i j else 0)) n := sm_congr (fun j hj => by
      rw [bit_or]
      by_cases c : j = p
      · subst c; rw [hb]; simp
      · simp [c])
    rw [a1, sm_add, sm_one hp]; rfl
  have e2 : cut n W (b ||| 2 ^ p) = sm (fun i => if b.testBit i then rowC n W (b ||| 2 ^ p) i else 0) n + rowC n W (b ||| 2 ^ p) p := by
    have a1 : cut n W (b ||| 2 ^ p) = sm (fun i => (if b.testBit i then rowC n W (b ||| 2 ^ p) i else 0) + (if i = p then rowC n W (b ||| 2 ^ p) i else 0)) n := sm_congr (fun i hi => by
      rw [bit_or]
      by_cases c : i = p
      · subst c; rw [hb]; simp
      · simp [c])
    rw [a1, sm_add, sm_one hp]
  have e3 : sm (fun i => if b.testBit i then rowC n W (b ||| 2 ^ p) i else 0) n + pull n W p b = cut n W b := by
    unfold pull cut
    rw [← sm_add]
    exact sm_congr (fun i hi => by
      by_cases c : b.testBit i = true
      · rw [if_pos c, if_pos c, if_pos c]; exact e1 i hi
      · rw [if_neg c, if_neg c, if_neg c])
  have e4 : rowC n W (b ||| 2 ^ p) p + pull n W p b = sm (fun j => W p j) n := by
    unfold pull rowC
    rw [← sm_add]
    exact sm_congr (fun j hj => by
      rw [bit_or, hsym j p]
      by_cases c : j = p
      · subst c; rw [hb, hdg]; simp
      · by_cases d : b.testBit j = true
        · simp [d]
        · simp [d, c])
  omega
section WB
variable {n a f N : Nat} {W : Nat → Nat → Nat} {s : Nat → Int32}
theorem wb_19 (h : RW s 0 n a f W) (hW : ∀ i j, W i j ≤ 99) (h10 : n ≤ 10) (hN : 600 ≤ N) {A B one S : Nat} (hA : A < 2 ^ 31) (hB : B < 2 ^ 31) (ho : one < n) (hS : S ≤ 20000) (k : Int32 → Option Int32) : f_X6_weightBetween_L19 s (nI A) (nI one) (nI B) k N (nI S) (nI 0) = k (nI (S + if A.testBit one then rowB n W B one else 0)) := by
  by_cases c : A.testBit one = true
  · rw [if_pos c]
    refine up (fun m i => f_X6_weightBetween_L19 s (nI A) (nI one) (nI B) k m (nI (S + rowB i W B one)) (nI i)) _ n (fun m i hi => ?_) (fun m => ?_) N 0 (by omega) (by omega)
    · show f_X6_weightBetween_L19 s (nI A) (nI one) (nI B) k (m + 1) (nI (S + rowB i W B one)) (nI i) = f_X6_weightBetween_L19 s (nI A) (nI one) (nI B) k m (nI (S + rowB (i + 1) W B one)) (nI (i + 1))
      rw [f_X6_weightBetween_L19, h.1, if_neg (nI_ge hi (by omega)), if_pos ((bt_one hA (by omega)).mpr c)]
      by_cases d : B.testBit i = true
      · rw [if_pos ((bt_one hB (by omega)).mpr d), tied_w h (by omega) (by omega)]
        simp only [bd1_ok]
        unfold f_X6_weightBetween_J63
        have e : rowB (i + 1) W B one = rowB i W B one + W one i := by unfold rowB; rw [sm, if_pos d]
        rw [nI_add, l1, nI_add, e, Nat.add_assoc]
      · rw [if_neg (fun q => d ((bt_one hB (by omega)).mp q))]
        unfold f_X6_weightBetween_J63
        have e : rowB (i + 1) W B one = rowB i W B one := by unfold rowB; rw [sm, if_neg d, Nat.add_zero]
        rw [l0, nI_add, l1, nI_add, e, Nat.add_zero]
    · show f_X6_weightBetween_L19 s (nI A) (nI one) (nI B) k (m + 1) (nI (S + rowB n W B one)) (nI n) = _
      rw [f_X6_weightBetween_L19, h.1, if_pos (nI_le (Nat.le_refl _) (by omega))]
  · rw [if_neg c, Nat.add_zero]
    obtain ⟨m, rfl⟩ : ∃ m, N = m + 1 := ⟨N - 1, by omega⟩
    rw [f_X6_weightBetween_L19, h.1, if_neg (nI_ge (by omega) (by omega)), if_neg (fun q => c ((bt_one hA (by omega)).mp q))]
theorem wb_n (h : RW s 0 n a f W) (hW : ∀ i j, W i j ≤ 99) (h10 : n ≤ 10) (hN : 600 ≤ N) {A B : Nat} (hA : A < 2 ^ 31) (hB : B < 2 ^ 31) : f_X6_weightBetween N (nI A) (nI B) s = some (nI (wB n W A B)) := by
  unfold f_X6_weightBetween
  refine up (fun m i => f_X6_weightBetween_L5 N s (nI A) (nI B) (fun x14 => f_X6_weightBetween_E77 x14) m (nI (sm (fun i => if A.testBit i then rowB n W B i else 0) i)) (nI i)) _ n (fun m i hi => ?_) (fun m => ?_) N 0 (by omega) (by omega)
  · show f_X6_weightBetween_L5 N s (nI A) (nI B) _ (m + 1) (nI (sm _ i)) (nI i) = f_X6_weightBetween_L5 N s (nI A) (nI B) _ m (nI (sm _ (i + 1))) (nI (i + 1))
    rw [f_X6_weightBetween_L5, h.1, if_neg (nI_ge hi (by omega)), l0]
    have hb : sm (fun i => if A.testBit i then rowB n W B i else 0) i ≤ i * (n * 99) := sm_le (fun j _ => by split; exact rowB_le hW _ _; omega)
    have hb2 : i * (n * 99) ≤ 9900 := Nat.le_trans (Nat.mul_le_mul (Nat.le_of_lt hi) (Nat.le_refl _)) (sq_le h10)
    rw [wb_19 h hW h10 hN hA hB hi (by omega)]
    unfold f_X6_weightBetween_E71
    rw [l1, nI_add, sm]
  · show f_X6_weightBetween_L5 N s (nI A) (nI B) _ (m + 1) (nI (sm _ n)) (nI n) = _
    rw [f_X6_weightBetween_L5, h.1, if_pos (nI_le (Nat.le_refl _) (by omega))]
    rfl
theorem all_n (h : RW s 0 n a f W) (h10 : n ≤ 10) : f_X6_all s = some (nI (2 ^ n - 1)) := by
  unfold f_X6_all
  have : 0 < 2 ^ n := Nat.two_pow_pos n
  rw [h.1, sh_1 n (by omega), l1, pk_sub (by omega)]
theorem not_n (b : Nat) : nI b ^^^ (-1 : Int32) = nI (b ^^^ 4294967295) := by
  rw [show (-1 : Int32) = nI 4294967295 from rfl, n_xor]
theorem co_bit {n b j : Nat} (hn : n ≤ 10) : ((2 ^ n - 1) &&& (b ^^^ 4294967295)).testBit j = (decide (j < n) && !b.testBit j) := by
  rw [Nat.testBit_and, Nat.testBit_two_pow_sub_one, Nat.testBit_xor, show 4294967295 = 2 ^ 32 - 1 from rfl, Nat.testBit_two_pow_sub_one]
  by_cases h : j < n
  · have h2 : j < 32 := by omega
    simp [h, h2]
  · simp [h]
theorem co_lt {n b : Nat} (hn : n ≤ 10) : ((2 ^ n - 1) &&& (b ^^^ 4294967295)) < 2 ^ n := by
  have h1 : (2 ^ n - 1) &&& (b ^^^ 4294967295) ≤ 2 ^ n - 1 := Nat.and_le_left
  have : 0 < 2 ^ n := Nat.two_pow_pos n
  omega
theorem wOf_n (h : RW s 0 n a f W) (hW : ∀ i j, W i j ≤ 99) (h10 : n ≤ 10) (hN : 600 ≤ N) {b : Nat} (hb : b < 2 ^ 31) : f_X6_weightOf N (nI b) s = some (nI (cut n W b)) := by
  unfold f_X6_weightOf
  rw [all_n h h10]
  simp only [bd1_ok]
  have h3 : 2 ^ n ≤ 1024 := p2_10 h10
  have h4 := co_lt (b := b) h10
  rw [not_n, n_and, wb_n h hW h10 hN hb (by omega)]
  simp only [bd1_ok]
  have e : wB n W b ((2 ^ n - 1) &&& (b ^^^ 4294967295)) = cut n W b := by
    unfold wB cut
    refine sm_congr (fun i hi => ?_)
    have e2 : rowB n W ((2 ^ n - 1) &&& (b ^^^ 4294967295)) i = rowC n W b i := sm_congr (fun j hj => by
      rw [co_bit h10]
      cases b.testBit j <;> simp [hj])
    rw [e2]
  rw [e]
end WB
