-- a place is removed
def sk (p x : Nat) : Nat := if x < p then x else x + 1
def dropW (W : Nat → Nat → Nat) (n p : Nat) : Nat → Nat → Nat := fun x y => if x < n - 1 ∧ y < n - 1 then W (sk p x) (sk p y) else 0
theorem dropW_wf {n a f p a' : Nat} {W : Nat → Nat → Nat} (h : WF n a f W) (h3 : 2 < n) (ha : a' < n - 1) : WF (n - 1) a' f (dropW W n p) := by
  obtain ⟨h1, h2, -, h4, h5, h6, h7, h8, h9⟩ := h
  refine ⟨by omega, by omega, ha, h4, h5, fun x y => ?_, fun x => ?_, fun x y => ?_, fun x y hx => ?_⟩
  · unfold dropW
    by_cases c : x < n - 1 ∧ y < n - 1
    · rw [if_pos c, if_pos ⟨c.2, c.1⟩]; exact h6 _ _
    · rw [if_neg c, if_neg (fun q => c ⟨q.2, q.1⟩)]
  · unfold dropW; split
    · exact h7 _
    · rfl
  · unfold dropW; split
    · exact h8 _ _
    · omega
  · unfold dropW; rw [if_neg (by omega)]
def set1 (W : Nat → Nat → Nat) (i j k : Nat) : Nat → Nat → Nat := fun a b => if a = i ∧ b = j then k else W a b
theorem set1_rw {s : Nat → Int32} {n a f i j k : Nat} {W : Nat → Nat → Nat} (h : RW s 0 n a f W) (hi : i < 10) (hj : j < 10) : RW (upd s (3 + 10 * i + j) (nI k)) 0 n a f (set1 W i j k) := by
  refine ⟨?_, ?_, ?_, fun x y hx hy => ?_⟩
  · rw [upd_ne _ _ (by omega)]; exact h.1
  · rw [upd_ne _ _ (by omega)]; exact h.2.1
  · rw [upd_ne _ _ (by omega)]; exact h.2.2.1
  · unfold set1
    by_cases c : x = i ∧ y = j
    · rw [if_pos c, show 0 + 3 + 10 * x + y = 3 + 10 * i + j by omega, upd_same]
    · rw [if_neg c, upd_ne _ _ (by omega)]; exact h.2.2.2 x y hx hy
theorem RW.ext {s : Nat → Int32} {n a f : Nat} {W V : Nat → Nat → Nat} (h : RW s 0 n a f W) (e : ∀ x y, x < 10 → y < 10 → W x y = V x y) : RW s 0 n a f V :=
  ⟨h.1, h.2.1, h.2.2.1, fun x y hx hy => by rw [← e x y hx hy]; exact h.2.2.2 x y hx hy⟩
theorem CW.ext {pl st fp : Int32} {w : Nat → Int32} {n a f : Nat} {W V : Nat → Nat → Nat} (h : CW pl st fp w n a f W) (e : ∀ x y, x < n → y < n → W x y = V x y) : CW pl st fp w n a f V :=
  ⟨h.1, h.2.1, h.2.2.1, fun x y hx hy => by rw [← e x y hx hy]; exact h.2.2.2 x y hx hy⟩
-- the reference's way
def csh (W : Nat → Nat → Nat) (p t x y : Nat) : Nat := if y < p then W x y else if y < t then W x (y + 1) else if y = t then 0 else W x y
def M1 (W : Nat → Nat → Nat) (p t one other : Nat) : Nat → Nat → Nat := fun x y => if x < one then csh W p t x y else if x = one ∧ p ≤ y ∧ y < other then W x (y + 1) else W x y
def CS (W : Nat → Nat → Nat) (p t : Nat) : Nat → Nat → Nat := fun x y => if x ≤ t then csh W p t x y else W x y
def M2 (C : Nat → Nat → Nat) (p t one other : Nat) : Nat → Nat → Nat := fun x y => if p ≤ x ∧ x < one ∧ y < t then C (x + 1) y else if x = one ∧ y < other then C (x + 1) y else C x y
def M3 (C : Nat → Nat → Nat) (t other : Nat) : Nat → Nat → Nat := fun x y => if x = t ∧ y < other then 0 else C x y
section DR
variable {n a f p N : Nat} {W : Nat → Nat → Nat} {s0 : Nat → Int32}
theorem dr_19 (hs : s0 0 = nI n) (h2 : 2 < n) (h10 : n ≤ 10) (hp : p < n) (hN : 600 ≤ N) {one : Nat} (ho : one < n) (k : (Nat → Int32) → Option (Nat → Int32)) (P : Option (Nat → Int32) → Prop) (hP : ∀ s, RW s 0 n a f (M1 W p (n - 1) one (n - 1)) → P (k s)) (s : Nat → Int32) (h : RW s 0 n a f (M1 W p (n - 1) one p)) : P (f_X6_drops_L19 s0 (nI one) k N (nI p) s) := by
  refine upx (fun m i s => f_X6_drops_L19 s0 (nI one) k m (nI i) s) (fun i s => p ≤ i ∧ RW s 0 n a f (M1 W p (n - 1) one i)) (n - 1) P (fun m i s hi hI => ?_) (fun m s hI => ?_) N p s (by omega) (by omega) ⟨Nat.le_refl _, h⟩
  · obtain ⟨hpi, hI⟩ := hI
    refine ⟨_, ⟨by omega, (set1_rw (i := one) (j := i) (k := M1 W p (n - 1) one i one (i + 1)) hI (by omega) (by omega)).ext (fun x y hx hy => ?_)⟩, ?_⟩
    · unfold set1 M1 csh
      grind
    · show f_X6_drops_L19 s0 (nI one) k (m + 1) (nI i) s = _
      rw [f_X6_drops_L19, hs, l1, pk_sub (by omega), if_neg (nI_ge hi (by omega)), nI_add, tied_w hI (by omega) (by omega)]
      simp only [bd1_ok]
      rw [ix3, chk_n (by omega) (by omega), nI_clamp (by omega)]
  · show P (f_X6_drops_L19 s0 (nI one) k (m + 1) (nI (n - 1)) s)
    rw [f_X6_drops_L19, hs, l1, pk_sub (by omega), if_pos (nI_le (Nat.le_refl _) (by omega))]
    exact hP s hI.2
theorem dr_11 (hs : s0 0 = nI n) (h2 : 2 < n) (h10 : n ≤ 10) (hp : p < n) (hN : 600 ≤ N) (k : (Nat → Int32) → Option (Nat → Int32)) (P : Option (Nat → Int32) → Prop) (hP : ∀ s, RW s 0 n a f (CS W p (n - 1)) → P (k s)) (s : Nat → Int32) (h : RW s 0 n a f W) : P (f_X6_drops_L11 N s0 (nI p) k N (nI 0) s) := by
  refine upx (fun m i s => f_X6_drops_L11 N s0 (nI p) k m (nI i) s) (fun i s => RW s 0 n a f (M1 W p (n - 1) i p)) n P (fun m i s hi hI => ?_) (fun m s hI => ?_) N 0 s (by omega) (by omega) (h.ext (fun x y _ _ => by unfold M1; grind))
  · show ∃ s', _ ∧ f_X6_drops_L11 N s0 (nI p) k (m + 1) (nI i) s = _
    rw [f_X6_drops_L11, hs, l1, pk_sub (by omega), if_neg (nI_nlt (by omega) (by omega))]
    refine dr_19 hs h2 h10 hp hN hi _ (fun r => ∃ s', RW s' 0 n a f (M1 W p (n - 1) (i + 1) p) ∧ r = f_X6_drops_L11 N s0 (nI p) k m (nI (i + 1)) s') (fun t ht => ?_) s hI
    refine ⟨_, (set1_rw (i := i) (j := n - 1) (k := 0) ht (by omega) (by omega)).ext (fun x y hx hy => ?_), ?_⟩
    · unfold set1 M1 csh
      grind
    · show f_X6_drops_E54 (nI i) s0 (f_X6_drops_L11 N s0 (nI p) k m) t = _
      unfold f_X6_drops_E54
      rw [hs, l1, pk_sub (by omega), ix3, chk_n (by omega) (by omega), nI_clamp (by omega), nI_add]
      rfl
  · show P (f_X6_drops_L11 N s0 (nI p) k (m + 1) (nI n) s)
    rw [f_X6_drops_L11, hs, l1, pk_sub (by omega), if_pos (nI_lt (by omega) (by omega))]
    exact hP s (hI.ext (fun x y _ _ => by unfold M1 CS; grind))
theorem dr_84 (hs : s0 0 = nI n) (h2 : 2 < n) (h10 : n ≤ 10) (hp : p < n) (hN : 600 ≤ N) {C : Nat → Nat → Nat} {one : Nat} (h1 : p ≤ one) (ho : one < n - 1) (k : (Nat → Int32) → Option (Nat → Int32)) (P : Option (Nat → Int32) → Prop) (hP : ∀ s, RW s 0 n a f (M2 C p (n - 1) one (n - 1)) → P (k s)) (s : Nat → Int32) (h : RW s 0 n a f (M2 C p (n - 1) one 0)) : P (f_X6_drops_L84 s0 (nI one) k N (nI 0) s) := by
  refine upx (fun m i s => f_X6_drops_L84 s0 (nI one) k m (nI i) s) (fun i s => RW s 0 n a f (M2 C p (n - 1) one i)) (n - 1) P (fun m i s hi hI => ?_) (fun m s hI => ?_) N 0 s (by omega) (by omega) h
  · refine ⟨_, (set1_rw (i := one) (j := i) (k := M2 C p (n - 1) one i (one + 1) i) hI (by omega) (by omega)).ext (fun x y hx hy => ?_), ?_⟩
    · unfold set1 M2
      grind
    · show f_X6_drops_L84 s0 (nI one) k (m + 1) (nI i) s = _
      rw [f_X6_drops_L84, hs, l1, pk_sub (by omega), if_neg (nI_ge hi (by omega)), nI_add, tied_w hI (by omega) (by omega)]
      simp only [bd1_ok]
      rw [ix3, chk_n (by omega) (by omega), nI_clamp (by omega), nI_add]
  · show P (f_X6_drops_L84 s0 (nI one) k (m + 1) (nI (n - 1)) s)
    rw [f_X6_drops_L84, hs, l1, pk_sub (by omega), if_pos (nI_le (Nat.le_refl _) (by omega))]
    exact hP s hI
theorem dr_76 (hs : s0 0 = nI n) (h2 : 2 < n) (h10 : n ≤ 10) (hp : p < n) (hN : 600 ≤ N) {C : Nat → Nat → Nat} (k : (Nat → Int32) → Option (Nat → Int32)) (P : Option (Nat → Int32) → Prop) (hP : ∀ s, RW s 0 n a f (M2 C p (n - 1) (n - 1) 0) → P (k s)) (s : Nat → Int32) (h : RW s 0 n a f C) : P (f_X6_drops_L76 N s0 k N (nI p) s) := by
  refine upx (fun m i s => f_X6_drops_L76 N s0 k m (nI i) s) (fun i s => p ≤ i ∧ RW s 0 n a f (M2 C p (n - 1) i 0)) (n - 1) P (fun m i s hi hI => ?_) (fun m s hI => ?_) N p s (by omega) (by omega) ⟨Nat.le_refl _, h.ext (fun x y _ _ => by unfold M2; grind)⟩
  · obtain ⟨hpi, hI⟩ := hI
    show ∃ s', _ ∧ f_X6_drops_L76 N s0 k (m + 1) (nI i) s = _
    rw [f_X6_drops_L76, hs, l1, pk_sub (by omega), if_neg (nI_ge hi (by omega))]
    refine dr_84 hs h2 h10 hp hN hpi hi _ (fun r => ∃ s', (p ≤ i + 1 ∧ RW s' 0 n a f (M2 C p (n - 1) (i + 1) 0)) ∧ r = f_X6_drops_L76 N s0 k m (nI (i + 1)) s') (fun t ht => ?_) s hI
    refine ⟨t, ⟨by omega, ht.ext (fun x y hx hy => by unfold M2; grind)⟩, ?_⟩
    show f_X6_drops_E119 (f_X6_drops_L76 N s0 k m) (nI i) t = _
    unfold f_X6_drops_E119
    rw [l1, nI_add]
  · show P (f_X6_drops_L76 N s0 k (m + 1) (nI (n - 1)) s)
    rw [f_X6_drops_L76, hs, l1, pk_sub (by omega), if_pos (nI_le (Nat.le_refl _) (by omega))]
    exact hP s hI.2
theorem dr_127 (hs : s0 0 = nI n) (h2 : 2 < n) (h10 : n ≤ 10) (hN : 600 ≤ N) {C : Nat → Nat → Nat} (k : (Nat → Int32) → Option (Nat → Int32)) (P : Option (Nat → Int32) → Prop) (hP : ∀ s, RW s 0 n a f (M3 C (n - 1) 10) → P (k s)) (s : Nat → Int32) (h : RW s 0 n a f C) : P (f_X6_drops_L127 s0 k N (nI 0) s) := by
  refine upx (fun m i s => f_X6_drops_L127 s0 k m (nI i) s) (fun i s => RW s 0 n a f (M3 C (n - 1) i)) 10 P (fun m i s hi hI => ?_) (fun m s hI => ?_) N 0 s (by omega) (by omega) (h.ext (fun x y _ _ => by unfold M3; grind))
  · refine ⟨_, (set1_rw (i := n - 1) (j := i) (k := 0) hI (by omega) (by omega)).ext (fun x y hx hy => ?_), ?_⟩
    · unfold set1 M3
      grind
    · show f_X6_drops_L127 s0 k (m + 1) (nI i) s = _
      rw [f_X6_drops_L127, l10, if_neg (nI_ge hi (by omega)), hs, l1, pk_sub (by omega), ← l10, ix3, chk_n (by omega) (by omega), nI_clamp (by omega), nI_add]
      rfl
  · show P (f_X6_drops_L127 s0 k (m + 1) (nI 10) s)
    rw [f_X6_drops_L127, l10, if_pos (nI_le (Nat.le_refl _) (by omega))]
    exact hP s hI
theorem drops_n (h2 : 2 < n) (h10 : n ≤ 10) (hp : p < n) (hN : 600 ≤ N) (h : RW s0 0 n a f W) (hz : ∀ x y, n ≤ x → W x y = 0) (hz2 : ∀ x y, n ≤ y → W x y = 0) : ∃ s', f_X6_drops N (nI p) s0 = some s' ∧ RW s' 0 (n - 1) a f (dropW W n p) := by
  unfold f_X6_drops
  refine dr_11 h.1 h2 h10 hp hN _ (fun r => ∃ s', r = some s' ∧ RW s' 0 (n - 1) a f (dropW W n p)) (fun s1 e1 => ?_) s0 h
  show ∃ s', f_X6_drops_E74 N s0 (nI p) s1 = some s' ∧ _
  unfold f_X6_drops_E74
  refine dr_76 h.1 h2 h10 hp hN _ (fun r => ∃ s', r = some s' ∧ RW s' 0 (n - 1) a f (dropW W n p)) (fun s2 e2 => ?_) s1 e1
  show ∃ s', f_X6_drops_E125 N s0 s2 = some s' ∧ _
  unfold f_X6_drops_E125
  refine dr_127 h.1 h2 h10 hN _ (fun r => ∃ s', r = some s' ∧ RW s' 0 (n - 1) a f (dropW W n p)) (fun s3 e3 => ?_) s2 e2
  refine ⟨_, rfl, ?_, ?_, ?_, fun x y hx hy => ?_⟩
  · rw [upd_same, e3.1, l1, pk_sub (by omega)]
  · rw [upd_ne _ _ (by omega)]; exact e3.2.1
  · rw [upd_ne _ _ (by omega)]; exact e3.2.2.1
  · rw [upd_ne _ _ (by omega), e3.2.2.2 x y hx hy]
    congr 1
    have z1 := hz x y
    have z2 := hz2 x y
    have z3 := hz (x + 1) y
    unfold M3 M2 CS csh dropW sk
    grind
end DR
