-- the phases, told without rows
/-- the first u < k with p whose c is greatest -/
def bm (p : Nat → Bool) (c : Nat → Nat) : Nat → Option Nat
  | 0 => none
  | k + 1 => if p k then (match bm p c k with
    | none => some k
    | some r => if c k ≤ c r then some r else some k) else bm p c k
/-- r is the first u < k with p whose c is greatest -/
def Top (p : Nat → Bool) (c : Nat → Nat) (k r : Nat) : Prop := r < k ∧ p r = true ∧ ∀ u, u < k → p u = true → c u < c r ∨ (c u = c r ∧ r ≤ u)
theorem Top.one {p : Nat → Bool} {c : Nat → Nat} {k r r' : Nat} (h : Top p c k r) (h' : Top p c k r') : r = r' := by
  have h1 := h.2.2 r' h'.1 h'.2.1
  have h2 := h'.2.2 r h.1 h.2.1
  omega
theorem bm_none {p : Nat → Bool} {c : Nat → Nat} : ∀ {k : Nat}, bm p c k = none → ∀ u, u < k → p u = false
  | 0, _, u, hu => absurd hu (by omega)
  | k + 1, h, u, hu => by
    rw [bm] at h
    by_cases q : p k = true
    · rw [if_pos q] at h
      split at h
      · cases h
      · split at h <;> cases h
    · rw [if_neg q] at h
      by_cases e : u = k
      · subst e; simpa using q
      · exact bm_none h u (by omega)
theorem bm_top {p : Nat → Bool} {c : Nat → Nat} : ∀ {k r : Nat}, bm p c k = some r → Top p c k r
  | 0, r, h => by cases h
  | k + 1, r, h => by
    rw [bm] at h
    by_cases q : p k = true
    · rw [if_pos q] at h
      split at h
      · rename_i e
        cases h
        refine ⟨by omega, q, fun u h1 h2 => ?_⟩
        by_cases z : u = k
        · subst z; exact Or.inr ⟨rfl, Nat.le_refl _⟩
        · have := bm_none e u (by omega)
          rw [this] at h2; cases h2
      · rename_i r' e
        obtain ⟨t1, t2, t3⟩ := bm_top e
        split at h
        · rename_i d
          cases h
          refine ⟨by omega, t2, fun u h1 h2 => ?_⟩
          by_cases z : u = k
          · subst z; omega
          · exact t3 u (by omega) h2
        · rename_i d
          cases h
          refine ⟨by omega, q, fun u h1 h2 => ?_⟩
          by_cases z : u = k
          · subst z; omega
          · have := t3 u (by omega) h2
            omega
    · rw [if_neg q] at h
      obtain ⟨t1, t2, t3⟩ := bm_top h
      refine ⟨by omega, t2, fun u h1 h2 => ?_⟩
      by_cases z : u = k
      · subst z; exact absurd h2 q
      · exact t3 u (by omega) h2
theorem bm_get {p : Nat → Bool} {c : Nat → Nat} {k u : Nat} (hu : u < k) (h : p u = true) : Top p c k ((bm p c k).getD 0) := by
  cases e : bm p c k with
  | none => rw [bm_none e u hu] at h; cases h
  | some r => exact bm_top e
theorem ct_ex {p : Nat → Bool} : ∀ {k : Nat}, 0 < ct p k → ∃ u, u < k ∧ p u = true
  | 0, h => absurd h (by rw [ct]; omega)
  | k + 1, h => by
    by_cases e : p k = true
    · exact ⟨k, by omega, e⟩
    · rw [ct, if_neg e] at h
      obtain ⟨u, h1, h2⟩ := ct_ex h
      exact ⟨u, by omega, h2⟩
theorem ct_rem {p q : Nat → Bool} {x : Nat} (hp : p x = true) (hq : q x = false) (h : ∀ y, y ≠ x → q y = p y) : ∀ {k : Nat}, x < k → ct q k + 1 = ct p k
  | 0, hx => absurd hx (by omega)
  | k + 1, hx => by
    rw [ct, ct]
    by_cases e : k = x
    · subst e
      rw [hp, hq, if_pos rfl, if_neg (by decide), ct_congr (fun i hi => h i (by omega))]
    · rw [h k e]
      have := ct_rem hp hq h (k := k) (by omega)
      split <;> omega
section PH
variable (n : Nat) (W : Nat → Nat → Nat)
/-- a web's lumps by name: L of them -/
def Part (L : Nat) (mem : Nat → Nat) : Prop := (∀ x, n ≤ x → mem x = 0) ∧ (∀ x, mem x ≠ 0 → Lo (mem x) x ∧ mem x < 2 ^ n) ∧ (∀ x y, x ≠ y → mem x &&& mem y = 0) ∧ (∀ q, q < n → ∃ x, (mem x).testBit q = true) ∧ ct (fun x => decide (mem x ≠ 0)) n = L
def lf (mem : Nat → Nat) (U : Nat) : Nat → Bool := fun x => decide (mem x ≠ 0) && decide (mem x &&& U = 0)
def pick (mem : Nat → Nat) (U : Nat) : Nat := (bm (lf mem U) (fun x => wB n W (mem x) U) n).getD 0
def Us (mem : Nat → Nat) (s0 : Nat) : Nat → Nat
  | 0 => 0
  | i + 1 => Us mem s0 i ||| mem (if i = 0 then s0 else pick n W mem (Us mem s0 i))
def od (mem : Nat → Nat) (s0 i : Nat) : Nat := if i = 0 then s0 else pick n W mem (Us n W mem s0 i)
def nr (mem : Nat → Nat) (s0 i : Nat) : Nat := wB n W (mem (od n W mem s0 i)) (Us n W mem s0 i)
def nmL (mem : Nat → Nat) (a : Nat) : Nat := (bm (fun x => (mem x).testBit a) (fun _ => 0) n).getD 0
def jn (mem : Nat → Nat) (x y : Nat) : Nat → Nat := fun z => if z = min x y then mem x ||| mem y else if z = max x y then 0 else mem z
def mm (a : Nat) : Nat → Nat → Nat
  | 0 => fun x => if x < n then 2 ^ x else 0
  | k + 1 => jn (mm a k) (od n W (mm a k) (nmL n (mm a k) a) (n - k - 1)) (od n W (mm a k) (nmL n (mm a k) a) (n - k - 2))
end PH
section PP
variable {n L : Nat} {W : Nat → Nat → Nat} {mem : Nat → Nat}
theorem lf_e {U x : Nat} : lf mem U x = true ↔ mem x ≠ 0 ∧ mem x &&& U = 0 := by unfold lf; simp
theorem Part.lt (h : Part n L mem) {x : Nat} (hx : mem x ≠ 0) : x < n := by
  apply Classical.byContradiction
  intro c; exact hx (h.1 x (by omega))
theorem Part.mlt (h : Part n L mem) (x : Nat) : mem x < 2 ^ n := by
  by_cases c : mem x = 0
  · rw [c]; exact Nat.two_pow_pos n
  · exact (h.2.1 x c).2
theorem Part.nm (h : Part n L mem) {a : Nat} (ha : a < n) : nmL n mem a < n ∧ (mem (nmL n mem a)).testBit a = true := by
  obtain ⟨x, hx⟩ := h.2.2.2.1 a ha
  have : mem x ≠ 0 := fun e => by rw [e, Nat.zero_testBit] at hx; cases hx
  have t := bm_get (p := fun x => (mem x).testBit a) (c := fun _ => 0) (h.lt this) hx
  exact ⟨t.1, t.2.1⟩
theorem bit_ne {b q : Nat} (h : b.testBit q = true) : b ≠ 0 := fun e => by rw [e, Nat.zero_testBit] at h; cases h
theorem Part.uniq (h : Part n L mem) {x y q : Nat} (hx : (mem x).testBit q = true) (hy : (mem y).testBit q = true) : x = y := by
  apply Classical.byContradiction
  intro c
  have := h.2.2.1 x y c
  have h2 : (mem x &&& mem y).testBit q = true := by rw [Nat.testBit_and, hx, hy]; rfl
  rw [this, Nat.zero_testBit] at h2; cases h2
theorem lf_step (h : Part n L mem) {U o : Nat} (ho : lf mem U o = true) (x : Nat) : lf mem (U ||| mem o) x = (lf mem U x && decide (x ≠ o)) := by
  have h1 := lf_e.mp ho
  by_cases e : x = o
  · subst e
    have : lf mem (U ||| mem x) x = false := by
      cases q : lf mem (U ||| mem x) x with
      | false => rfl
      | true =>
        have := lf_e.mp q
        rw [Nat.and_or_distrib_left, Nat.and_self, h1.2, Nat.zero_or] at this
        exact absurd this.2 this.1
    rw [this]; simp
  · have hd := h.2.2.1 x o e
    unfold lf
    rw [Nat.and_or_distrib_left, hd, Nat.or_zero]
    simp [e]
/-- what holds while a phase swallows -/
theorem sw_inv (h : Part n L mem) {s0 : Nat} (hs : mem s0 ≠ 0) : ∀ i, i < L → lf mem (Us n W mem s0 i) (od n W mem s0 i) = true ∧ ct (lf mem (Us n W mem s0 i)) n = L - i ∧ Us n W mem s0 (i + 1) = Us n W mem s0 i ||| mem (od n W mem s0 i)
  | 0, hL => by
    refine ⟨?_, ?_, rfl⟩
    · exact lf_e.mpr ⟨hs, Nat.and_zero _⟩
    · rw [Nat.sub_zero]
      have := h.2.2.2.2
      rw [← this]
      refine ct_congr (fun x _ => ?_)
      unfold lf Us
      simp
  | i + 1, hL => by
    obtain ⟨h1, h2, h3⟩ := sw_inv h hs i (by omega)
    have h4 : ct (lf mem (Us n W mem s0 (i + 1))) n + 1 = ct (lf mem (Us n W mem s0 i)) n := by
      rw [h3]
      refine ct_rem h1 ?_ (fun y hy => ?_) (h.lt (lf_e.mp h1).1)
      · rw [lf_step h h1]; simp
      · rw [lf_step h h1]; simp [hy]
    have h5 : ct (lf mem (Us n W mem s0 (i + 1))) n = L - (i + 1) := by omega
    obtain ⟨u, u1, u2⟩ := ct_ex (p := lf mem (Us n W mem s0 (i + 1))) (k := n) (by omega)
    have t := bm_get (c := fun x => wB n W (mem x) (Us n W mem s0 (i + 1))) u1 u2
    exact ⟨t.2.1, h5, rfl⟩
theorem od_top (h : Part n L mem) {s0 : Nat} (hs : mem s0 ≠ 0) {i : Nat} (h0 : 0 < i) (hi : i < L) : Top (lf mem (Us n W mem s0 i)) (fun x => wB n W (mem x) (Us n W mem s0 i)) n (od n W mem s0 i) := by
  obtain ⟨h1, h2, h3⟩ := sw_inv (W := W) h hs i hi
  have e : od n W mem s0 i = pick n W mem (Us n W mem s0 i) := by unfold od; rw [if_neg (by omega)]
  rw [e]
  exact bm_get (h.lt (lf_e.mp h1).1) h1
theorem Us_sub {s0 : Nat} {i j q : Nat} (hij : i ≤ j) (h : (Us n W mem s0 i).testBit q = true) : (Us n W mem s0 j).testBit q = true := by
  induction j with
  | zero =>
    have : i = 0 := by omega
    subst this; exact h
  | succ j ih =>
    by_cases e : i = j + 1
    · subst e; exact h
    · rw [Us, Nat.testBit_or, ih (by omega)]; rfl
theorem od_ne (h : Part n L mem) {s0 : Nat} (hs : mem s0 ≠ 0) {i j : Nat} (hij : i < j) (hj : j < L) : od n W mem s0 i ≠ od n W mem s0 j := by
  intro e
  obtain ⟨h1, h2, h3⟩ := sw_inv (W := W) h hs i (by omega)
  obtain ⟨g1, g2, g3⟩ := sw_inv (W := W) h hs j hj
  have k1 := lf_e.mp g1
  have hm := (h.2.1 _ k1.1).1.1
  have : (Us n W mem s0 j).testBit (od n W mem s0 j) = true := by
    refine Us_sub (i := i + 1) (by omega) ?_
    rw [h3, Nat.testBit_or, e, hm, Bool.or_true]
  have h9 : (mem (od n W mem s0 j) &&& Us n W mem s0 j).testBit (od n W mem s0 j) = true := by
    rw [Nat.testBit_and, hm, this]; rfl
  rw [k1.2, Nat.zero_testBit] at h9; cases h9
theorem jn_part (h : Part n L mem) {x y : Nat} (hx : mem x ≠ 0) (hy : mem y ≠ 0) (hxy : x ≠ y) : Part n (L - 1) (jn mem x y) := by
  have hxn := h.lt hx
  have hyn := h.lt hy
  have lx := (h.2.1 x hx).1
  have ly := (h.2.1 y hy).1
  have hor : mem x ||| mem y ≠ 0 := by
    refine bit_ne (q := x) ?_
    rw [Nat.testBit_or, lx.1]; rfl
  refine ⟨fun z hz => ?_, fun z hz => ?_, fun z z' hz => ?_, fun q hq => ?_, ?_⟩
  · unfold jn; rw [if_neg (by omega), if_neg (by omega)]; exact h.1 z hz
  · unfold jn at hz ⊢
    by_cases c : z = min x y
    · rw [if_pos c]
      refine ⟨⟨?_, fun j hj => ?_⟩, Nat.or_lt_two_pow (h.mlt x) (h.mlt y)⟩
      · rw [Nat.testBit_or]
        by_cases d : x ≤ y
        · rw [show z = x by omega, lx.1]; rfl
        · rw [show z = y by omega, ly.1, Bool.or_true]
      · rw [Nat.testBit_or, lx.2 j (by omega), ly.2 j (by omega)]; rfl
    · rw [if_neg c] at hz ⊢
      by_cases d : z = max x y
      · rw [if_pos d] at hz; exact absurd rfl hz
      · rw [if_neg d] at hz ⊢; exact h.2.1 z hz
  · have hd := h.2.2.1
    unfold jn
    by_cases c : z = min x y
    · rw [if_pos c, if_neg (by omega)]
      by_cases d : z' = max x y
      · rw [if_pos d, Nat.and_zero]
      · rw [if_neg d, Nat.and_comm, Nat.and_or_distrib_left, hd z' x (by omega), hd z' y (by omega)]; rfl
    · rw [if_neg c]
      by_cases c2 : z' = min x y
      · rw [if_pos c2]
        by_cases d : z = max x y
        · rw [if_pos d, Nat.zero_and]
        · rw [if_neg d, Nat.and_or_distrib_left, hd z x (by omega), hd z y (by omega)]; rfl
      · rw [if_neg c2]
        by_cases d : z = max x y
        · rw [if_pos d, Nat.zero_and]
        · rw [if_neg d]
          by_cases d2 : z' = max x y
          · rw [if_pos d2, Nat.and_zero]
          · rw [if_neg d2]; exact hd z z' hz
  · obtain ⟨z, hz⟩ := h.2.2.2.1 q hq
    by_cases c : z = x ∨ z = y
    · refine ⟨min x y, ?_⟩
      unfold jn
      rw [if_pos rfl, Nat.testBit_or]
      rcases c with c | c
      · rw [← c, hz]; rfl
      · rw [← c, hz, Bool.or_true]
    · refine ⟨z, ?_⟩
      unfold jn
      rw [if_neg (by omega), if_neg (by omega)]; exact hz
  · have := ct_rem (p := fun z => decide (mem z ≠ 0)) (q := fun z => decide (jn mem x y z ≠ 0)) (x := max x y) (k := n) (by
      by_cases d : x ≤ y
      · rw [show max x y = y by omega]; exact decide_eq_true hy
      · rw [show max x y = x by omega]; exact decide_eq_true hx) (by
      unfold jn; rw [if_neg (by omega), if_pos rfl]; rfl) (fun z hz => by
      unfold jn
      by_cases c : z = min x y
      · rw [if_pos c, decide_eq_true hor]
        by_cases d : x ≤ y
        · rw [show z = x by omega]; exact (decide_eq_true hx).symm
        · rw [show z = y by omega]; exact (decide_eq_true hy).symm
      · rw [if_neg c, if_neg hz]) (by omega)
    have h5 := h.2.2.2.2
    omega
theorem part_0 (h2 : 2 ≤ n) : Part n n (fun x => if x < n then 2 ^ x else 0) := by
  refine ⟨fun x hx => if_neg (by omega), fun x hx => ?_, fun x y hxy => ?_, fun q hq => ⟨q, by dsimp only; rw [if_pos hq]; exact Nat.testBit_two_pow_self⟩, ?_⟩
  · dsimp only at hx ⊢
    by_cases c : x < n
    · rw [if_pos c]
      exact ⟨⟨Nat.testBit_two_pow_self, fun j hj => Nat.testBit_two_pow_of_ne (by omega)⟩, Nat.pow_lt_pow_right (by omega) c⟩
    · rw [if_neg c] at hx; exact absurd rfl hx
  · dsimp only
    by_cases c : x < n
    · rw [if_pos c]
      by_cases d : y < n
      · rw [if_pos d, and_p2, Nat.testBit_two_pow_of_ne hxy]; rfl
      · rw [if_neg d, Nat.and_zero]
    · rw [if_neg c, Nat.zero_and]
  · have : ∀ k, k ≤ n → ct (fun x => decide ((if x < n then 2 ^ x else 0) ≠ 0)) k = k := by
      intro k
      induction k with
      | zero => intro _; rfl
      | succ k ih =>
        intro hk
        have : 0 < 2 ^ k := Nat.two_pow_pos k
        rw [ct, ih (by omega), if_pos]
        rw [if_pos (show k < n by omega)]
        exact decide_eq_true (by omega)
    exact this n (Nat.le_refl _)
theorem mm_part (h2 : 2 ≤ n) {a : Nat} (ha : a < n) : ∀ k, k + 1 ≤ n → Part n (n - k) (mm n W a k)
  | 0, _ => part_0 h2
  | k + 1, hk => by
    have h := mm_part h2 ha k (by omega)
    have hs := bit_ne (h.nm ha).2
    have g1 := (lf_e.mp (sw_inv (W := W) h hs (n - k - 1) (by omega)).1).1
    have g2 := (lf_e.mp (sw_inv (W := W) h hs (n - k - 2) (by omega)).1).1
    have g3 := od_ne (W := W) h hs (show n - k - 2 < n - k - 1 by omega) (by omega)
    have := jn_part h g1 g2 (Ne.symm g3)
    rw [show n - (k + 1) = n - k - 1 by omega]
    exact this
end PP
