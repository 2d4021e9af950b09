-- THE RELATION between the class's cells and the reference's: one web of numbers for both
/-- a web: n places, the starting place st, the fair setting fp, the weights W -/
def WF (n st fp : Nat) (W : Nat → Nat → Nat) : Prop := 2 ≤ n ∧ n ≤ 10 ∧ st < n ∧ 1 ≤ fp ∧ fp ≤ 5 ∧ (∀ i j, W i j = W j i) ∧ (∀ i, W i i = 0) ∧ (∀ i j, W i j ≤ 99) ∧ (∀ i j, n ≤ i → W i j = 0)
/-- the class's Web holds it -/
def CW (pl st fp : Int32) (w : Nat → Int32) (n s f : Nat) (W : Nat → Nat → Nat) : Prop := pl = nI n ∧ st = nI s ∧ fp = nI f ∧ ∀ i j, i < n → j < n → w (10 * i + j) = nI (W i j)
/-- the reference's row holds it, from a place on -/
def RW (s : Nat → Int32) (off n st fp : Nat) (W : Nat → Nat → Nat) : Prop := s off = nI n ∧ s (off + 1) = nI st ∧ s (off + 2) = nI fp ∧ ∀ i j, i < 10 → j < 10 → s (off + 3 + 10 * i + j) = nI (W i j)
def Same (pl st fp : Int32) (w : Nat → Int32) (s : Nat → Int32) (off : Nat) : Prop := ∃ (n a f : Nat) (W : Nat → Nat → Nat), WF n a f W ∧ CW pl st fp w n a f W ∧ RW s off n a f W
def HistR (size : Int32) (pl st fp : Nat → Int32) (wt : Nat → Nat → Int32) (many : Int32) (saved : Nat → Int32) : Prop := ∃ m : Nat, m ≤ 4 ∧ size = nI m ∧ many = nI m ∧ ∀ k, k < m → Same (pl k) (st k) (fp k) (wt k) saved (103 * k)
def SnapR (kept : Int32) (pl st fp : Int32) (w : Nat → Int32) (has : Int32) (sn : Nat → Int32) : Prop := (kept = 0 ∧ has = 0) ∨ (kept = 1 ∧ has = 1 ∧ Same pl st fp w sn 0)
def TextR (len : Int32) (signs : Nat → Int32) (rlen : Int32) (rtext : Nat → Int32) : Prop := ∃ L : Nat, L ≤ 60 ∧ len = nI L ∧ rlen = nI L ∧ ∀ k, k < L → ∃ c : Nat, c < 65536 ∧ signs k = nI c ∧ rtext k = nI c
def Zero (pw pp : Nat → Int32) : Prop := pw 0 = 0 ∧ pp 0 = 0
