section RQ
variable {n a f N L : Nat} {W : Nat → Nat → Nat} {mem : Nat → Nat} {s lumps : Nat → Int32}
theorem sw_66 (h : RW s 0 n a f W) (hP : Part n L mem) (hL : 2 ≤ L) (hL2 : L ≤ n) (hW : ∀ i j, W i j ≤ 99) (h10 : n ≤ 10) (hN : 600 ≤ N) (hR : RLm L mem lumps) {s0 : Nat} (hs : mem s0 ≠ 0) (o0 r0 : Nat → Int32) (ho : o0 0 = nI (mem s0)) (hr : r0 0 = nI 0) : ∃ o' r' : Nat → Int32, f_X6_swallows_L66 N (nI L) s lumps (fun a17 a18 => f_X6_swallows_E124 (nI L) s a17 a18) N (nI (mem s0)) (nI 1) o0 r0 = some (nI (pgS n (mem (od n W mem s0 (L - 1)))), nI (nr n W mem s0 (L - 1)), o', r') ∧ (∀ j, j < L → o' j = nI (mem (od n W mem s0 j))) ∧ ∀ j, j < L → r' j = nI (nr n W mem s0 j) := by
  have hn2 : 2 ^ n ≤ 1024 := p2_10 h10
  have w0 : nr n W mem s0 0 = 0 := by
    unfold nr wB Us
    refine sm_zero (fun i _ => ?_)
    have : rowB n W 0 i = 0 := sm_zero (fun j _ => by rw [Nat.zero_testBit]; rfl)
    rw [this]; split <;> rfl
  have u1 : mem s0 = Us n W mem s0 1 := by unfold Us Us; rw [Nat.zero_or, if_pos rfl]
  have key := upx (σ := (Nat → Int32) × (Nat → Int32)) (fun m i st => f_X6_swallows_L66 N (nI L) s lumps (fun a17 a18 => f_X6_swallows_E124 (nI L) s a17 a18) m (nI (Us n W mem s0 i)) (nI i) st.1 st.2) (fun i st => 1 ≤ i ∧ (∀ j, j < i → st.1 j = nI (mem (od n W mem s0 j))) ∧ ∀ j, j < i → st.2 j = nI (nr n W mem s0 j)) L (fun x => ∃ o' r' : Nat → Int32, x = some (nI (pgS n (mem (od n W mem s0 (L - 1)))), nI (nr n W mem s0 (L - 1)), o', r') ∧ (∀ j, j < L → o' j = nI (mem (od n W mem s0 j))) ∧ ∀ j, j < L → r' j = nI (nr n W mem s0 j)) (fun m i st hi hI => ?_) (fun m st hI => ?_) N 1 (o0, r0) (by omega) (by omega) ⟨Nat.le_refl _, fun j hj => ?_, fun j hj => ?_⟩
  · rw [← u1] at key
    exact key
  · obtain ⟨o, r⟩ := st
    obtain ⟨h1, h2, h3⟩ := hI
    dsimp only at h2 h3
    obtain ⟨g1, g2, g3⟩ := sw_inv (W := W) hP hs i hi
    have hU := Us_lt (W := W) hP (s0 := s0) i
    have hml := hP.mlt (od n W mem s0 i)
    obtain ⟨t, t1, t2, t3⟩ := near_n h hP hW h10 (by omega) hN hR hU (od_top hP hs (by omega) hi)
    show ∃ st', _ ∧ f_X6_swallows_L66 N (nI L) s lumps _ (m + 1) (nI (Us n W mem s0 i)) (nI i) o r = _
    rw [f_X6_swallows_L66, if_neg (nI_ge hi (by omega)), t3]
    simp only [bd1_ok]
    rw [chk_n (by omega) (by omega), chk_n (by omega) (by omega), chk_n (by omega) (by omega), nI_clamp (by omega), t2, wb_n h hW h10 hN (by omega) (by omega)]
    simp only [bd1_ok]
    rw [chk_n (by omega) (by omega), chk_n (by omega) (by omega), n_or, ← g3, l1, nI_add, nI_clamp (by omega)]
    refine ⟨(upd o i (nI (mem (od n W mem s0 i))), upd r i (nI (nr n W mem s0 i))), ⟨by omega, fun j hj => ?_, fun j hj => ?_⟩, rfl⟩
    · by_cases e : j = i
      · subst e; exact upd_same _ _ _
      · show upd o _ _ _ = _
        rw [upd_ne _ _ (by omega)]; exact h2 j (by omega)
    · by_cases e : j = i
      · subst e; exact upd_same _ _ _
      · show upd r _ _ _ = _
        rw [upd_ne _ _ (by omega)]; exact h3 j (by omega)
  · obtain ⟨o, r⟩ := st
    obtain ⟨h1, h2, h3⟩ := hI
    dsimp only at h2 h3
    have hml := hP.mlt (od n W mem s0 (L - 1))
    show ∃ o' r', f_X6_swallows_L66 N (nI L) s lumps _ (m + 1) (nI (Us n W mem s0 L)) (nI L) o r = _ ∧ _
    rw [f_X6_swallows_L66, if_pos (nI_le (Nat.le_refl _) (by omega))]
    unfold f_X6_swallows_E124
    rw [l1, pk_sub (by omega), chk_n (by omega) (by omega), nI_clamp (by omega), h2 _ (by omega), n_and, all_n h h10]
    simp only [bd1_ok]
    unfold f_X6_swallows_J156
    rw [show nI (mem (od n W mem s0 (L - 1))) ^^^ -nI 1 = nI (mem (od n W mem s0 (L - 1)) ^^^ 4294967295) from not_n _, n_and, l1, pk_sub (by omega), chk_n (by omega) (by omega), nI_clamp (by omega), h3 _ (by omega)]
    have hb : (mem (od n W mem s0 (L - 1))) &&& 1 = (mem (od n W mem s0 (L - 1))) % 2 := by rw [Nat.and_one_is_mod]
    have hb2 : (mem (od n W mem s0 (L - 1))).testBit 0 = decide ((mem (od n W mem s0 (L - 1))) % 2 = 1) := Nat.testBit_zero _
    unfold pgS
    by_cases c : (mem (od n W mem s0 (L - 1))) % 2 = 1
    · rw [hb, hb2, c]
      exact ⟨o, r, rfl, h2, h3⟩
    · rw [hb, hb2, show (mem (od n W mem s0 (L - 1))) % 2 = 0 by omega, if_neg (show ¬ nI 0 = nI 1 by decide), chk_n (by omega) (by omega)]
      exact ⟨o, r, rfl, h2, h3⟩
  · have : j = 0 := by omega
    subst this; exact ho
  · have : j = 0 := by omega
    subst this
    show r0 0 = _
    rw [w0]; exact hr
theorem sw_n (h : RW s 0 n a f W) (hP : Part n L mem) (hL : 2 ≤ L) (hL2 : L ≤ n) (ha : a < n) (hW : ∀ i j, W i j ≤ 99) (h10 : n ≤ 10) (hN : 600 ≤ N) (hR : RLm L mem lumps) (o0 r0 : Nat → Int32) : ∃ o' r' : Nat → Int32, f_X6_swallows N (nI L) s lumps o0 r0 = some (nI (pgS n (mem (od n W mem (nmL n mem a) (L - 1)))), nI (nr n W mem (nmL n mem a) (L - 1)), o', r') ∧ (∀ j, j < L → o' j = nI (mem (od n W mem (nmL n mem a) j))) ∧ ∀ j, j < L → r' j = nI (nr n W mem (nmL n mem a) j) := by
  have hn2 : 2 ^ n ≤ 1024 := p2_10 h10
  have hnm := hP.nm ha
  have hs := bit_ne hnm.2
  obtain ⟨t0, t1, t2⟩ := hR.2.2 _ hs
  unfold f_X6_swallows
  have key := up (fun m i => f_X6_swallows_L4 (nI L) lumps s (fun x7 => f_X6_swallows_E50 N (nI L) s lumps o0 r0 x7) m (nI (if t0 < i then mem (nmL n mem a) else 0)) (nI i)) (f_X6_swallows_E50 N (nI L) s lumps o0 r0 (nI (mem (nmL n mem a)))) L (fun m i hi => ?_) (fun m => ?_) N 0 (by omega) (by omega)
  · rw [if_neg (show ¬ t0 < 0 by omega)] at key
    rw [show (0 : Int32) = nI 0 from rfl, key]
    unfold f_X6_swallows_E50
    exact sw_66 h hP hL hL2 hW h10 hN hR hs _ _ (upd_same _ _ _) (upd_same _ _ _)
  · show f_X6_swallows_L4 (nI L) lumps s _ (m + 1) (nI (if t0 < i then mem (nmL n mem a) else 0)) (nI i) = f_X6_swallows_L4 (nI L) lumps s _ m (nI (if t0 < i + 1 then mem (nmL n mem a) else 0)) (nI (i + 1))
    obtain ⟨x, hx, ex⟩ := hR.1 i hi
    have hxl := hP.mlt x
    rw [f_X6_swallows_L4, if_neg (nI_ge hi (by omega)), chk_n (by omega) (by omega), chk_n (by omega) (by omega), nI_clamp (by omega), ex, h.2.1, bt_r (by omega) (by omega)]
    unfold f_X6_swallows_J42
    by_cases c : (mem x).testBit a = true
    · have e1 := hP.uniq c hnm.2
      subst e1
      have e2 := hR.2.1 i t0 hi t1 (by rw [ex, t2])
      subst e2
      rw [c, if_pos (show nI (if true = true then 1 else 0) = 1 from rfl), if_neg (by omega), if_pos (by omega), n_or, Nat.zero_or, l1, nI_add]
    · have e1 : i ≠ t0 := fun e => by
        subst e
        rw [ex] at t2
        have := hP.inj h10 hx t2
        rw [this] at c; exact c hnm.2
      have e2 : (mem x).testBit a = false := by simpa using c
      rw [e2, if_neg (show ¬ nI (if false = true then 1 else 0) = 1 by decide), l0, n_or, Nat.or_zero, l1, nI_add]
      by_cases q : t0 < i
      · rw [if_pos q, if_pos (by omega)]
      · rw [if_neg q, if_neg (by omega)]
  · show f_X6_swallows_L4 (nI L) lumps s _ (m + 1) (nI (if t0 < L then mem (nmL n mem a) else 0)) (nI L) = _
    rw [f_X6_swallows_L4, if_pos (nI_le (Nat.le_refl _) (by omega)), if_pos t1]
theorem jl_n (hP : Part n L mem) (hL : 2 ≤ L) (hL2 : L ≤ n) (h10 : n ≤ 10) (hN : 600 ≤ N) (hR : RLm L mem lumps) {z y : Nat} (hz : mem z ≠ 0) (hy : mem y ≠ 0) (hzy : z ≠ y) {order : Nat → Int32} (e1 : order (L - 1) = nI (mem z)) (e2 : order (L - 2) = nI (mem y)) : ∃ lumps' : Nat → Int32, f_X6_joinsLast N (nI L) lumps order = some (nI (L - 1), lumps') ∧ RLm (L - 1) (jn mem z y) lumps' := by
  have hn2 : 2 ^ n ≤ 1024 := p2_10 h10
  obtain ⟨tz, tz1, tz2⟩ := hR.2.2 z hz
  have hzy2 : nI (mem y) ≠ nI (mem z) := fun e => hzy (hP.inj h10 hy e).symm
  have hct : ct (fun t => decide (lumps t ≠ nI (mem z))) L = L - 1 := by
    have h1 := ct_rem (p := fun _ => true) (q := fun t => decide (t ≠ tz)) (x := tz) rfl (by simp) (fun y hy => by simp [hy]) tz1
    have h2 : ∀ k, ct (fun _ => true) k = k := by
      intro k
      induction k with
      | zero => rfl
      | succ k ih => rw [ct, ih]; rfl
    rw [h2] at h1
    have h3 : ct (fun t => decide (lumps t ≠ nI (mem z))) L = ct (fun t => decide (t ≠ tz)) L := ct_congr (fun i hi => by
      by_cases e : i = tz
      · subst e; simp [tz2]
      · have : lumps i ≠ nI (mem z) := fun q => e (hR.2.1 i tz hi tz1 (by rw [q, tz2]))
        simp [e, this])
    omega
  unfold f_X6_joinsLast
  rw [l1, pk_sub (by omega), l2, pk_sub (by omega), chk_n (by omega) (by omega), chk_n (by omega) (by omega)]
  refine upx (σ := Nat → Int32) (fun m i st => f_X6_joinsLast_L29 (nI L) order (fun x10 a11 => f_X6_joinsLast_E88 x10 a11) m (nI (ct (fun t => decide (lumps t ≠ nI (mem z))) i)) (nI i) st) (fun i st => (∀ t, t < i → lumps t ≠ nI (mem z) → st (ct (fun t => decide (lumps t ≠ nI (mem z))) t) = if lumps t = nI (mem y) then nI (mem y ||| mem z) else lumps t) ∧ ∀ t, i ≤ t → st t = lumps t) L (fun x => ∃ lumps' : Nat → Int32, x = some (nI (L - 1), lumps') ∧ RLm (L - 1) (jn mem z y) lumps') (fun m i st hi hI => ?_) (fun m st hI => ?_) N 0 lumps (by omega) (by omega) ⟨fun t ht => absurd ht (by omega), fun t _ => rfl⟩
  · obtain ⟨h1, h2⟩ := hI
    have hcl := ct_le (fun t => decide (lumps t ≠ nI (mem z))) i
    show ∃ st', _ ∧ f_X6_joinsLast_L29 (nI L) order _ (m + 1) (nI (ct (fun t => decide (lumps t ≠ nI (mem z))) i)) (nI i) st = _
    rw [f_X6_joinsLast_L29, if_neg (nI_ge hi (by omega)), l1, pk_sub (by omega), l2, pk_sub (by omega), chk_n (by omega) (by omega), nI_clamp (by omega), nI_clamp (by omega), nI_clamp (by omega), h2 i (Nat.le_refl _), e1, e2]
    unfold f_X6_joinsLast_J78 f_X6_joinsLast_J82
    by_cases c : lumps i = nI (mem z)
    · rw [if_pos c, l1, nI_add]
      refine ⟨st, ⟨fun t ht h3 => ?_, fun t ht => h2 t (by omega)⟩, ?_⟩
      · have : t ≠ i := fun e => h3 (e ▸ c)
        exact h1 t (by omega) h3
      · rw [ct, if_neg (show ¬ decide (lumps i ≠ nI (mem z)) = true by simp [c])]
        rfl
    · rw [if_neg c, chk_n (by omega) (by omega), chk_n (by omega) (by omega), chk_n (by omega) (by omega), nI_clamp (by omega), n_or]
      have go : ∀ v : Int32, v = (if lumps i = nI (mem y) then nI (mem y ||| mem z) else lumps i) → ∃ st', ((∀ t, t < i + 1 → lumps t ≠ nI (mem z) → st' (ct (fun t => decide (lumps t ≠ nI (mem z))) t) = if lumps t = nI (mem y) then nI (mem y ||| mem z) else lumps t) ∧ ∀ t, i + 1 ≤ t → st' t = lumps t) ∧ f_X6_joinsLast_L29 (nI L) order (fun x10 a11 => f_X6_joinsLast_E88 x10 a11) m (nI (ct (fun t => decide (lumps t ≠ nI (mem z))) i) + (1 : Int32)) (nI i + (1 : Int32)) (upd st (ct (fun t => decide (lumps t ≠ nI (mem z))) i) v) = f_X6_joinsLast_L29 (nI L) order (fun x10 a11 => f_X6_joinsLast_E88 x10 a11) m (nI (ct (fun t => decide (lumps t ≠ nI (mem z))) (i + 1))) (nI (i + 1)) st' := by
        intro v hv
        refine ⟨upd st (ct (fun t => decide (lumps t ≠ nI (mem z))) i) v, ⟨fun t ht h3 => ?_, fun t ht => ?_⟩, ?_⟩
        · by_cases e : t = i
          · subst e; rw [upd_same]; exact hv
          · have := ct_lt (fun t => decide (lumps t ≠ nI (mem z))) (show t < i by omega) (decide_eq_true h3)
            rw [upd_ne _ _ (by omega)]; exact h1 t (by omega) h3
        · rw [upd_ne _ _ (by omega)]; exact h2 t (by omega)
        · rw [l1, nI_add, nI_add, ct, if_pos (show decide (lumps i ≠ nI (mem z)) = true by simp [c])]
      by_cases d : lumps i = nI (mem y)
      · rw [if_pos d]
        exact go _ (by rw [if_pos d])
      · rw [if_neg d, chk_n (by omega) (by omega)]
        exact go _ (by rw [if_neg d])
  · obtain ⟨h1, h2⟩ := hI
    show ∃ lumps', f_X6_joinsLast_L29 (nI L) order _ (m + 1) (nI (ct (fun t => decide (lumps t ≠ nI (mem z))) L)) (nI L) st = _ ∧ _
    rw [f_X6_joinsLast_L29, if_pos (nI_le (Nat.le_refl _) (by omega)), hct]
    refine ⟨st, rfl, ?_⟩
    have hPj := jn_part hP hz hy hzy
    have jx : jn mem z y (min z y) = mem y ||| mem z := by unfold jn; rw [if_pos rfl, Nat.or_comm]
    have jo : ∀ u, u ≠ z → u ≠ y → jn mem z y u = mem u := fun u h4 h5 => by unfold jn; rw [if_neg (by omega), if_neg (by omega)]
    have jxn : mem y ||| mem z ≠ 0 := by
      refine bit_ne (q := z) ?_
      rw [Nat.testBit_or, (hP.2.1 z hz).1.1, Bool.or_true]
    -- what a lump that stays becomes
    have come : ∀ t, t < L → lumps t ≠ nI (mem z) → ∃ u, jn mem z y u ≠ 0 ∧ st (ct (fun t => decide (lumps t ≠ nI (mem z))) t) = nI (jn mem z y u) ∧ lumps t = (if u = min z y then nI (mem y) else nI (mem u)) := by
      intro t ht h3
      have h4 := h1 t ht h3
      by_cases d : lumps t = nI (mem y)
      · rw [if_pos d] at h4
        exact ⟨min z y, by rw [jx]; exact jxn, by rw [h4, jx], by rw [if_pos rfl]; exact d⟩
      · rw [if_neg d] at h4
        obtain ⟨x, hx, ex⟩ := hR.1 t ht
        have q1 : x ≠ z := fun e => h3 (e ▸ ex)
        have q2 : x ≠ y := fun e => d (e ▸ ex)
        exact ⟨x, by rw [jo x q1 q2]; exact hx, by rw [h4, jo x q1 q2]; exact ex, by rw [if_neg (by omega)]; exact ex⟩
    refine ⟨fun c hc => ?_, fun c c' hc hc' he => ?_, fun u hu => ?_⟩
    · obtain ⟨t, t1, t2, t3⟩ := ct_kth (show c < ct (fun t => decide (lumps t ≠ nI (mem z))) L by omega)
      obtain ⟨u, u1, u2, -⟩ := come t t1 (of_decide_eq_true t2)
      rw [t3] at u2
      exact ⟨u, u1, u2⟩
    · obtain ⟨t, t1, t2, t3⟩ := ct_kth (show c < ct (fun t => decide (lumps t ≠ nI (mem z))) L by omega)
      obtain ⟨t', t1', t2', t3'⟩ := ct_kth (show c' < ct (fun t => decide (lumps t ≠ nI (mem z))) L by omega)
      obtain ⟨u, u1, u2, u3⟩ := come t t1 (of_decide_eq_true t2)
      obtain ⟨u', u1', u2', u3'⟩ := come t' t1' (of_decide_eq_true t2')
      rw [t3] at u2
      rw [t3'] at u2'
      rw [u2, u2'] at he
      have := hPj.inj h10 u1 he
      subst this
      have := hR.2.1 t t' t1 t1' (by rw [u3, u3'])
      subst this
      rw [← t3, ← t3']
    · by_cases q : u = min z y
      · subst q
        obtain ⟨t, t1, t2⟩ := hR.2.2 y hy
        have h3 : lumps t ≠ nI (mem z) := by rw [t2]; exact hzy2
        have := ct_lt (fun t => decide (lumps t ≠ nI (mem z))) t1 (decide_eq_true h3)
        refine ⟨ct (fun t => decide (lumps t ≠ nI (mem z))) t, by omega, ?_⟩
        rw [h1 t t1 h3, if_pos t2, jx]
      · have q2 : u ≠ max z y := fun e => hu (by unfold jn; rw [if_neg q, if_pos e])
        have q3 : u ≠ z := by omega
        have q4 : u ≠ y := by omega
        rw [jo u q3 q4] at hu ⊢
        obtain ⟨t, t1, t2⟩ := hR.2.2 u hu
        have h3 : lumps t ≠ nI (mem z) := by rw [t2]; exact fun e => q3 (hP.inj h10 hu e)
        have h4 : lumps t ≠ nI (mem y) := by rw [t2]; exact fun e => q4 (hP.inj h10 hu e)
        have := ct_lt (fun t => decide (lumps t ≠ nI (mem z))) t1 (decide_eq_true h3)
        refine ⟨ct (fun t => decide (lumps t ≠ nI (mem z))) t, by omega, ?_⟩
        rw [h1 t t1 h3, if_neg h4, t2]
end RQ
