-- the reference's phases
/-- the reference's lumps are those of mem, in some order -/
def RLm (L : Nat) (mem : Nat → Nat) (lumps : Nat → Int32) : Prop := (∀ t, t < L → ∃ x, mem x ≠ 0 ∧ lumps t = nI (mem x)) ∧ (∀ t t', t < L → t' < L → lumps t = lumps t' → t = t') ∧ ∀ x, mem x ≠ 0 → ∃ t, t < L ∧ lumps t = nI (mem x)
section RP
variable {n a f N L : Nat} {W : Nat → Nat → Nat} {mem : Nat → Nat} {s lumps : Nat → Int32}
theorem Part.inj (hP : Part n L mem) (h10 : n ≤ 10) {x y : Nat} (hx : mem x ≠ 0) (e : nI (mem x) = nI (mem y)) : x = y := by
  have hn2 : 2 ^ n ≤ 1024 := p2_10 h10
  have := hP.mlt x
  have := hP.mlt y
  have e2 := nI_inj (by omega) (by omega) e
  apply Classical.byContradiction
  intro c
  have h3 := hP.2.2.1 x y c
  rw [← e2, Nat.and_self] at h3
  exact hx h3
theorem near_n (h : RW s 0 n a f W) (hP : Part n L mem) (hW : ∀ i j, W i j ≤ 99) (h10 : n ≤ 10) (hL : L ≤ 10) (hN : 600 ≤ N) (hR : RLm L mem lumps) {U o : Nat} (hU : U < 2 ^ n) (hT : Top (lf mem U) (fun x => wB n W (mem x) U) n o) : ∃ t, t < L ∧ lumps t = nI (mem o) ∧ f_X6_nearest N (nI U) (nI L) s lumps = some (nI t) := by
  have hn2 : 2 ^ n ≤ 1024 := p2_10 h10
  unfold f_X6_nearest
  refine upx (σ := Int32 × Int32) (fun m i st => f_X6_nearest_L8 N (nI L) lumps (nI U) s (fun x15 => f_X6_nearest_E120 x15) m st.1 st.2 (nI i)) (fun i st => (st.1 = -5 ∧ ∀ t x, t < i → mem x ≠ 0 → lumps t = nI (mem x) → lf mem U x = false) ∨ ∃ b xb, b < i ∧ st.1 = nI b ∧ lumps b = nI (mem xb) ∧ lf mem U xb = true ∧ st.2 = nI (wB n W (mem xb) U) ∧ ∀ t x, t < i → mem x ≠ 0 → lumps t = nI (mem x) → lf mem U x = true → wB n W (mem x) U < wB n W (mem xb) U ∨ (wB n W (mem x) U = wB n W (mem xb) U ∧ xb ≤ x)) L (fun r => ∃ t, t < L ∧ lumps t = nI (mem o) ∧ r = some (nI t)) (fun m i st hi hI => ?_) (fun m st hI => ?_) N 0 (-5, 0) (by omega) (by omega) (Or.inl ⟨rfl, fun t x ht => absurd ht (by omega)⟩)
  · obtain ⟨x1, x2⟩ := st
    dsimp only at hI
    obtain ⟨x, hx, ex⟩ := hR.1 i hi
    have hxl := hP.mlt x
    have hwb := wB_b hW h10 (mem x) U
    show ∃ st', _ ∧ f_X6_nearest_L8 N (nI L) lumps (nI U) s _ (m + 1) x1 x2 (nI i) = _
    rw [f_X6_nearest_L8, if_neg (nI_ge hi (by omega)), chk_n (by omega) (by omega), chk_n (by omega) (by omega), nI_clamp (by omega), ex, n_and, wb_n h hW h10 hN (by omega) (by omega)]
    simp only [bd1_ok]
    have hand : mem x &&& U ≤ mem x := Nat.and_le_left
    -- what stays, what comes
    have self : ∀ t y, t < i + 1 → mem y ≠ 0 → lumps t = nI (mem y) → t < i ∨ y = x := by
      intro t y h1 h2 h3
      by_cases e : t = i
      · subst e
        rw [ex] at h3
        exact Or.inr (hP.inj h10 hx h3).symm
      · exact Or.inl (by omega)
    by_cases c : mem x &&& U = 0
    · have hlf : lf mem U x = true := lf_e.mpr ⟨hx, c⟩
      rw [c, if_pos (show nI 0 = 0 from rfl)]
      have take : (∀ t y, t < i → mem y ≠ 0 → lumps t = nI (mem y) → lf mem U y = true → wB n W (mem y) U < wB n W (mem x) U ∨ (wB n W (mem y) U = wB n W (mem x) U ∧ x ≤ y)) → ∃ st' : Int32 × Int32, ((st'.1 = -5 ∧ ∀ t x, t < i + 1 → mem x ≠ 0 → lumps t = nI (mem x) → lf mem U x = false) ∨ ∃ b xb, b < i + 1 ∧ st'.1 = nI b ∧ lumps b = nI (mem xb) ∧ lf mem U xb = true ∧ st'.2 = nI (wB n W (mem xb) U) ∧ ∀ t x, t < i + 1 → mem x ≠ 0 → lumps t = nI (mem x) → lf mem U x = true → wB n W (mem x) U < wB n W (mem xb) U ∨ (wB n W (mem x) U = wB n W (mem xb) U ∧ xb ≤ x)) ∧ f_X6_nearest_J88 (f_X6_nearest_L8 N (nI L) lumps (nI U) s (fun x15 => f_X6_nearest_E120 x15) m) (nI i) x2 (nI (wB n W (mem x) U)) x1 (1 : Int32) = f_X6_nearest_L8 N (nI L) lumps (nI U) s (fun x15 => f_X6_nearest_E120 x15) m st'.1 st'.2 (nI (i + 1)) := by
        intro hh
        refine ⟨(nI i, nI (wB n W (mem x) U)), Or.inr ⟨i, x, by omega, rfl, ex, hlf, rfl, fun t y h1 h2 h3 h4 => ?_⟩, ?_⟩
        · rcases self t y h1 h2 h3 with e | e
          · exact hh t y e h2 h3 h4
          · subst e; exact Or.inr ⟨rfl, Nat.le_refl _⟩
        · unfold f_X6_nearest_J88 f_X6_nearest_J101 f_X6_nearest_J113 f_X6_nearest_J114
          rw [if_neg (show ¬ (1 : Int32) = 0 by decide), if_neg (show ¬ (1 : Int32) = 0 by decide), l1, nI_add]
      rcases hI with ⟨e1, h1⟩ | ⟨b, xb, b1, e1, b3, b4, e2, b6⟩
      · rw [if_pos e1]
        exact take (fun t y h2 h3 h4 h5 => by rw [h1 t y h2 h3 h4] at h5; cases h5)
      · have hxb := (lf_e.mp b4).1
        have hxbl := hP.mlt xb
        have hwbb := wB_b hW h10 (mem xb) U
        have stay : (wB n W (mem x) U < wB n W (mem xb) U ∨ (wB n W (mem x) U = wB n W (mem xb) U ∧ xb ≤ x)) → ∃ st' : Int32 × Int32, ((st'.1 = -5 ∧ ∀ t x, t < i + 1 → mem x ≠ 0 → lumps t = nI (mem x) → lf mem U x = false) ∨ ∃ b xb, b < i + 1 ∧ st'.1 = nI b ∧ lumps b = nI (mem xb) ∧ lf mem U xb = true ∧ st'.2 = nI (wB n W (mem xb) U) ∧ ∀ t x, t < i + 1 → mem x ≠ 0 → lumps t = nI (mem x) → lf mem U x = true → wB n W (mem x) U < wB n W (mem xb) U ∨ (wB n W (mem x) U = wB n W (mem xb) U ∧ xb ≤ x)) ∧ f_X6_nearest_J88 (f_X6_nearest_L8 N (nI L) lumps (nI U) s (fun x15 => f_X6_nearest_E120 x15) m) (nI i) x2 (nI (wB n W (mem x) U)) x1 (0 : Int32) = f_X6_nearest_L8 N (nI L) lumps (nI U) s (fun x15 => f_X6_nearest_E120 x15) m st'.1 st'.2 (nI (i + 1)) := by
          intro hh
          refine ⟨(x1, x2), Or.inr ⟨b, xb, by omega, e1, b3, b4, e2, fun t y h1 h2 h3 h4 => ?_⟩, ?_⟩
          · rcases self t y h1 h2 h3 with e | e
            · exact b6 t y e h2 h3 h4
            · subst e; exact hh
          · unfold f_X6_nearest_J88 f_X6_nearest_J101 f_X6_nearest_J113 f_X6_nearest_J114
            rw [if_pos (show (0 : Int32) = 0 from rfl), if_pos (show (0 : Int32) = 0 from rfl), l1, nI_add]
        obtain ⟨hLo, -⟩ := hP.2.1 x hx
        obtain ⟨hLob, -⟩ := hP.2.1 xb hxb
        have hxn := hP.lt hx
        have hxbn := hP.lt hxb
        rw [if_neg (show ¬ x1 = -5 by rw [e1]; exact bR_ne b (by omega))]
        by_cases d : wB n W (mem xb) U < wB n W (mem x) U
        · rw [if_pos (show x2 < nI (wB n W (mem x) U) by rw [e2]; exact nI_lt d (by omega))]
          exact take (fun t y h2 h3 h4 h5 => by have := b6 t y h2 h3 h4 h5; omega)
        · rw [if_neg (show ¬ x2 < nI (wB n W (mem x) U) by rw [e2]; exact nI_nlt (by omega) (by omega))]
          by_cases g : wB n W (mem x) U = wB n W (mem xb) U
          · rw [if_pos (show nI (wB n W (mem x) U) = x2 by rw [e2, g])]
            have hb6 : b < 10 := by omega
            rw [chk_n (by omega) (by omega), name_n hN (by omega) (by omega) hLo]
            simp only [bd1_ok]
            rw [show (chk x1 10 : Option Int32 → Option Int32) = chk (nI b) 10 by rw [e1], chk_n hb6 (by omega), show lumps x1.toNatClampNeg = nI (mem xb) by rw [e1, nI_clamp (by omega)]; exact b3, name_n hN (by omega) (by omega) hLob]
            simp only [bd1_ok]
            by_cases q : xb ≤ x
            · rw [if_pos (nI_le q (by omega))]
              exact stay (Or.inr ⟨g, q⟩)
            · rw [if_neg (nI_ge (by omega) (by omega))]
              exact take (fun t y h2 h3 h4 h5 => by have := b6 t y h2 h3 h4 h5; omega)
          · rw [if_neg (fun e => g (by rw [e2] at e; exact nI_inj (by omega) (by omega) e))]
            exact stay (Or.inl (by omega))
    · have hlf : lf mem U x = false := by
        cases e : lf mem U x with
        | false => rfl
        | true => exact absurd (lf_e.mp e).2 c
      rw [if_neg (nI_ne0 (by omega) (by omega))]
      unfold f_X6_nearest_J114
      rw [l1, nI_add]
      refine ⟨(x1, x2), ?_, rfl⟩
      rcases hI with ⟨e1, h1⟩ | ⟨b, xb, b1, e1, b3, b4, e2, b6⟩
      · refine Or.inl ⟨e1, fun t y h1' h2 h3 => ?_⟩
        rcases self t y h1' h2 h3 with e | e
        · exact h1 t y e h2 h3
        · subst e; exact hlf
      · refine Or.inr ⟨b, xb, by omega, e1, b3, b4, e2, fun t y h1 h2 h3 h4 => ?_⟩
        rcases self t y h1 h2 h3 with e | e
        · exact b6 t y e h2 h3 h4
        · subst e; rw [hlf] at h4; cases h4
  · obtain ⟨x1, x2⟩ := st
    dsimp only at hI
    show ∃ t, _ ∧ _ ∧ f_X6_nearest_L8 N (nI L) lumps (nI U) s _ (m + 1) x1 x2 (nI L) = _
    rw [f_X6_nearest_L8, if_pos (nI_le (Nat.le_refl _) (by omega))]
    have ho := (lf_e.mp hT.2.1).1
    obtain ⟨t0, t1, t2⟩ := hR.2.2 o ho
    rcases hI with ⟨e1, h1⟩ | ⟨b, xb, b1, e1, b3, b4, e2, b6⟩
    · have := h1 t0 o t1 ho t2
      rw [hT.2.1] at this; cases this
    · have hTb : Top (lf mem U) (fun x => wB n W (mem x) U) n xb := ⟨hP.lt (lf_e.mp b4).1, b4, fun u hu h2 => by
        obtain ⟨t, t3, t4⟩ := hR.2.2 u (lf_e.mp h2).1
        exact b6 t u t3 (lf_e.mp h2).1 t4 h2⟩
      have := hT.one hTb
      subst this
      exact ⟨b, b1, b3, by rw [e1]; rfl⟩
end RP
