-- tight pairs, in the order of their codes 10 i + j
def TiP (n : Nat) (W : Nat → Nat → Nat) (c : Nat → Nat) (M v i j : Nat) : Prop := i < j ∧ j < n ∧ 0 < W i j ∧ AllP c M v i j
noncomputable def tq (n : Nat) (W : Nat → Nat → Nat) (c : Nat → Nat) (M v : Nat) : Nat → Bool := fun q => @decide (TiP n W c M v (q / 10) (q % 10)) (Classical.propDecidable _)
section TQ
variable {n a f N M v : Nat} {W : Nat → Nat → Nat} {c : Nat → Nat}
theorem tq_e {q : Nat} (h : tq n W c M v q = true) : TiP n W c M v (q / 10) (q % 10) := by
  unfold tq at h; exact @of_decide_eq_true _ (Classical.propDecidable _) h
theorem tq_t {i j : Nat} (hj : j < 10) (h : TiP n W c M v i j) : tq n W c M v (10 * i + j) = true := by
  unfold tq
  rw [show (10 * i + j) / 10 = i by omega, show (10 * i + j) % 10 = j by omega]
  exact @decide_eq_true _ (Classical.propDecidable _) h
theorem tq_f {i j : Nat} (hj : j < 10) (h : ¬ TiP n W c M v i j) : tq n W c M v (10 * i + j) = false := by
  unfold tq
  rw [show (10 * i + j) / 10 = i by omega, show (10 * i + j) % 10 = j by omega]
  exact @decide_eq_false _ (Classical.propDecidable _) h
theorem ct_sub {p q : Nat → Bool} (h : ∀ i, p i = true → q i = true) : ∀ k, ct p k ≤ ct q k
  | 0 => Nat.le_refl _
  | k + 1 => by
    have h1 := ct_sub h k
    have h2 := h k
    rw [ct, ct]
    by_cases e : p k = true
    · rw [if_pos e, if_pos (h2 e)]; omega
    · rw [if_neg e]; omega
theorem ct_pairs : ct (fun q => decide (q / 10 < q % 10)) 100 = 45 := by decide +kernel
theorem tq_45 (k : Nat) (hk : k ≤ 100) : ct (tq n W c M v) k ≤ 45 := by
  have h1 := ct_sub (p := tq n W c M v) (q := fun q => decide (q / 10 < q % 10)) (fun i h => by
    have := tq_e h
    simpa using this.1) k
  have h2 := ct_mono (fun q => decide (q / 10 < q % 10)) hk
  rw [ct_pairs] at h2
  omega
theorem tq_lt45 {q : Nat} (h : tq n W c M v q = true) (hq : q < 100) : ct (tq n W c M v) q < 45 := by
  have h1 := ct_lt (tq n W c M v) hq h
  have h2 := tq_45 (n := n) (W := W) (c := c) (M := M) (v := v) 100 (Nat.le_refl _)
  omega
/-- between the end of a row and the next pair there is no tight pair -/
theorem tq_row (hn : n ≤ 10) (i : Nat) : ct (tq n W c M v) (10 * (i + 1) + (i + 2)) = ct (tq n W c M v) (10 * i + n) := by
  by_cases h : 10 * i + n ≤ 10 * (i + 1) + (i + 2)
  · refine ct_flat h (fun q h1 h2 => ?_)
    cases e : tq n W c M v q with
    | false => rfl
    | true =>
      have := tq_e e
      have h3 := this.1
      have h4 := this.2.1
      omega
  · omega
theorem tq_end (hn : n ≤ 10) (k : Nat) (hk : 10 * n ≤ k + 20) (hk2 : 10 * (n - 1) + n ≤ k + 10) : True := trivial
def TpR (n : Nat) (W : Nat → Nat → Nat) (c : Nat → Nat) (M v k : Nat) (tp : Nat → Int32) : Prop := ∀ q, q < k → tq n W c M v q = true → tp (ct (tq n W c M v) q) = nI q
theorem ft_19 {pl st fp : Int32} {w : Nat → Int32} {ls : Nat → Int32} (h : CW pl st fp w n a f W) (hW : ∀ i j, W i j ≤ 99) (h10 : n ≤ 10) (hM1 : 1 ≤ M) (hM : M ≤ 512) (hN : 600 ≤ N) (hls : LsR c M v ls) {i : Nat} (hi : i < n) (k : Int32 → (Nat → Int32) → Option (Int32 × (Nat → Int32))) (P : Option (Int32 × (Nat → Int32)) → Prop) (hP : ∀ tp, TpR n W c M v (10 * i + n) tp → P (k (nI (ct (tq n W c M v) (10 * i + n))) tp)) (tp : Nat → Int32) (hT : TpR n W c M v (10 * i + (i + 1)) tp) : P (f_X1_findTight_L19 N (nI n) (nI i) (nI n) w (nI (ct (PL c v) M)) ls k N (nI (i + 1)) (nI (ct (tq n W c M v) (10 * i + (i + 1)))) tp) := by
  refine upx (fun m j tp => f_X1_findTight_L19 N (nI n) (nI i) (nI n) w (nI (ct (PL c v) M)) ls k m (nI j) (nI (ct (tq n W c M v) (10 * i + j))) tp) (fun j tp => i + 1 ≤ j ∧ TpR n W c M v (10 * i + j) tp) n P (fun m j tp hj hI => ?_) (fun m tp hI => ?_) N (i + 1) tp (by omega) (by omega) ⟨Nat.le_refl _, hT⟩
  · obtain ⟨hij, hI⟩ := hI
    have ht := tieOf_w h h10 hi hj
    rw [h.1] at ht
    have hb := hW i j
    show ∃ s', _ ∧ f_X1_findTight_L19 N (nI n) (nI i) (nI n) w _ ls k (m + 1) (nI j) _ tp = _
    rw [f_X1_findTight_L19, if_neg (nI_ge hj (by omega)), ht]
    simp only [bd1_ok]
    have no : ¬ TiP n W c M v i j → ∃ s', (i + 1 ≤ j + 1 ∧ TpR n W c M v (10 * i + (j + 1)) s') ∧ f_X1_findTight_J69 (f_X1_findTight_L19 N (nI n) (nI i) (nI n) w (nI (ct (PL c v) M)) ls k m) (nI j) (nI (ct (tq n W c M v) (10 * i + j))) tp = f_X1_findTight_L19 N (nI n) (nI i) (nI n) w (nI (ct (PL c v) M)) ls k m (nI (j + 1)) (nI (ct (tq n W c M v) (10 * i + (j + 1)))) s' := by
      intro hno
      have z := tq_f (by omega : j < 10) hno
      refine ⟨tp, ⟨by omega, fun q hq hq2 => ?_⟩, ?_⟩
      · have : q ≠ 10 * i + j := fun e => by rw [e, z] at hq2; cases hq2
        exact hI q (by omega) hq2
      · unfold f_X1_findTight_J69
        rw [l1, nI_add, show 10 * i + (j + 1) = (10 * i + j) + 1 by omega, ct, z]
        rfl
    by_cases c0 : W i j = 0
    · rw [c0, l0, if_pos (nI_le (Nat.le_refl _) (by omega))]
      exact no (fun h => by have := h.2.2.1; omega)
    · rw [l0, if_neg (nI_ge (by omega) (by omega))]
      rcases pba_n hM1 hM hN (by omega : i < 31) (by omega : j < 31) hls with ⟨h1, h2⟩ | ⟨h1, h2⟩
      · rw [h2]
        simp only [bd1_ok]
        have hT : TiP n W c M v i j := ⟨by omega, hj, by omega, h1⟩
        have z := tq_t (by omega : j < 10) hT
        have hlt := tq_lt45 z (by omega)
        rw [if_neg (show ¬ (1 : Int32) = nI 0 by decide)]
        unfold f_X5_pairNumber
        simp only [bd1_ok]
        rw [chk_n hlt (by omega), nI_clamp (by omega)]
        refine ⟨upd tp (ct (tq n W c M v) (10 * i + j)) (nI (10 * i + j)), ⟨by omega, fun q hq hq2 => ?_⟩, ?_⟩
        · by_cases e : q = 10 * i + j
          · subst e; rw [upd_same]
          · have hl := ct_lt (tq n W c M v) (by omega : q < 10 * i + j) hq2
            rw [upd_ne _ _ (by omega)]
            exact hI q (by omega) hq2
        · unfold f_X1_findTight_J69
          rw [l1, nI_add, nI_add, l10, pk_mul, nI_add, show 10 * i + (j + 1) = (10 * i + j) + 1 by omega, ct, z]
          rfl
      · rw [h2]
        simp only [bd1_ok]
        rw [if_pos (show (0 : Int32) = nI 0 from rfl)]
        exact no (fun h => h1 h.2.2.2)
  · show P (f_X1_findTight_L19 N (nI n) (nI i) (nI n) w _ ls k (m + 1) (nI n) _ tp)
    rw [f_X1_findTight_L19, if_pos (nI_le (Nat.le_refl _) (by omega))]
    exact hP tp hI.2
theorem ft_n {pl st fp : Int32} {w : Nat → Int32} {ls : Nat → Int32} (h : CW pl st fp w n a f W) (hW : ∀ i j, W i j ≤ 99) (h2 : 2 ≤ n) (h10 : n ≤ 10) (hM1 : 1 ≤ M) (hM : M ≤ 512) (hN : 600 ≤ N) (hls : LsR c M v ls) (tp0 : Nat → Int32) : ∃ tp : Nat → Int32, f_X1_findTight N (nI n) (nI (ct (PL c v) M)) ls tp0 (nI n) w = some (nI (ct (tq n W c M v) 100), tp) ∧ TpR n W c M v 100 tp := by
  unfold f_X1_findTight
  have e1 : ct (tq n W c M v) (10 * 0 + (0 + 1)) = 0 := by
    refine ct_zero (fun q hq => ?_)
    cases e : tq n W c M v q with
    | false => rfl
    | true => have := (tq_e e).1; omega
  have e0 : (0 : Int32) = nI (ct (tq n W c M v) (10 * 0 + (0 + 1))) := by rw [e1]; rfl
  have key := upx (fun m i tp => f_X1_findTight_L7 N (nI n) (nI n) w (nI (ct (PL c v) M)) ls (fun x20 a21 => f_X1_findTight_E81 x20 a21) m (nI i) (nI (ct (tq n W c M v) (10 * i + (i + 1)))) tp) (fun i tp => TpR n W c M v (10 * i + (i + 1)) tp) n (fun r => ∃ tp : Nat → Int32, r = some (nI (ct (tq n W c M v) 100), tp) ∧ TpR n W c M v 100 tp) (fun m i tp hi hI => ?_) (fun m tp hI => ?_) N 0 tp0 (by omega) (by omega) (fun q hq hq2 => by have := (tq_e hq2).1; omega)
  · rw [← e0] at key
    exact key
  · show ∃ s', _ ∧ f_X1_findTight_L7 N (nI n) (nI n) w _ ls _ (m + 1) (nI i) _ tp = _
    rw [f_X1_findTight_L7, if_neg (nI_ge hi (by omega)), l1, nI_add]
    refine ft_19 h hW h10 hM1 hM hN hls hi _ (fun r => ∃ s', TpR n W c M v (10 * (i + 1) + (i + 1 + 1)) s' ∧ r = f_X1_findTight_L7 N (nI n) (nI n) w (nI (ct (PL c v) M)) ls (fun x20 a21 => f_X1_findTight_E81 x20 a21) m (nI (i + 1)) (nI (ct (tq n W c M v) (10 * (i + 1) + (i + 1 + 1)))) s') (fun t ht => ⟨t, fun q hq hq2 => ?_, ?_⟩) tp hI
    · by_cases c1 : q < 10 * i + n
      · exact ht q c1 hq2
      · have a1 := (tq_e hq2).1
        have a2 := (tq_e hq2).2.1
        omega
    · unfold f_X1_findTight_E75
      rw [l1, nI_add, show 10 * (i + 1) + (i + 1 + 1) = 10 * (i + 1) + (i + 2) by omega, tq_row h10]
  · show ∃ t, f_X1_findTight_L7 N (nI n) (nI n) w _ ls _ (m + 1) (nI n) _ tp = _ ∧ _
    rw [f_X1_findTight_L7, if_pos (nI_le (Nat.le_refl _) (by omega))]
    have z : ct (tq n W c M v) 100 = ct (tq n W c M v) (10 * n + (n + 1)) := by
      by_cases c1 : 10 * n + (n + 1) ≤ 100
      · refine ct_flat c1 (fun q h1 h2 => ?_)
        cases e : tq n W c M v q with
        | false => rfl
        | true =>
          have a1 := (tq_e e).1
          have a2 := (tq_e e).2.1
          omega
      · refine (ct_flat (by omega) (fun q h1 h2 => ?_)).symm
        cases e : tq n W c M v q with
        | false => rfl
        | true =>
          have a1 := (tq_e e).1
          have a2 := (tq_e e).2.1
          omega
    refine ⟨tp, ?_, fun q hq hq2 => ?_⟩
    · unfold f_X1_findTight_E81
      rw [z]
    · have a1 := (tq_e hq2).1
      have a2 := (tq_e hq2).2.1
      exact hI q (by omega) hq2
end TQ
/-- what a measure holds -/
def Meas (n : Nat) (W : Nat → Nat → Nat) (wts ls tp : Nat → Int32) (v : Nat) : Prop := (∀ t, t < 2 ^ (n - 1) → wts (2 * t) = nI (cut n W (2 * t))) ∧ IsMin (fun t => cut n W (2 * t)) (2 ^ (n - 1)) v ∧ LsR (fun t => cut n W (2 * t)) (2 ^ (n - 1)) v ls ∧ TpR n W (fun t => cut n W (2 * t)) (2 ^ (n - 1)) v 100 tp
def nLs (n : Nat) (W : Nat → Nat → Nat) (v : Nat) : Nat := ct (PL (fun t => cut n W (2 * t)) v) (2 ^ (n - 1))
noncomputable def tQ (n : Nat) (W : Nat → Nat → Nat) (v : Nat) : Nat → Bool := tq n W (fun t => cut n W (2 * t)) (2 ^ (n - 1)) v
theorem meas_n {n a f N : Nat} {pl st fp : Int32} {w : Nat → Int32} {W : Nat → Nat → Nat} (h : CW pl st fp w n a f W) (hw : WF n a f W) (hN : 600 ≤ N) (lw0 : Int32) (wts0 pls0 ls0 tp0 : Nat → Int32) (hz : Zero wts0 pls0) : ∃ (v : Nat) (wts pls ls tp : Nat → Int32), f_X1_measure N lw0 wts0 pls0 ls0 tp0 pl w = some (nI n, nI (2 ^ n), nI v, nI (nLs n W v), nI (ct (tQ n W v) 100), wts, pls, ls, tp) ∧ Meas n W wts ls tp v ∧ Zero wts pls := by
  have h2 := hw.1
  have h10 := hw.2.1
  have hW := hw.2.2.2.2.2.2.2.1
  have hq := p2_s (by omega : 1 ≤ n)
  have hq1 : 2 ^ (n - 1) ≤ 2 ^ 9 := p2_le (by omega)
  have hq2 : 2 ^ 1 ≤ 2 ^ (n - 1) := p2_le (by omega)
  unfold f_X1_measure
  rw [h.1]
  have hC := h
  rw [h.1] at hC
  refine upx (σ := (Nat → Int32) × (Nat → Int32)) (fun m i s => f_X1_measure_L20 N (nI n) w (fun a9 a10 => f_X1_measure_E46 N (nI n) lw0 ls0 tp0 w a9 a10) m (nI i) s.1 s.2) (fun i s => 1 ≤ i ∧ (∀ u, 2 * u < 2 ^ i → s.1 (2 * u) = nI (cut n W (2 * u))) ∧ s.2 0 = 0) n (fun r => ∃ (v : Nat) (wts pls ls tp : Nat → Int32), r = some (nI n, nI (2 ^ n), nI v, nI (nLs n W v), nI (ct (tQ n W v) 100), wts, pls, ls, tp) ∧ Meas n W wts ls tp v ∧ Zero wts pls) (fun m i s hi hI => ?_) (fun m s hI => ?_) N 1 (wts0, pls0) (by omega) (by omega) ⟨Nat.le_refl _, fun u hu => ?_, hz.2⟩
  · obtain ⟨A, B⟩ := s
    obtain ⟨hi1, hA, hB⟩ := hI
    dsimp only at hA hB
    obtain ⟨B', e1, e2⟩ := mp_n hC hW h10 hN hi1 hi B hB
    obtain ⟨A', e3, e4⟩ := mw_n hC hw hN hi1 hi B' A e2 hA
    refine ⟨(A', B'), ⟨by omega, e4, ?_⟩, ?_⟩
    · have := e2 0 (by have : 0 < 2 ^ i := Nat.two_pow_pos i; omega)
      rw [pull_0] at this
      exact this
    · show f_X1_measure_L20 N (nI n) w _ (m + 1) (nI i) A B = _
      rw [f_X1_measure_L20, if_neg (nI_ge hi (by omega)), e1]
      simp only [bd1_ok]
      rw [e3]
      simp only [bd1_ok]
      rw [l1, nI_add]
  · obtain ⟨A, B⟩ := s
    obtain ⟨hi1, hA, hB⟩ := hI
    dsimp only at hA hB
    have hA2 : ∀ t, t < 2 ^ (n - 1) → A (2 * t) = nI (cut n W (2 * t)) := fun t ht => hA t (by omega)
    obtain ⟨v, ls, f1, f2, f3⟩ := fl_n (M := 2 ^ (n - 1)) (c := fun t => cut n W (2 * t)) (by omega) (by omega) hN (fun t => by have := cut_b hW h10 (2 * t); show cut n W (2 * t) ≤ 20000; omega) hA2 lw0 ls0
    obtain ⟨tp, g1, g2⟩ := ft_n hC hW h2 h10 (by omega) (by omega) hN f3 tp0
    refine ⟨v, A, B, ls, tp, ?_, ⟨hA2, f2, f3, g2⟩, ?_, hB⟩
    · show f_X1_measure_L20 N (nI n) w _ (m + 1) (nI n) A B = _
      rw [f_X1_measure_L20, if_pos (nI_le (Nat.le_refl _) (by omega))]
      unfold f_X1_measure_E46
      rw [sh_1 n (by omega), show nI (2 ^ n) = nI (2 * 2 ^ (n - 1)) by rw [← hq], f1]
      simp only [bd3_ok]
      rw [g1]
      rfl
    · have := hA2 0 (by omega)
      rw [Nat.mul_zero, cut_0] at this
      exact this
  · have : u = 0 := by omega
    subst this
    rw [Nat.mul_zero, cut_0]
    exact hz.1
