section BA
variable {n t m p c : Nat} {C R C' R' C1 R2 : Mc} {N L N' L' : Md} {e : Nat → Int32}
def DR (C R : Mc) (d w : Nat) : Prop := d + w ≤ 12 ∧ C 111 2 = nI d ∧ C 111 3 = nI w ∧ R 128 2131 = nI d ∧ (∀ k, k < d → R 128 (2080 + k) = C 112 k) ∧ (∀ k, d ≤ k → k < 12 → R 128 (2080 + k) = -1) ∧ ∀ k, k < w → R 128 (2092 + k) = C 113 k
def FT (C C' R R' : Mc) : Prop := (∀ b, b ≠ 111 → b ≠ 112 → b ≠ 113 → C' b = C b) ∧ (∀ b, b ≠ 128 → R' b = R b) ∧ ∀ j, (j < 2080 ∨ (2104 ≤ j ∧ j ≠ 2131)) → R' 128 j = R 128 j
theorem one_c {d w i : Nat} (h : DR C R d (w + 1)) (hi : i ≤ w) : ∃ C', fX9_drawOne C (nI i) = some C' ∧ C' 111 2 = nI (d + 1) ∧ C' 111 3 = nI w ∧ (∀ b, b ≠ 111 → b ≠ 112 → b ≠ 113 → C' b = C b) ∧ C' 112 d = C 113 i ∧ (∀ k, k ≠ d → C' 112 k = C 112 k) ∧ (∀ j, j < i → C' 113 j = C 113 j) ∧ ∀ j, i ≤ j → j < w → C' 113 j = C 113 (j + 1) := by
  obtain ⟨h0, h1, h2, _⟩ := h
  unfold fX9_drawOne
  rw [h1, h2, za_inY (show i < w + 1 by omega) (by omega), za_bnd, if_neg za_n10, za_inY (show i < 12 by omega) (by omega), za_bnd, if_neg za_n10, za_inY (show d < 12 by omega) (by omega), za_bnd, if_neg za_n10, za_chk _ (by omega) (by omega), za_chk _ (by omega) (by omega), za_lt, nI_clamp (by omega), nI_clamp (by omega), za_lt, za_wra (by omega), h1, nI_add]
  obtain ⟨C', j1, j2, j3, j4, j5, j6⟩ := shift_c (w := w + 1) (by omega) (w - i) FU i (wr (wr C 112 d (C 113 i)) 111 2 (nI (d + 1))) (by rw [za_wri (by omega), za_wra (by omega)]; exact h2) (by omega) (by rw [za_FU]; omega)
  refine ⟨C', j1, by rw [j4 2 (by omega), za_wrs], by rw [j2]; rfl, fun b b1 b2 b3 => by rw [j3 b b1 b3, za_wrc b1, za_wrc b2], by rw [j3 112 (by omega) (by omega), za_wra (by omega), za_wrs], fun k hk => by rw [j3 112 (by omega) (by omega), za_wra (by omega), za_wri hk], fun j hj => by rw [j5 j hj, za_wra (by omega), za_wra (by omega)], fun j h1 h2 => by rw [j6 j h1 (by omega), za_wra (by omega), za_wra (by omega)]⟩
theorem div_le' {x w : Nat} (hw : w < 12) (hx : x < fac (w + 1)) : x / fac w ≤ w ∧ x % fac w < fac w := by
  have h1 := (fac_le w (by omega)).1
  refine ⟨?_, Nat.mod_lt _ (by omega)⟩
  have : x / fac w < w + 1 := Nat.div_lt_of_lt_mul (by rw [Nat.mul_comm]; exact hx)
  omega
theorem both_L {w0 : Nat} (hw0 : w0 ≤ 12) : ∀ w fu fr d i x C R, i + w = w0 → w < fu → w < fr → DR C R d w → x < fac w → ∃ C' R', fX9_drawBy_L10 fu C (nI w0) (nI x) (nI i) = some (nI w0, C') ∧ fX12_draw_L66 fr R (nI w0) (nI (fac w)) (nI x) (nI w) = some (nI w0, wr R' 128 2130 0) ∧ DR C' R' (d + w) 0 ∧ FT C C' R R'
  | w, 0, _, _, _, _, _, _, _, hf, _, _, _ => by omega
  | w, _, 0, _, _, _, _, _, _, _, hf, _, _ => by omega
  | 0, fu + 1, fr + 1, d, i, x, C, R, hi, _, _, h, hx => by
    obtain rfl : i = w0 := by omega
    rw [fX9_drawBy_L10, fX12_draw_L66, if_pos (nI_le (Nat.le_refl _) (by omega)), if_pos (by decide +kernel), za_chk _ (by omega) (by omega), za_lt, nI_clamp (by omega)]
    exact ⟨C, R, rfl, rfl, h, fun _ _ _ _ => rfl, fun _ _ => rfl, fun _ _ => rfl⟩
  | w + 1, fu + 1, fr + 1, d, i, x, C, R, hi, hf, hfr, h, hx => by
    obtain ⟨h0, h1, h2, h3, h4, h5, h6⟩ := h
    obtain ⟨f1, f2⟩ := fac_le w (by omega)
    obtain ⟨f3, f4⟩ := fac_le (w + 1) (by omega)
    obtain ⟨x1, x2⟩ := div_le' (x := x) (w := w) (by omega) hx
    generalize hq : x / fac w = q at x1
    generalize hr : x % fac w = r at x2
    obtain ⟨C2, c1, c2, c3, c4, c5, c6, c7, c8⟩ := one_c (i := q) ⟨h0, h1, h2, h3, h4, h5, h6⟩ x1
    have hne : nI (fac w) ≠ 0 := fun z => by have := (za_eq0 (by omega)).mp z; omega
    have hnw : nI (w + 1) ≠ 0 := fun z => by have := (za_eq0 (by omega)).mp z; omega
    have hdv : fac (w + 1) / (w + 1) = fac w := by
      show (w + 1) * fac w / (w + 1) = fac w
      exact Nat.mul_div_cancel_left _ (by omega)
    obtain ⟨R2, r1, r2, r3⟩ := shift_r (K := fun M X0 X1 X2 X3 => fX12_draw_L66 fr M X0 X1 X2 X3) (X2 := nI w0) (X3 := nI (fac w)) (X4 := nI (r)) (w := w + 1) (by omega) (w - q) FU (q) (wr (wr R 128 (2080 + d) (C 113 (q))) 128 2131 (nI (d + 1))) (by omega) (by rw [za_FU]; omega)
    have hDR : DR C2 R2 (d + 1) w := by
      refine ⟨by omega, c2, c3, ?_, fun k hk => ?_, fun k k1 k2 => ?_, fun k hk => ?_⟩
      · rw [r2 _ _ (by omega), za_wrs]
      · rw [r2 _ _ (by omega), za_wri (by omega)]
        by_cases e : k = d
        · subst e; rw [za_wrs, c5]
        · rw [za_wri (by omega), c6 k e]; exact h4 k (by omega)
      · rw [r2 _ _ (by omega), za_wri (by omega), za_wri (by omega)]; exact h5 k (by omega) k2
      · by_cases e : k < q
        · rw [r2 _ _ (by omega), za_wri (by omega), za_wri (by omega), c7 k e]; exact h6 k (by omega)
        · rw [r3 k (by omega) (by omega), za_wri (by omega), za_wri (by omega), c8 k (by omega) hk]; exact h6 (k + 1) (by omega)
    obtain ⟨C', R', j1, j2, j3, j4, j5, j6⟩ := both_L hw0 w fu fr (d + 1) (i + 1) (r) C2 R2 (by omega) (by omega) (by omega) hDR x2
    rw [show d + 1 + w = d + (w + 1) by omega] at j3
    refine ⟨C', R', ?_, ?_, j3, fun b b1 b2 b3 => (j4 b b1 b2 b3).trans (c4 b b1 b2 b3), fun b hb => (j5 b hb).trans ?_, fun j hj => (j6 j hj).trans ?_⟩
    · rw [fX9_drawBy_L10, if_neg (nI_ge (by omega) (by omega)), h2, nis rfl, fact_c (by omega), za_bnd, if_pos (by rw [za_0lt (by omega)]; omega), za_chz _ hne, za_div (by omega) (by omega) (by omega), hq, c1, za_bnd, za_chz _ hne, za_irm (by omega) (by omega) (by omega), hr, za_lt, nI_add]
      exact j1
    · rw [fX12_draw_L66, if_neg (by rw [za_le0 (by omega)]; omega), za_chz _ hnw, za_lt, za_div (by omega) (by omega) (by omega), hdv, za_chz _ hne, za_lt, za_div (by omega) (by omega) (by omega), hq, za_chz _ hne, za_lt, za_irm (by omega) (by omega) (by omega), hr]
      simp only [nI_add]
      rw [za_chk (n := 2131) _ (by omega) (by omega), za_chk (n := 2092 + q) _ (by omega) (by omega), nI_clamp (n := 2131) (by omega), h3, nI_add, za_chk (n := 2080 + d) _ (by omega) (by omega), za_lt, nI_clamp (n := 2080 + d) (by omega), nI_clamp (n := 2092 + q) (by omega), h6 _ (by omega), za_chk (n := 2131) _ (by omega) (by omega), za_chk (n := 2131) _ (by omega) (by omega), za_lt, za_wri (by omega), h3, nI_add, r1]
      rw [show nI (w + 1) + (-1) = nI w by rw [← nis (show w + 1 = w + 1 from rfl), Int32.sub_eq_add_neg]; rfl]
      exact j2
    · funext j
      rw [r2 b j (Or.inl hb), za_wra hb, za_wra hb]
    · rw [r2 _ _ (by omega), za_wri (by omega), za_wri (by omega)]
end BA
