/-! ===== the draw of acres ===== -/
def fac : Nat → Nat
  | 0 => 1
  | k + 1 => (k + 1) * fac k
section AZ
variable {n t m p c : Nat} {C R C' R' C1 R2 : Mc} {N L N' L' : Md} {e : Nat → Int32}
theorem fac_le : ∀ k, k < 13 → 1 ≤ fac k ∧ fac k ≤ 479001600 := by decide +kernel
theorem fact_L {k : Nat} (hk : k ≤ 12) : ∀ j fu i, 1 ≤ i → i + j = k → j < fu → fX9_factorial_L4 fu (nI k) (nI (fac i)) (nI (i + 1)) = some (nI (fac k))
  | j, 0, _, _, _, hf => by omega
  | 0, fu + 1, i, _, hi, _ => by
    obtain rfl : i = k := by omega
    rw [fX9_factorial_L4, if_pos (nI_lt (by omega) (by omega))]
  | j + 1, fu + 1, i, h1, hi, hf => by
    rw [fX9_factorial_L4, if_neg (nI_nlt (by omega) (by omega)), if_neg (nI_nlt (by omega) (by omega)), za_lt, za_mul, nI_add, show fac i * (i + 1) = fac (i + 1) from Nat.mul_comm _ _]
    exact fact_L hk j fu (i + 1) (by omega) (by omega) (by omega)
theorem fact_c {k : Nat} (hk : k ≤ 12) : fX9_factorial (nI k) = some (nI (fac k)) := by
  unfold fX9_factorial
  by_cases h : 1 ≤ k
  · exact fact_L hk (k - 1) FU 1 (by omega) (by omega) (by rw [za_FU]; omega)
  · obtain rfl : k = 0 := by omega
    rw [za_FU, fX9_factorial_L4, if_pos (by decide +kernel)]; rfl
theorem fact_R {k : Nat} {p0 : Int32} (hk : k ≤ 12) : ∀ j fu i, 1 ≤ i → i + j = k → j < fu → fX12_draw_L19 fu R p0 (nI k) (nI (fac i)) (nI (i + 1)) = (if p0 < 0 then fX12_draw_J46 R p0 (nI k) (nI (fac k)) else if p0 < nI (fac k) then fX12_draw_J51 R p0 (nI k) (nI (fac k)) 0 else fX12_draw_J46 R p0 (nI k) (nI (fac k)))
  | j, 0, _, _, _, hf => by omega
  | 0, fu + 1, i, _, hi, _ => by
    obtain rfl : i = k := by omega
    rw [fX12_draw_L19, if_pos (nI_lt (by omega) (by omega))]
  | j + 1, fu + 1, i, h1, hi, hf => by
    rw [fX12_draw_L19, if_neg (nI_nlt (by omega) (by omega)), za_lt, za_mul, nI_add, show fac i * (i + 1) = fac (i + 1) from Nat.mul_comm _ _]
    exact fact_R hk j fu (i + 1) (by omega) (by omega) (by omega)
/-- the class's row of askers moves up behind the one drawn -/
theorem shift_c {w : Nat} (hw : w ≤ 12) : ∀ k fu i C, C 111 3 = nI w → i + k + 1 = w → k < fu → ∃ C', fX9_drawOne_L60 fu C (nI i) = some C' ∧ C' 111 3 = nI (w - 1) ∧ (∀ b, b ≠ 111 → b ≠ 113 → C' b = C b) ∧ (∀ j, j ≠ 3 → C' 111 j = C 111 j) ∧ (∀ j, j < i → C' 113 j = C 113 j) ∧ ∀ j, i ≤ j → j + 1 < w → C' 113 j = C 113 (j + 1)
  | k, 0, _, _, _, _, hf => by omega
  | 0, fu + 1, i, C, h, hi, _ => by
    rw [fX9_drawOne_L60, nI_add, h, if_pos (nI_le (by omega) (by omega))]
    unfold fX9_drawOne_J98
    rw [za_lt, h, za_sub (by omega)]
    exact ⟨_, rfl, za_wrs _ _ _ _, fun b b1 b2 => za_wrc b1, fun j hj => za_wri hj, fun j hj => za_wra (by omega), fun j h1 h2 => by omega⟩
  | k + 1, fu + 1, i, C, h, hi, hf => by
    rw [fX9_drawOne_L60, nI_add, h, if_neg (nI_ge (by omega) (by omega)), if_neg (nI_ge (by omega) (by omega)), za_chk _ (by omega) (by omega), za_chk _ (by omega) (by omega), za_lt, nI_clamp (by omega), nI_clamp (by omega)]
    obtain ⟨C', j1, j2, j3, j4, j5, j6⟩ := shift_c hw k fu (i + 1) (wr C 113 i (C 113 (i + 1))) (by rw [za_wra (by omega)]; exact h) (by omega) (by omega)
    refine ⟨C', j1, j2, fun b b1 b2 => (j3 b b1 b2).trans (za_wrc b2), fun j hj => (j4 j hj).trans (za_wra (by omega)), fun j hj => (j5 j (by omega)).trans (za_wri (by omega)), fun j h1 h2 => ?_⟩
    by_cases e : j = i
    · subst e; rw [j5 j (by omega), za_wrs]
    · rw [j6 j (by omega) h2, za_wri (by omega)]
/-- the reference's -/
theorem shift_r {w : Nat} {K : Mc → Int32 → Int32 → Int32 → Int32 → Option (Int32 × Mc)} {X2 X3 X4 : Int32} (hw : w ≤ 12) : ∀ k fu i R, i + k + 1 = w → k < fu → ∃ R', fX12_draw_L132 K fu R X2 X3 X4 (nI w) (nI i) = K R' X2 X3 X4 (nI w + (-1)) ∧ (∀ b j, b ≠ 128 ∨ j < 2092 + i ∨ 2092 + w ≤ j + 1 → R' b j = R b j) ∧ ∀ j, i ≤ j → j + 1 < w → R' 128 (2092 + j) = R 128 (2092 + (j + 1))
  | k, 0, _, _, _, hf => by omega
  | 0, fu + 1, i, R, hi, _ => by
    rw [fX12_draw_L132, show w = i + 1 by omega, nis rfl, if_pos (nI_le (Nat.le_refl _) (by omega))]
    exact ⟨R, rfl, fun _ _ _ => rfl, fun j h1 h2 => by omega⟩
  | k + 1, fu + 1, i, R, hi, hf => by
    have hlt : ¬ nI w - nI 1 ≤ nI i := by rw [za_sub (by omega)]; exact nI_ge (by omega) (by omega)
    rw [fX12_draw_L132, if_neg hlt, nI_add, nI_add, nI_add, za_chk _ (by omega) (by omega), za_chk _ (by omega) (by omega), za_lt, nI_clamp (by omega), nI_clamp (by omega)]
    obtain ⟨R', j1, j2, j3⟩ := shift_r (K := K) (X2 := X2) (X3 := X3) (X4 := X4) hw k fu (i + 1) (wr R 128 (2092 + i) (R 128 (2092 + i + 1))) (by omega) (by omega)
    refine ⟨R', j1, fun b j hj => (j2 b j (by omega)).trans ?_, fun j h1 h2 => ?_⟩
    · rw [za_wr, if_neg (by omega)]
    · by_cases e : j = i
      · subst e; rw [j2 _ _ (by omega), za_wrs]; rfl
      · rw [j3 j (by omega) h2, za_wri (by omega)]
end AZ
