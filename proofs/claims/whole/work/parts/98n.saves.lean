/-! ===== the reference keeps a copy of its table, and takes it back ===== -/
section BC
variable {n t m p c : Nat} {C R C' R' C1 R2 : Mc} {N L N' L' : Md} {e : Nat → Int32}
theorem saves_L : ∀ k fu i R, i + k = 2132 → k < fu → ∃ R', fX12_saves_L2 fu R (nI i) = some R' ∧ (∀ b, b ≠ 129 → R' b = R b) ∧ (∀ j, j < i → R' 129 j = R 129 j) ∧ ∀ j, i ≤ j → j < 2132 → R' 129 j = R 128 j
  | k, 0, _, _, _, hf => by omega
  | 0, fu + 1, i, R, hi, _ => by
    rw [fX12_saves_L2, if_pos (nI_le (by omega) (by omega))]
    exact ⟨R, rfl, fun _ _ => rfl, fun _ _ => rfl, fun j h1 h2 => by omega⟩
  | k + 1, fu + 1, i, R, hi, hf => by
    rw [fX12_saves_L2, if_neg (nI_ge (by omega) (by omega)), za_chk _ (by omega) (by omega), za_chk _ (by omega) (by omega), za_lt, nI_clamp (by omega), nI_add]
    obtain ⟨R', j1, j2, j3, j4⟩ := saves_L k fu (i + 1) (wr R 129 i (R 128 i)) (by omega) (by omega)
    refine ⟨R', j1, fun b hb => (j2 b hb).trans (za_wrc hb), fun j hj => (j3 j (by omega)).trans (za_wri (by omega)), fun j h1 h2 => ?_⟩
    by_cases e : j = i
    · subst e; rw [j3 j (by omega), za_wrs]
    · rw [j4 j (by omega) h2, za_wra (by omega)]
theorem back_L : ∀ k fu i R, i + k = 2132 → k < fu → ∃ R', fX12_back_L2 fu R (nI i) = some R' ∧ (∀ b, b ≠ 128 → R' b = R b) ∧ (∀ j, j < i ∨ 2132 ≤ j → R' 128 j = R 128 j) ∧ ∀ j, i ≤ j → j < 2132 → R' 128 j = R 129 j
  | k, 0, _, _, _, hf => by omega
  | 0, fu + 1, i, R, hi, _ => by
    rw [fX12_back_L2, if_pos (nI_le (by omega) (by omega))]
    exact ⟨R, rfl, fun _ _ => rfl, fun _ _ => rfl, fun j h1 h2 => by omega⟩
  | k + 1, fu + 1, i, R, hi, hf => by
    rw [fX12_back_L2, if_neg (nI_ge (by omega) (by omega)), za_chk _ (by omega) (by omega), za_chk _ (by omega) (by omega), za_lt, nI_clamp (by omega), nI_add]
    obtain ⟨R', j1, j2, j3, j4⟩ := back_L k fu (i + 1) (wr R 128 i (R 129 i)) (by omega) (by omega)
    refine ⟨R', j1, fun b hb => (j2 b hb).trans (za_wrc hb), fun j hj => (j3 j (by omega)).trans (za_wri (by omega)), fun j h1 h2 => ?_⟩
    by_cases e : j = i
    · subst e; rw [j3 j (by omega), za_wrs]
    · rw [j4 j (by omega) h2, za_wra (by omega)]
theorem saves_c (R : Mc) : ∃ R', fX12_saves R = some R' ∧ (∀ b, b ≠ 129 → R' b = R b) ∧ ∀ j, j < 2132 → R' 129 j = R 128 j := by
  obtain ⟨R', j1, j2, _, j4⟩ := saves_L 2132 FU 0 R (by omega) (by rw [za_FU]; omega)
  rw [nI_0] at j1
  exact ⟨R', j1, j2, fun j hj => j4 j (by omega) hj⟩
theorem back_c (R : Mc) : ∃ R', fX12_back R = some R' ∧ (∀ b, b ≠ 128 → R' b = R b) ∧ (∀ j, j < 2132 → R' 128 j = R 129 j) ∧ ∀ j, 2132 ≤ j → R' 128 j = R 128 j := by
  obtain ⟨R', j1, j2, j3, j4⟩ := back_L 2132 FU 0 R (by omega) (by rw [za_FU]; omega)
  rw [nI_0] at j1
  exact ⟨R', j1, j2, fun j hj => j4 j (by omega) hj, fun j hj => j3 j (by omega)⟩
end BC
