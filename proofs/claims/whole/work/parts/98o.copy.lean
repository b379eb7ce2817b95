/-! ===== the other world is filled anew from the one that is ===== -/
def cpN (f g : Nat → Int32) (K : Nat) : Nat → Int32 := fun j => if j < K then f j else g j
def cpU (M : Mc) (k1 k0 K : Nat) : Mc := up M k1 (cpN (M k0) (M k1) K)
theorem cpU_o {M : Mc} {k1 k0 K b : Nat} (h : b ≠ k1) : cpU M k1 k0 K b = M b := up_o h
theorem cpU_c {M : Mc} {k1 k0 K j : Nat} (h : j < K) : cpU M k1 k0 K k1 j = M k0 j := by unfold cpU; rw [up_c]; exact if_pos h
theorem cpy_0 {β : Type} {M : Mc} {k0 k1 K : Nat} {f : Mc → Option β} (hK : K < 2 ^ 31) : cpy M k0 K 0 k1 K 0 (nI K) f = f (cpU M k1 k0 K) := by
  unfold cpy
  have h0 : (0 : Int32).toNatClampNeg = 0 := rfl
  rw [h0, nI_clamp hK, if_neg]
  · have : va_cpy (M k0) (M k1) 0 0 K = cpN (M k0) (M k1) K := by
      funext j; unfold va_cpy cpN
      by_cases q : j < K
      · rw [if_pos ⟨Nat.zero_le _, by omega⟩, if_pos q]; congr 1; omega
      · rw [if_neg (by omega), if_neg q]
    rw [this]; rfl
  · rintro (z | z | z | z | z)
    · exact absurd z (by decide)
    · exact absurd z (by decide)
    · exact nI_pos hK z
    · omega
    · omega
theorem cp5 (M : Mc) : ∃ M', fX5_copyFrom M (64 + 27) (17 + 27) = some M' ∧ (∀ b, b < 91 ∨ 95 < b → M' b = M b) ∧ M' (64 + 27) 0 = M (17 + 27) 0 ∧ (∀ k j, 28 ≤ k → k ≤ 30 → j < 4 → M' (64 + k) j = M (17 + k) j) ∧ ∀ j, j < 48 → M' (64 + 31) j = M (17 + 31) j := by
  unfold fX5_copyFrom
  rw [za_lt, cpy_0 (by omega), cpy_0 (by omega), cpy_0 (by omega), cpy_0 (by omega)]
  refine ⟨_, rfl, fun b hb => ?_, ?_, fun k j h1 h2 hj => ?_, fun j hj => ?_⟩
  · rw [cpU_o (by omega), cpU_o (by omega), cpU_o (by omega), cpU_o (by omega), za_wrc (by omega)]
  · simp (disch := omega) only [cpU_o, za_wrs]
  · rcases (show k = 28 ∨ k = 29 ∨ k = 30 by omega) with rfl | rfl | rfl
    · rw [cpU_o (by omega), cpU_o (by omega), cpU_o (by omega), show 64 + 28 = 64 + 27 + 1 from rfl, cpU_c hj]
      simp (disch := omega) only [cpU_o, za_wra]
    · rw [cpU_o (by omega), cpU_o (by omega), show 64 + 29 = 64 + 27 + 2 from rfl, cpU_c hj]
      simp (disch := omega) only [cpU_o, za_wra]
    · rw [cpU_o (by omega), show 64 + 30 = 64 + 27 + 3 from rfl, cpU_c hj]
      simp (disch := omega) only [cpU_o, za_wra]
  · rw [show 64 + 31 = 64 + 27 + 4 from rfl, cpU_c hj]
    simp (disch := omega) only [cpU_o, za_wra]
theorem cp1 (M : Mc) : ∃ M', fX1_copyFrom M (64 + 32) (17 + 32) = some M' ∧ (∀ b, b < 96 ∨ 100 < b → M' b = M b) ∧ (∀ j, j ≤ 1 → M' (64 + 32) j = M (17 + 32) j) ∧ ∀ k j, 33 ≤ k → k ≤ 36 → j < 20 → M' (64 + k) j = M (17 + k) j := by
  unfold fX1_copyFrom
  simp only [za_lt]
  rw [cpy_0 (by omega), cpy_0 (by omega), cpy_0 (by omega), cpy_0 (by omega)]
  refine ⟨_, rfl, fun b hb => ?_, fun j hj => ?_, fun k j h1 h2 hj => ?_⟩
  · rw [cpU_o (by omega), cpU_o (by omega), cpU_o (by omega), cpU_o (by omega), za_wrc (by omega), za_wrc (by omega)]
  · rw [cpU_o (by omega), cpU_o (by omega), cpU_o (by omega), cpU_o (by omega)]
    rcases (show j = 0 ∨ j = 1 by omega) with rfl | rfl
    · rw [za_wri (by omega), za_wrs]
    · rw [za_wrs, za_wra (by omega)]
  · rcases (show k = 33 ∨ k = 34 ∨ k = 35 ∨ k = 36 by omega) with rfl | rfl | rfl | rfl
    · rw [cpU_o (by omega), cpU_o (by omega), cpU_o (by omega), show 64 + 33 = 64 + 32 + 1 from rfl, cpU_c hj]
      simp (disch := omega) only [cpU_o, za_wra]
    · rw [cpU_o (by omega), cpU_o (by omega), show 64 + 34 = 64 + 32 + 2 from rfl, cpU_c hj]
      simp (disch := omega) only [cpU_o, za_wra]
    · rw [cpU_o (by omega), show 64 + 35 = 64 + 32 + 3 from rfl, cpU_c hj]
      simp (disch := omega) only [cpU_o, za_wra]
    · rw [show 64 + 36 = 64 + 32 + 4 from rfl, cpU_c hj]
      simp (disch := omega) only [cpU_o, za_wra]
theorem cp2 (M : Mc) : ∃ M', fX2_copyFrom M (64 + 37) (17 + 37) = some M' ∧ (∀ b, b < 101 ∨ 105 < b → M' b = M b) ∧ (∀ j, 1 ≤ j → j ≤ 2 → M' (64 + 37) j = M (17 + 37) j) ∧ ∀ k j, 38 ≤ k → k ≤ 41 → j < 12 → M' (64 + k) j = M (17 + k) j := by
  unfold fX2_copyFrom
  simp only [za_lt]
  rw [cpy_0 (by omega), cpy_0 (by omega), cpy_0 (by omega), cpy_0 (by omega)]
  refine ⟨_, rfl, fun b hb => ?_, fun j hj hj2 => ?_, fun k j h1 h2 hj => ?_⟩
  · rw [cpU_o (by omega), cpU_o (by omega), cpU_o (by omega), cpU_o (by omega), za_wrc (by omega), za_wrc (by omega)]
  · rw [cpU_o (by omega), cpU_o (by omega), cpU_o (by omega), cpU_o (by omega)]
    rcases (show j = 1 ∨ j = 2 by omega) with rfl | rfl
    · rw [za_wri (by omega), za_wrs]
    · rw [za_wrs, za_wra (by omega)]
  · rcases (show k = 38 ∨ k = 39 ∨ k = 40 ∨ k = 41 by omega) with rfl | rfl | rfl | rfl
    · rw [cpU_o (by omega), cpU_o (by omega), cpU_o (by omega), show 64 + 38 = 64 + 37 + 1 from rfl, cpU_c hj]
      simp (disch := omega) only [cpU_o, za_wra]
    · rw [cpU_o (by omega), cpU_o (by omega), show 64 + 39 = 64 + 37 + 2 from rfl, cpU_c hj]
      simp (disch := omega) only [cpU_o, za_wra]
    · rw [cpU_o (by omega), show 64 + 40 = 64 + 37 + 3 from rfl, cpU_c hj]
      simp (disch := omega) only [cpU_o, za_wra]
    · rw [show 64 + 41 = 64 + 37 + 4 from rfl, cpU_c hj]
      simp (disch := omega) only [cpU_o, za_wra]
theorem cp3_L : ∀ k fu i M, i + k = 100 → k < fu → (∀ j, j < 100 → isZ (M (17 + 24) j)) → ∃ M', fX3_copyFrom_L159 (64 + 15) (17 + 15) fu M (nI i) = some M' ∧ (∀ b, b ≠ 64 + 24 → b ≠ 64 + 25 → b ≠ 64 + 26 → M' b = M b) ∧ (∀ j, j < i → M' (64 + 24) j = M (64 + 24) j) ∧ (∀ j, i ≤ j → j < 100 → M' (64 + 24) j = M (17 + 24) j) ∧ ∀ j, j < 100 → M' (64 + 25) j = M (17 + 25) j ∧ M' (64 + 26) j = M (17 + 26) j
  | k, 0, _, _, _, hf, _ => by omega
  | 0, fu + 1, i, M, hi, _, _ => by
    rw [fX3_copyFrom_L159, if_pos (nI_le (by omega) (by omega)), cpy_0 (by omega), cpy_0 (by omega)]
    refine ⟨_, rfl, fun b h1 h2 h3 => ?_, fun j hj => ?_, fun j h1 h2 => ?_, fun j hj => ⟨?_, ?_⟩⟩
    · rw [cpU_o (by omega), cpU_o (by omega)]
    · rw [cpU_o (by omega), cpU_o (by omega)]
    · omega
    · rw [cpU_o (by omega), show 64 + 25 = 64 + 15 + 10 from rfl, cpU_c hj]
    · rw [show 64 + 26 = 64 + 15 + 11 from rfl, cpU_c hj, cpU_o (by omega)]
  | k + 1, fu + 1, i, M, hi, hf, hz => by
    rw [fX3_copyFrom_L159, if_neg (nI_ge (by omega) (by omega)), za_chk _ (by omega) (by omega), za_chk _ (by omega) (by omega), za_lt, nI_clamp (by omega), nI_add, narz (hz i (by omega))]
    obtain ⟨M', j1, j2, j3, j4, j5⟩ := cp3_L k fu (i + 1) (wr M (64 + 15 + 9) i (M (17 + 15 + 9) i)) (by omega) (by omega) (fun j hj => by rw [za_wra (by omega)]; exact hz j hj)
    refine ⟨M', j1, fun b h1 h2 h3 => (j2 b h1 h2 h3).trans (za_wrc (by omega)), fun j hj => (j3 j (by omega)).trans (za_wri (by omega)), fun j h1 h2 => ?_, fun j hj => ⟨(j5 j hj).1.trans (za_wra (by omega)), (j5 j hj).2.trans (za_wra (by omega))⟩⟩
    by_cases e : j = i
    · subst e; rw [j3 j (by omega)]; exact za_wrs _ _ _ _
    · rw [j4 j (by omega) h2, za_wra (by omega)]
theorem cp3 (M : Mc) (hz : ∀ j, j < 100 → isZ (M (17 + 24) j)) : ∃ M', fX3_copyFrom M (64 + 15) (17 + 15) = some M' ∧ (∀ b, b < 79 ∨ 90 < b → M' b = M b) ∧ (∀ j, j ≤ 3 → M' (64 + 15) j = M (17 + 15) j) ∧ ∀ k j, 16 ≤ k → k ≤ 26 → j < 100 → M' (64 + k) j = M (17 + k) j := by
  unfold fX3_copyFrom
  rw [za_lt, za_lt, za_lt, za_lt]
  rw [cpy_0 (by omega), cpy_0 (by omega), cpy_0 (by omega), cpy_0 (by omega), cpy_0 (by omega), cpy_0 (by omega), cpy_0 (by omega), cpy_0 (by omega), za_0]
  obtain ⟨M', j1, j2, j3, j4, j5⟩ := cp3_L 100 FU 0 (cpU (cpU (cpU (cpU (cpU (cpU (cpU (cpU (wr (wr (wr (wr M (64 + 15) 0 (M (17 + 15) 0)) (64 + 15) 1 (wr M (64 + 15) 0 (M (17 + 15) 0) (17 + 15) 1)) (64 + 15) 2 (wr (wr M (64 + 15) 0 (M (17 + 15) 0)) (64 + 15) 1 (wr M (64 + 15) 0 (M (17 + 15) 0) (17 + 15) 1) (17 + 15) 2)) (64 + 15) 3 (wr (wr (wr M (64 + 15) 0 (M (17 + 15) 0)) (64 + 15) 1 (wr M (64 + 15) 0 (M (17 + 15) 0) (17 + 15) 1)) (64 + 15) 2 (wr (wr M (64 + 15) 0 (M (17 + 15) 0)) (64 + 15) 1 (wr M (64 + 15) 0 (M (17 + 15) 0) (17 + 15) 1) (17 + 15) 2) (17 + 15) 3)) (64 + 15 + 1) (17 + 15 + 1) 100) (64 + 15 + 2) (17 + 15 + 2) 100) (64 + 15 + 3) (17 + 15 + 3) 100) (64 + 15 + 4) (17 + 15 + 4) 100) (64 + 15 + 5) (17 + 15 + 5) 100) (64 + 15 + 6) (17 + 15 + 6) 100) (64 + 15 + 7) (17 + 15 + 7) 100) (64 + 15 + 8) (17 + 15 + 8) 100) (by omega) (by rw [za_FU]; omega) (fun j hj => by
    simp (disch := omega) only [cpU_o, za_wra]; exact hz j hj)
  refine ⟨M', j1, fun b hb => ?_, fun j hj => ?_, fun k j h1 h2 hj => ?_⟩
  · rw [j2 b (by omega) (by omega) (by omega)]
    simp (disch := omega) only [cpU_o, za_wrc]
  · rw [j2 _ (by omega) (by omega) (by omega)]
    rcases (show j = 0 ∨ j = 1 ∨ j = 2 ∨ j = 3 by omega) with rfl | rfl | rfl | rfl <;> simp (disch := omega) only [cpU_o, za_wri, za_wrs, za_wra]
  · rcases (show k = 16 ∨ k = 17 ∨ k = 18 ∨ k = 19 ∨ k = 20 ∨ k = 21 ∨ k = 22 ∨ k = 23 ∨ k = 24 ∨ k = 25 ∨ k = 26 by omega) with rfl | rfl | rfl | rfl | rfl | rfl | rfl | rfl | rfl | rfl | rfl
    · rw [j2 _ (by omega) (by omega) (by omega), cpU_o (by omega), cpU_o (by omega), cpU_o (by omega), cpU_o (by omega), cpU_o (by omega), cpU_o (by omega), cpU_o (by omega), show 64 + 16 = 64 + 15 + 1 from rfl, cpU_c hj]
      simp (disch := omega) only [cpU_o, za_wra]
    · rw [j2 _ (by omega) (by omega) (by omega), cpU_o (by omega), cpU_o (by omega), cpU_o (by omega), cpU_o (by omega), cpU_o (by omega), cpU_o (by omega), show 64 + 17 = 64 + 15 + 2 from rfl, cpU_c hj]
      simp (disch := omega) only [cpU_o, za_wra]
    · rw [j2 _ (by omega) (by omega) (by omega), cpU_o (by omega), cpU_o (by omega), cpU_o (by omega), cpU_o (by omega), cpU_o (by omega), show 64 + 18 = 64 + 15 + 3 from rfl, cpU_c hj]
      simp (disch := omega) only [cpU_o, za_wra]
    · rw [j2 _ (by omega) (by omega) (by omega), cpU_o (by omega), cpU_o (by omega), cpU_o (by omega), cpU_o (by omega), show 64 + 19 = 64 + 15 + 4 from rfl, cpU_c hj]
      simp (disch := omega) only [cpU_o, za_wra]
    · rw [j2 _ (by omega) (by omega) (by omega), cpU_o (by omega), cpU_o (by omega), cpU_o (by omega), show 64 + 20 = 64 + 15 + 5 from rfl, cpU_c hj]
      simp (disch := omega) only [cpU_o, za_wra]
    · rw [j2 _ (by omega) (by omega) (by omega), cpU_o (by omega), cpU_o (by omega), show 64 + 21 = 64 + 15 + 6 from rfl, cpU_c hj]
      simp (disch := omega) only [cpU_o, za_wra]
    · rw [j2 _ (by omega) (by omega) (by omega), cpU_o (by omega), show 64 + 22 = 64 + 15 + 7 from rfl, cpU_c hj]
      simp (disch := omega) only [cpU_o, za_wra]
    · rw [j2 _ (by omega) (by omega) (by omega), show 64 + 23 = 64 + 15 + 8 from rfl, cpU_c hj]
      simp (disch := omega) only [cpU_o, za_wra]
    · rw [j4 j (by omega) hj]
      simp (disch := omega) only [cpU_o, za_wra]
    · rw [(j5 j hj).1]
      simp (disch := omega) only [cpU_o, za_wra]
    · rw [(j5 j hj).2]
      simp (disch := omega) only [cpU_o, za_wra]
theorem cp4_L : ∀ k fu i M, i + k = 96 → k < fu → (∀ j, j < 96 → isZ (M (17 + 9) j)) → ∃ M', fX4_copyFrom_L127 (64 + 1) (17 + 1) fu M (nI i) = some M' ∧ (∀ b, b ≠ 64 + 1 → b ≠ 64 + 9 → b ≠ 64 + 12 → b ≠ 64 + 13 → b ≠ 64 + 14 → M' b = M b) ∧ (∀ j, j < i → M' (64 + 9) j = M (64 + 9) j) ∧ (∀ j, i ≤ j → j < 96 → M' (64 + 9) j = M (17 + 9) j) ∧ M' (64 + 1) 9 = M (17 + 1) 9 ∧ ∀ k j, 12 ≤ k → k ≤ 14 → j < 4 → M' (64 + k) j = M (17 + k) j
  | k, 0, _, _, _, hf, _ => by omega
  | 0, fu + 1, i, M, hi, _, _ => by
    rw [fX4_copyFrom_L127, if_pos (nI_le (by omega) (by omega)), za_lt, cpy_0 (by omega), cpy_0 (by omega), cpy_0 (by omega)]
    refine ⟨_, rfl, fun b h1 h3 h4 h5 h6 => ?_, fun j hj => ?_, fun j h1 h2 => ?_, ?_, fun k j h1 h2 hj => ?_⟩
    · rw [cpU_o (by omega), cpU_o (by omega), cpU_o (by omega), za_wrc (by omega)]
    · rw [cpU_o (by omega), cpU_o (by omega), cpU_o (by omega), za_wrc (by omega)]
    · omega
    · rw [cpU_o (by omega), cpU_o (by omega), cpU_o (by omega), za_wrs]
    · rcases (show k = 12 ∨ k = 13 ∨ k = 14 by omega) with rfl | rfl | rfl
      · rw [cpU_o (by omega), cpU_o (by omega), show 64 + 12 = 64 + 1 + 11 from rfl, cpU_c hj, za_wra (by omega)]
      · rw [cpU_o (by omega), show 64 + 13 = 64 + 1 + 12 from rfl, cpU_c hj, cpU_o (by omega), za_wra (by omega)]
      · rw [show 64 + 14 = 64 + 1 + 13 from rfl, cpU_c hj, cpU_o (by omega), cpU_o (by omega), za_wra (by omega)]
  | k + 1, fu + 1, i, M, hi, hf, hz => by
    rw [fX4_copyFrom_L127, if_neg (nI_ge (by omega) (by omega))]
    simp only [za_chk _ (show i < 96 by omega) (show 96 < 2 ^ 31 by omega), za_lt, nI_clamp (show i < 2 ^ 31 by omega), nI_add]
    rw [show vp_nar .boolean (M (17 + 1 + 8) i) = M (17 + 1 + 8) i from narz (hz i (by omega))]
    obtain ⟨M', j1, j2, j3, j4, j5, j6⟩ := cp4_L k fu (i + 1) (wr M (64 + 1 + 8) i (M (17 + 1 + 8) i)) (by omega) (by omega) (fun j hj => by rw [za_wra (by omega)]; exact hz j hj)
    refine ⟨M', j1, fun b h1 h3 h4 h5 h6 => (j2 b h1 h3 h4 h5 h6).trans (by rw [za_wrc (by omega)]), fun j hj => (j3 j (by omega)).trans ?_, fun j h1 h2 => ?_, j5.trans (by rw [za_wra (by omega)]), fun k j h1 h2 hj => (j6 k j h1 h2 hj).trans (by rw [za_wra (by omega)])⟩
    · rw [za_wri (by omega)]
    · by_cases e : j = i
      · subst e
        refine (j3 j (by omega)).trans ?_
        exact za_wrs _ _ _ _
      · refine (j4 j (by omega) h2).trans ?_
        rw [za_wra (by omega)]
theorem cp4 (M : Mc) (hz : ∀ j, j < 96 → isZ (M (17 + 9) j)) : ∃ M', fX4_copyFrom M (64 + 1) (17 + 1) = some M' ∧ (∀ b, b < 65 ∨ 78 < b → M' b = M b) ∧ M' (64 + 1) 9 = M (17 + 1) 9 ∧ (∀ k j, 2 ≤ k → k ≤ 11 → k ≠ 3 → j < 96 → M' (64 + k) j = M (17 + k) j) ∧ ∀ k j, 12 ≤ k → k ≤ 14 → j < 4 → M' (64 + k) j = M (17 + k) j := by
  unfold fX4_copyFrom
  rw [cpy_0 (by omega), cpy_0 (by omega), cpy_0 (by omega), cpy_0 (by omega), cpy_0 (by omega), cpy_0 (by omega), cpy_0 (by omega), cpy_0 (by omega), za_0]
  obtain ⟨M', j1, j2, j3, j4, j5, j6⟩ := cp4_L 96 FU 0 (cpU (cpU (cpU (cpU (cpU (cpU (cpU (cpU M (64 + 1 + 1) (17 + 1 + 1) 96) (64 + 1 + 3) (17 + 1 + 3) 96) (64 + 1 + 4) (17 + 1 + 4) 96) (64 + 1 + 5) (17 + 1 + 5) 96) (64 + 1 + 6) (17 + 1 + 6) 96) (64 + 1 + 7) (17 + 1 + 7) 96) (64 + 1 + 9) (17 + 1 + 9) 96) (64 + 1 + 10) (17 + 1 + 10) 96) (by omega) (by rw [za_FU]; omega) (fun j hj => by
    simp (disch := omega) only [cpU_o]; exact hz j hj)
  refine ⟨M', j1, fun b hb => ?_, ?_, fun k j h1 h2 h3 hj => ?_, fun k j h1 h2 hj => ?_⟩
  · rw [j2 b (by omega) (by omega) (by omega) (by omega) (by omega)]
    simp (disch := omega) only [cpU_o]
  · rw [j5]; simp (disch := omega) only [cpU_o]
  · rcases (show k = 2 ∨ k = 4 ∨ k = 5 ∨ k = 6 ∨ k = 7 ∨ k = 8 ∨ k = 9 ∨ k = 10 ∨ k = 11 by omega) with rfl | rfl | rfl | rfl | rfl | rfl | rfl | rfl | rfl
    · rw [j2 _ (by omega) (by omega) (by omega) (by omega) (by omega), cpU_o (by omega), cpU_o (by omega), cpU_o (by omega), cpU_o (by omega), cpU_o (by omega), cpU_o (by omega), cpU_o (by omega), show 64 + 2 = 64 + 1 + 1 from rfl, cpU_c hj]
    · rw [j2 _ (by omega) (by omega) (by omega) (by omega) (by omega), cpU_o (by omega), cpU_o (by omega), cpU_o (by omega), cpU_o (by omega), cpU_o (by omega), cpU_o (by omega), show 64 + 4 = 64 + 1 + 3 from rfl, cpU_c hj]
      simp (disch := omega) only [cpU_o]
    · rw [j2 _ (by omega) (by omega) (by omega) (by omega) (by omega), cpU_o (by omega), cpU_o (by omega), cpU_o (by omega), cpU_o (by omega), cpU_o (by omega), show 64 + 5 = 64 + 1 + 4 from rfl, cpU_c hj]
      simp (disch := omega) only [cpU_o]
    · rw [j2 _ (by omega) (by omega) (by omega) (by omega) (by omega), cpU_o (by omega), cpU_o (by omega), cpU_o (by omega), cpU_o (by omega), show 64 + 6 = 64 + 1 + 5 from rfl, cpU_c hj]
      simp (disch := omega) only [cpU_o]
    · rw [j2 _ (by omega) (by omega) (by omega) (by omega) (by omega), cpU_o (by omega), cpU_o (by omega), cpU_o (by omega), show 64 + 7 = 64 + 1 + 6 from rfl, cpU_c hj]
      simp (disch := omega) only [cpU_o]
    · rw [j2 _ (by omega) (by omega) (by omega) (by omega) (by omega), cpU_o (by omega), cpU_o (by omega), show 64 + 8 = 64 + 1 + 7 from rfl, cpU_c hj]
      simp (disch := omega) only [cpU_o]
    · rw [j4 j (by omega) hj]; simp (disch := omega) only [cpU_o]
    · rw [j2 _ (by omega) (by omega) (by omega) (by omega) (by omega), cpU_o (by omega), show 64 + 10 = 64 + 1 + 9 from rfl, cpU_c hj]
      simp (disch := omega) only [cpU_o]
    · rw [j2 _ (by omega) (by omega) (by omega) (by omega) (by omega), show 64 + 11 = 64 + 1 + 10 from rfl, cpU_c hj]
      simp (disch := omega) only [cpU_o]
  · rw [j6 k j h1 h2 hj]; simp (disch := omega) only [cpU_o]
/-- the places that are filled anew -/
abbrev cpR (k j : Nat) : Prop := (k = 0 ∧ 6 ≤ j ∧ j ≤ 9) ∨ (k = 1 ∧ j = 9) ∨ (2 ≤ k ∧ k ≤ 11 ∧ k ≠ 3 ∧ j < 96) ∨ (12 ≤ k ∧ k ≤ 14 ∧ j < 4) ∨ (k = 15 ∧ j ≤ 3) ∨ (16 ≤ k ∧ k ≤ 26 ∧ j < 100) ∨ (k = 27 ∧ j = 0) ∨ (28 ≤ k ∧ k ≤ 30 ∧ j < 4) ∨ (k = 31 ∧ j < 48) ∨ (k = 32 ∧ j ≤ 1) ∨ (33 ≤ k ∧ k ≤ 36 ∧ j < 20) ∨ (k = 37 ∧ 1 ≤ j ∧ j ≤ 2) ∨ (38 ≤ k ∧ k ≤ 41 ∧ j < 12)
theorem copy_c (C : Mc) (hz : ∀ j, j < 96 → isZ (C (17 + 9) j)) (hz2 : ∀ j, j < 100 → isZ (C (17 + 24) j)) : ∃ C', fX10_copyFrom C 64 17 = some C' ∧ (∀ b, b < 64 ∨ 110 < b → C' b = C b) ∧ (∀ k j, cpR k j → C' (64 + k) j = C (17 + k) j) ∧ C' 64 10 = 0 ∧ C' 64 11 = -1 ∧ C' 64 12 = -1 := by
  obtain ⟨M4, a1, a2, a3, a4, a5⟩ := cp4 C hz
  obtain ⟨M3, b1, b2, b3, b4⟩ := cp3 M4 (fun j hj => by rw [a2 _ (by omega)]; exact hz2 j hj)
  obtain ⟨M5, c1, c2, c3, c4, c5⟩ := cp5 M3
  obtain ⟨M1, d1, d2, d3, d4⟩ := cp1 M5
  obtain ⟨M2, e1, e2, e3, e4⟩ := cp2 M1
  unfold fX10_copyFrom
  rw [a1, za_bnd, b1, za_bnd, c1, za_bnd, d1, za_bnd, e1, za_bnd]
  simp only [za_lt]
  have f4 : ∀ b, b < 64 ∨ 110 < b → M2 b = C b := fun b hb => by rw [e2 b (by omega), d2 b (by omega), c2 b (by omega), b2 b (by omega), a2 b (by omega)]
  have f64 : M2 64 = C 64 := by rw [e2 _ (by omega), d2 _ (by omega), c2 _ (by omega), b2 _ (by omega), a2 _ (by omega)]
  refine ⟨_, rfl, fun b hb => ?_, fun k j h => ?_, ?_, ?_, ?_⟩
  · simp (disch := omega) only [za_wrc]; exact f4 b hb
  · by_cases k0 : k = 0
    · subst k0
      rcases (show j = 6 ∨ j = 7 ∨ j = 8 ∨ j = 9 by omega) with rfl | rfl | rfl | rfl <;> simp (disch := omega) only [Nat.add_zero, za_wri, za_wrs, za_wra] <;> rw [f4 17 (by omega)]
    · simp (disch := omega) only [za_wra]
      rcases (show k = 1 ∨ (2 ≤ k ∧ k ≤ 11 ∧ k ≠ 3) ∨ (12 ≤ k ∧ k ≤ 14) ∨ k = 15 ∨ (16 ≤ k ∧ k ≤ 26) ∨ k = 27 ∨ (28 ≤ k ∧ k ≤ 30) ∨ k = 31 ∨ k = 32 ∨ (33 ≤ k ∧ k ≤ 36) ∨ k = 37 ∨ (38 ≤ k ∧ k ≤ 41) by omega) with g | g | g | g | g | g | g | g | g | g | g | g
      · subst g; obtain rfl : j = 9 := by omega
        rw [e2 _ (by omega), d2 _ (by omega), c2 _ (by omega), b2 _ (by omega), a3]
      · rw [e2 _ (by omega), d2 _ (by omega), c2 _ (by omega), b2 _ (by omega), a4 k j g.1 g.2.1 g.2.2 (by omega)]
      · rw [e2 _ (by omega), d2 _ (by omega), c2 _ (by omega), b2 _ (by omega), a5 k j g.1 g.2 (by omega)]
      · subst g; rw [e2 _ (by omega), d2 _ (by omega), c2 _ (by omega), b3 j (by omega), a2 _ (by omega)]
      · rw [e2 _ (by omega), d2 _ (by omega), c2 _ (by omega), b4 k j g.1 g.2 (by omega), a2 _ (by omega)]
      · subst g; obtain rfl : j = 0 := by omega
        rw [e2 _ (by omega), d2 _ (by omega), c3, b2 _ (by omega), a2 _ (by omega)]
      · rw [e2 _ (by omega), d2 _ (by omega), c4 k j g.1 g.2 (by omega), b2 _ (by omega), a2 _ (by omega)]
      · subst g; rw [e2 _ (by omega), d2 _ (by omega), c5 j (by omega), b2 _ (by omega), a2 _ (by omega)]
      · subst g; rw [e2 _ (by omega), d3 j (by omega), c2 _ (by omega), b2 _ (by omega), a2 _ (by omega)]
      · rw [e2 _ (by omega), d4 k j g.1 g.2 (by omega), c2 _ (by omega), b2 _ (by omega), a2 _ (by omega)]
      · subst g; rw [e3 j (by omega) (by omega), d2 _ (by omega), c2 _ (by omega), b2 _ (by omega), a2 _ (by omega)]
      · rw [e4 k j g.1 g.2 (by omega), d2 _ (by omega), c2 _ (by omega), b2 _ (by omega), a2 _ (by omega)]
  · simp (disch := omega) only [za_wri, za_wrs]
  · simp (disch := omega) only [za_wri, za_wrs]
  · exact za_wrs _ _ _ _
def famok : Bool := (List.range 41).all fun f => (f == 38 || f == 39 || f == 40) || (List.range (fN f)).all fun i => decide (cpR (fA f) (fJ f + i))
theorem famok_t : famok = true := by decide +kernel
theorem fam_cp (f : Nat) (hf : f < 41) (h1 : f ≠ 38) (h2 : f ≠ 39) (h3 : f ≠ 40) (i : Nat) (hi : i < fN f) : cpR (fA f) (fJ f + i) := by
  have h := famok_t
  unfold famok at h
  have h4 := List.all_eq_true.mp h f (List.mem_range.mpr hf)
  rcases Bool.or_eq_true_iff.mp h4 with q | q
  · rcases Bool.or_eq_true_iff.mp q with q | q
    · rcases Bool.or_eq_true_iff.mp q with q | q
      · exact absurd (beq_iff_eq.mp q) h1
      · exact absurd (beq_iff_eq.mp q) h2
    · exact absurd (beq_iff_eq.mp q) h3
  · exact of_decide_eq_true (List.all_eq_true.mp q i (List.mem_range.mpr hi))
section RC
variable {n t m x a y : Nat} {C R C' : Mc} {N L : Md}
/-- what holds of the world that is holds of the copy -/
theorem rw_copy (h : RW 17 n t x a y C R) (e : ∀ k j, cpR k j → C' (64 + k) j = C (17 + k) j) (t1 : C' 64 10 = C 17 10) (t2 : C' 64 11 = C 17 11) (t3 : C' 64 12 = C 17 12) : RW 64 n t x a y C' R := by
  obtain ⟨hA, hN, hS, hP, hH, hO, hC, hZ, hQ, hB, hL, hE, hq, hl⟩ := h
  have n100 := hN.2.1
  have eS : ∀ k j, 2 ≤ k → k ≤ 11 → k ≠ 3 → j < 96 → C' (64 + k) j = C (17 + k) j := fun k j h1 h2 h4 h3 => e k j (by omega)
  have eP : ∀ k j, 16 ≤ k → k ≤ 26 → j < 100 → C' (64 + k) j = C (17 + k) j := fun k j h1 h2 h3 => e k j (by omega)
  have fcn : ∀ v, cn 96 (farP (C' (64 + 5)) (C' (64 + 6)) v) = cn 96 (farP (C (17 + 5)) (C (17 + 6)) v) := fun v => cn_con _ _ _ (fun c hc => by simp only [farP, eS 5 c (by omega) (by omega) (by omega) hc, eS 6 c (by omega) (by omega) (by omega) hc])
  refine ⟨fun f i hf hi => ?_, ⟨(e 15 0 (by omega)).trans hN.1, hN.2.1, (e 0 6 (by omega)).trans hN.2.2.1, hN.2.2.2⟩, fun c hc => ?_, fun p hp => ?_, fun p hp => ⟨?_, ?_⟩, fun p h1 h2 => ?_, ⟨?_, ?_⟩, fun z hz => ?_, ?_, ?_, ?_, fun c hc => ?_, fun p hp k i h1 h2 h3 => ?_, fun m l h1 h2 h3 => ?_⟩
  · by_cases f38 : f = 38
    · subst f38; obtain rfl : i = 0 := by have : fN 38 = 1 := by decide
                                          omega
      exact (hA 38 0 hf hi).trans t1.symm
    by_cases f39 : f = 39
    · subst f39; obtain rfl : i = 0 := by have : fN 39 = 1 := by decide
                                          omega
      exact (hA 39 0 hf hi).trans t2.symm
    by_cases f40 : f = 40
    · subst f40; obtain rfl : i = 0 := by have : fN 40 = 1 := by decide
                                          omega
      exact (hA 40 0 hf hi).trans t3.symm
    rw [e _ _ (fam_cp f hf f38 f39 f40 i hi)]; exact hA f i hf hi
  · have := hS c hc
    rw [eS 5 c (by omega) (by omega) (by omega) hc, eS 6 c (by omega) (by omega) (by omega) hc, eS 7 c (by omega) (by omega) (by omega) hc, eS 8 c (by omega) (by omega) (by omega) hc, eS 9 c (by omega) (by omega) (by omega) hc, eS 10 c (by omega) (by omega) (by omega) hc, eS 11 c (by omega) (by omega) (by omega) hc, eS 4 c (by omega) (by omega) (by omega) hc, eS 2 c (by omega) (by omega) (by omega) hc]
    exact this
  · obtain ⟨s, s1, ⟨o1, o2, o3, o4, o5⟩, s2⟩ := hP p hp
    refine ⟨s, (eP 18 p (by omega) (by omega) (by omega)).trans s1, ⟨o1, by rw [eP 17 p (by omega) (by omega) (by omega)]; exact o2, by rw [eP 16 p (by omega) (by omega) (by omega)]; exact o3, fun q => ?_, fun q => by rw [eP 19 p (by omega) (by omega) (by omega)]; exact o5 q⟩, by rw [fcn]; exact s2⟩
    obtain ⟨y, y1, y2, y3⟩ := o4 q
    exact ⟨y, y1, by rw [eP 19 p (by omega) (by omega) (by omega)]; exact y2, by rw [eP 18 y (by omega) (by omega) (by omega)]; exact y3⟩
  · rw [eP 20 p (by omega) (by omega) (by omega), (hH p hp).1]
    exact congrArg nI (cn_con _ _ _ (fun k hk => by simp only [hirP, eP 18 k (by omega) (by omega) (show k < 100 by omega), eP 19 k (by omega) (by omega) (show k < 100 by omega)]))
  · rw [eP 21 p (by omega) (by omega) (by omega), (hH p hp).2, fcn]
  · rw [eP 20 p (by omega) (by omega) h2, eP 21 p (by omega) (by omega) h2, eP 24 p (by omega) (by omega) h2, eP 25 p (by omega) (by omega) h2]
    exact hO p h1 h2
  · rw [e 15 1 (by omega), hC.1]
    exact congrArg nI (cn_con _ _ _ (fun k hk => by simp only [herP, eP 18 k (by omega) (by omega) (show k < 100 by omega)]))
  · rw [e 1 9 (by omega), hC.2]
    exact congrArg nI (cn_con _ _ _ (fun k hk => by simp only [frmP, eS 5 k (by omega) (by omega) (by omega) hk]))
  · rw [e 12 z (by omega), e 13 z (by omega), e 14 z (by omega)]; exact hZ z hz
  · obtain ⟨m, m1, m2, m3⟩ := hQ
    refine ⟨m, m1, (e 27 0 (by omega)).trans m2, fun p hp => ?_⟩
    obtain ⟨g1, g2, g3, k, g4, g5, g6⟩ := m3 p hp
    rw [e 28 p (by omega), e 29 p (by omega), e 30 p (by omega)]
    exact ⟨g1, g2, g3, k, g4, g5, fun i hi => by rw [e 31 _ (by omega)]; exact g6 i hi⟩
  · obtain ⟨m, m1, m2, m3⟩ := hB
    refine ⟨m, m1, (e 32 0 (by omega)).trans m2, fun b hb => ?_⟩
    rw [e 33 b (by omega), e 34 b (by omega), e 35 b (by omega)]; exact m3 b hb
  · obtain ⟨m, m1, m2, m3, m4⟩ := hL
    refine ⟨m, m1, (e 37 1 (by omega)).trans m2, ?_, fun l hl => by rw [e 38 l (by omega)]; exact m4 l hl⟩
    rw [e 37 2 (by omega), m3]
    exact congrArg nI (mk_con _ (fun l hl => by rw [e 38 l (by omega)]))
  · rw [eS 5 c (by omega) (by omega) (by omega) hc, eS 7 c (by omega) (by omega) (by omega) hc, eS 4 c (by omega) (by omega) (by omega) hc, eS 2 c (by omega) (by omega) (by omega) hc]
    exact hE c hc
  · rw [e 30 p (by omega)] at h1
    rw [e 31 _ (by omega)]
    exact hq p hp k i h1 h2 h3
  · rw [e 37 1 (by omega)] at h1
    rw [e 40 l (by omega), e 41 l (by omega)]
    exact hl m l h1 h2 h3
theorem rv_copy (h : IV n t m C R N L) : ∃ C', fX10_copyFrom C 64 17 = some C' ∧ (∀ b, b < 64 ∨ 110 < b → C' b = C b) ∧ RV 64 n t n (ab t) (t / 52) m C' R ∧ C' 64 10 = 0 ∧ C' 64 11 = -1 ∧ C' 64 12 = -1 ∧ C' (64 + 15) 2 = C (17 + 15) 2 := by
  obtain ⟨h1, h2, h3, h4, h5⟩ := h.1
  have n100 := rw_n100 h1
  obtain ⟨no, i1, i2, i3, i4⟩ := h.2.2.2.2.1
  obtain ⟨z1, z2, z3⟩ := h.2.2.2.2.2.2.2.2.2.2.2
  obtain ⟨C', c1, c2, c3, c4, c5, c6⟩ := copy_c C (fun j hj => by
    obtain ⟨_, q1, _, _, _⟩ := h1.2.2.1 j hj
    exact q1) (fun p hp => by
    by_cases hpn : p < n
    · rcases i3 p hpn with q | ⟨k, _, _, _, _, _, q, _⟩
      · rw [show C (17 + 24) p = 0 from q.2]; exact isz0
      · exact q
    · rw [(h1.2.2.2.2.2.1 p (by omega) hp).2.2.2]; exact isz0)
  refine ⟨C', c1, c2, ⟨rw_copy h1 c3 (c4.trans z1.symm) (c5.trans z2.symm) (c6.trans z3.symm), (c3 37 1 (by omega)).trans h2, h3, BK_cg h4 (fun b hb => c2 b (by omega)) (fun _ _ _ => rfl), ⟨⟨0, by omega, c4⟩, Or.inl c5, Or.inl c6⟩, Or.inr rfl⟩, c4, c5, c6, c3 15 2 (by omega)⟩
end RC
