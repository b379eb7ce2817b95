/-! ===== parties of surveyors ===== -/
section PA
variable {w n t x a y m p q : Nat} {C R : Mc}
theorem up_c (M : Mc) (k : Nat) (f : Nat → Int32) : up M k f k = f := if_pos rfl
theorem up_o {M : Mc} {k b : Nat} {f : Nat → Int32} (h : b ≠ k) : up M k f b = M b := if_neg h
theorem fA31 {f : Nat} (hf : f < 41) : fA f ≠ 31 := by revert f; decide +kernel
/-- the reference's row moves up -/
theorem deq_L {at' : Nat} (hat : at' + 15 ≤ 2132) (hq : q ≤ 11) : ∀ k fu i R0, i + k = q → k < fu → R0 128 (at' + 2) = nI q → ∃ R', fX12_dequeues_L14 fu R0 (nI at') (nI i) = some R' ∧ (∀ j, i ≤ j → j < q → R' 128 (at' + 3 + j) = R0 128 (at' + 3 + j + 1)) ∧ (∀ b j, b ≠ 128 ∨ j < at' + 3 + i ∨ at' + 3 + q ≤ j → R' b j = R0 b j)
  | k, 0, _, _, _, hf, _ => by omega
  | 0, fu + 1, i, R0, hi, _, h2 => by
    obtain rfl : i = q := by omega
    rw [fX12_dequeues_L14, nI_add, za_chk _ (by omega) (by omega), nI_clamp (by omega), h2, if_pos (nI_le (Nat.le_refl _) (by omega))]
    exact ⟨R0, rfl, fun j h1 h2 => by omega, fun _ _ _ => rfl⟩
  | k + 1, fu + 1, i, R0, hi, hf, h2 => by
    rw [fX12_dequeues_L14]
    simp only [nI_add]
    rw [za_chk _ (by omega) (by omega), nI_clamp (by omega), h2, if_neg (nI_ge (by omega) (by omega)), za_chk _ (by omega) (by omega), za_chk _ (by omega) (by omega), za_lt, nI_clamp (by omega), nI_clamp (by omega)]
    obtain ⟨R', j1, j2, j3⟩ := deq_L hat hq k fu (i + 1) (wr R0 128 (at' + 3 + i) (R0 128 (at' + 3 + i + 1))) (by omega) (by omega) (by rw [za_wri (by omega)]; exact h2)
    refine ⟨R', j1, fun j h1 h3 => ?_, fun b j hh => ?_⟩
    · by_cases e : j = i
      · subst e; rw [j3 128 (at' + 3 + j) (Or.inr (Or.inl (by omega))), za_wrs]
      · rw [j2 j (by omega) h3, za_wri (by omega)]
    · rw [j3 b j (by omega), za_wr]
      exact if_neg (fun z => by omega)
theorem rw_q (h : RW w n t x a y C R) (hp : p < 4) : ∃ aa k, aa < 96 ∧ C (w + 29) p = nI aa ∧ k ≤ 12 ∧ C (w + 30) p = nI k ∧ ∀ i, i < k → ∃ c, c < 96 ∧ C (w + 31) (p * 12 + i) = nI c := by
  obtain ⟨_, _, _, h3⟩ := h.2.2.2.2.2.2.2.2.1
  obtain ⟨_, _, ⟨aa, a1, a2⟩, k, k1, k2, k3⟩ := h3 p hp
  exact ⟨aa, k, a1, a2, k1, k2, k3⟩
/-- the first of a queue is out of it -/
theorem op_drop {k : Nat} {R' : Mc} (hp : p < 4) (hk : k ≤ 11) (hk0 : C (w + 30) p = nI (k + 1))
    (hj2 : ∀ j, j < k → R' 128 (1720 + 15 * p + 3 + j) = R 128 (1720 + 15 * p + 3 + j + 1)) (hj3 : ∀ b j, b ≠ 128 ∨ j < 1720 + 15 * p + 3 ∨ 1720 + 15 * p + 3 + k ≤ j → R' b j = wr R 128 (1720 + 15 * p + 2) (nI k) b j)
    (h : RW w n t x a y C R) : RW w n t x a y (wr (up C (w + 31) (va_cpy (C (w + 31)) (C (w + 31)) (p * 12 + 1) (p * 12) 11)) (w + 30) p (nI k)) R' := by
  obtain ⟨hA, hN, hS, hP, hH, hO, hC, hZ, hQ, hB, hL, hE, hq, hl⟩ := h
  have ec : ∀ b, b ≠ 30 → b ≠ 31 → wr (up C (w + 31) (va_cpy (C (w + 31)) (C (w + 31)) (p * 12 + 1) (p * 12) 11)) (w + 30) p (nI k) (w + b) = C (w + b) := fun b h1 h2 => by rw [za_wrc (by omega), up_o (by omega)]
  have e0 : wr (up C (w + 31) (va_cpy (C (w + 31)) (C (w + 31)) (p * 12 + 1) (p * 12) 11)) (w + 30) p (nI k) w = C w := by rw [za_wrc (by omega), up_o (by omega)]
  have e30 : wr (up C (w + 31) (va_cpy (C (w + 31)) (C (w + 31)) (p * 12 + 1) (p * 12) 11)) (w + 30) p (nI k) (w + 30) = up1 (C (w + 30)) p (nI k) := by rw [za_wrf, up_o (by omega)]
  have e31 : wr (up C (w + 31) (va_cpy (C (w + 31)) (C (w + 31)) (p * 12 + 1) (p * 12) 11)) (w + 30) p (nI k) (w + 31) = va_cpy (C (w + 31)) (C (w + 31)) (p * 12 + 1) (p * 12) 11 := by rw [za_wrc (by omega), up_c]
  refine ⟨fun f i hf hi => ?_, WN_cg hN (congrFun (ec 15 (by omega) (by omega)) _) (congrFun e0 _), WS_cg hS (fun k _ _ => ec k (by omega) (by omega)), WP_cg hP (ec 5 (by omega) (by omega)) (ec 6 (by omega) (by omega)) (fun k _ _ => ec k (by omega) (by omega)), WH_cg hH (ec 5 (by omega) (by omega)) (ec 6 (by omega) (by omega)) (fun k _ _ => ec k (by omega) (by omega)), WO_cg hO (ec 20 (by omega) (by omega)) (ec 21 (by omega) (by omega)) (ec 24 (by omega) (by omega)) (ec 25 (by omega) (by omega)), WC_cg hC (congrFun (ec 15 (by omega) (by omega)) _) (congrFun (ec 1 (by omega) (by omega)) _) (ec 5 (by omega) (by omega)) (ec 18 (by omega) (by omega)), WZ_cg hZ (fun k _ _ => ec k (by omega) (by omega)), ?_, WB_cg hB (congrFun (ec 32 (by omega) (by omega)) _) (fun k _ _ => ec k (by omega) (by omega)), WL_cg hL (congrFun (ec 37 (by omega) (by omega)) _) (congrFun (ec 37 (by omega) (by omega)) _) (ec 38 (by omega) (by omega)), RE_cg hE (fun k _ _ => ec k (by omega) (by omega)) (fun c hc => ⟨?_, ?_, (hj3 131 _ (Or.inl (by omega))).trans (za_wra (by omega))⟩), fun p' hp' k' i hk' h12 hi => ?_, RY_cg hl (congrFun (ec 37 (by omega) (by omega)) _) (ec 40 (by omega) (by omega)) (ec 41 (by omega) (by omega)) (fun l hl => ⟨?_, ?_⟩)⟩
  · have h0 := hA f i hf hi
    have h1 := (fa_ok hf hi).2.1
    have hx : R' (fC f) (fB f + fS f * i) = wr R 128 (1720 + 15 * p + 2) (nI k) (fC f) (fB f + fS f * i) := by
      refine hj3 _ _ ?_
      by_cases hb : fC f = 128
      · right
        by_cases g1 : fB f + fS f * i < 1720 + 15 * p + 3
        · exact Or.inl g1
        · by_cases g2 : 1720 + 15 * p + 3 + k ≤ fB f + fS f * i
          · exact Or.inr g2
          · exfalso
            rw [hb] at h1
            have h9 : ∀ p, p < 4 → ∀ j, j < 12 → fRi 128 (1720 + 15 * p + 3 + j) = 99 := by decide +kernel
            have := h9 p hp (fB f + fS f * i - (1720 + 15 * p + 3)) (by omega)
            rw [show 1720 + 15 * p + 3 + (fB f + fS f * i - (1720 + 15 * p + 3)) = fB f + fS f * i by omega, h1] at this
            omega
      · exact Or.inl hb
    rw [hx, rr_wait hp hf hi, rc_wait hp hf hi, up_o (by have := fA31 hf; omega), h0]
  · obtain ⟨m', m1, m2, m3⟩ := hQ
    refine ⟨m', m1, (congrFun (ec 27 (by omega) (by omega)) _).trans m2, fun p' hp' => ?_⟩
    obtain ⟨g1, g2, g3, k', g4, g5, g6⟩ := m3 p' hp'
    rw [ec 28 (by omega) (by omega), ec 29 (by omega) (by omega), e30, e31]
    by_cases e : p' = p
    · subst e
      refine ⟨g1, fun hm => ?_, g3, k, by omega, by rw [up1_s], fun i hi => ?_⟩
      · have := (g2 hm).2; rw [hk0] at this; exact absurd ((za_eq0 (by omega)).mp this) (by omega)
      · obtain rfl : k' = k + 1 := za_inj (by omega) (by omega) (g5.symm.trans hk0)
        obtain ⟨c, c1, c2⟩ := g6 (i + 1) (by omega)
        refine ⟨c, c1, ?_⟩
        unfold va_cpy
        rw [if_pos (by omega), show p' * 12 + 1 + (p' * 12 + i - p' * 12) = p' * 12 + (i + 1) by omega]; exact c2
    · rw [up1_o e]
      refine ⟨g1, g2, g3, k', g4, g5, fun i hi => ?_⟩
      obtain ⟨c, c1, c2⟩ := g6 i hi
      refine ⟨c, c1, ?_⟩
      unfold va_cpy
      rw [if_neg (by omega)]; exact c2
  · rw [hj3 _ _ (by omega), za_wri (by omega)]
  · rw [hj3 _ _ (by omega), za_wri (by omega)]
  · rw [e30] at hk'
    rw [e31]
    unfold va_cpy
    by_cases e : p' = p
    · subst e
      rw [up1_s] at hk'
      obtain rfl : k' = k := (za_inj (by omega) (by omega) hk').symm
      rw [if_pos (by omega), show p' * 12 + 1 + (p' * 12 + i - p' * 12) = p' * 12 + (i + 1) by omega, hj2 i hi]
      exact hq p' hp' (k' + 1) (i + 1) hk0 (by omega) (by omega)
    · rw [up1_o e] at hk'
      rw [if_neg (by omega), hj3 _ _ (by omega), za_wri (by omega)]
      exact hq p' hp' k' i hk' h12 hi
  · rw [hj3 _ _ (by omega), za_wri (by omega)]
  · rw [hj3 _ _ (by omega), za_wri (by omega)]
end PA
