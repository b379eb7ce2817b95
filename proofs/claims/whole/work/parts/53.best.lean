/-! ===== the best lot ===== -/
section BE
variable {w : Nat} {C R : Mc}
/-- the ground of the class, as the reference has it -/
def GR (w : Nat) (C R : Mc) : Prop := (∀ c, c < 96 → R 128 (8 * c) = C (w + 5) c ∧ R 130 c = C (w + 2) c ∧ ∃ s, s ≤ 9 ∧ C (w + 2) c = nI s) ∧ ∀ z, z < 4 → R 128 (2108 + z) = C (w + 13) z ∧ R 128 (2112 + z) = C (w + 14) z ∧ (∃ k, k ≤ 20 ∧ C (w + 13) z = nI k) ∧ ∃ k, k ≤ 530000 ∧ C (w + 14) z = nI k
theorem GR_of {n t x a y : Nat} (h : RW w n t x a y C R) (hy : y ≤ 20) : GR w C R := by
  refine ⟨fun c hc => ⟨ra_hold h.1 hc, ra_soil h.1 hc, (h.2.2.1 c hc).2.2.2.1⟩, fun z hz => ?_⟩
  obtain ⟨_, ⟨k, i1, i2⟩, ⟨r, j1, j2⟩⟩ := h.2.2.2.2.2.2.2.1 z hz
  exact ⟨ra_sy h.1 hz, ra_sr h.1 hz, ⟨k, by omega, i2⟩, r, by omega, j2⟩
theorem GR_cg {C' : Mc} (h : GR w C R) (e : ∀ k, 2 ≤ k → k ≤ 14 → C' (w + k) = C (w + k)) : GR w C' R := by
  obtain ⟨h1, h2⟩ := h
  refine ⟨fun c hc => ?_, fun z hz => ?_⟩
  · have := h1 c hc; rw [e 5 (by omega) (by omega), e 2 (by omega) (by omega)]; exact this
  · have := h2 z hz; rw [e 13 (by omega) (by omega), e 14 (by omega) (by omega)]; exact this
def prC (w : Nat) (C : Mc) (c : Nat) : Int32 := prI (C (w + 2) c) (C (w + 13) (c % 12 / 3)) (C (w + 14) (c % 12 / 3))
theorem pr_c {c : Nat} (h : GR w C R) (hc : c < 96) : fX4_promised C (w + 1) (nI c) = some (prC w C c) ∧ fX12_promiseOf R (nI c) = some (prC w C c) ∧ ∃ k, k < 1000000 ∧ prC w C c = nI k := by
  have hz : c % 12 / 3 < 4 := by omega
  obtain ⟨g1, g2, ⟨s, s1, s2⟩⟩ := h.1 c hc
  obtain ⟨g3, g4, ⟨k, k1, k2⟩, ⟨r, r1, r2⟩⟩ := h.2 _ hz
  refine ⟨?_, ?_, by unfold prC; rw [s2, k2, r2]; exact pr_nat s1 k1 r1⟩
  · unfold fX4_promised
    rw [za_inY hc (by omega), za_bnd, if_neg za_n10, lf_zone hc, za_bnd, za_inY hz (by omega), za_bnd, if_neg za_n10, za_chk _ hz (by omega), nI_clamp (by omega), nI_clamp (by omega)]
    unfold prC prI
    show (if 0 < C (w + 13) (c % 12 / 3) then _ else _) = _
    by_cases h0 : k = 0
    · subst h0
      rw [k2, if_neg (by decide +kernel), if_pos (show nI 0 = 0 from nI_0)]
      unfold fX4_promised_J33
      rw [za_chk _ hc (by omega), nI_clamp (by omega)]
    · have hk0 : ¬ nI k = 0 := fun q => h0 ((za_eq0 (by omega)).mp q)
      rw [k2, if_pos ((za_0lt (by omega)).mpr (by omega)), if_neg hk0, za_chk _ hc (by omega), za_chk _ hz (by omega), za_chk _ hz (by omega)]
      rw [za_chz _ hk0]
  · unfold fX12_promiseOf
    rw [rf_zone hc, za_bnd, za_chk _ hc (by omega), nI_add, za_chk _ (by omega) (by omega), nI_clamp (by omega), nI_clamp (by omega), g3, g2, nI_add, nI_clamp (by omega), g4]
    unfold prC prI
    by_cases h0 : C (w + 13) (c % 12 / 3) = 0
    · rw [if_pos h0, if_pos h0, show ∀ x : Int32, x + 0 = x from Int32.add_zero]
    · rw [if_neg h0, if_neg h0, za_chk _ (by omega) (by omega), za_chk _ (by omega) (by omega), za_chz _ h0]
theorem best_L (h : GR w C R) : ∀ k fu i b mo, i + k = 96 → k < fu → (b = -1 ∧ mo = -1 ∨ ∃ c, c < 96 ∧ b = nI c ∧ mo = prC w C c ∧ C (w + 5) c = nI 1) →
    ∃ b', fX4_findBestLot_L6 (w + 1) fu C b mo (nI i) = some b' ∧ fX12_bestLot_L4 fu R b (nI i) = some b' ∧ (b' = -1 ∨ ∃ c, c < 96 ∧ b' = nI c ∧ C (w + 5) c = nI 1)
  | k, 0, _, _, _, _, hf, _ => by omega
  | 0, fu + 1, i, b, mo, hi, _, hb => by
    obtain rfl : i = 96 := by omega
    rw [fX4_findBestLot_L6, fX12_bestLot_L4, if_pos (nI_le (Nat.le_refl _) (by omega)), if_pos (nI_le (Nat.le_refl _) (by omega))]
    refine ⟨b, rfl, rfl, ?_⟩
    rcases hb with ⟨h1, _⟩ | ⟨c, h1, h2, _, h3⟩
    · exact Or.inl h1
    · exact Or.inr ⟨c, h1, h2, h3⟩
  | k + 1, fu + 1, i, b, mo, hi, hf, hb => by
    obtain ⟨p1, p2, q, q1, q2⟩ := pr_c (c := i) h (by omega)
    have hh := (h.1 i (by omega)).1
    rw [fX4_findBestLot_L6, fX12_bestLot_L4, if_neg (nI_ge (by omega) (by omega)), if_neg (nI_ge (by omega) (by omega)), za_chk _ (by omega) (by omega), nI_clamp (by omega), rf_sec0 (by omega), za_bnd, hh]
    unfold fX4_findBestLot_J39 fX12_bestLot_J37 fX12_bestLot_J39
    simp only [nI_add]
    show ∃ b', (if C (w + 5) i = nI 1 then _ else _) = _ ∧ _
    by_cases hl : C (w + 5) i = nI 1
    · rw [if_pos hl, if_pos hl, p1, za_bnd, za_bnd]
      rcases hb with ⟨rfl, rfl⟩ | ⟨c, c1, rfl, rfl, c3⟩
      · rw [if_pos za_m1lt0, q2, if_neg (za_nlem1 (by omega)), ← q2]
        exact best_L h k fu (i + 1) (nI i) (prC w C i) (by omega) (by omega) (Or.inr ⟨i, by omega, rfl, rfl, hl⟩)
      · obtain ⟨_, o2, _⟩ := pr_c (c := c) h c1
        rw [if_neg (nI_pos (by omega)), p2, za_bnd, o2, za_bnd]
        by_cases hc : prC w C i ≤ prC w C c
        · rw [if_pos hc, if_pos hc]
          exact best_L h k fu (i + 1) (nI c) (prC w C c) (by omega) (by omega) (Or.inr ⟨c, c1, rfl, rfl, c3⟩)
        · rw [if_neg hc, if_neg hc]
          exact best_L h k fu (i + 1) (nI i) (prC w C i) (by omega) (by omega) (Or.inr ⟨i, by omega, rfl, rfl, hl⟩)
    · rw [if_neg hl, if_neg hl]
      exact best_L h k fu (i + 1) b mo (by omega) (by omega) hb
theorem best_eq (h : GR w C R) : ∃ b', fX4_findBestLot C (w + 1) = some b' ∧ fX12_bestLot R = some b' ∧ (b' = -1 ∨ ∃ c, c < 96 ∧ b' = nI c ∧ C (w + 5) c = nI 1) := by
  unfold fX4_findBestLot fX12_bestLot
  rw [za_0]
  exact best_L h 96 FU 0 (-1) (-1) (by omega) (by rw [za_FU]; omega) (Or.inl ⟨rfl, rfl⟩)
/-- the best lot, as things stand in C -/
def BL (w : Nat) (C : Mc) (b : Int32) : Prop := ∃ Cx, (∀ k, 2 ≤ k → k ≤ 14 → Cx (w + k) = C (w + k)) ∧ fX4_findBestLot Cx (w + 1) = some b
theorem BL_cg {b : Int32} {C' : Mc} (h : BL w C b) (e : ∀ k, 2 ≤ k → k ≤ 14 → C' (w + k) = C (w + k)) : BL w C' b := by
  obtain ⟨Cx, h1, h2⟩ := h
  exact ⟨Cx, fun k a1 a2 => (h1 k a1 a2).trans (e k a1 a2).symm, h2⟩
theorem best_r {b : Int32} (h : GR w C R) (hb : BL w C b) : fX12_bestLot R = some b ∧ (b = -1 ∨ ∃ c, c < 96 ∧ b = nI c ∧ C (w + 5) c = nI 1) := by
  obtain ⟨Cx, h1, h2⟩ := hb
  obtain ⟨b', i1, i2, i3⟩ := best_eq (GR_cg h h1)
  obtain rfl : b' = b := Option.some.inj (i1.symm.trans h2)
  refine ⟨i2, i3.elim Or.inl (fun ⟨c, c1, c2, c3⟩ => Or.inr ⟨c, c1, c2, ?_⟩)⟩
  rw [h1 5 (by omega) (by omega)] at c3; exact c3
end BE
