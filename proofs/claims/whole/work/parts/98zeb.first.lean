/-! ===== the made world: the invariant at the start ===== -/
def M00 : Mc := mo_X12_init_127 (mo_X11_init_0 (fun _ _ => 0))
theorem fi_RA : ∀ f, f < 41 → ∀ i, i < fN f → M00 (fC f) (fB f + fS f * i) = M00 (17 + fA f) (fJ f + i) := by decide +kernel
theorem fi_c : ∀ c, c < 96 → M00 22 c = 0 ∧ M00 23 c = -1 ∧ M00 24 c = -1 ∧ M00 25 c = 0 ∧ M00 26 c = 0 ∧ M00 27 c = -1 ∧ M00 28 c = -1 ∧ M00 21 c = nI 7 ∧ M00 19 c = nI 5 ∧ M00 131 c = 0 ∧ M00 128 (8 * c + 7) = 0 := by decide +kernel
theorem fi_o : ∀ p, p < 100 → M00 37 p = 0 ∧ M00 38 p = 0 ∧ M00 42 p = 0 ∧ M00 41 p = 0 := by decide +kernel
theorem fi_C : M00 (17 + 15) 1 = nI (cn 0 (herP (M00 (17 + 18)))) ∧ M00 (17 + 1) 9 = nI (cn 96 (frmP (M00 (17 + 5)))) := by decide +kernel
theorem fi_z : ∀ z, z < 4 → M00 29 z = 0 ∧ M00 30 z = 0 ∧ M00 31 z = 0 ∧ M00 46 z = 0 ∧ M00 47 z = 0 ∧ M00 7 z = 0 ∧ M00 133 z = 0 := by decide +kernel
theorem fi_b : ∀ b, b < 20 → M00 50 b = 0 ∧ M00 51 b = 0 ∧ M00 52 b = 0 := by decide +kernel
theorem fi_l : ∀ l, l < 12 → M00 55 l = 0 ∧ M00 16 l = 0 ∧ M00 128 (1568 + 6 * l + 1) = M00 59 l ∧ M00 128 (1568 + 6 * l + 2) = M00 60 l ∧ M00 128 (1568 + 6 * l + 4) = 0 ∧ M00 128 (2080 + l) = -1 := by decide +kernel
theorem fi_w : ∀ j, j < 1200 → M00 139 j = 0 ∧ M00 61 j = 0 := by decide +kernel
theorem fi_1 : M00 32 0 = 0 ∧ M00 17 6 = 0 ∧ M00 44 0 = 0 ∧ M00 49 0 = 0 ∧ M00 54 1 = 0 ∧ M00 54 2 = 0 ∧ M00 17 10 = 0 ∧ M00 17 11 = -1 ∧ M00 17 12 = -1 ∧ M00 32 2 = 0 ∧ M00 32 3 = 0 := by decide +kernel
theorem fi_2 : M00 128 2120 = M00 0 11 ∧ M00 128 2121 = M00 0 12 ∧ M00 0 10 = 0 ∧ M00 128 2129 = 0 ∧ M00 111 2 = 0 ∧ M00 128 2131 = 0 ∧ M00 111 3 = 0 ∧ M00 128 2130 = 0 ∧ M00 0 8 = 0 ∧ M00 127 9 = 0 ∧ M00 0 9 = M00 127 13 ∧ M00 127 28 = 0 ∧ M00 0 14 = 0 ∧ M00 127 29 = 0 ∧ M00 0 16 = 0 ∧ M00 121 1 = 0 ∧ M00 127 31 = 0 := by decide +kernel
theorem z0 {x : Int32} (h : x = 0) : x = nI 0 := h.trans nI_0.symm
theorem fi_RW : RW 17 0 0 0 (ab 0) (0 / 52) M00 M00 := by
  obtain ⟨a1, a2, a3, a4, a5, a6, a7, a8, a9, a10, a11⟩ := fi_1
  refine ⟨fun f i hf hi => fi_RA f hf i hi, ⟨z0 a1, by omega, z0 a2, by omega⟩, fun c hc => ?_, fun p hp => by omega, fun p hp => by omega, fun p _ hp => fi_o p hp, fi_C, fun z hz => ?_, ⟨0, by omega, z0 a3, fun p hp => ?_⟩, ⟨0, by omega, z0 a4, fun b hb => ?_⟩, ⟨0, by omega, z0 a5, z0 a6, fun l hl => ?_⟩, fun c hc => ?_, fun p hp k i hk hk2 hi => ?_, fun m l hm hm2 hl => ?_⟩
  · obtain ⟨h1, h2, h3, h4, h5, h6, h7, h8, h9, h10, h11⟩ := fi_c c hc
    show okS 0 (M00 22 c) (M00 23 c) (M00 24 c) (M00 25 c) (M00 26 c) (M00 27 c) (M00 28 c) (M00 21 c) (M00 19 c) 0
    rw [h1, h2, h3, h4, h5, h6, h7, h8, h9]
    exact ⟨⟨0, nI_0.symm, by omega, by omega, fun _ => rfl, fun h => by omega, fun _ => rfl, fun h => by omega, fun _ _ => rfl, fun h => by omega, fun _ => ⟨7, by omega, by omega, rfl⟩⟩, Or.inl rfl, ⟨0, by omega, nI_0.symm⟩, ⟨5, by omega, rfl⟩, Or.inl rfl⟩
  · obtain ⟨h1, h2, h3, -⟩ := fi_z z hz
    exact ⟨⟨0, Nat.zero_le _, z0 h1⟩, ⟨0, Nat.zero_le _, z0 h2⟩, ⟨0, Nat.zero_le _, z0 h3⟩⟩
  · obtain ⟨-, -, -, h1, h2, -⟩ := fi_z p hp
    exact ⟨fun h => by omega, fun _ => ⟨h1, h2⟩, ⟨0, by omega, z0 h1⟩, 0, by omega, z0 h2, fun i hi => by omega⟩
  · obtain ⟨h1, h2, h3⟩ := fi_b b hb
    exact ⟨⟨0, by omega, z0 h1⟩, ⟨0, by omega, z0 h2⟩, ⟨0, by omega, z0 h3⟩, fun _ => ⟨h2, h3⟩⟩
  · obtain ⟨h1, -⟩ := fi_l l hl
    exact ⟨⟨0, by omega, z0 h1⟩, fun _ => h1⟩
  · obtain ⟨h1, h2, h3, h4, h5, h6, h7, h8, h9, h10, h11⟩ := fi_c c hc
    show okE (M00 22 c) (M00 24 c) (M00 21 c) (M00 19 c) (M00 131 c) (M00 128 (8 * c + 2)) (M00 128 (8 * c + 7))
    rw [h1, h3, h8, h9, h10, h11]
    exact ⟨fun h => absurd h (by decide +kernel), fun _ => by decide +kernel⟩
  · have h2 := (fi_z p hp).2.2.2.2.1
    have := za_inj (by omega) (by omega) (hk.symm.trans (z0 h2))
    omega
  · have := za_inj (by omega) (by omega) (hm.symm.trans (z0 a5))
    omega
theorem fi_IV : IV 0 0 0 M00 M00 z8 z8 := by
  obtain ⟨a1, a2, a3, a4, a5, a6, a7, a8, a9, a10, a11⟩ := fi_1
  obtain ⟨b1, b2, b3, b4, b5, b6, b7, b8, b9, b10, b11, b12, b13, b14, b15, b16, b17⟩ := fi_2
  refine ⟨⟨fi_RW, z0 a5, by omega, fun l hl => ⟨fun h => by omega, fun _ => (fi_l l hl).2.1⟩, ⟨⟨0, by omega, z0 a7⟩, Or.inl a8, Or.inl a9⟩, Or.inl rfl⟩, fun z hz => ?_, ⟨b1, b2, 0, by omega, z0 b3, z0 b4⟩, fun r hr => by omega, ⟨0, z0 a11, rfl, fun p hp => by omega, fun k hk => by omega⟩, ⟨0, 0, by omega, z0 b5, z0 b6, z0 b7, z0 b8, fun k hk => by omega, fun k _ hk => (fi_l k hk).2.2.2.2.2, fun k hk => by omega⟩, ⟨0, by omega, z0 b9, z0 b10, fun i hi => by omega⟩, b11, ⟨fun l hl => ⟨(fi_l l hl).2.2.1, (fi_l l hl).2.2.2.1⟩, fun j hj => ⟨(fi_w j hj).1.trans (fi_w j hj).2.symm, Or.inl (fi_w j hj).2⟩, fun l _ hl => (fi_l l hl).2.2.2.2.1⟩, ⟨b12.trans b13.symm, Or.inl b13, b14.trans b15.symm, ⟨0, by omega, z0 b15, fun h => absurd rfl h⟩, fun h => absurd b13 h⟩, ⟨0, by omega, z0 b16, z0 b17, fun i hi => by omega, rfl, rfl⟩, ⟨a7, a8, a9⟩⟩
  obtain ⟨-, -, -, -, -, h1, h2⟩ := fi_z z hz
  exact ⟨0, by omega, z0 h1, z0 h2, fun i hi => by omega⟩
theorem gi_first : GI 146 M00 z8 := ⟨0, 0, 0, fi_IV, ⟨0, by omega, z0 fi_1.2.2.2.2.2.2.2.2.2.1⟩, fun l hl => by omega, rfl, fun h => by omega⟩
