/-! ===== law ===== -/
section QLs
variable {n t m x a y : Nat} {C R C' R' : Mc} {N L : Md} {w : Nat}
theorem op_law (h : RW 17 n t x a y C R) (hl : C (17 + 37) 1 = nI m) (hm : m < 12) (hs : R 128 (1568 + 6 * m + 4) = 0) : RW 17 n t x a y (wr (wr C (17 + 40) m (-1)) (17 + 37) 1 (nI (m + 1))) (wr R 128 2125 (nI (m + 1))) := by
  obtain ⟨hA, hN, hS, hP, hH, hO, hC, hZ, hQ, hB, hL, hE, hq, hy⟩ := h
  have ec : ∀ b, b ≠ 37 → b ≠ 40 → wr (wr C (17 + 40) m (-1)) (17 + 37) 1 (nI (m + 1)) (17 + b) = C (17 + b) := fun b h1 h2 => by rw [za_wrc (by omega), za_wrc (by omega)]
  have ec0 : wr (wr C (17 + 40) m (-1)) (17 + 37) 1 (nI (m + 1)) 17 = C 17 := by rw [za_wrc (by omega), za_wrc (by omega)]
  have er : ∀ j, j ≠ 2125 → wr R 128 2125 (nI (m + 1)) 128 j = R 128 j := fun j hj => za_wri hj
  refine ⟨fun f i hf hi => ?_, WN_cg hN (by rw [ec 15 (by omega) (by omega)]) (by rw [ec0]), WS_cg hS (fun k _ _ => ec k (by omega) (by omega)), WP_cg hP (ec 5 (by omega) (by omega)) (ec 6 (by omega) (by omega)) (fun k _ _ => ec k (by omega) (by omega)), WH_cg hH (ec 5 (by omega) (by omega)) (ec 6 (by omega) (by omega)) (fun k _ _ => ec k (by omega) (by omega)), WO_cg hO (ec 20 (by omega) (by omega)) (ec 21 (by omega) (by omega)) (ec 24 (by omega) (by omega)) (ec 25 (by omega) (by omega)), WC_cg hC (by rw [ec 15 (by omega) (by omega)]) (by rw [ec 1 (by omega) (by omega)]) (ec 5 (by omega) (by omega)) (ec 18 (by omega) (by omega)), WZ_cg hZ (fun k _ _ => ec k (by omega) (by omega)), WQ_cg hQ (by rw [ec 27 (by omega) (by omega)]) (fun k _ _ => ec k (by omega) (by omega)), WB_cg hB (by rw [ec 32 (by omega) (by omega)]) (fun k _ _ => ec k (by omega) (by omega)), ?_, RE_cg hE (fun k _ _ => ec k (by omega) (by omega)) (fun c hc => ⟨er _ (by omega), er _ (by omega), za_wra (by omega)⟩), RQ_cg hq (ec 30 (by omega) (by omega)) (ec 31 (by omega) (by omega)) (fun p hp i hi => er _ (by omega)), ?_⟩
  · have h1 := ra_cw (w := 17) (f := 37) (i := 0) (f' := f) (i' := i) (C := wr C (17 + 40) m (-1)) (v := nI (m + 1)) (by decide) (by decide) hf hi
    have h2 := rr_ln (f' := f) (i' := i) (R := R) (v := nI (m + 1)) hf hi
    rw [h2]
    refine Eq.trans ?_ h1.symm
    by_cases q : f = 37 ∧ i = 0
    · rw [if_pos q, if_pos q]
    · rw [if_neg q, if_neg q, rj_rh hf hi]; exact hA f i hf hi
  · obtain ⟨m', i1, i2, i3, i4⟩ := hL
    obtain rfl : m' = m := za_inj (by omega) (by omega) (i2.symm.trans hl)
    have e38 := ec 38 (by omega) (by omega)
    refine ⟨m' + 1, by omega, za_wrs _ _ _ _, ?_, fun l hl => ⟨by rw [e38]; exact (i4 l hl).1, fun h1 => by rw [e38]; exact (i4 l hl).2 (by omega)⟩⟩
    rw [za_wri (by omega), za_wra (by omega), i3, e38, mk_succ, (i4 m' (by omega)).2 (Nat.le_refl _), if_neg (by decide +kernel)]
    exact congrArg nI (Nat.add_zero _).symm
  · intro m2 l h1 h2 h3
    rw [za_wrs] at h1
    obtain rfl : m2 = m + 1 := (za_inj (by omega) (by omega) h1).symm
    rw [er _ (by omega), er _ (by omega), ec 41 (by omega) (by omega), za_wra (by omega)]
    by_cases e : l = m
    · subst e
      rw [za_wrs]
      exact Or.inl ⟨rfl, hs⟩
    · rw [za_wri e]
      exact hy m l hl (by omega) (by omega)
/-- the laws' texts when another is read -/
theorem bk_old {np : Nat} (h : BK m C R) (hz : ∀ l, l < m → C 16 l = nI (146 + 4 * l)) (hm : m ≤ 12) (hnp : np = 146 + 4 * m) (c16 : ∀ l, l < m → C' 16 l = C 16 l) (cc : ∀ b, 146 ≤ b → b < np → C' b = C b) (r1 : ∀ j, j < 400 * m → R' 135 j = R 135 j ∧ R' 136 j = R 136 j) (r2 : ∀ j, j < 8 * m → R' 137 j = R 137 j) (r3 : ∀ j, j < m → R' 138 j = R 138 j) : ∀ l, l < m → ∃ z, 146 ≤ z ∧ z < 2 ^ 31 ∧ C' 16 l = nI z ∧ isZ (C' z 3) ∧ C' z 3 = R' 138 l ∧ ∀ k, k < 8 → (C' (z + 2) k = -1 ∧ R' 137 (8 * l + k) = -1) ∨ cdR C' R' z l k := by
  intro l hl
  obtain ⟨z, z1, z2, z3, z4, z5, z6⟩ := (h l (by omega)).1 hl
  obtain rfl : z = 146 + 4 * l := za_inj (by omega) (by omega) (z3.symm.trans (hz l hl))
  refine ⟨146 + 4 * l, z1, z2, (c16 l hl).trans z3, by rw [cc _ (by omega) (by omega)]; exact z4, by rw [cc _ (by omega) (by omega), r3 l hl]; exact z5, fun k hk => ?_⟩
  rcases z6 k hk with ⟨q1, q2⟩ | ⟨f, n, r, len, q1, q2, q3, q4, q5, q6, q6b, q7, q8, q9⟩
  · exact Or.inl ⟨by rw [cc _ (by omega) (by omega)]; exact q1, by rw [r2 _ (by omega)]; exact q2⟩
  · refine Or.inr ⟨f, n, r, len, by rw [cc _ (by omega) (by omega)]; exact q1, by rw [cc _ (by omega) (by omega)]; exact q2, by rw [dl_cg (cc _ (by omega) (by omega))]; exact q3, q4, q5, by rw [r2 _ (by omega)]; exact q6, q6b, q7, sg_con (fun i hi => ⟨by rw [cc _ (by omega) (by omega)], (r1 _ (by omega)).1, (r1 _ (by omega)).2⟩) q8, by rw [(r1 _ (by omega)).1]; exact q9⟩
/-- all that holds, behind a law -/
theorem iv_law {m' : Nat} (h : IV n t m C R N L) (h2 : RV 17 n t n (ab t) (t / 52) m' C' R') (hir : IR t m' C' R') (hiw : IW m' C' R') (hc : ∀ b, b ≠ 0 → b ≠ 16 → b ≠ 54 → b ≠ 57 → (b < 114 ∨ 120 < b) → b < 146 → C' b = C b) (h0 : ∀ j, j ≠ 8 → j ≠ 9 → C' 0 j = C 0 j) (hr : ∀ b, b ≠ 127 → b ≠ 128 → (b < 135 ∨ 138 < b) → R' b = R b) (h128 : ∀ j, j ≠ 2125 → R' 128 j = R 128 j) (h127 : ∀ j, j = 28 ∨ j = 29 ∨ j = 31 → R' 127 j = R 127 j) (e8 : C' 0 8 = 0) (e9 : R' 127 9 = 0) (ep : C' 0 9 = R' 127 13) : IV n t m' C' R' N L := by
  obtain ⟨a1, a2, a3, a4, a5, a6, a7, a8, a9, a10, a11, a12⟩ := h
  have n100 := rw_n100 a1.1
  refine ⟨h2, ?_, ?_, hir, ?_, ?_, ⟨0, by omega, by rw [e8, nI_0], by rw [e9, nI_0], fun i hi => by omega⟩, ep, hiw, ?_, ?_, ?_⟩
  · intro z hz; have := a2 z hz; rw [hr 133 (by omega) (by omega) (by omega), hr 132 (by omega) (by omega) (by omega), hc 7 (by omega) (by omega) (by omega) (by omega) (by omega) (by omega), hc (3 + z) (by omega) (by omega) (by omega) (by omega) (by omega) (by omega)]; exact this
  · unfold IH at *; rw [h128 2120 (by omega), h128 2121 (by omega), h128 2129 (by omega), h0 10 (by omega) (by omega), h0 11 (by omega) (by omega), h0 12 (by omega) (by omega)]; exact a3
  · exact IO_cg a5 n100 (by rw [hc 32 (by omega) (by omega) (by omega) (by omega) (by omega) (by omega)]) (hc 39 (by omega) (by omega) (by omega) (by omega) (by omega) (by omega)) (hc 40 (by omega) (by omega) (by omega) (by omega) (by omega) (by omega)) (hc 41 (by omega) (by omega) (by omega) (by omega) (by omega) (by omega)) (fun j _ _ => h128 j (by omega))
  · obtain ⟨dr, wt, i0, i1, i2, i3, i4, i5, i6, i7⟩ := a6
    exact ⟨dr, wt, i0, by rw [hc 111 (by omega) (by omega) (by omega) (by omega) (by omega) (by omega)]; exact i1, by rw [h128 _ (by omega)]; exact i2, by rw [hc 111 (by omega) (by omega) (by omega) (by omega) (by omega) (by omega)]; exact i3, by rw [h128 _ (by omega)]; exact i4, fun k hk => by rw [h128 _ (by omega), hc 112 (by omega) (by omega) (by omega) (by omega) (by omega) (by omega)]; exact i5 k hk, fun k h1 h2 => by rw [h128 _ (by omega)]; exact i6 k h1 h2, fun k hk => by rw [h128 _ (by omega), hc 113 (by omega) (by omega) (by omega) (by omega) (by omega) (by omega)]; exact i7 k hk⟩
  · unfold IC at *; rw [h127 28 (by omega), h127 29 (by omega), hr 142 (by omega) (by omega) (by omega), hr 143 (by omega) (by omega) (by omega), h0 14 (by omega) (by omega), h0 16 (by omega) (by omega), hc 124 (by omega) (by omega) (by omega) (by omega) (by omega) (by omega), hc 125 (by omega) (by omega) (by omega) (by omega) (by omega) (by omega)]; exact a10
  · unfold II at *; rw [h127 31 (by omega), hr 144 (by omega) (by omega) (by omega), hc 121 (by omega) (by omega) (by omega) (by omega) (by omega) (by omega), hc 122 (by omega) (by omega) (by omega) (by omega) (by omega) (by omega)]; exact a11
  · unfold IZ at *; rw [hc 17 (by omega) (by omega) (by omega) (by omega) (by omega) (by omega)]; exact a12
theorem fill_L {k0 K : Nat} {v : Int32} (hK : K < 2 ^ 31) : ∀ m fu i M, i + m = K → m < fu → ∃ M', fJ7_fill_53178_L5 K k0 fu M v (nI i) (nI K) = some M' ∧ (∀ b, b ≠ k0 → M' b = M b) ∧ (∀ j, j < i → M' k0 j = M k0 j) ∧ ∀ j, i ≤ j → j < K → M' k0 j = v
  | m, 0, _, _, _, hf => by omega
  | 0, fu + 1, i, M, hi, _ => by
    rw [fJ7_fill_53178_L5, if_pos (nI_le (by omega) (by omega))]
    exact ⟨M, rfl, fun _ _ => rfl, fun _ _ => rfl, fun j h1 h2 => by omega⟩
  | m + 1, fu + 1, i, M, hi, hf => by
    rw [fJ7_fill_53178_L5, if_neg (nI_ge (by omega) (by omega)), za_chk _ (by omega) hK, za_lt, nI_clamp (by omega), nI_add]
    obtain ⟨M', j1, j2, j3, j4⟩ := fill_L hK m fu (i + 1) (wr M k0 i v) (by omega) (by omega)
    refine ⟨M', j1, fun b hb => (j2 b hb).trans (za_wrc hb), fun j hj => (j3 j (by omega)).trans (za_wri (by omega)), fun j h1 h2 => ?_⟩
    by_cases e : j = i
    · subst e; rw [j3 j (by omega), za_wrs]
    · exact j4 j (by omega) h2
theorem fill_c {k0 K : Nat} {v : Int32} (hK : K < 90000) (M : Mc) : ∃ M', fJ7_fill_53178 M K k0 v = some M' ∧ (∀ b, b ≠ k0 → M' b = M b) ∧ ∀ j, j < K → M' k0 j = v := by
  obtain ⟨M', j1, j2, j3, j4⟩ := fill_L (k0 := k0) (v := v) (show K < 2 ^ 31 by omega) K FU 0 M (by omega) (by rw [za_FU]; omega)
  unfold fJ7_fill_53178
  rw [za_lt]
  rw [nI_0] at j1
  exact ⟨M', j1, j2, fun j hj => j4 j (by omega) hj⟩
theorem cods_L {l : Nat} (hl : l < 12) : ∀ m fu i R, i + m = 8 → m < fu → R 127 16 = nI l → ∃ R', fX12_law_L106 fu R (nI i) = (bnd (fX12_blanks R') fun M15 => fX12_law_L139 FU M15 0) ∧ (∀ b, b ≠ 137 → R' b = R b) ∧ (∀ j, j < 8 * l + i ∨ 8 * l + 8 ≤ j → R' 137 j = R 137 j) ∧ ∀ j, i ≤ j → j < 8 → R' 137 (8 * l + j) = -1
  | m, 0, _, _, _, hf, _ => by omega
  | 0, fu + 1, i, R, hi, _, _ => by
    rw [fX12_law_L106, if_pos (nI_le (by omega) (by omega))]
    exact ⟨R, rfl, fun _ _ => rfl, fun _ _ => rfl, fun j h1 h2 => by omega⟩
  | m + 1, fu + 1, i, R, hi, hf, h16 => by
    rw [fX12_law_L106, if_neg (nI_ge (by omega) (by omega)), h16, za_mul, nI_add, za_chk _ (by omega) (by omega), za_lt, nI_clamp (by omega), nI_add]
    obtain ⟨R', j1, j2, j3, j4⟩ := cods_L hl m fu (i + 1) (wr R 137 (8 * l + i) (-1)) (by omega) (by omega) (by rw [za_wra (by omega)]; exact h16)
    refine ⟨R', j1, fun b hb => (j2 b hb).trans (za_wrc hb), fun j hj => (j3 j (by omega)).trans (za_wri (by omega)), fun j h1 h2 => ?_⟩
    by_cases e : j = i
    · subst e; rw [j3 _ (by omega), za_wrs]
    · exact j4 j (by omega) h2
/-- the outcome of law -/
def OW (np : Nat) (C R : Mc) (N L : Md) (x : Option (Nat ⊕ (Int32 × Mc × Nat))) (y : Option (Int32 × Mc)) : Prop := ∃ b R' n' t', y = some (b, R') ∧ GR2 R R' ∧ ((x = some (.inl 2) ∧ R' 127 0 = nI 1 ∧ ∃ m', IV n' t' m' C R' N L ∧ C (17 + 37) 1 = nI m') ∨ ∃ C' m', x = some (.inr (b, C', 146 + 4 * m')) ∧ m' ≤ 12 ∧ R' 127 0 = 0 ∧ IV n' t' m' C' R' N L ∧ GC C C' ∧ (∀ l, l < m' → C' 16 l = nI (146 + 4 * l)) ∧ (m' = 12 → C' 0 9 = -1) ∧ C' 17 6 = C 17 6 ∧ C' 32 2 = C 32 2)
theorem read_start {k : Nat} (h : IV n t m C R N L) (hm : m < 12) (hk : k ≤ 300) (hkt : ∀ i, i < k → ∃ b, b < 256 ∧ C 123 i = nI b ∧ R 134 i &&& nI 255 = nI b) (C6 R6 : Mc) (hC6 : C6 = wr (wr C 0 9 (-1)) 0 8 0) (hR6 : R6 = wr (wr (wr R 127 0 0) 127 10 (nI k)) 127 9 0) : ∃ T cnt s q C0 R0, fX7_read C6 (nI k) = fX7_read_L82 FU C0 0 ∧ (lt (wr R6 (127) 11 0) fun M7 => lt (wr M7 (127) 12 0) fun M8 => lt (wr M8 (127) 13 (-1)) fun M9 => lt (wr M9 (127) 14 0) fun M10 => lt (wr M10 (127) 15 0) fun M11 => chk (nI 2125) (2132) (lt (wr M11 (127) 16 (M11 (128) 2125)) fun M12 => chk (M12 (127) 16) 12 (lt (wr M12 (138) (M12 (127) 16).toNatClampNeg (vp_nar .boolean 0)) fun M13 => (fX12_law_L106 FU M13 0)))) = fX12_law_L139 FU R0 0 ∧ KL T k m cnt s q C0 R0 0 0 0 0 C0 R0 ∧ (∀ b, (b < 114 ∨ 120 < b) → C0 b = C6 b) ∧ (∀ b, b ≠ 127 → b ≠ 137 → b ≠ 138 → R0 b = R6 b) ∧ (∀ j, j ≠ 11 → j ≠ 12 → j ≠ 13 → j ≠ 14 → j ≠ 15 → j ≠ 16 → R0 127 j = R6 127 j) ∧ (∀ j, j < 8 * m ∨ 8 * m + 8 ≤ j → R0 137 j = R6 137 j) ∧ (∀ j, j ≠ m → R0 138 j = R6 138 j) := by
  -- the text
  have hT : ∃ T : Nat → Nat, (∀ i, i < k → T i < 256) ∧ (∀ i, i < k → C 123 i = nI (T i)) ∧ ∀ i, i < k → R 134 i &&& nI 255 = nI (T i) := by
    refine ⟨fun i => (C 123 i).toNatClampNeg, fun i hi => ?_, fun i hi => ?_, fun i hi => ?_⟩ <;> obtain ⟨b, b1, b2, b3⟩ := hkt i hi
    · show (C 123 i).toNatClampNeg < 256
      rw [b2, nI_clamp (by omega)]; exact b1
    · show C 123 i = nI (C 123 i).toNatClampNeg
      rw [b2, nI_clamp (by omega)]
    · show R 134 i &&& nI 255 = nI (C 123 i).toNatClampNeg
      rw [b2, nI_clamp (by omega)]; exact b3
  obtain ⟨T, T1, T2, T3⟩ := hT
  have hlm : C (17 + 37) 1 = nI m := h.1.2.1
  have hRm : R 128 2125 = nI m := (ra_ln h.1.1.1).trans hlm
  obtain ⟨cnt, s, q, C1, c1, c2, c3, c4, c5⟩ := split_c (T := T) (n := k) (C := C6) hk T1 (fun i hi => by rw [hC6, za_wra (by omega), za_wra (by omega)]; exact T2 i hi)
  -- the class's start
  obtain ⟨D1, d1, d2, d3⟩ := fill_c (k0 := 119) (K := 8) (v := -1) (by omega) (wr (wr (wr (wr (wr (wr C1 114 3 0) 114 4 (C1 115 0)) 114 5 0) 114 6 (-1)) 114 8 0) 114 11 0)
  obtain ⟨D2, f1, f2, f3⟩ := fill_c (k0 := 120) (K := 8) (v := -1) (by omega) D1
  have hread : fX7_read C6 (nI k) = fX7_read_L82 FU D2 0 := by
    unfold fX7_read
    rw [if_neg (nI_pos (by omega)), if_neg (nI_nlt hk (by omega)), if_pos (nI_le hk (by omega)), c1, za_bnd, za_lt, za_0, za_chk _ (by omega) (by omega), za_lt, za_lt, za_lt, za_lt, za_lt, nI_clamp (by omega), za_wra (by omega), nI_0, d1, za_bnd, f1, za_bnd]
  -- the reference's start
  have hRS : ∃ S, S = wr (wr (wr (wr (wr (wr (wr R6 127 11 0) 127 12 0) 127 13 (-1)) 127 14 0) 127 15 0) 127 16 (nI m)) 138 m 0 := ⟨_, rfl⟩
  obtain ⟨S, hS⟩ := hRS
  have s16 : S 127 16 = nI m := by rw [hS, za_wra (by omega), za_wrs]
  obtain ⟨S1, g1, g2, g3, g4⟩ := cods_L (l := m) hm 8 FU 0 S (by omega) (by rw [za_FU]; omega) s16
  have r127 : ∀ j, S1 127 j = S 127 j := fun j => by rw [g2 127 (by omega)]
  have z10 : S1 127 10 = nI k := by rw [r127, hS, za_wra (by omega), za_wri (by omega), za_wri (by omega), za_wri (by omega), za_wri (by omega), za_wri (by omega), za_wri (by omega), hR6, za_wri (by omega), za_wrs]
  have z11 : S1 127 11 = nI 0 := by rw [r127, hS, za_wra (by omega), za_wri (by omega), za_wri (by omega), za_wri (by omega), za_wri (by omega), za_wri (by omega), za_wrs, nI_0]
  have z134 : ∀ i, i < k → S1 134 i &&& nI 255 = nI (T i) := fun i hi => by
    rw [g2 134 (by omega), hS, za_wra (by omega), za_wra (by omega), za_wra (by omega), za_wra (by omega), za_wra (by omega), za_wra (by omega), za_wra (by omega), hR6, za_wra (by omega), za_wra (by omega), za_wra (by omega)]; exact T3 i hi
  obtain ⟨S2, b1, b2, b3⟩ := bl_L (T := T) hk (u := s 0) k FU 0 S1 (by omega) (by rw [za_FU]; omega) z10 z134 T1 z11 c4
  have q127 : ∀ j, j ≠ 11 → S2 127 j = S 127 j := fun j hj => (b2 127 j (by omega)).trans (r127 j)
  have q128 : ∀ b, b ≠ 127 → b ≠ 137 → S2 b = S b := fun b h1 h2 => (funext fun j => b2 b j (fun z => h1 z.1)).trans (g2 b h2)
  have q137 : ∀ j, S2 137 j = S1 137 j := fun j => b2 137 j (by omega)
  have hsk : SK T k (s 0) (s 0) := SK_rf c4.2.2
  have h00 : (8 * m + 0 : Nat) = 8 * m := rfl
  refine ⟨T, cnt, s, q, D2, S2, hread, ?_, ⟨⟨fun _ _ _ _ _ => rfl, fun _ _ _ _ _ _ _ => rfl, fun _ _ _ _ _ _ => rfl, fun _ _ _ _ _ _ => rfl, fun _ _ => ⟨rfl, rfl⟩, fun _ _ => rfl, fun _ _ => rfl⟩, ⟨hk, T1, fun i hi => ?_, ?_, ⟨fun i i1 i2 => ?_, c2.2⟩, c3, ?_, hm⟩, by omega, by omega, by omega, ?_, ?_, ?_, ?_, ?_, ?_, b3, hsk, ?_, ?_, ?_, ?_, fun kk hkk => Or.inl ⟨?_, ?_⟩⟩, fun b hb => ?_, fun b z1 z2 z3 => ?_, fun j z1 z2 z3 z4 z5 z6 => ?_, fun j hj => ?_, fun j hj => ?_⟩
  · simp only [za_lt]
    have h2125 : wr (wr (wr (wr (wr R6 127 11 0) 127 12 0) 127 13 (-1)) 127 14 0) 127 15 0 128 2125 = nI m := by
      rw [za_wra (by omega), za_wra (by omega), za_wra (by omega), za_wra (by omega), za_wra (by omega), hR6, za_wra (by omega), za_wra (by omega), za_wra (by omega)]; exact hRm
    rw [za_chk _ (by omega) (by omega), h2125, za_wrs, za_chk _ hm (by omega), nI_clamp (by omega), show vp_nar .boolean (0 : Int32) = 0 from narz isz0, ← hS]
    rw [nI_0] at g1
    rw [g1]
    unfold fX12_blanks
    rw [b1, za_bnd]
  · rw [q128 134 (by omega) (by omega), ← g2 134 (by omega)]; exact z134 i hi
  · rw [q127 10 (by omega), ← r127]; exact z10
  · rw [f2 116 (by omega), f2 115 (by omega), f2 117 (by omega), d2 116 (by omega), d2 115 (by omega), d2 117 (by omega)]
    simp (disch := omega) only [za_wra]
    exact c2.1 i i1 i2
  · rw [q127 16 (by omega)]; exact s16
  · rw [f2 114 (by omega), d2 114 (by omega)]; simp (disch := omega) only [za_wri, za_wrs]; exact nI_0.symm
  · rw [f2 114 (by omega), d2 114 (by omega), f2 115 (by omega), d2 115 (by omega)]; simp (disch := omega) only [za_wri, za_wrs, za_wra]
  · rw [f2 114 (by omega), d2 114 (by omega)]; simp (disch := omega) only [za_wri, za_wrs]
  · rw [f2 114 (by omega), d2 114 (by omega)]; simp (disch := omega) only [za_wri, za_wrs]; exact nI_0.symm
  · rw [f2 114 (by omega), d2 114 (by omega), za_wrs]; exact isz0
  · rw [f2 114 (by omega), d2 114 (by omega), za_wrs, q128 138 (by omega) (by omega), hS, za_wrs]
  · rw [q127 12 (by omega), hS, za_wra (by omega), za_wri (by omega), za_wri (by omega), za_wri (by omega), za_wri (by omega), za_wrs]
  · rw [q127 13 (by omega), hS, za_wra (by omega), za_wri (by omega), za_wri (by omega), za_wri (by omega), za_wrs]
  · rw [q127 14 (by omega), hS, za_wra (by omega), za_wri (by omega), za_wri (by omega), za_wrs]
  · rw [q127 15 (by omega), hS, za_wra (by omega), za_wri (by omega), za_wrs, nI_0]
  · rw [f2 119 (by omega), d3 kk hkk]
  · rw [q137]; exact g4 kk (by omega) hkk
  · rw [f2 b (by omega), d2 b (by omega)]
    simp (disch := omega) only [za_wrc]
    exact c5 b (by omega) (by omega) (by omega)
  · rw [q128 b z1 z2, hS]
    simp (disch := omega) only [za_wrc]
  · rw [q127 j z1, hS, za_wra (by omega)]
    simp (disch := omega) only [za_wri]
  · rw [q137, g3 j (by omega), hS]
    simp (disch := omega) only [za_wra]
  · rw [q128 138 (by omega) (by omega), hS, za_wri hj]
    simp (disch := omega) only [za_wra]
theorem c_law {np : Nat} (h : IV n t m C R N L) (hz : ∀ l, l < m → C 16 l = nI (146 + 4 * l)) (hnp : np = 146 + 4 * m) (h12 : m = 12 → C 0 9 = -1) (p0 : Int32) : OW np C R N L (fX11_law np C p0) (fX12_law R p0) := by
  have hm12 : m ≤ 12 := h.1.2.2.1
  have hlm : C (17 + 37) 1 = nI m := h.1.2.1
  have hRm : R 128 2125 = nI m := (ra_ln h.1.1.1).trans hlm
  obtain ⟨kt, t1, t2, t3, t4⟩ := h.2.2.2.2.2.2.1
  have hbad : ∀ x, x = some (.inl 2) → OW np C R N L x (some (0, wr (wr R 127 0 0) 127 0 (nI 1))) := fun x hx =>
    ⟨0, _, n, t, rfl, (gr_wr (gr_wr GR2.rf (by omega)) (by omega)), Or.inl ⟨hx, za_wrs _ _ _ _, m, iv_thr (iv_thr h), hlm⟩⟩
  have hJ : fX12_law_J18 (wr R 127 0 0) p0 = some (0, wr (wr R 127 0 0) 127 0 (nI 1)) := by
    unfold fX12_law_J18 fX12_law_J23; rw [bad_1, za_bn2, if_neg za_n10]
  have hK : fX11_law_J16 np C p0 = some (.inl 2) := by
    unfold fX11_law_J16 fX11_law_J17; rw [need_0, za_bnxl]
  unfold fX11_law fX12_law
  rw [za_lt, za_wri (by omega), t2, t3]
  rcases rng kt (by omega) p0 with g | ⟨g0, g⟩ | ⟨k, k1, rfl⟩
  · rw [if_pos g, if_pos g, hJ, hK]; exact hbad _ rfl
  · rw [if_neg g0, if_pos g, if_neg g0, if_neg (show ¬ p0 ≤ nI kt by grind), hJ, hK]; exact hbad _ rfl
  rw [if_neg (nI_pos (by omega)), if_neg (nI_nlt k1 (by omega)), if_neg (nI_pos (by omega)), if_pos (nI_le k1 (by omega))]
  unfold fX11_law_J17 fX12_law_J23
  rw [need_1, za_bnx, bad_0, za_bn2, if_pos rfl, za_lt, za_lt, za_wra (by omega), za_wra (by omega), hlm, za_lt, za_lt, za_chk (n := 2125) _ (by omega) (by omega), nI_clamp (n := 2125) (by omega), za_wra (by omega), za_wra (by omega), za_wra (by omega), hRm]
  by_cases q12 : m = 12
  · -- the laws are all there
    subst q12
    rw [if_neg (nI_nlt (Nat.le_refl _) (by omega)), if_pos rfl]
    have z9 := h12 rfl
    refine ⟨-1, _, n, t, rfl, (gr_wr (gr_wr (gr_wr GR2.rf (by omega)) (by omega)) (by omega)), Or.inr ⟨_, 12, by rw [hnp], by omega, by rw [za_wri (by omega), za_wri (by omega), za_wrs], ?_, gc_wr (gc_wr GC.rf (by omega)) (by omega), fun l hl => by rw [za_wra (by omega), za_wra (by omega)]; exact hz l hl, fun _ => by rw [za_wri (by omega), za_wrs], by rw [za_wra (by omega), za_wra (by omega)], by rw [za_wra (by omega), za_wra (by omega)]⟩⟩
    refine iv_law h ⟨rw_rr (rw_cc h.1.1 (fun b b1 b2 => by rw [za_wrc (by omega), za_wrc (by omega)])) (by rw [za_wrc (by omega), za_wrc (by omega), za_wrc (by omega)]) (by rw [za_wrc (by omega), za_wrc (by omega), za_wrc (by omega)]) (by rw [za_wrc (by omega), za_wrc (by omega), za_wrc (by omega)]) (by rw [za_wri (by omega), za_wri (by omega), za_wri (by omega)]) (by rw [za_wri (by omega), za_wri (by omega), za_wri (by omega)]) (by rw [za_wri (by omega), za_wri (by omega), za_wri (by omega)]), by rw [za_wra (by omega), za_wra (by omega)]; exact hlm, by omega, BK_cg h.1.2.2.2.1 (fun b hb => by rw [za_wrc (by omega), za_wrc (by omega)]) (fun b b1 b2 => by rw [za_wrc (by omega), za_wrc (by omega), za_wrc (by omega)]), by unfold WT; rw [za_wra (by omega), za_wra (by omega), za_wra (by omega), za_wra (by omega), za_wra (by omega), za_wra (by omega)]; exact h.1.2.2.2.2.1, Or.inl rfl⟩ ?_ ?_ (fun b b1 b2 b3 b4 b5 b6 => by rw [za_wrc b1, za_wrc b1]) (fun j j1 j2 => by rw [za_wri j1, za_wri j2]) (fun b b1 b2 b3 => by rw [za_wrc b1, za_wrc b1, za_wrc b1]) (fun j hj => by rw [za_wra (by omega), za_wra (by omega), za_wra (by omega)]) (fun j hj => by rw [za_wri (by omega), za_wri (by omega), za_wri (by omega)]) (za_wrs _ _ _ _) (za_wrs _ _ _ _) ?_
    · intro r hr
      have := h.2.2.2.1 r hr
      exact ⟨fun k hk => by rw [za_wra (by omega), za_wra (by omega), za_wra (by omega), za_wra (by omega), za_wra (by omega)]; exact this.1 k hk, by rw [za_wra (by omega), za_wra (by omega)]; exact this.2⟩
    · have := h.2.2.2.2.2.2.2.2.1
      unfold IW at *
      simp (disch := omega) only [za_wrc, za_wra]
      exact this
    · rw [za_wri (by omega), za_wrs, za_wri (by omega), za_wri (by omega), za_wri (by omega), ← h.2.2.2.2.2.2.2.1]; exact z9.symm
  have hm : m < 12 := by omega
  rw [if_pos (nI_lt hm (by omega)), if_neg (show ¬ nI m = nI 12 from fun z => by have := za_inj (by omega) (by omega) z; omega)]
  obtain ⟨T, cnt, s, q, C0, R0, r1, r2, r3, r4, r5, r6, r7, r8⟩ := read_start h hm (show k ≤ 300 by omega) (fun i hi => t4 i (by omega)) _ _ rfl rfl
  rw [r1, r2]
  obtain ⟨C9, R9, hcs⟩ := law_main 10 FU FU 0 0 0 0 C0 R0 (by omega) (by rw [za_FU]; omega) (by rw [za_FU]; omega) r3
  rw [nI_0] at hcs
  have hfr : LFr m C0 R0 C9 R9 := by
    rcases hcs with ⟨_, _, _, _, _, _, _, x⟩ | ⟨_, _, _, x⟩
    · exact x.1
    · exact x.1
  obtain ⟨l1, l2, l3, l4, l5, l6, l7⟩ := hfr
  have hcc : ∀ b, b ≠ 0 → (b < 114 ∨ 120 < b) → C9 b = C b := fun b b1 b2 => by rw [l1 b (by omega) (by omega) (by omega) (by omega), r4 b b2, za_wrc b1, za_wrc b1]
  have hc0 : ∀ j, C9 0 j = wr (wr C 0 9 (-1)) 0 8 0 0 j := fun j => by rw [l1 0 (by omega) (by omega) (by omega) (by omega), r4 0 (by omega)]
  have hrr : ∀ b, b ≠ 127 → (b < 135 ∨ 138 < b) → R9 b = R b := fun b b1 b2 => by rw [l3 b b1 (by omega) (by omega) (by omega) (by omega), r5 b b1 (by omega) (by omega), za_wrc b1, za_wrc b1, za_wrc b1]
  have hr7 : ∀ j, j ≠ 0 → (j < 9 ∨ 16 < j) → R9 127 j = R 127 j := fun j j1 j2 => by rw [l4 j (by omega) (by omega) (by omega) (by omega) (by omega), r6 j (by omega) (by omega) (by omega) (by omega) (by omega) (by omega), za_wri (by omega), za_wri (by omega), za_wri j1]
  have hr70 : R9 127 0 = 0 := by rw [l4 0 (by omega) (by omega) (by omega) (by omega) (by omega), r6 0 (by omega) (by omega) (by omega) (by omega) (by omega) (by omega), za_wri (by omega), za_wri (by omega), za_wrs]
  have hr79 : R9 127 9 = 0 := by rw [l4 9 (by omega) (by omega) (by omega) (by omega) (by omega), r6 9 (by omega) (by omega) (by omega) (by omega) (by omega) (by omega), za_wrs]
  have h35 : ∀ j, j < 400 * m → R9 135 j = R 135 j ∧ R9 136 j = R 136 j := fun j hj => ⟨by rw [(l5 j hj).1, r5 135 (by omega) (by omega) (by omega), za_wra (by omega), za_wra (by omega), za_wra (by omega)], by rw [(l5 j hj).2, r5 136 (by omega) (by omega) (by omega), za_wra (by omega), za_wra (by omega), za_wra (by omega)]⟩
  have h37 : ∀ j, j < 8 * m → R9 137 j = R 137 j := fun j hj => by rw [l6 j (by omega), r7 j (by omega), za_wra (by omega), za_wra (by omega), za_wra (by omega)]
  have h38 : ∀ j, j < m → R9 138 j = R 138 j := fun j hj => by rw [l7 j (by omega), r8 j (by omega), za_wra (by omega), za_wra (by omega), za_wra (by omega)]
  have hgr : GR2 R R9 := fun b hb => hrr b (by omega) (by omega)
  have hBK := h.1.2.2.2.1
  rcases hcs with ⟨a', c', d', i', i10, x1, x2, x3⟩ | ⟨f, x1, x2, x3⟩
  · -- a law
    obtain ⟨_, he, k3, k4, k5, k6, k7, k8, k9, k10, k11, k12, k13, k14, k15, k16, k17, k18⟩ := x3
    have hcnt := he.2.2.2.2.2.1
    have hl9 : C9 54 1 = nI m := by rw [hcc 54 (by omega) (by omega)]; exact hlm
    have hC10 : ∃ C10, C10 = stM C9 np (nI c') (C9 114 11) := ⟨_, rfl⟩
    obtain ⟨C10, hC10⟩ := hC10
    have s1 : ∀ b, b < np ∨ np + 3 < b → C10 b = C9 b := fun b hb => by
      rw [hC10]; unfold stM
      rw [za_wrc (by omega), up_o (by omega), up_o (by omega), up_o (by omega), up_o (by omega)]
    have s2 : C10 np 3 = C9 114 11 := by rw [hC10]; unfold stM; rw [za_wrs]
    have s3 : C10 (np + 1) = cpf (C9 118) (nI c') := by
      rw [hC10]; unfold stM; rw [za_wrc (by omega), up_o (by omega), up_o (by omega), up_c]
    have s4 : C10 (np + 2) = C9 119 := by
      rw [hC10]; unfold stM; rw [za_wrc (by omega), up_o (by omega), show np + 2 = np + 1 + 1 from rfl, up_c]
    have s5 : C10 (np + 3) = C9 120 := by
      rw [hC10]; unfold stM; rw [za_wrc (by omega), show np + 3 = np + 1 + 1 + 1 from rfl, up_c]
    have hst : fX7_statute C9 np = some C10 := by
      unfold fX7_statute
      rw [k9, if_neg (nI_pos (by omega)), if_neg (nI_nlt (by omega) (by omega)), za_lt, ← hC10]
      exact if_pos k10
    have s54 : C10 54 1 = nI m := by rw [s1 54 (by omega)]; exact hl9
    have hpr : fX2_propose C10 (17 + 37) np = some (nI m, wr (wr (wr C10 16 m (nI np)) (17 + 40) m (-1)) (17 + 37) 1 (nI (m + 1))) := by
      unfold fX2_propose
      rw [show C10 (17 + 37) 1 = nI m from s54, za_inY hm (by omega), za_bnd, if_neg za_n10, za_bnd, if_neg za_n10, za_chk _ hm (by omega), za_chp _ (by omega), za_lt, za_wra (by omega), show C10 (17 + 37) 1 = nI m from s54, za_chk _ hm (by omega), za_lt, za_wra (by omega), za_wra (by omega), show C10 (17 + 37) 1 = nI m from s54, za_lt, nI_clamp (by omega), nI_add]
    have hRf : fX12_law_J200 R9 = some (nI m, wr R9 128 2125 (nI (m + 1))) := by
      unfold fX12_law_J200
      rw [k14, if_pos (Int32.le_refl _), za_chk (n := 2125) _ (by omega) (by omega), za_chk (n := 2125) _ (by omega) (by omega), za_lt, nI_clamp (n := 2125) (by omega), hrr 128 (by omega) (by omega), hRm, nI_add, za_wra (by omega), he.2.2.2.2.2.2.1]
    rw [x1, x2, za_bn2, if_pos rfl, hst, za_bnd, hpr, za_bn2, hRf]
    have hC' : ∃ C', C' = wr (wr (wr C10 16 m (nI np)) (17 + 40) m (-1)) (17 + 37) 1 (nI (m + 1)) := ⟨_, rfl⟩
    obtain ⟨C', hC'⟩ := hC'
    rw [← hC']
    have u1 : ∀ b, b ≠ 16 → b ≠ 54 → b ≠ 57 → C' b = C10 b := fun b b1 b2 b3 => by rw [hC', za_wrc (by omega), za_wrc (by omega), za_wrc b1]
    have u2 : ∀ b, b ≠ 0 → b ≠ 16 → b ≠ 54 → b ≠ 57 → (b < 114 ∨ 120 < b) → b < 146 → C' b = C b := fun b b0 b1 b2 b3 b4 b5 => by rw [u1 b b1 b2 b3, s1 b (by omega), hcc b b0 b4]
    have u16 : ∀ l, l < m → C' 16 l = C 16 l := fun l hl => by rw [hC', za_wra (by omega), za_wra (by omega), za_wri (by omega), s1 16 (by omega), hcc 16 (by omega) (by omega)]
    have u16m : C' 16 m = nI np := by rw [hC', za_wra (by omega), za_wra (by omega), za_wrs]
    have ucell : ∀ b, 146 ≤ b → b < np → C' b = C b := fun b b1 b2 => by rw [u1 b (by omega) (by omega) (by omega), s1 b (by omega), hcc b (by omega) (by omega)]
    have u0 : ∀ j, C' 0 j = wr (wr C 0 9 (-1)) 0 8 0 0 j := fun j => by rw [u1 0 (by omega) (by omega) (by omega), s1 0 (by omega)]; exact hc0 j
    -- the world
    have hb : RW 17 n t n (ab t) (t / 52) (wr C10 16 m (nI np)) R9 := by
      refine rw_rr (rw_cc h.1.1 (fun b b1 b2 => ?_)) (hrr _ (by omega) (by omega)) (hrr _ (by omega) (by omega)) (hrr _ (by omega) (by omega)) (hr7 7 (by omega) (by omega)) (hr7 23 (by omega) (by omega)) (hr7 24 (by omega) (by omega))
      rw [za_wrc (by omega), s1 b (by omega), hcc b (by omega) (by omega)]
    have hw1 := op_law hb (by rw [za_wra (by omega), s1 54 (by omega)]; exact hl9) hm (by rw [hrr 128 (by omega) (by omega)]; exact h.2.2.2.2.2.2.2.2.1.2.2 m (Nat.le_refl _) hm)
    rw [← hC'] at hw1
    have v9 : ∀ b, b ≠ 127 → b ≠ 128 → (b < 135 ∨ 138 < b) → wr R9 128 2125 (nI (m + 1)) b = R b := fun b b1 b2 b3 => by rw [za_wrc b2]; exact hrr b b1 b3
    have u54 : C' 54 1 = nI (m + 1) := by rw [hC']; exact za_wrs _ _ _ _
    refine ⟨_, wr R9 128 2125 (nI (m + 1)), n, t, rfl, hgr.tr (gr_wr GR2.rf (by omega)), Or.inr ⟨C', m + 1, by rw [show np + 4 = 146 + 4 * (m + 1) by omega], by omega, by rw [za_wra (by omega)]; exact hr70, ?_, fun b b1 b2 => u2 b (by omega) (by omega) (by omega) (by omega) (by omega) (by omega), fun l hl => ?_, fun z => by rw [u0, za_wri (by omega), za_wrs], by rw [u2 17 (by omega) (by omega) (by omega) (by omega) (by omega) (by omega)], by rw [u2 32 (by omega) (by omega) (by omega) (by omega) (by omega) (by omega)]⟩⟩
    · refine iv_law h ⟨hw1, u54, by omega, fun l hl => ⟨fun hlm' => ?_, fun hlm' => ?_⟩, by unfold WT; rw [u2 17 (by omega) (by omega) (by omega) (by omega) (by omega) (by omega)]; exact h.1.2.2.2.2.1, Or.inl rfl⟩ ?_ ?_ u2 (fun j j1 j2 => by rw [u0, za_wri j1, za_wri j2]) v9 (fun j hj => by rw [za_wri hj, hrr 128 (by omega) (by omega)]) (fun j hj => by rw [za_wra (by omega)]; exact hr7 j (by omega) (by omega)) (by rw [u0, za_wrs]) (by rw [za_wra (by omega)]; exact hr79) (by rw [u0, za_wri (by omega), za_wrs, za_wra (by omega)]; exact k15.symm)
      · by_cases e : l = m
        · subst e
          refine ⟨np, by omega, by omega, u16m, by rw [u1 np (by omega) (by omega) (by omega), s2]; exact k10, by rw [u1 np (by omega) (by omega) (by omega), s2, za_wra (by omega)]; exact k11, fun k hk => ?_⟩
          rcases k18 k hk with ⟨g1, g2⟩ | ⟨f, mm, r, g1, g2, g3, g4, g5, g6, g7⟩
          · exact Or.inl ⟨by rw [u1 _ (by omega) (by omega) (by omega), s4]; exact g1, by rw [za_wra (by omega)]; exact g2⟩
          · refine Or.inr ⟨f, mm, r, c', by rw [u1 _ (by omega) (by omega) (by omega), s4]; exact g1, by rw [u1 _ (by omega) (by omega) (by omega), s5]; exact g2, ?_, g3, by omega, by rw [za_wra (by omega)]; exact g4, by omega, by omega, sg_con (fun j hj => ⟨?_, by rw [za_wra (by omega)], by rw [za_wra (by omega)]⟩) g6, by rw [za_wra (by omega)]; exact g7⟩
            · unfold dlen
              rw [u1 _ (by omega) (by omega) (by omega), s3]
              unfold cpf
              rw [if_pos rfl, nI_clamp (by omega)]
            · rw [u1 _ (by omega) (by omega) (by omega), s3]
              unfold cpf
              rw [if_neg (by omega), nI_clamp (by omega), if_pos (by omega)]
        · obtain ⟨z, z1, z2, z3, z4, z5, z6⟩ := bk_old (C' := C') (R' := wr R9 128 2125 (nI (m + 1))) hBK hz hm12 hnp u16 ucell (fun j hj => by rw [za_wra (by omega), za_wra (by omega)]; exact h35 j hj) (fun j hj => by rw [za_wra (by omega)]; exact h37 j hj) (fun j hj => by rw [za_wra (by omega)]; exact h38 j hj) l (by omega)
          exact ⟨z, z1, z2, z3, z4, z5, z6⟩
      · rw [hC', za_wra (by omega), za_wra (by omega), za_wri (by omega), s1 16 (by omega), hcc 16 (by omega) (by omega)]
        exact (hBK l hl).2 (by omega)
      · intro r hr
        have := h.2.2.2.1 r hr
        exact ⟨fun k hk => by rw [v9 141 (by omega) (by omega) (by omega), u2 _ (by omega) (by omega) (by omega) (by omega) (by omega) (by omega)]; exact this.1 k hk, fun l hl hb2 => by rw [u2 15 (by omega) (by omega) (by omega) (by omega) (by omega) (by omega)] at hb2; have := this.2 l hl hb2; omega⟩
      · obtain ⟨w1, w2, w3⟩ := h.2.2.2.2.2.2.2.2.1
        unfold IW
        rw [u2 59 (by omega) (by omega) (by omega) (by omega) (by omega) (by omega), u2 60 (by omega) (by omega) (by omega) (by omega) (by omega) (by omega), u2 61 (by omega) (by omega) (by omega) (by omega) (by omega) (by omega), v9 139 (by omega) (by omega) (by omega)]
        have e128 : ∀ j, j ≠ 2125 → wr R9 128 2125 (nI (m + 1)) 128 j = R 128 j := fun j hj => by rw [za_wri hj, hrr 128 (by omega) (by omega)]
        exact ⟨fun l hl => ⟨by rw [e128 _ (by omega)]; exact (w1 l hl).1, by rw [e128 _ (by omega)]; exact (w1 l hl).2⟩, w2, fun l h1 h2 => by rw [e128 _ (by omega)]; exact w3 l (by omega) h2⟩
    · by_cases e : l = m
      · subst e; rw [u16m, hnp]
      · rw [u16 l (by omega)]; exact hz l (by omega)
  · -- a fault
    obtain ⟨_, f1, f2, f3, f4, f5⟩ := x3
    have hRf : fX12_law_J200 R9 = some (nI f - nI 10, R9) := by
      unfold fX12_law_J200
      rw [f4, if_neg (fun z => by have := (za_le0 (by omega)).mp z; omega)]
    rw [x1, x2, za_bn2, if_neg (fun z => by have := (za_eq0 (by omega)).mp z; omega), za_lt, hRf]
    have u2 : ∀ b, b ≠ 0 → (b < 114 ∨ 120 < b) → wr C9 0 9 (C9 114 6) b = C b := fun b b1 b2 => by rw [za_wrc b1]; exact hcc b b1 b2
    refine ⟨_, R9, n, t, rfl, hgr, Or.inr ⟨_, m, by rw [hnp], hm12, hr70, ?_, fun b b1 b2 => u2 b (by omega) (by omega), fun l hl => by rw [u2 16 (by omega) (by omega)]; exact hz l hl, fun z => by omega, by rw [u2 17 (by omega) (by omega)], by rw [u2 32 (by omega) (by omega)]⟩⟩
    refine iv_law h ⟨rw_rr (rw_cc h.1.1 (fun b b1 b2 => u2 b (by omega) (by omega))) (hrr _ (by omega) (by omega)) (hrr _ (by omega) (by omega)) (hrr _ (by omega) (by omega)) (hr7 7 (by omega) (by omega)) (hr7 23 (by omega) (by omega)) (hr7 24 (by omega) (by omega)), by rw [u2 54 (by omega) (by omega)]; exact hlm, hm12, fun l hl => ⟨fun hlm' => ?_, fun hlm' => by rw [u2 16 (by omega) (by omega)]; exact (hBK l hl).2 hlm'⟩, by unfold WT; rw [u2 17 (by omega) (by omega)]; exact h.1.2.2.2.2.1, Or.inl rfl⟩ ?_ ?_ (fun b b1 b2 b3 b4 b5 b6 => u2 b b1 b5) (fun j j1 j2 => by rw [za_wri j2, hc0 j, za_wri j1, za_wri j2]) (fun b b1 b2 b3 => hrr b b1 b3) (fun j hj => by rw [hrr 128 (by omega) (by omega)]) (fun j hj => hr7 j (by omega) (by omega)) (by rw [za_wri (by omega), hc0, za_wrs]) hr79 (by rw [za_wrs]; exact f5.symm)
    · exact bk_old hBK hz hm12 hnp (fun l _ => by rw [u2 16 (by omega) (by omega)]) (fun b b1 b2 => u2 b (by omega) (by omega)) h35 h37 h38 l hlm'
    · intro r hr
      have := h.2.2.2.1 r hr
      exact ⟨fun k hk => by rw [hrr 141 (by omega) (by omega), u2 _ (by omega) (by omega)]; exact this.1 k hk, by rw [u2 15 (by omega) (by omega)]; exact this.2⟩
    · have := h.2.2.2.2.2.2.2.2.1
      unfold IW at *
      rw [u2 59 (by omega) (by omega), u2 60 (by omega) (by omega), u2 61 (by omega) (by omega), hrr 128 (by omega) (by omega), hrr 139 (by omega) (by omega)]
      exact this
end QLs
