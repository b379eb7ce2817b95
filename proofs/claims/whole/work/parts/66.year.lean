/-! ===== the end of a year ===== -/
section YE
variable {w n t x a y m p : Nat} {C R : Mc}
def lvd (w : Nat) (C : Mc) (z c : Nat) : Prop := c % 12 / 3 = z ∧ C (w + 6) c ≠ -1
theorem lvd_c {z : Nat} (hz : z < 4) : ∀ k fu i, i + k = 96 → k < fu → ((∃ c, i ≤ c ∧ c < 96 ∧ lvd w C z c) → fX4_isLivedIn_L2 (w + 1) fu C (nI z) (nI i) = some (nI 1)) ∧ ((∀ c, i ≤ c → c < 96 → ¬ lvd w C z c) → fX4_isLivedIn_L2 (w + 1) fu C (nI z) (nI i) = some 0)
  | k, 0, _, _, hf => by omega
  | 0, fu + 1, i, hi, _ => by
    obtain rfl : i = 96 := by omega
    rw [fX4_isLivedIn_L2, if_pos (nI_le (Nat.le_refl _) (by omega))]
    exact ⟨fun ⟨c, h1, h2, _⟩ => by omega, fun _ => rfl⟩
  | k + 1, fu + 1, i, hi, hf => by
    obtain ⟨ih1, ih2⟩ := lvd_c hz k fu (i + 1) (by omega) (by omega)
    rw [fX4_isLivedIn_L2, if_neg (nI_ge (by omega) (by omega)), lf_zone (by omega), za_bnd, za_chk _ (by omega) (by omega), nI_clamp (n := i) (by omega)]
    unfold fX4_isLivedIn_J28
    simp only [nI_add]
    have go : ¬ lvd w C z i → ((∃ c, i ≤ c ∧ c < 96 ∧ lvd w C z c) → fX4_isLivedIn_L2 (w + 1) fu C (nI z) (nI (i + 1)) = some (nI 1)) ∧ ((∀ c, i ≤ c → c < 96 → ¬ lvd w C z c) → fX4_isLivedIn_L2 (w + 1) fu C (nI z) (nI (i + 1)) = some 0) := by
      intro hn
      refine ⟨fun ⟨c, h1, h2, h3⟩ => ih1 ⟨c, ?_, h2, h3⟩, fun h => ih2 (fun c h1 h2 => h c (by omega) h2)⟩
      by_cases e : c = i
      · subst e; exact absurd h3 hn
      · omega
    change ((∃ c, i ≤ c ∧ c < 96 ∧ lvd w C z c) → (if nI (i % 12 / 3) = nI z then (if C (w + 6) i = -1 then _ else _) else _) = _) ∧ (_ → (if nI (i % 12 / 3) = nI z then (if C (w + 6) i = -1 then _ else _) else _) = _)
    by_cases h1 : i % 12 / 3 = z
    · rw [if_pos (by rw [h1])]
      by_cases h2 : C (w + 6) i = -1
      · rw [if_pos h2]; exact go (fun h => h.2 h2)
      · rw [if_neg h2]; exact ⟨fun _ => rfl, fun h => absurd ⟨h1, h2⟩ (h i (Nat.le_refl _) (by omega))⟩
    · rw [if_neg (fun q => h1 (za_inj (by omega) (by omega) q))]; exact go (fun h => h1 h.1)
theorem rw_lvd {c : Nat} (h : RW w n t x a y C R) (hc : c < 96) : C (w + 6) c = -1 ↔ C (w + 5) c ≤ nI 1 := by
  have hn := rw_n100 h
  obtain ⟨k, i1, i2, i3, i4, i5⟩ := rw_sec h hc
  rw [i1, nI_leI (by omega) (by omega)]
  constructor
  · intro q
    by_cases h1 : k ≤ 1
    · exact h1
    · obtain ⟨p, hp, ho⟩ := i5 (by omega)
      rw [ho] at q; exact absurd q (za_nm1 (by omega))
  · exact i4
def yfin (K2 : Mc → Int32 → Option Mc) (M : Mc) (z : Nat) : Option Mc := K2 (wr (wr M 128 (2108 + z) (M 128 (2108 + z) + nI 1)) 128 (2112 + z) (M 128 (2112 + z) + M 128 (2104 + z))) (nI (z + 1))
theorem lvd_r {z : Nat} (K2 : Mc → Int32 → Option Mc) (h : RW w n t x a y C R) (hz : z < 4) : ∀ k fu i, i + k = 96 → k < fu → fX12_yearEnds_L11 K2 fu R (nI z) (nI 1) (nI i) = yfin K2 R z ∧ ((∃ c, i ≤ c ∧ c < 96 ∧ lvd w C z c) → fX12_yearEnds_L11 K2 fu R (nI z) 0 (nI i) = yfin K2 R z) ∧ ((∀ c, i ≤ c → c < 96 → ¬ lvd w C z c) → fX12_yearEnds_L11 K2 fu R (nI z) 0 (nI i) = K2 R (nI (z + 1)))
  | k, 0, _, _, hf => by omega
  | 0, fu + 1, i, hi, _ => by
    obtain rfl : i = 96 := by omega
    rw [fX12_yearEnds_L11, fX12_yearEnds_L11, if_pos (nI_le (Nat.le_refl _) (by omega)), if_pos (nI_le (Nat.le_refl _) (by omega)), if_neg za_n10, if_pos rfl]
    unfold fX12_yearEnds_J95 yfin
    simp only [nI_add]
    refine ⟨?_, fun ⟨c, h1, h2, _⟩ => by omega, fun _ => trivial⟩
    simp (disch := omega) only [za_chk, za_lt, nI_clamp, za_wri]
  | k + 1, fu + 1, i, hi, hf => by
    obtain ⟨ih0, ih1, ih2⟩ := lvd_r K2 h hz k fu (i + 1) (by omega) (by omega)
    rw [fX12_yearEnds_L11, fX12_yearEnds_L11, if_neg (nI_ge (by omega) (by omega)), if_neg (nI_ge (by omega) (by omega)), if_neg za_n10, if_pos rfl, rf_zone (by omega), za_bnd, rf_sec0 (by omega), za_bnd, ra_hold h.1 (by omega)]
    unfold fX12_yearEnds_J39 fX12_yearEnds_J43 fX12_yearEnds_J44
    simp only [nI_add]
    have go : ¬ lvd w C z i → ((∃ c, i ≤ c ∧ c < 96 ∧ lvd w C z c) → fX12_yearEnds_L11 K2 fu R (nI z) 0 (nI (i + 1)) = yfin K2 R z) ∧ ((∀ c, i ≤ c → c < 96 → ¬ lvd w C z c) → fX12_yearEnds_L11 K2 fu R (nI z) 0 (nI (i + 1)) = K2 R (nI (z + 1))) := by
      intro hn
      refine ⟨fun ⟨c, h1, h2, h3⟩ => ih1 ⟨c, ?_, h2, h3⟩, fun h => ih2 (fun c h1 h2 => h c (by omega) h2)⟩
      by_cases e : c = i
      · subst e; exact absurd h3 hn
      · omega
    refine ⟨ih0, ?_⟩
    by_cases h1 : i % 12 / 3 = z
    · rw [if_pos (show nI (i % 12 / 3) = nI z by rw [h1])]
      by_cases h2 : C (w + 5) i ≤ nI 1
      · rw [if_pos h2]; exact go (fun hh => hh.2 ((rw_lvd h (by omega)).mpr h2))
      · rw [if_neg h2]
        have hl : lvd w C z i := ⟨h1, fun q => h2 ((rw_lvd h (by omega)).mp q)⟩
        exact ⟨fun _ => ih0, fun hh => absurd hl (hh i (Nat.le_refl _) (by omega))⟩
    · rw [if_neg (fun q => h1 (za_inj (by omega) (by omega) q))]; exact go (fun h => h1 h.1)
theorem rw_monoy {y' : Nat} (h : RW w n t x a y C R) (ha : y ≤ y') : RW w n t x a y' C R := by
  obtain ⟨h1, h2, h3, h4, h5, h6, h7, h8, h9⟩ := h
  refine ⟨h1, h2, h3, h4, h5, h6, h7, fun z hz => ?_, h9⟩
  obtain ⟨j1, ⟨k, k1, k2⟩, ⟨r, r1, r2⟩⟩ := h8 z hz
  exact ⟨j1, ⟨k, by omega, k2⟩, ⟨r, by omega, r2⟩⟩
theorem see_L (ha : a ≤ 26500) (hy : y ≤ 20) : ∀ k fu z C R, z + k = 4 → k < fu → RV w n t n a (y + 1) m C R → (∀ z', z ≤ z' → z' < 4 → (∃ q, q ≤ y ∧ C (w + 13) z' = nI q) ∧ ∃ q, q ≤ 26500 * y ∧ C (w + 14) z' = nI q) → ∃ C' R', fX4_seeZones_L2 (w + 1) fu C (nI z) = some C' ∧ fX12_yearEnds_L2 fu R (nI z) = fX12_yearEnds_L103 FU R' 0 ∧ RV w n t n a (y + 1) m C' R' ∧ FC w C C' ∧ FD R R' ∧ ∀ j, C' w j = C w j
  | k, 0, _, _, _, _, hf, _, _ => by omega
  | 0, fu + 1, z, C, R, hz, _, h, _ => by
    obtain rfl : z = 4 := by omega
    rw [fX4_seeZones_L2, fX12_yearEnds_L2, if_pos (nI_le (Nat.le_refl _) (by omega)), if_pos (nI_le (Nat.le_refl _) (by omega))]
    exact ⟨C, R, rfl, rfl, h, FC.rf, FD.rf, fun _ => rfl⟩
  | k + 1, fu + 1, z, C, R, hz, hf, h, hb => by
    have hw := h.w17
    have hz4 : z < 4 := by omega
    obtain ⟨⟨q, q1, q2⟩, ⟨r, r1, r2⟩⟩ := hb z (Nat.le_refl _) hz4
    obtain ⟨⟨v, v1, v2⟩, _⟩ := h.1.2.2.2.2.2.2.2.1 z hz4
    have hl := lvd_c (w := w) (C := C) hz4 96 FU 0 (by omega) (by rw [za_FU]; omega)
    have hr := lvd_r (fun M X0 => fX12_yearEnds_L2 fu M X0) h.1 hz4 96 FU 0 (by omega) (by rw [za_FU]; omega)
    rw [fX4_seeZones_L2, fX12_yearEnds_L2, if_neg (nI_ge (by omega) (by omega)), if_neg (nI_ge (by omega) (by omega))]
    unfold fX4_isLivedIn fX4_seeZones_J40
    simp only [nI_add]
    rw [← za_0] at hl hr
    by_cases hv : ∃ c, 0 ≤ c ∧ c < 96 ∧ lvd w C z c
    · rw [hl.1 hv, za_bnd, if_neg za_n10, hr.2.1 hv]
      unfold yfin
      rw [ra_sy h.1.1 hz4, ra_sr h.1.1 hz4, ra_yr h.1.1 hz4, q2, r2, v2, nI_add, nI_add]
      simp (disch := omega) only [za_chk, za_lt, nI_clamp]
      rw [show C (w + 1 + 12) z = nI q from q2, show ∀ u, wr C (w + 1 + 12) z u (w + 1 + 13) z = nI r from fun u => by rw [za_wra (by omega)]; exact r2, show ∀ u, wr C (w + 1 + 12) z u (w + 1 + 11) z = nI v from fun u => by rw [za_wra (by omega)]; exact v2, nI_add, nI_add]
      have h1 : RV w n t n a (y + 1) m (wr (wr C (w + 13) z (nI (q + 1))) (w + 14) z (nI (r + v))) (wr (wr R 128 (2108 + z) (nI (q + 1))) 128 (2112 + z) (nI (r + v))) :=
        h.step (op_sy hz4 (by omega) (by omega) h.1) (fc_wr (fc_wr FC.rf (by omega)) (by omega)) (fd_wr (fd_wr FD.rf (by omega)) (by omega)) (by rw [za_wra (by omega), za_wra (by omega)]) (by rw [za_wra (by omega), za_wra (by omega)]) (by rw [za_wra (by omega), za_wra (by omega)]) (by rw [za_wra (by omega), za_wra (by omega)])
      obtain ⟨C', R', j1, j2, j3, j4, j5, j6⟩ := see_L ha hy k fu (z + 1) _ _ (by omega) (by omega) h1 (fun z' h1 h2 => by rw [za_wra (by omega), za_wri (by omega), za_wri (by omega), za_wra (by omega)]; exact hb z' (by omega) h2)
      exact ⟨C', R', j1, j2, j3, FC.tr (fc_wr (fc_wr FC.rf (by omega)) (by omega)) j4, FD.tr (fd_wr (fd_wr FD.rf (by omega)) (by omega)) j5, fun j => (j6 j).trans (by rw [za_wra (by omega), za_wra (by omega)])⟩
    · have hv' : ∀ c, 0 ≤ c → c < 96 → ¬ lvd w C z c := fun c h1 h2 h3 => hv ⟨c, h1, h2, h3⟩
      rw [hl.2 hv', za_bnd, if_pos rfl, hr.2.2 hv']
      exact see_L ha hy k fu (z + 1) C R (by omega) (by omega) h (fun z' h1 h2 => hb z' (by omega) h2)
end YE
