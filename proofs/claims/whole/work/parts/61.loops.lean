/-! ===== the week's parts: those who land, those who act, rain ===== -/
section LP
variable {w n t x a y m p : Nat} {C R : Mc}
theorem rw_mono {a' : Nat} (h : RW w n t x a y C R) (ha : a ≤ a') : RW w n t x a' y C R := by
  obtain ⟨h1, h2, h3, h4, h5, h6, h7, h8, h9⟩ := h
  refine ⟨h1, h2, h3, h4, h5, h6, h7, fun z hz => ?_, h9⟩
  obtain ⟨⟨k, k1, k2⟩, j2, j3⟩ := h8 z hz
  exact ⟨⟨k, by omega, k2⟩, j2, j3⟩
theorem rv_mono {a' : Nat} (h : RV w n t x a y m C R) (ha : a ≤ a') : RV w n t x a' y m C R := ⟨rw_mono h.1 ha, h.2⟩
theorem land_L : ∀ k fu i C R, i + k = n → k < fu → RV w n t n a y m C R → ∃ C' R', fX3_disembark_L2 (w + 15) fu C (nI t) (nI i) = some C' ∧ fX12_lands_L2 fu R (nI i) = some R' ∧ RV w n t n a y m C' R' ∧ FC w C C' ∧ FD R R' ∧ ∀ j, C' w j = C w j
  | k, 0, _, _, _, _, hf, _ => by omega
  | 0, fu + 1, i, C, R, hi, _, h => by
    obtain rfl : i = n := by omega
    have hn := rw_n100 h.1
    rw [fX3_disembark_L2, fX12_lands_L2, za_chk (n := 2124) (N := 2132) _ (by omega) (by omega), nI_clamp (n := 2124) (by omega), rw_n h.1, show C (w + 15) 0 = nI i from h.1.2.1.1, if_pos (nI_le (Nat.le_refl _) (by omega)), if_pos (nI_le (Nat.le_refl _) (by omega))]
    exact ⟨C, R, rfl, rfl, h, FC.rf, FD.rf, fun _ => rfl⟩
  | k + 1, fu + 1, i, C, R, hi, hf, h => by
    have hn := rw_n100 h.1
    have hw := h.w17
    rw [fX3_disembark_L2, fX12_lands_L2, za_chk (n := 2124) (N := 2132) _ (by omega) (by omega), nI_clamp (n := 2124) (by omega), rw_n h.1, show C (w + 15) 0 = nI n from h.1.2.1.1, if_neg (nI_ge (by omega) (by omega)), if_neg (nI_ge (by omega) (by omega)), if_neg (nI_ge (by omega) (by omega)), za_chk (n := i) _ (by omega) (by omega), za_chk (n := i) _ (by omega) (by omega), nI_clamp (n := i) (by omega), rf_per (by omega) (by omega), za_bnd, ra_st h.1.1 (by omega), rf_per (by omega) (by omega), za_bnd, ra_land h.1.1 (by omega), za_chk (n := 2116) (N := 2132) _ (by omega) (by omega), nI_clamp (n := 2116) (by omega), rw_t h.1]
    unfold fX3_disembark_J53 fX12_lands_J48
    simp only [nI_add]
    change ∃ C' R', (if C (w + 18) i = nI 1 then (if C (w + 26) i = nI t then _ else _) else _) = _ ∧ _
    by_cases h1 : C (w + 18) i = nI 1
    · rw [if_pos h1, if_pos h1]
      by_cases h2 : C (w + 26) i = nI t
      · rw [if_pos h2, if_pos h2, za_chk (n := i) _ (by omega) (by omega), za_lt, za_lt, rf_setPer (by omega) (by omega), za_bnd]
        have hb : RV w n t n a y m (wr (wr C (w + 18) i (nI 2)) (w + 15) 1 (C (w + 15) 1 + nI 1)) (wr R 128 (768 + 8 * i + 2) (nI 2)) :=
          h.step (op_board (by omega) hn h1 h.1) (fc_wr (fc_wr FC.rf (by omega)) (by omega)) (fd_wr FD.rf (by first | omega | (have := rw_n100 h.1; omega))) (by rw [za_wra (by omega), za_wra (by omega)]) (by rw [za_wra (by omega), za_wra (by omega)]) (by rw [za_wra (by omega), za_wra (by omega)]) (by rw [za_wra (by omega), za_wra (by omega)])
        rw [show wr C (w + 15 + 3) i (nI 2) (w + 15) 1 = C (w + 15) 1 from za_wra (by omega)]
        obtain ⟨C', R', j1, j2, j3, j4, j5, j6⟩ := land_L k fu (i + 1) _ _ (by omega) (by omega) hb
        exact ⟨C', R', j1, j2, j3, FC.tr (fc_wr (fc_wr FC.rf (by omega)) (by omega)) j4, FD.tr (fd_wr FD.rf (by first | omega | (have := rw_n100 h.1; omega))) j5, fun j => (j6 j).trans (by rw [za_wra (by omega), za_wra (by omega)])⟩
      · rw [if_neg h2, if_neg h2]
        exact land_L k fu (i + 1) C R (by omega) (by omega) h
    · rw [if_neg h1, if_neg h1]
      exact land_L k fu (i + 1) C R (by omega) (by omega) h
theorem land_sim (h : RV w n t n a y m C R) : ∃ C' R', fX3_disembark C (w + 15) (C w 6) = some C' ∧ fX12_lands R = some R' ∧ RV w n t n a y m C' R' ∧ FC w C C' ∧ FD R R' ∧ ∀ j, C' w j = C w j := by
  have hn := rw_n100 h.1
  unfold fX3_disembark fX12_lands
  rw [h.1.2.1.2.2.1, za_0]
  exact land_L n FU 0 C R (by omega) (by rw [za_FU]; omega) h
theorem act_L (hy : y ≤ 20) : ∀ k fu i C R, i + k = n → k < fu → RV w n t n a y m C R → (C w 13 = 0 → LA w n C) → ∃ C' R', fX10_goOn_L53 w fu C (nI i) = (bnd (fX10_rainFalls C' w) fun M13 => (fX10_goOn_L92 w FU M13 0)) ∧ fX12_goes_L14 fu R (nI i) = fX12_goes_L47 FU R' 0 ∧ RV w n t n a y m C' R' ∧ FC w C C' ∧ FD R R'
  | k, 0, _, _, _, _, hf, _, _ => by omega
  | 0, fu + 1, i, C, R, hi, _, h, _ => by
    obtain rfl : i = n := by omega
    have hn := rw_n100 h.1
    rw [fX10_goOn_L53, fX12_goes_L14, za_chk (n := 2124) (N := 2132) _ (by omega) (by omega), nI_clamp (n := 2124) (by omega), rw_n h.1, show C (w + 15) 0 = nI i from h.1.2.1.1, if_pos (nI_le (Nat.le_refl _) (by omega)), if_pos (nI_le (Nat.le_refl _) (by omega))]
    exact ⟨C, R, rfl, rfl, h, FC.rf, FD.rf⟩
  | k + 1, fu + 1, i, C, R, hi, hf, h, hla => by
    have hn := rw_n100 h.1
    have hn0 : C (w + 15) 0 = nI n := h.1.2.1.1
    have hin : i < n := by omega
    rw [fX10_goOn_L53, fX12_goes_L14, za_chk (n := 2124) (N := 2132) _ (by omega) (by omega), nI_clamp (n := 2124) (by omega), rw_n h.1, hn0, if_neg (nI_ge (by omega) (by omega)), if_neg (nI_ge (by omega) (by omega)), lf_here hn0 hn hin, za_bnd, rf_here (by omega), za_bnd, ra_st h.1.1 (by omega), show C (w + 15 + 3) i = C (w + 18) i from rfl]
    unfold fX10_goOn_J80 fX12_goes_J39
    simp only [nI_add]
    by_cases hh : C (w + 18) i < nI 2
    · rw [if_pos hh, if_pos rfl, if_pos rfl]
      exact act_L hy k fu (i + 1) C R (by omega) (by omega) h hla
    · rw [if_neg hh, if_neg za_n10, if_neg za_n10]
      obtain ⟨C1, R1, i1, i2, i3, i4, i5, i6, _⟩ := act_sim h hy hla hin hh
      rw [i1, za_bnd, i2, za_bnd]
      obtain ⟨C', R', j1, j2, j3, j4, j5⟩ := act_L hy k fu (i + 1) C1 R1 (by omega) (by omega) i3 i4
      exact ⟨C', R', j1, j2, j3, i5.tr j4, i6.tr j5⟩
/-- rain that is told -/
def AL (C R : Mc) : Prop := ∀ z, z < 4 → ∃ k, k ≤ 1000 ∧ C 7 z = nI k ∧ R 133 z = nI k ∧ ∀ i, i < k → C (3 + z) i = R 132 (1000 * z + i) ∧ (C (3 + z) i = -1 ∨ ∃ r, r ≤ 500 ∧ C (3 + z) i = nI r)
theorem told_c {z k t : Nat} (hz : z < 4) (ht : t ≤ 1000) (hk : k ≤ 1000) (h7 : C 7 z = nI k) : fX0_isTold C (nI z) (nI t) = some (if t < k then nI 1 else 0) := by
  unfold fX0_isTold
  rw [za_inY hz (by omega), za_bnd, if_neg za_n10, za_in (by omega) (by omega), za_bnd]
  by_cases h1 : t < 1000
  · rw [if_pos h1, if_neg za_n10, za_chk _ hz (by omega), nI_clamp (by omega), h7]
    by_cases h2 : t < k
    · rw [if_neg (nI_ge h2 (by omega)), if_pos h2]
    · rw [if_pos (nI_le (by omega) (by omega)), if_neg h2]
  · rw [if_neg h1, if_pos rfl, if_neg (by omega)]
/-- what a neighbour zone tells: none, or a number -/
theorem num_c {z t : Nat} (h : AL C R) (hz : z < 4) (ht : t ≤ 1000) : (fX0_isNumber C (nI z) (nI t) = some (nI 1) ∧ ∃ k r, k ≤ 1000 ∧ R 133 z = nI k ∧ t < k ∧ r ≤ 500 ∧ C (3 + z) t = nI r ∧ R 132 (1000 * z + t) = nI r) ∨ (fX0_isNumber C (nI z) (nI t) = some 0 ∧ ∃ k, k ≤ 1000 ∧ R 133 z = nI k ∧ (k ≤ t ∨ t < k ∧ R 132 (1000 * z + t) = -1)) := by
  obtain ⟨k, k1, k2, k3, k4⟩ := h z hz
  unfold fX0_isNumber
  rw [told_c hz ht k1 k2, za_bnd]
  by_cases h1 : t < k
  · obtain ⟨e, hr⟩ := k4 t h1
    rw [if_pos h1, if_neg za_n10, za_chk _ hz (by omega), za_chk _ (by omega) (by omega), nI_clamp (by omega), nI_clamp (by omega), show (2 + 1 + z) = 3 + z by omega]
    rcases hr with hr | ⟨r, r1, r2⟩
    · rw [if_pos hr]; exact Or.inr ⟨rfl, k, k1, k3, Or.inr ⟨h1, by rw [← e]; exact hr⟩⟩
    · rw [r2, if_neg (za_nm1 (by omega))]; exact Or.inl ⟨rfl, k, r, k1, k3, h1, r1, rfl, by rw [← e]; exact r2⟩
  · rw [if_neg h1, if_pos rfl]; exact Or.inr ⟨rfl, k, k1, k3, Or.inl (by omega)⟩
theorem num_n {t : Nat} (z : Int32) (hz : z < 0 ∨ nI 4 ≤ z) : fX0_isNumber C z (nI t) = some 0 := by
  unfold fX0_isNumber fX0_isTold fX11_inside
  by_cases h : z < 0
  · rw [if_pos h, za_bnd, if_pos rfl, za_bnd, if_pos rfl]
  · rw [if_neg h, if_pos (hz.resolve_left h), za_bnd, if_pos rfl, za_bnd, if_pos rfl]
/-- one neighbour in the reference's loop: from (c, s) to (c', s') -/
def fal1 (K : Mc → Int32 → Int32 → Int32 → Int32 → Int32 → Option Int32) (M : Mc) (X1 X2 X3 X4 X5 : Int32) : Option Int32 := bnd (fX12_isZone X5) fun v3 => (if v3 = 0 then (fX12_fallen_J131 K M X1 X2 X3 X4 X5) else chk X5 (4) ((if (M (133) X5.toNatClampNeg) ≤ X2 then (fX12_fallen_J131 K M X1 X2 X3 X4 X5) else chk (((nI 1000) * X5) + X2) (4000) ((if 0 ≤ (M (132) (((nI 1000) * X5) + X2).toNatClampNeg) then chk (((nI 1000) * X5) + X2) (4000) (lt (X4 + (M (132) (((nI 1000) * X5) + X2).toNatClampNeg)) fun v4 => (fX12_fallen_J131 K M X1 X2 (X3 + nI 1) v4 X5)) else (fX12_fallen_J131 K M X1 X2 X3 X4 X5))))))
theorem fal_s {fu : Nat} {M : Mc} {X1 X2 X3 X4 X5 : Int32} : fX12_fallen_L63 (fu + 1) M X1 X2 X3 X4 X5 = (if (X1 + (nI 1)) < X5 then (if X3 = 0 then (some (0)) else chz X3 ((some ((X4 / X3))))) else fal1 (fun M X0 X1 X2 X3 X4 => fX12_fallen_L63 fu M X0 X1 X2 X3 X4) M X1 X2 X3 X4 X5) := rfl
theorem fal_n {z o t c s : Nat} {K : Mc → Int32 → Int32 → Int32 → Int32 → Int32 → Option Int32} (hz : z < 4) (hc : c < 3) (hs : s ≤ 1000) (ht : t ≤ 1000) (h : AL C R) : (∃ r, fX0_isNumber C (nI z) (nI t) = some (nI 1) ∧ r ≤ 500 ∧ C (3 + z) t = nI r ∧ fal1 K R (nI o) (nI t) (nI c) (nI s) (nI z) = K R (nI o) (nI t) (nI (c + 1)) (nI (s + r)) (nI (z + 2))) ∨ (fX0_isNumber C (nI z) (nI t) = some 0 ∧ fal1 K R (nI o) (nI t) (nI c) (nI s) (nI z) = K R (nI o) (nI t) (nI c) (nI s) (nI (z + 2))) := by
  have ez : fX12_isZone (nI z) = some (nI 1) := by unfold fX12_isZone; rw [if_neg (nI_pos (by omega)), if_neg (nI_ge hz (by omega))]
  unfold fal1 fX12_fallen_J131
  rw [ez, za_bnd, if_neg za_n10, za_chk _ hz (by omega), nI_clamp (by omega)]
  simp only [za_mul, nI_add]
  rcases num_c h hz ht with ⟨e, k, r, k1, k2, k3, k4, k5, k6⟩ | ⟨e, k, k1, k2, k3⟩
  · refine Or.inl ⟨r, e, k4, k5, ?_⟩
    rw [k2, if_neg (nI_ge k3 (by omega)), za_chk _ (by omega) (by omega), nI_clamp (by omega), k6, if_pos (nI_pos' (by omega)), za_chk _ (by omega) (by omega), za_lt, nI_add]
  · refine Or.inr ⟨e, ?_⟩
    rw [k2]
    rcases k3 with k3 | ⟨k3, k4⟩
    · rw [if_pos (nI_le k3 (by omega))]
    · rw [if_neg (nI_ge k3 (by omega)), za_chk _ (by omega) (by omega), nI_clamp (by omega), k4, if_neg (by decide +kernel)]
end LP
