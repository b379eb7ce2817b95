/-! ===== harvest, stock, the new year, the week ===== -/
theorem op_week {w n t x a y : Nat} {C R : Mc} (ht : t + 1 ≤ 1000) (h : RW w n t x a y C R) : RW w n (t + 1) x a y (wr C w 6 (nI (t + 1))) (wr R 128 2116 (nI (t + 1))) := by
  obtain ⟨hA, hN, hS, hP, hH, hO, hC, hZ, hQ, hB, hL, hE, hq, hl⟩ := h
  refine ⟨?_, ?_, ?_, ?_, ?_, ?_, ?_, ?_, ?_, ?_, ?_, ?_, ?_, ?_⟩
  · intro f i hf hi
    have h0 := hA f i hf hi
    simp only [rc_week hf hi, rr_week hf hi]
    grind
  · exact ⟨by rw [za_wra (by omega)]; exact hN.1, hN.2.1, za_wrs _ _ _ _, ht⟩
  · exact WS_cg hS (fun k h1 h2 => by first | rfl | simp (disch := omega) only [za_wra, za_wri, za_wrc])
  · exact WP_cg hP (by first | rfl | simp (disch := omega) only [za_wra, za_wri, za_wrc]) (by first | rfl | simp (disch := omega) only [za_wra, za_wri, za_wrc]) (fun k h1 h2 => by first | rfl | simp (disch := omega) only [za_wra, za_wri, za_wrc])
  · exact WH_cg hH (by first | rfl | simp (disch := omega) only [za_wra, za_wri, za_wrc]) (by first | rfl | simp (disch := omega) only [za_wra, za_wri, za_wrc]) (fun k h1 h2 => by first | rfl | simp (disch := omega) only [za_wra, za_wri, za_wrc])
  · exact WO_cg hO (by first | rfl | simp (disch := omega) only [za_wra, za_wri, za_wrc]) (by first | rfl | simp (disch := omega) only [za_wra, za_wri, za_wrc]) (by first | rfl | simp (disch := omega) only [za_wra, za_wri, za_wrc]) (by first | rfl | simp (disch := omega) only [za_wra, za_wri, za_wrc])
  · exact WC_cg hC (by first | rfl | simp (disch := omega) only [za_wra, za_wri, za_wrc]) (by first | rfl | simp (disch := omega) only [za_wra, za_wri, za_wrc]) (by first | rfl | simp (disch := omega) only [za_wra, za_wri, za_wrc]) (by first | rfl | simp (disch := omega) only [za_wra, za_wri, za_wrc])
  · exact WZ_cg hZ (fun k h1 h2 => by first | rfl | simp (disch := omega) only [za_wra, za_wri, za_wrc])
  · exact WQ_cg hQ (by first | rfl | simp (disch := omega) only [za_wra, za_wri, za_wrc]) (fun k h1 h2 => by first | rfl | simp (disch := omega) only [za_wra, za_wri, za_wrc])
  · exact WB_cg hB (by first | rfl | simp (disch := omega) only [za_wra, za_wri, za_wrc]) (fun k h1 h2 => by first | rfl | simp (disch := omega) only [za_wra, za_wri, za_wrc])
  · exact WL_cg hL (by first | rfl | simp (disch := omega) only [za_wra, za_wri, za_wrc]) (by first | rfl | simp (disch := omega) only [za_wra, za_wri, za_wrc]) (by first | rfl | simp (disch := omega) only [za_wra, za_wri, za_wrc])
  · exact RE_cg hE (fun k h1 h2 => by first | rfl | simp (disch := omega) only [za_wra, za_wri, za_wrc]) (fun c0 hc0 => ⟨by first | rfl | simp (disch := omega) only [za_wra, za_wri, za_wrc], by first | rfl | simp (disch := omega) only [za_wra, za_wri, za_wrc], by first | rfl | simp (disch := omega) only [za_wra, za_wri, za_wrc]⟩)
  · exact RQ_cg hq (by first | rfl | simp (disch := omega) only [za_wra, za_wri, za_wrc]) (by first | rfl | simp (disch := omega) only [za_wra, za_wri, za_wrc]) (fun p0 hp0 i0 hi0 => by first | rfl | simp (disch := omega) only [za_wra, za_wri, za_wrc])
  · exact RY_cg hl (by first | rfl | simp (disch := omega) only [za_wra, za_wri, za_wrc]) (by first | rfl | simp (disch := omega) only [za_wra, za_wri, za_wrc]) (by first | rfl | simp (disch := omega) only [za_wra, za_wri, za_wrc]) (fun l0 hl0 => ⟨by first | rfl | simp (disch := omega) only [za_wra, za_wri, za_wrc], by first | rfl | simp (disch := omega) only [za_wra, za_wri, za_wrc]⟩)

section YF
variable {w n t x a y m p : Nat} {C R : Mc}
theorem band_r (v : Int32) : ∃ b, b ≤ 3 ∧ fX12_bandOf v = some (nI b) := by
  unfold fX12_bandOf
  split
  · split
    · split
      · split
        · exact ⟨1, by omega, rfl⟩
        · exact ⟨3, by omega, rfl⟩
      · exact ⟨2, by omega, rfl⟩
    · exact ⟨1, by omega, rfl⟩
  · exact ⟨0, by omega, rfl⟩
theorem band_c {z : Nat} (hz : z < 4) : fX4_band C (w + 1) (nI z) = fX12_bandOf (C (w + 12) z) := by
  unfold fX4_band fX12_bandOf
  rw [za_inY hz (by omega), za_bnd, if_neg za_n10]
  simp only [za_chk _ hz (show 4 < 2 ^ 31 by omega), nI_clamp (show z < 2 ^ 31 by omega)]
/-- the reference's harvest of one section, up to where it goes on -/
def reapR (R : Mc) (X1 : Int32) (f : Mc → Option Mc) : Option Mc := bnd (fX12_sec R X1 (nI 1)) fun v6 => bnd (fX12_per R v6 (nI 2)) fun v8 => (if v8 = (nI 4) then chk X1 (96) (bnd (fX12_zoneOf X1) fun v10 => chk ((nI 2104) + v10) (2132) (bnd (fX12_bandOf (R (128) ((nI 2104) + v10).toNatClampNeg)) fun v12 => bnd (fX12_sec R X1 (nI 1)) fun v14 => bnd (fX12_hiredBy R v14) fun v16 => lt (((R (130) X1.toNatClampNeg) * v12) * ((nI 1) + v16)) fun v17 => chk (nI 2117) (2132) (chk (nI 2117) 2132 (lt (wr R (128) (nI 2117).toNatClampNeg ((R (128) (nI 2117).toNatClampNeg) + v17)) fun M18 => bnd (fX12_sec M18 X1 (nI 1)) fun v20 => bnd (fX12_pays M18 v20 (v17 / (nI 2))) fun M22 => f M22)))) else f R)
theorem reap_sim {c : Nat} (h : RV w n t n a y m C R) (hc : c < 96) (hf3 : C (w + 5) c = nI 3 ∨ C (w + 5) c = nI 5) : ∃ C' R', fX10_reap C w (nI c) = some C' ∧ (∀ f, reapR R (nI c) f = f R') ∧ RV w n t n a y m C' R' ∧ FC w C C' ∧ FD R R' ∧ ∀ j, j ≠ 7 → C' w j = C w j := by
  have hw := h.w17
  have hn := rw_n100 h.1
  have hn0 : C (w + 15) 0 = nI n := h.1.2.1.1
  obtain ⟨p, p1, p2, p3⟩ := rw_ownF h.1 hc hf3
  obtain ⟨_, k, _, _, k1, k2⟩ := rw_per h.1 p1
  have hz : c % 12 / 3 < 4 := by omega
  obtain ⟨b, b1, b2⟩ := band_r (C (w + 12) (c % 12 / 3))
  obtain ⟨⟨_, _⟩, _, _, ⟨s, s1, s2⟩, _⟩ := h.1.2.2.1 c hc
  have hh := (h.1.2.2.2.2.1 p p1).1
  have hh1 := cn_le n (hirP (C (w + 18)) (C (w + 19)) (nI p))
  have hfd : s * b * (1 + cn n (hirP (C (w + 18)) (C (w + 19)) (nI p))) ≤ 27 * 101 := Nat.mul_le_mul (Nat.mul_le_mul s1 b1) (by omega)
  have h1 := rv_store (C w 7 + nI (s * b * (1 + cn n (hirP (C (w + 18)) (C (w + 19)) (nI p))))) h
  have h2 := rv_coin (k := min 1000000 (k + s * b * (1 + cn n (hirP (C (w + 18)) (C (w + 19)) (nI p))) / 2)) p1 (by omega) h1
  refine ⟨_, _, ?_, fun f => ?_, h2, fc_wr (fc_wr FC.rf (by omega)) (by omega), fd_wr (fd_wr FD.rf (by first | omega | (have := rw_n100 h.1; omega))) (by first | omega | (have := rw_n100 h.1; omega)), fun j hj => by rw [za_wra (by omega), za_wri hj]⟩
  · unfold fX10_reap
    rw [lg_own hc, za_bnd, show C (w + 1 + 5) c = nI p from p2, lf_state hn0 hn p1, za_bnd, if_pos (show C (w + 15 + 3) p = nI 4 from p3), lg_soil hc, za_bnd, lf_zone hc, za_bnd, band_c hz, b2, za_bnd, lf_hands hn0 hn p1, za_bnd, show C (w + 1 + 1) c = nI s from s2, show C (w + 15 + 5) p = _ from hh, za_mul, nI_add, za_mul, za_lt, za_lt, za_div (by omega) (by omega) (by omega), lf_earn (q := w + 15) (by rw [za_wra (by omega)]; exact hn0) hn p1, za_bnd]
    rw [show wr C w 7 (C w 7 + nI (s * b * (1 + cn n (hirP (C (w + 18)) (C (w + 19)) (nI p))))) (w + 15 + 2) p = nI k by rw [za_wra (by omega)]; exact k1, min_add (by omega) k2]
  · unfold reapR
    rw [rf_sec hc (by omega), za_bnd, ra_own h.1.1 hc, p2, rf_per (by omega) (by omega), za_bnd, ra_st h.1.1 (by omega), if_pos p3, za_chk _ hc (by omega), rf_zone hc, za_bnd, nI_add, za_chk _ (by omega) (by omega), nI_clamp (n := 2104 + c % 12 / 3) (by omega), ra_yr h.1.1 hz, b2, za_bnd, za_bnd, rw_hired h.1 p1, za_bnd, hh, nI_clamp (n := c) (by omega), ra_soil h.1.1 hc, s2, za_mul, nI_add, za_mul, za_lt, za_chk _ (by omega) (by omega), za_chk _ (by omega) (by omega), za_lt, nI_clamp (n := 2117) (by omega), ra_store h.1.1, rf_sec hc (by omega), za_bnd, ra_own h1.1.1 hc, za_wra (by omega), p2, za_div (by omega) (by omega) (by omega), rf_pays (by omega), za_bnd, ra_coin h1.1.1 (by omega), za_wra (by omega), k1, capm_xmin, min_add (by omega) k2]
theorem reap_L : ∀ k fu i C R, i + k = 96 → k < fu → RV w n t n a y m C R → ∃ C' R', fX10_endYear_L9 w fu C (nI i) = (bnd (fX4_breed C' (w + 1)) fun M4 => bnd (fX4_newYear M4 (w + 1)) fun M6 => (some (M6))) ∧ fX12_yearEnds_L103 fu R (nI i) = fX12_yearEnds_L209 FU R' 0 ∧ RV w n t n a y m C' R' ∧ FC w C C' ∧ FD R R' ∧ ∀ j, j ≠ 7 → C' w j = C w j
  | k, 0, _, _, _, _, hf, _ => by omega
  | 0, fu + 1, i, C, R, hi, _, h => by
    obtain rfl : i = 96 := by omega
    rw [fX10_endYear_L9, fX12_yearEnds_L103, if_pos (nI_le (Nat.le_refl _) (by omega)), if_pos (nI_le (Nat.le_refl _) (by omega))]
    exact ⟨C, R, rfl, rfl, h, FC.rf, FD.rf, fun _ _ => rfl⟩
  | k + 1, fu + 1, i, C, R, hi, hf, h => by
    have hi96 : i < 96 := by omega
    rw [fX10_endYear_L9, fX12_yearEnds_L103, if_neg (nI_ge (by omega) (by omega)), if_neg (nI_ge (by omega) (by omega)), lg_farm hi96, za_bnd, rf_sec0 hi96, za_bnd, rf_isFarm, za_bnd, ra_hold h.1.1 hi96]
    unfold fX10_endYear_J31 fX12_yearEnds_J201
    simp only [nI_add]
    by_cases hf3 : C (w + 5) i = nI 3 ∨ C (w + 5) i = nI 5
    · rw [if_pos (show C (w + 1 + 4) i = nI 3 ∨ C (w + 1 + 4) i = nI 5 from hf3), if_neg za_n10, if_neg za_n10]
      obtain ⟨C1, R1, i1, i2, i3, i4, i5, i6⟩ := reap_sim h hi96 hf3
      have e := i2 (fun M => fX12_yearEnds_L103 fu M (nI (i + 1)))
      unfold reapR at e
      simp only [nI_add] at e
      obtain ⟨C', R', j1, j2, j3, j4, j5, j6⟩ := reap_L k fu (i + 1) C1 R1 (by omega) (by omega) i3
      rw [i1, za_bnd]
      exact ⟨C', R', j1, e.trans j2, j3, i4.tr j4, i5.tr j5, fun j hj => (j6 j hj).trans (i6 j hj)⟩
    · rw [if_neg (show ¬ (C (w + 1 + 4) i = nI 3 ∨ C (w + 1 + 4) i = nI 5) from hf3), if_pos rfl, if_pos rfl]
      exact reap_L k fu (i + 1) C R (by omega) (by omega) h
theorem breed_L : ∀ k fu i C R, i + k = 96 → k < fu → RV w n t n a y m C R → ∃ C' R', fX4_breed_L2 (w + 1) fu C (nI i) = some C' ∧ fX12_yearEnds_L209 fu R (nI i) = fX12_yearEnds_L279 FU R' 0 ∧ RV w n t n a y m C' R' ∧ FC w C C' ∧ FD R R' ∧ ∀ j, C' w j = C w j
  | k, 0, _, _, _, _, hf, _ => by omega
  | 0, fu + 1, i, C, R, hi, _, h => by
    obtain rfl : i = 96 := by omega
    rw [fX4_breed_L2, fX12_yearEnds_L209, if_pos (nI_le (Nat.le_refl _) (by omega)), if_pos (nI_le (Nat.le_refl _) (by omega))]
    exact ⟨C, R, rfl, rfl, h, FC.rf, FD.rf, fun _ => rfl⟩
  | k + 1, fu + 1, i, C, R, hi, hf, h => by
    have hi96 : i < 96 := by omega
    rw [fX4_breed_L2, fX12_yearEnds_L209, if_neg (nI_ge (by omega) (by omega)), if_neg (nI_ge (by omega) (by omega)), lg_past hi96, za_bnd, rf_sec0 hi96, za_bnd, rf_isPast, za_bnd, ra_hold h.1.1 hi96, rf_sec hi96 (by omega), za_bnd, za_bnd, ra_stk h.1.1 hi96]
    unfold fX4_breed_J43 fX12_yearEnds_J270 fX12_yearEnds_J271
    simp only [nI_add]
    by_cases hp : C (w + 5) i = nI 4 ∨ C (w + 5) i = nI 6
    · obtain ⟨q, q1, q2⟩ := rw_stk h.1 hi96
      rw [if_pos (show C (w + 1 + 4) i = nI 4 ∨ C (w + 1 + 4) i = nI 6 from hp), if_neg za_n10, if_neg za_n10, za_chk _ hi96 (by omega), za_chk _ hi96 (by omega), za_chk _ hi96 (by omega), za_lt, nI_clamp (n := i) (by omega), show C (w + 1 + 7) i = nI q from q2, za_div (by omega) (by omega) (by omega), nI_add, za_lt, za_mul, nI_add]
      have e : ∃ v, v ≤ 1000 ∧ xmin (nI 1000) (nI (q + q / 4)) = nI v ∧ ∀ (f : Int32 → Option Mc), (if nI (q + q / 4) ≤ nI 1000 then f (nI (q + q / 4)) else f (nI 1000)) = f (nI v) := by
        unfold xmin
        by_cases h1 : q + q / 4 < 1000
        · exact ⟨q + q / 4, by omega, by rw [if_pos (nI_lt h1 (by omega))], fun f => by rw [if_pos (nI_le (by omega) (by omega))]⟩
        · refine ⟨1000, by omega, by rw [if_neg (nI_nlt (by omega) (by omega))], fun f => ?_⟩
          by_cases h2 : q + q / 4 = 1000
          · rw [h2, if_pos (nI_le (Nat.le_refl _) (by omega))]
          · rw [if_neg (nI_ge (by omega) (by omega))]
      obtain ⟨v, v1, v2, v3⟩ := e
      rw [v2, v3 (fun u => chk (nI (8 * i + 3)) 2132 (lt (wr R 128 (nI (8 * i + 3)).toNatClampNeg u) fun M39 => fX12_yearEnds_L209 fu M39 (nI (i + 1)))), za_chk _ (by omega) (by omega), za_lt, nI_clamp (by omega)]
      obtain ⟨C', R', j1, j2, j3, j4, j5, j6⟩ := breed_L k fu (i + 1) _ _ (by omega) (by omega) (rv_stk (k := v) h hi96 v1)
      exact ⟨C', R', j1, j2, j3, FC.tr (fc_wr FC.rf (by omega)) j4, FD.tr (fd_wr FD.rf (by first | omega | (have := rw_n100 h.1; omega))) j5, fun j => (j6 j).trans (za_wra (by omega))⟩
    · rw [if_neg (show ¬ (C (w + 1 + 4) i = nI 4 ∨ C (w + 1 + 4) i = nI 6) from hp), if_pos rfl, if_pos rfl]
      exact breed_L k fu (i + 1) C R (by omega) (by omega) h
theorem fill4 {k0 : Nat} {v : Int32} : fJ7_fill_53178 C 4 k0 v = some (wr (wr (wr (wr C k0 0 v) k0 1 v) k0 2 v) k0 3 v) := by
  unfold fJ7_fill_53178
  rw [za_lt, show FU = 99995 + 1 + 1 + 1 + 1 + 1 from rfl, za_0, fJ7_fill_53178_L5, if_neg (by decide +kernel), za_chk _ (by omega) (by omega), za_lt, fJ7_fill_53178_L5, nI_add, if_neg (by decide +kernel), za_chk _ (by omega) (by omega), za_lt, fJ7_fill_53178_L5, nI_add, if_neg (by decide +kernel), za_chk _ (by omega) (by omega), za_lt, fJ7_fill_53178_L5, nI_add, if_neg (by decide +kernel), za_chk _ (by omega) (by omega), za_lt, fJ7_fill_53178_L5, nI_add, if_pos (by decide +kernel)]
  simp (disch := omega) only [nI_clamp]
theorem reset4 : fX12_yearEnds_L279 FU R 0 = some (wr (wr (wr (wr R 128 2104 (nI 0)) 128 2105 (nI 0)) 128 2106 (nI 0)) 128 2107 (nI 0)) := by
  rw [show FU = 99995 + 1 + 1 + 1 + 1 + 1 from rfl, za_0, fX12_yearEnds_L279, if_neg (by decide +kernel), nI_add, nI_add, za_chk _ (by omega) (by omega), za_lt, fX12_yearEnds_L279, if_neg (by decide +kernel), nI_add, nI_add, za_chk _ (by omega) (by omega), za_lt, fX12_yearEnds_L279, if_neg (by decide +kernel), nI_add, nI_add, za_chk _ (by omega) (by omega), za_lt, fX12_yearEnds_L279, if_neg (by decide +kernel), nI_add, nI_add, za_chk _ (by omega) (by omega), za_lt, fX12_yearEnds_L279, if_pos (by decide +kernel)]
  simp (disch := omega) only [nI_clamp, nI_0, Nat.reduceAdd]
theorem rv_yr {z : Nat} (h : RV w n t x a y m C R) (hz : z < 4) : RV w n t x a y m (wr C (w + 12) z (nI 0)) (wr R 128 (2104 + z) (nI 0)) :=
  h.step (op_yr hz (by omega) h.1) (fc_wr FC.rf (by omega)) (fd_wr FD.rf (by first | omega | (have := rw_n100 h.1; omega))) (za_wra (by omega)) (za_wra (by omega)) (za_wra (by omega)) (za_wra (by omega))
/-- all bounds of the year's rain at nothing -/
theorem rv_zero (h : RV w n t x a y m C R) (hz : ∀ z, z < 4 → C (w + 12) z = nI 0) : RV w n t x 0 y m C R := by
  obtain ⟨⟨h1, h2, h3, h4, h5, h6, h7, h8, h9⟩, g⟩ := h
  refine ⟨⟨h1, h2, h3, h4, h5, h6, h7, fun z hz4 => ?_, h9⟩, g⟩
  obtain ⟨_, j2, j3⟩ := h8 z hz4
  exact ⟨⟨0, by omega, hz z hz4⟩, j2, j3⟩
theorem year_sim (ha : a ≤ 26500) (hy : y ≤ 20) (h : RV w n t n a y m C R) : ∃ C' R', fX10_endYear C w = some C' ∧ fX12_yearEnds R = some R' ∧ RV w n t n 0 (y + 1) m C' R' ∧ FC w C C' ∧ FD R R' ∧ ∀ j, j ≠ 7 → C' w j = C w j := by
  have hy1 : RV w n t n a (y + 1) m C R := ⟨rw_monoy h.1 (by omega), h.2⟩
  obtain ⟨C1, R1, i1, i2, i3, i4, i5, i6⟩ := see_L (C := C) (R := R) ha hy 4 FU 0 (by omega) (by rw [za_FU]; omega) hy1 (fun z' _ hz => ⟨(h.1.2.2.2.2.2.2.2.1 z' hz).2.1, (h.1.2.2.2.2.2.2.2.1 z' hz).2.2⟩)
  obtain ⟨C2, R2, j1, j2, j3, j4, j5, j6⟩ := reap_L 96 FU 0 C1 R1 (by omega) (by rw [za_FU]; omega) i3
  obtain ⟨C3, R3, k1, k2, k3, k4, k5, k6⟩ := breed_L 96 FU 0 C2 R2 (by omega) (by rw [za_FU]; omega) j3
  have h4 := rv_yr (z := 3) (rv_yr (z := 2) (rv_yr (z := 1) (rv_yr (z := 0) k3 (by omega)) (by omega)) (by omega)) (by omega)
  unfold fX10_endYear fX12_yearEnds fX4_seeZones
  rw [za_0, i1, za_bnd, j1, i2, za_0, j2, za_0, k2, reset4]
  unfold fX4_breed fX4_newYear
  rw [za_0, k1, za_bnd, show w + 1 + 11 = w + 12 from rfl, fill4, za_bnd]
  refine ⟨_, _, rfl, rfl, rv_zero h4 (fun z hz => ?_), i4.tr (j4.tr (k4.tr (fc_wr (fc_wr (fc_wr (fc_wr FC.rf (by omega)) (by omega)) (by omega)) (by omega)))), i5.tr (j5.tr (k5.tr (fd_wr (fd_wr (fd_wr (fd_wr FD.rf (by first | omega | (have := rw_n100 h.1; omega))) (by first | omega | (have := rw_n100 h.1; omega))) (by first | omega | (have := rw_n100 h.1; omega))) (by first | omega | (have := rw_n100 h.1; omega))))), fun j hj => ?_⟩
  · rcases (show z = 0 ∨ z = 1 ∨ z = 2 ∨ z = 3 by omega) with rfl | rfl | rfl | rfl <;> simp (disch := omega) only [za_wrs, za_wri]
  · rw [za_wra (by omega), za_wra (by omega), za_wra (by omega), za_wra (by omega), k6, j6 j hj, i6]
end YF
