section RN
variable {w n t x a y m p : Nat} {C R : Mc}
theorem AL_cg {C' R' : Mc} (hw : 17 ≤ w) (h : AL C R) (fc : FC w C C') (fd : FD R R') : AL C' R' := by
  intro z hz
  obtain ⟨k, k1, k2, k3, k4⟩ := h z hz
  refine ⟨k, k1, by rw [fc.1 7 (by omega)]; exact k2, by rw [fd.1 133 (by omega) (by omega)]; exact k3, fun i hi => ?_⟩
  rw [fc.1 (3 + z) (by omega), fd.1 132 (by omega) (by omega)]; exact k4 i hi
theorem rain_L {t0 : Nat} : ∀ k fu z C R, z + k = 4 → k < fu → RV w n t n (a + 500) y m C R → AL C R → (∀ z', z ≤ z' → z' < 4 → ∃ q, q ≤ a ∧ C (w + 12) z' = nI q) → ∃ C' R', fX10_rainFalls_L2 w fu C (nI z) = some C' ∧ fX12_goes_L47 fu R (nI z) = fX12_goes_L86 FU R' 0 ∧ RV w n t n (a + 500) y m C' R' ∧ FC w C C' ∧ FD R R'
  | k, 0, _, _, _, _, hf, _, _, _ => by omega
  | 0, fu + 1, z, C, R, hz, _, h, _, _ => by
    obtain rfl : z = 4 := by omega
    rw [fX10_rainFalls_L2, fX12_goes_L47, if_pos (nI_le (Nat.le_refl _) (by omega)), if_pos (nI_le (Nat.le_refl _) (by omega))]
    exact ⟨C, R, rfl, rfl, h, FC.rf, FD.rf⟩
  | k + 1, fu + 1, z, C, R, hz, hf, h, hal, hb => by
    have hw := h.w17
    have ht : t ≤ 1000 := h.1.2.1.2.2.2
    obtain ⟨q, q1, q2⟩ := hb z (Nat.le_refl _) (by omega)
    obtain ⟨r, r1, r2, r3⟩ := rain_eq (t := t) hal (show z < 4 by omega) ht
    have hwet : ∀ v, fX4_wet C (w + 1) (nI z) v = some (wr C (w + 12) z (C (w + 12) z + v)) := fun v => by
      unfold fX4_wet
      rw [za_inY (by omega) (by omega), za_bnd, if_neg za_n10, za_chk _ (by omega) (by omega), za_chk _ (by omega) (by omega), za_lt, nI_clamp (by omega)]
    have hr : ∃ v, v ≤ 500 ∧ (if C w 12 = (-1) then bnd (fX0_rainAt C (nI z) (C w 6)) fun v2 => (fX10_rainFalls_J39 w (fun M X0 => fX10_rainFalls_L2 w fu M X0) C (nI z) v2 (nI z)) else (fX10_rainFalls_J39 w (fun M X0 => fX10_rainFalls_L2 w fu M X0) C (nI z) (C w 12) (nI z))) = fX10_rainFalls_J39 w (fun M X0 => fX10_rainFalls_L2 w fu M X0) C (nI z) (nI v) (nI z) ∧ fX12_fallen R (nI z) (nI t) = some (nI v) := by
      have e7 : R 127 7 = C w 12 := ra_tr h.1.1
      rcases h.2.2.2.2.1.2.2 with h1 | ⟨v, v1, v2⟩
      · exact ⟨r, r1, by rw [if_pos h1, h.1.2.1.2.2.1, r2, za_bnd], r3 (by rw [e7, h1]; decide)⟩
      · refine ⟨v, v1, by rw [v2, if_neg (za_nm1 (by omega))], ?_⟩
        unfold fX12_fallen
        rw [e7, v2, if_neg (nI_pos (by omega))]
    obtain ⟨v, v1, v2, v3⟩ := hr
    rw [fX10_rainFalls_L2, fX12_goes_L47, if_neg (nI_ge (by omega) (by omega)), if_neg (nI_ge (by omega) (by omega)), v2, nI_add, za_chk _ (by omega) (by omega), za_chk _ (by omega) (by omega), nI_clamp (n := 2116) (by omega), rw_t h.1, v3, za_bnd, za_chk _ (by omega) (by omega), za_lt, nI_clamp (by omega), ra_yr h.1.1 (by omega), nI_add]
    unfold fX10_rainFalls_J39
    rw [hwet, za_bnd, q2, nI_add, nI_add]
    have h1 : RV w n t n (a + 500) y m (wr C (w + 12) z (nI (q + v))) (wr R 128 (2104 + z) (nI (q + v))) :=
      h.step (op_yr (by omega) (by omega) h.1) (fc_wr FC.rf (by omega)) (fd_wr FD.rf (by omega)) (za_wra (by omega)) (za_wra (by omega)) (za_wra (by omega)) (za_wra (by omega))
    obtain ⟨C', R', j1, j2, j3, j4, j5⟩ := rain_L (t0 := t0) k fu (z + 1) _ _ (by omega) (by omega) h1 (AL_cg hw.1 hal (fc_wr FC.rf (by omega)) (fd_wr FD.rf (by omega))) (fun z' h1 h2 => by rw [za_wri (by omega)]; exact hb z' (by omega) h2)
    exact ⟨C', R', j1, j2, j3, FC.tr (fc_wr FC.rf (by omega)) j4, FD.tr (fd_wr FD.rf (by omega)) j5⟩
theorem rain_sim (h : RV w n t n a y m C R) (hal : AL C R) : ∃ C' R', fX10_rainFalls C w = some C' ∧ fX12_goes_L47 FU R 0 = fX12_goes_L86 FU R' 0 ∧ RV w n t n (a + 500) y m C' R' ∧ FC w C C' ∧ FD R R' := by
  unfold fX10_rainFalls
  rw [za_0]
  exact rain_L (t0 := 0) 4 FU 0 C R (by omega) (by rw [za_FU]; omega) (rv_mono h (by omega)) hal (fun z' _ hz => (h.1.2.2.2.2.2.2.2.1 z' hz).1)
theorem rv_lot {c : Nat} (h : RV w n t x a y m C R) (hc : c < 96) (hnf : ¬ (C (w + 5) c = nI 3 ∨ C (w + 5) c = nI 5)) : RV w n t x a y m (moOpen C (w + 1) c) (moHolds R c (nI 1) (-1)) := by
  have h1 := op_lot (C (w + 4) c) (R 128 (8 * c + 7)) hc hnf h.1
  rw [za_wrid, za_wrid] at h1
  have fc : FC w C (moOpen C (w + 1) c) := by
    unfold moOpen
    exact fc_wr (fc_wr (fc_wr (fc_wr (fc_wr (fc_wr (fc_wr FC.rf (by omega)) (by omega)) (by omega)) (by omega)) (by omega)) (by omega)) (by omega)
  have fd : FD R (moHolds R c (nI 1) (-1)) := by
    unfold moHolds
    exact fd_wr (fd_wr (fd_wr (fd_wr (fd_wr (fd_wr (fd_wr FD.rf (by omega)) (by omega)) (by omega)) (by omega)) (by omega)) (by omega)) (by omega)
  refine h.step h1 fc fd ?_ ?_ ?_ ?_ <;> (unfold moOpen; simp (disch := omega) only [za_wra])
theorem fc_open {c : Nat} : FC w C (moOpen C (w + 1) c) := by
  unfold moOpen
  exact fc_wr (fc_wr (fc_wr (fc_wr (fc_wr (fc_wr (fc_wr FC.rf (by omega)) (by omega)) (by omega)) (by omega)) (by omega)) (by omega)) (by omega)
theorem fd_holds {c : Nat} {h p : Int32} (hc : c < 96) : FD R (moHolds R c h p) := by
  unfold moHolds
  exact fd_wr (fd_wr (fd_wr (fd_wr (fd_wr (fd_wr (fd_wr FD.rf (by omega)) (by omega)) (by omega)) (by omega)) (by omega)) (by omega)) (by omega)
theorem open_w {c j : Nat} : moOpen C (w + 1) c w j = C w j := by unfold moOpen; simp (disch := omega) only [za_wra]
/-- the end of the reference's loop of runs -/
def runE (R : Mc) : Option Mc := chk (nI 2116) (2132) ((if (irm (R (128) (nI 2116).toNatClampNeg) (nI 52)) = (nI 51) then bnd (fX12_yearEnds R) fun M17 => (fX12_goes_J171 M17) else (fX12_goes_J171 R)))
theorem runs_L : ∀ k fu i C R, i + k = 96 → k < fu → RV w n t n a y m C R → ∃ C' R', fX4_endRuns_L2 (w + 1) fu C (nI t) (nI i) = some C' ∧ fX12_goes_L105 fu R (nI i) = runE R' ∧ RV w n t n a y m C' R' ∧ FC w C C' ∧ FD R R' ∧ ∀ j, C' w j = C w j
  | k, 0, _, _, _, _, hf, _ => by omega
  | 0, fu + 1, i, C, R, hi, _, h => by
    obtain rfl : i = 96 := by omega
    rw [fX4_endRuns_L2, fX12_goes_L105, if_pos (nI_le (Nat.le_refl _) (by omega)), if_pos (nI_le (Nat.le_refl _) (by omega))]
    exact ⟨C, R, rfl, rfl, h, FC.rf, FD.rf, fun _ => rfl⟩
  | k + 1, fu + 1, i, C, R, hi, hf, h => by
    have hw := h.w17
    have hi96 : i < 96 := by omega
    rw [fX4_endRuns_L2, fX12_goes_L105, if_neg (nI_ge (by omega) (by omega)), if_neg (nI_ge (by omega) (by omega)), za_chk (n := i) _ (by omega) (by omega), za_chk (n := i) _ (by omega) (by omega), nI_clamp (n := i) (by omega), rf_sec0 hi96, za_bnd, ra_hold h.1.1 hi96, rf_sec hi96 (by omega), za_bnd, za_chk (n := 2116) _ (by omega) (by omega), nI_clamp (n := 2116) (by omega), rw_t h.1]
    unfold fX4_endRuns_J33 fX12_goes_J145
    simp only [nI_add]
    change ∃ C' R', (if C (w + 5) i = nI 4 then (if C (w + 7) i = nI t then _ else _) else _) = _ ∧ _
    by_cases h4 : C (w + 5) i = nI 4
    · have he := (h.1.2.2.2.2.2.2.2.2.2.2.2.1 i hi96).1 h4
      rw [if_pos h4, if_pos h4, he]
      by_cases h5 : C (w + 7) i = nI t
      · have hnf : ¬ (C (w + 5) i = nI 3 ∨ C (w + 5) i = nI 5) := by rw [h4]; decide +kernel
        rw [if_pos h5, if_pos h5, lg_openN hi96 hnf, za_bnd, rf_holds hi96, za_bnd]
        obtain ⟨C', R', j1, j2, j3, j4, j5, j6⟩ := runs_L k fu (i + 1) _ _ (by omega) (by omega) (rv_lot h hi96 hnf)
        exact ⟨C', R', j1, j2, j3, fc_open.tr j4, (fd_holds (by omega)).tr j5, fun j => (j6 j).trans open_w⟩
      · rw [if_neg h5, if_neg h5]
        exact runs_L k fu (i + 1) C R (by omega) (by omega) h
    · rw [if_neg h4, if_neg h4]
      exact runs_L k fu (i + 1) C R (by omega) (by omega) h
end RN
