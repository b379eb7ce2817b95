/-! ===== a week ===== -/
section GO
variable {w n t x a y m p q : Nat} {C R : Mc}
/-- as FD, but the reference's rows may change -/
def FE (R R' : Mc) : Prop := (∀ a, a ≠ 128 → a ≠ 140 → a ≠ 141 → R' a = R a) ∧ ∀ j, pz j → R' 128 j = R 128 j
theorem FE.of {R R' : Mc} (h : FD R R') : FE R R' := ⟨fun b h1 h2 _ => h.1 b h1 h2, h.2⟩
theorem FE.tr {R R1 R2 : Mc} (h : FE R R1) (h2 : FE R1 R2) : FE R R2 := ⟨fun b h3 h4 h5 => (h2.1 b h3 h4 h5).trans (h.1 b h3 h4 h5), fun j hj => (h2.2 j hj).trans (h.2 j hj)⟩
/-- a week's row, as it stands in C behind the week t -/
def ROWw (w t : Nat) (C R : Mc) : Prop := R 141 (7 * t) = C (w + 15) 1 ∧ R 141 (7 * t + 1) = C (w + 1) 9 ∧ R 141 (7 * t + 2) = C w 7 ∧ R 141 (7 * t + 3) = C w 8 ∧ R 141 (7 * t + 4) = C (w + 15) 2 ∧ R 141 (7 * t + 5) = C w 9 ∧ R 141 (7 * t + 6) = C (w + 37) 2
theorem row_sim (h : RV w n t n a y m C R) (ht : t + 1 ≤ 1000) : ∃ R', fX12_goes_J171 R = some R' ∧ RV w n (t + 1) n a y m (wr C w 6 (nI (t + 1))) R' ∧ FE R R' ∧ ROWw w t C R' ∧ (∀ j, j < 7 * t → R' 141 j = R 141 j) := by
  have hw := h.w17
  have hR : ∀ M : Mc, (∀ b, b ≠ 141 → M b = R b) → RV w n t n a y m C M := fun M hM => by
    refine ⟨?_, h.2.1, h.2.2.1, BK_cg h.2.2.2.1 (fun _ _ => rfl) (fun b b1 b2 => hM b (by omega)), h.2.2.2.2⟩
    obtain ⟨hA, hN, hS, hP, hH, hO, hC, hZ, hQ, hB, hL, hE, hq, hl⟩ := h.1
    have e128 : M 128 = R 128 := hM 128 (by omega)
    refine ⟨fun f i hf hi => ?_, hN, hS, hP, hH, hO, hC, hZ, hQ, hB, hL, RE_cg hE (fun _ _ _ => rfl) (fun c _ => by rw [e128]; exact ⟨rfl, rfl, congrFun (hM 131 (by omega)) c⟩), RQ_cg hq rfl rfl (fun _ _ _ _ => by rw [e128]), RY_cg hl rfl rfl rfl (fun _ _ => by rw [e128]; exact ⟨rfl, rfl⟩)⟩
    have h1 : fC f ≠ 141 := by
      clear hi
      revert f
      decide +kernel
    rw [hM _ h1]; exact hA f i hf hi
  have key : ∀ M : Mc, (∀ b, b ≠ 141 → M b = R b) → fX12_here M = some (C (w + 15) 1) ∧ fX12_farms M = some (C (w + 1) 9) ∧ fX12_forces M = some (C (w + 37) 2) := fun M hM => ⟨rw_here (hR M hM).1, rw_farms (hR M hM).1, rv_forces (hR M hM)⟩
  have e7 : R 128 2117 = C w 7 := ra_store h.1.1
  have e8 : R 128 2118 = C w 8 := ra_tre h.1.1
  have e9 : R 128 2122 = C (w + 15) 2 := ra_hungry h.1.1
  have e10 : R 128 2119 = C w 9 := ra_sales h.1.1
  have et : R 128 2116 = nI t := rw_t h.1
  have f1 := key R (fun _ _ => rfl)
  have f2 := key (wr R 141 (7 * t) (C (w + 15) 1)) (fun b hb => za_wrc hb)
  have f3 := key (wr (wr (wr (wr (wr (wr R 141 (7 * t) (C (w + 15) 1)) 141 (7 * t + 1) (C (w + 1) 9)) 141 (7 * t + 2) (C w 7)) 141 (7 * t + 3) (C w 8)) 141 (7 * t + 4) (C (w + 15) 2)) 141 (7 * t + 5) (C w 9)) (fun b hb => by rw [za_wrc hb, za_wrc hb, za_wrc hb, za_wrc hb, za_wrc hb, za_wrc hb])
  have h2 := hR (wr (wr (wr (wr (wr (wr (wr R 141 (7 * t) (C (w + 15) 1)) 141 (7 * t + 1) (C (w + 1) 9)) 141 (7 * t + 2) (C w 7)) 141 (7 * t + 3) (C w 8)) 141 (7 * t + 4) (C (w + 15) 2)) 141 (7 * t + 5) (C w 9)) 141 (7 * t + 6) (C (w + 37) 2)) (fun b hb => by rw [za_wrc hb, za_wrc hb, za_wrc hb, za_wrc hb, za_wrc hb, za_wrc hb, za_wrc hb])
  have h3 := h2.step (op_week ht h2.1) (fc_wr FC.rf (by omega)) (fd_wr FD.rf (by omega)) (za_wra (by omega)) (za_wri (by omega)) (za_wri (by omega)) (za_wri (by omega))
  refine ⟨_, ?_, h3, ⟨fun b b1 b2 b3 => by rw [za_wrc b1, za_wrc b3, za_wrc b3, za_wrc b3, za_wrc b3, za_wrc b3, za_wrc b3, za_wrc b3], fun j hj => by rw [za_wri (by unfold pz at hj; omega), za_wra (by omega), za_wra (by omega), za_wra (by omega), za_wra (by omega), za_wra (by omega), za_wra (by omega), za_wra (by omega)]⟩, ?_, fun j hj => ?_⟩
  · unfold fX12_goes_J171
    rw [za_chk _ (by omega) (by omega), nI_clamp (n := 2116) (by omega), et, za_mul, za_lt, f1.1, za_bnd, za_chk _ (by omega) (by omega), za_lt, nI_clamp (n := 7 * t) (by omega), f2.2.1, za_bnd]
    simp only [nI_add]
    simp (disch := omega) only [za_chk, za_lt, nI_clamp, za_wra]
    rw [e7, e8, e9, e10, f3.2.2, za_bnd, et, nI_add]
  · unfold ROWw
    refine ⟨?_, ?_, ?_, ?_, ?_, ?_, ?_⟩ <;> simp (disch := omega) only [za_wra, za_wri, za_wrs]
  · simp (disch := omega) only [za_wra, za_wri]
/-- bounds of rain and years at the start of week t -/
def ab (t : Nat) : Nat := 500 * (t % 52)
/-- a week goes by, in the class's world and in the reference -/
theorem goOn_sim (h : RV w n t n (ab t) (t / 52) m C R) (hal : AL C R) (ht : t + 1 ≤ 1000) : ∃ C' R', fX10_goOn C w = some C' ∧ fX12_goes R = some R' ∧ RV w n (t + 1) n (ab (t + 1)) ((t + 1) / 52) m C' R' ∧ FC w C C' ∧ FE R R' ∧ ROWw w t C' R' ∧ (∀ j, j < 7 * t → R' 141 j = R 141 j) := by
  have hw := h.w17
  have hn := rw_n100 h.1
  have hy : t / 52 ≤ 20 := by omega
  obtain ⟨C1, R1, a1, a2, a3, a4, a5, a6⟩ := land_sim h
  obtain ⟨C2, C3, R3, v, b1, b2, b3, b4, b5, b6, b7⟩ := letters_sim a3
  obtain ⟨C4, R4, c1, c2, c3, c4, c5, c6, c7⟩ := out_sim b4
  have d1 : RV w n t n (ab t) (t / 52) m (wr C4 w 13 (nI 1)) R4 := rv_wj _ (by omega) c3
  obtain ⟨C5, R5, e1, e2, e3, e4, e5⟩ := act_L hy n FU 0 (wr C4 w 13 (nI 1)) R4 (by omega) (by rw [za_FU]; omega) d1 (fun q => absurd ((za_wrs _ _ _ _).symm.trans q) za_n10)
  have hfc5 : FC w C C5 := a4.tr (b5.tr (FC.tr (fc_wr FC.rf (by omega)) (c4.tr (FC.tr (fc_wr FC.rf (by omega)) e4))))
  have hfd5 : FD R R5 := a5.tr (b6.tr (c5.tr e5))
  obtain ⟨C6, R6, f1, f2, f3, f4, f5⟩ := rain_sim e3 (AL_cg hw.1 hal hfc5 hfd5)
  obtain ⟨C7, R7, g1, g2, g3, g4, g5⟩ := stray_L 96 FU 0 C6 R6 (by omega) (by rw [za_FU]; omega) f3
  obtain ⟨C8, R8, h1, h2, h3, h4, h5, h6⟩ := runs_L 96 FU 0 C7 R7 (by omega) (by rw [za_FU]; omega) g3
  have cls : fX10_goOn C w = (if irm (C8 w 6) (nI 52) = nI 51 then bnd (fX10_endYear C8 w) fun M21 => fX10_goOn_J147 w M21 else fX10_goOn_J147 w C8) := by
    unfold fX10_goOn
    rw [a1, za_bnd, b1, za_bnd, b7, b2, za_bn2, za_lt, c1, za_bnd, za_lt, za_0, e1, f1, za_bnd, za_0, g1]
    unfold strE fX4_endRuns
    rw [g3.1.2.1.2.2.1, za_0, h1, za_bnd]
  have ref : fX12_goes R = runE R8 := by
    unfold fX12_goes
    rw [a2, za_bnd, b3, za_bnd, c2, za_bnd, za_0, e2, f2, za_0, g2, za_0, h2]
  have fc8 : FC w C C8 := hfc5.tr (f4.tr (g4.tr h4))
  have fd8 : FD R R8 := hfd5.tr (f5.tr (g5.tr h5))
  have ht1 : t ≤ 1000 := by omega
  unfold runE at ref
  rw [za_chk _ (by omega) (by omega), nI_clamp (by omega), rw_t h3.1, za_irm (by omega) (by omega) (by omega)] at ref
  rw [h3.1.2.1.2.2.1, za_irm (by omega) (by omega) (by omega)] at cls
  by_cases h51 : t % 52 = 51
  · have e51 : nI (t % 52) = nI 51 := by rw [h51]
    rw [if_pos e51] at cls ref
    obtain ⟨C9, R9, i1, i2, i3, i4, i5, i6⟩ := year_sim (by unfold ab; omega) hy h3
    have i3' : RV w n t n (ab (t + 1)) ((t + 1) / 52) m C9 R9 := by
      rw [show ab (t + 1) = 0 by unfold ab; omega, show (t + 1) / 52 = t / 52 + 1 by omega]; exact i3
    obtain ⟨R10, j1, j2, j3, j4, j5⟩ := row_sim i3' ht
    rw [i1, za_bnd] at cls
    rw [i2, za_bnd, j1] at ref
    unfold fX10_goOn_J147 at cls
    rw [za_lt, i3.1.2.1.2.2.1, nI_add] at cls
    refine ⟨_, R10, cls, ref, j2, FC.tr (fc8.tr i4) (fc_wr FC.rf (by omega)), (FE.of (fd8.tr i5)).tr j3, ?_, fun j hj => (j5 j hj).trans (congrFun ((fd8.tr i5).1 141 (by omega) (by omega)) j)⟩
    unfold ROWw at j4 ⊢
    simp (disch := omega) only [za_wra, za_wri]
    exact j4
  · have e51 : ¬ nI (t % 52) = nI 51 := fun q => h51 (za_inj (by omega) (by omega) q)
    rw [if_neg e51] at cls ref
    have h3' : RV w n t n (ab (t + 1)) ((t + 1) / 52) m C8 R8 := by
      rw [show (t + 1) / 52 = t / 52 by omega]
      exact rv_mono h3 (by unfold ab; omega)
    obtain ⟨R10, j1, j2, j3, j4, j5⟩ := row_sim h3' ht
    rw [j1] at ref
    unfold fX10_goOn_J147 at cls
    rw [za_lt, h3.1.2.1.2.2.1, nI_add] at cls
    refine ⟨_, R10, cls, ref, j2, FC.tr fc8 (fc_wr FC.rf (by omega)), (FE.of fd8).tr j3, ?_, fun j hj => (j5 j hj).trans (congrFun (fd8.1 141 (by omega) (by omega)) j)⟩
    unfold ROWw at j4 ⊢
    simp (disch := omega) only [za_wra, za_wri]
    exact j4
end GO
