section PO
variable {w n t x a y m p q : Nat} {C R : Mc}
theorem pace_L (hp : p < 4) {K7 : Mc → Int32 → Option Mc} : ∀ left fu fr C R q, left < fu → left < fr → RV w n t n a y m C R → (∀ m, m ≤ 4 → C (w + 27) 0 = nI m → p < m) → left ≤ 9 → q ≤ 12 → C (w + 30) p = nI q → (0 < q → ∃ c, c < 96 ∧ C (w + 31) (p * 12) = nI c ∧ C (w + 5) c = 0) → ∃ C' R', (if nI left = 0 then (fX5_goOut_J65 (w + 27) (w + 1) K7 C (nI p)) else chk (nI p) (4) ((if 0 < (C (w + 27 + 3) (nI p).toNatClampNeg) then bnd (fX5_goMile C (w + 27) (w + 1) (nI p)) fun M5 => (fX5_goOut_L27 (w + 27) (w + 1) K7 fu M5 (nI p) (nI left + (-1))) else (fX5_goOut_J65 (w + 27) (w + 1) K7 C (nI p))))) = fX5_goOut_J65 (w + 27) (w + 1) K7 C' (nI p) ∧ fX12_surveys_L23 fr R (nI (1720 + 15 * p)) (nI left) = some R' ∧ RV w n t n a y m C' R' ∧ FC w C C' ∧ FD R R' ∧ (∀ j, C' w j = C w j) ∧ C' (w + 27) 0 = C (w + 27) 0
  | left, 0, _, _, _, _, hf, _, _, _, _, _, _, _ => by omega
  | left, _, 0, _, _, _, _, hf, _, _, _, _, _, _ => by omega
  | 0, fu + 1, fr + 1, C, R, q, _, _, h, _, _, _, hq, _ => by
    rw [if_pos (show nI 0 = 0 from nI_0), fX12_surveys_L23, if_pos (by decide +kernel)]
    exact ⟨C, R, rfl, rfl, h, FC.rf, FD.rf, fun _ => rfl, rfl⟩
  | left + 1, fu + 1, fr + 1, C, R, q, hf, hfr, h, hpm, hl9, hq12, hq, hq2 => by
    have hw := h.w17
    rw [if_neg (show ¬ nI (left + 1) = 0 from fun z => by have := (za_eq0 (by omega)).mp z; omega), za_chk _ hp (by omega), nI_clamp (n := p) (by omega), show C (w + 27 + 3) p = nI q from hq, fX12_surveys_L23, if_neg (nI_nle (by omega) (by omega))]
    have hqR : R 128 (1720 + 15 * p + 2) = nI q := (ra_wait h.1.1 hp).trans hq
    by_cases h0 : q = 0
    · subst h0
      rw [if_neg (by decide +kernel), nI_add, za_chk _ (by omega) (by omega), nI_clamp (by omega), hqR, if_pos (by decide +kernel)]
      exact ⟨C, R, rfl, rfl, h, FC.rf, FD.rf, fun _ => rfl, rfl⟩
    · obtain ⟨q', rfl⟩ : ∃ q', q = q' + 1 := ⟨q - 1, by omega⟩
      obtain ⟨c, c1, c2, c3⟩ := hq2 (by omega)
      obtain ⟨C1, R1, i1, i2, i3, i4, i5, i6, i7⟩ := mile_sim hp hpm h hq (by omega) c1 c2 c3
      have e := i2 (fun M => fX12_surveys_J127 (fun M X0 X1 => fX12_surveys_L23 fr M X0 X1) M (nI (1720 + 15 * p)) (nI (left + 1)))
      unfold mileR at e
      rw [if_pos ((za_0lt (by omega)).mpr (by omega)), i1, za_bnd, pk_m1]
      have eR : (chk (nI (1720 + 15 * p) + (nI 2)) (2132) ((if (R (128) (nI (1720 + 15 * p) + (nI 2)).toNatClampNeg) ≤ 0 then (some (R)) else fX12_surveys_J127 (fun M X0 X1 => fX12_surveys_L23 fr M X0 X1) R1 (nI (1720 + 15 * p)) (nI (left + 1))))) = fX12_surveys_J127 (fun M X0 X1 => fX12_surveys_L23 fr M X0 X1) R1 (nI (1720 + 15 * p)) (nI (left + 1)) := by
        rw [nI_add, za_chk _ (by omega) (by omega), nI_clamp (by omega), hqR, if_neg (nI_nle (by omega) (by omega))]
      rw [e, eR]
      obtain ⟨C2, R2, q2, j1, j2, j3, j4, j5, j6, j7, j8, j9, j10⟩ := drop_sim hp i3
      unfold fX12_surveys_J127
      rw [j2, za_bnd, pk_m1, fX5_goOut_L27, if_neg (nI_pos (by omega)), j1, za_bnd]
      have e27 : C2 (w + 27) 0 = C (w + 27) 0 := (congrFun (j7 27 (by omega) (by omega)) 0).trans i7
      obtain ⟨C3, R3, k1, k2, k3, k4, k5, k6, k7⟩ := pace_L hp left fu fr C2 R2 q2 (by omega) (by omega) j3 (fun m hm he => hpm m hm (e27.symm.trans he)) (by omega) j8 j9 j10
      exact ⟨C3, R3, k1, k2, k3, i4.tr (j4.tr k4), i5.tr (j5.tr k5), fun j => (k6 j).trans ((j6 j).trans (i6 j)), k7.trans e27⟩
theorem out_L {mp : Nat} (hmp : mp ≤ 4) : ∀ k fu fr p C R, p + k = mp → k < fu → k < fr → RV w n t n a y m C R → C (w + 27) 0 = nI mp → ∃ C' R', fX5_goOut_L7 (w + 27) (w + 1) fu C (nI p) = some C' ∧ fX12_surveysAll_L2 fr R (nI p) = some R' ∧ RV w n t n a y m C' R' ∧ FC w C C' ∧ FD R R' ∧ (∀ j, C' w j = C w j) ∧ C' (w + 27) 0 = C (w + 27) 0
  | k, 0, _, _, _, _, _, hf, _, _, _ => by omega
  | k, _, 0, _, _, _, _, _, hf, _, _ => by omega
  | 0, fu + 1, fr + 1, p, C, R, hi, _, _, h, hm => by
    obtain rfl : p = mp := by omega
    rw [fX5_goOut_L7, fX12_surveysAll_L2, hm, if_pos (nI_le (Nat.le_refl _) (by omega)), za_chk (n := 2127) _ (by omega) (by omega), nI_clamp (n := 2127) (by omega), ra_pn h.1.1, hm, if_pos (nI_le (Nat.le_refl _) (by omega))]
    exact ⟨C, R, rfl, rfl, h, FC.rf, FD.rf, fun _ => rfl, hm⟩
  | k + 1, fu + 1, fr + 1, p, C, R, hi, hf, hfr, h, hm => by
    have hp4 : p < 4 := by omega
    obtain ⟨m', m1, m2, m3⟩ := h.1.2.2.2.2.2.2.2.2.1
    obtain rfl : m' = mp := za_inj (by omega) (by omega) (m2.symm.trans hm)
    obtain ⟨pc, pc1, pc2, pc3⟩ := (m3 p hp4).1 (by omega)
    rw [fX5_goOut_L7, fX12_surveysAll_L2, hm, if_neg (nI_ge (by omega) (by omega)), if_neg (nI_ge (by omega) (by omega)), za_chk (n := 2127) _ (by omega) (by omega), nI_clamp (n := 2127) (by omega), ra_pn h.1.1, hm, if_neg (nI_ge (by omega) (by omega)), za_chk _ hp4 (by omega), za_lt, nI_clamp (n := p) (by omega), show C (w + 27 + 1) p = nI pc from pc3, nI_add]
    obtain ⟨C2, R2, q2, j1, j2, j3, j4, j5, j6, j7, j8, j9, j10⟩ := drop_sim hp4 h
    have e27 : C2 (w + 27) 0 = C (w + 27) 0 := congrFun (j7 27 (by omega) (by omega)) 0
    have hpm : ∀ q, q ≤ 4 → C2 (w + 27) 0 = nI q → p < q := fun q hq he => by
      have := za_inj (by omega) (by omega) ((hm.symm.trans e27.symm).trans he)
      omega
    obtain ⟨C3, R3, k1, k2, k3, k4, k5, k6, k7⟩ := pace_L hp4 (K7 := fun M X0 => fX5_goOut_L7 (w + 27) (w + 1) fu M X0) pc 99999 FU C2 R2 q2 (by omega) (by rw [za_FU]; omega) j3 hpm pc2 j8 j9 j10
    have hsv : fX12_surveys R (nI p) = some R3 := by
      unfold fX12_surveys
      rw [za_mul, nI_add, za_lt, j2, za_bnd, show nI (1720 + 15 * p) + 0 = nI (1720 + 15 * p) from Int32.add_zero _, za_chk _ (by omega) (by omega), za_lt, nI_clamp (by omega), ra_pace j3.1.1 hp4, j7 28 (by omega) (by omega), pc3]
      exact k2
    have hcl : fX5_goOut_L27 (w + 27) (w + 1) (fun M X0 => fX5_goOut_L7 (w + 27) (w + 1) fu M X0) FU C (nI p) (nI pc) = fX5_goOut_J65 (w + 27) (w + 1) (fun M X0 => fX5_goOut_L7 (w + 27) (w + 1) fu M X0) C3 (nI p) := by
      rw [show FU = 99999 + 1 from rfl, fX5_goOut_L27, if_neg (nI_pos (by omega)), j1, za_bnd]
      exact k1
    rw [hsv, za_bnd, hcl]
    unfold fX5_goOut_J65
    rw [nI_add]
    obtain ⟨C4, R4, l1, l2, l3, l4, l5, l6, l7⟩ := out_L hmp k fu fr (p + 1) C3 R3 (by omega) (by omega) (by omega) k3 (k7.trans (e27.trans hm))
    exact ⟨C4, R4, l1, l2, l3, j4.tr (k4.tr l4), j5.tr (k5.tr l5), fun j => (l6 j).trans ((k6 j).trans (j6 j)), l7.trans (k7.trans (e27.trans hm))⟩
theorem out_sim (h : RV w n t n a y m C R) : ∃ C' R', fX5_goOut C (w + 27) (w + 1) = some C' ∧ fX12_surveysAll R = some R' ∧ RV w n t n a y m C' R' ∧ FC w C C' ∧ FD R R' ∧ (∀ j, C' w j = C w j) ∧ C' (w + 27) 0 = C (w + 27) 0 := by
  obtain ⟨m', m1, m2, m3⟩ := h.1.2.2.2.2.2.2.2.2.1
  unfold fX5_goOut fX12_surveysAll
  rw [za_0]
  exact out_L m1 m' FU FU 0 C R (by omega) (by rw [za_FU]; omega) (by rw [za_FU]; omega) h m2
end PO
