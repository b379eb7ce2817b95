/-! ===== what is read: laws, then bills ===== -/
section LE
variable {w n t x a y m p : Nat} {C R : Mc} {u u' : Int32}
theorem wr8 {M : Mc} {w k i : Nat} {u v : Int32} (h : k ≠ w) : wr (wr M w 8 u) k i v = wr (wr M k i v) w 8 u := by
  funext b j; simp only [za_wr]
  by_cases h1 : b = k
  · subst h1
    by_cases h2 : j = i
    · rw [if_pos ⟨rfl, h2⟩, if_neg (fun q => h q.1), if_pos ⟨rfl, h2⟩]
    · rw [if_neg (fun q => h2 q.2), if_neg (fun q => h q.1), if_neg (fun q => h q.1), if_neg (fun q => h2 q.2)]
  · rw [if_neg (fun q => h1 q.1), if_neg (c := b = k ∧ j = i) (fun q => h1 q.1)]
theorem free8 {b : Nat} : moFree (wr C w 8 u) (w + 15) p b = wr (moFree C (w + 15) p b) w 8 u := by
  unfold moFree
  rw [za_wra (by omega), wr8 (by omega), wr8 (by omega), wr8 (by omega)]
theorem lose_L (hp : p < n) : ∀ k fu i C R, i + k = n → k < fu → RV w n t p a y m (wr C w 8 u) R → (∀ q, q < i → ¬ (C (w + 18) q = nI 3 ∧ C (w + 19) q = nI p)) → C (w + 18) p ≠ nI 3 → ∃ C' R', (∀ u', fX3_loseFarm_L38 (w + 15) fu (wr C w 8 u') (nI p) (nI i) = some (wr C' w 8 u')) ∧ fX12_loses_L28 fu R (nI p) (nI i) = some R' ∧ RV w n t p a y m (wr C' w 8 u) R' ∧ (∀ q, q < n → ¬ (C' (w + 18) q = nI 3 ∧ C' (w + 19) q = nI p)) ∧ FC w C C' ∧ FD R R' ∧ (∀ j, C' w j = C w j) ∧ (∀ k', k' ≠ 18 → k' ≠ 19 → k' ≠ 20 → C' (w + k') = C (w + k'))
  | k, 0, _, _, _, _, hf, _, _, _ => by omega
  | 0, fu + 1, i, C, R, hi, _, h, hq, _ => by
    obtain rfl : i = n := by omega
    have hn := rw_n100 h.1
    refine ⟨C, R, fun u' => ?_, ?_, h, hq, FC.rf, FD.rf, fun _ => rfl, fun _ _ _ _ => rfl⟩
    · rw [fX3_loseFarm_L38, show wr C w 8 u' (w + 15) 0 = nI i by rw [za_wra (by omega)]; have := h.1.2.1.1; rwa [za_wra (by omega)] at this, if_pos (nI_le (Nat.le_refl _) (by omega))]
    · rw [fX12_loses_L28, za_chk (n := 2124) _ (by omega) (by omega), nI_clamp (n := 2124) (by omega), rw_n h.1, if_pos (nI_le (Nat.le_refl _) (by omega))]
  | k + 1, fu + 1, i, C, R, hi, hf, h, hq, hp3 => by
    have hn := rw_n100 h.1
    have hw := h.w17
    have hin : i < n := by omega
    have hn0 : C (w + 15) 0 = nI n := by have := h.1.2.1.1; rwa [za_wra (by omega)] at this
    obtain ⟨s, s1, s2, _⟩ := h.1.2.2.2.1 i hin
    rw [za_wra (by omega)] at s1
    simp only [za_wra (show w + 19 ≠ w by omega), za_wrc (show w + 18 ≠ w by omega)] at s2
    have eR : ∀ (A B : Mc → Option Mc), (bnd (fX12_per R (nI i) (nI 2)) fun v8 => (if v8 = (nI 3) then bnd (fX12_per R (nI i) (nI 3)) fun v10 => (if v10 = nI p then A R else B R) else B R)) = if C (w + 19) i = nI p then A R else B R := by
      intro A B
      rw [rf_per (by omega) (by omega), za_bnd, rf_per (by omega) (by omega), za_bnd, ra_st h.1.1 (by omega), ra_boss h.1.1 (by omega), za_wra (by omega), za_wra (by omega)]
      by_cases h3 : s = 3
      · rw [s1, h3, if_pos rfl]
      · have hb := s2.2.2.2.2 h3
        rw [s1, if_neg (fun q => h3 (za_inj (by have := s2.1; omega) (by omega) q)), hb, if_neg (za_m1n (by omega))]
    have eC : ∀ u', fX3_loseFarm_L38 (w + 15) (fu + 1) (wr C w 8 u') (nI p) (nI i) = if C (w + 19) i = nI p then (bnd (fX3_release (wr C w 8 u') (w + 15) (nI i)) fun M6 => fX3_loseFarm_L38 (w + 15) fu M6 (nI p) (nI (i + 1))) else fX3_loseFarm_L38 (w + 15) fu (wr C w 8 u') (nI p) (nI (i + 1)) := by
      intro u'
      rw [fX3_loseFarm_L38, show wr C w 8 u' (w + 15) 0 = nI n by rw [za_wra (by omega)]; exact hn0, if_neg (nI_ge (by omega) (by omega)), if_neg (nI_ge (by omega) (by omega)), za_chk _ (by omega) (by omega), nI_clamp (by omega), show wr C w 8 u' (w + 15 + 4) i = C (w + 19) i from za_wra (by omega)]
      unfold fX3_loseFarm_J67
      simp only [nI_add]
    have eRR : fX12_loses_L28 (fu + 1) R (nI p) (nI i) = if C (w + 19) i = nI p then (bnd (fX12_setPer R (nI i) (nI 2) (nI 2)) fun M12 => bnd (fX12_setPer M12 (nI i) (nI 3) (-1)) fun M14 => fX12_loses_L28 fu M14 (nI p) (nI (i + 1))) else fX12_loses_L28 fu R (nI p) (nI (i + 1)) := by
      rw [fX12_loses_L28, za_chk (n := 2124) _ (by omega) (by omega), nI_clamp (n := 2124) (by omega), rw_n h.1, if_neg (nI_ge (by omega) (by omega))]
      unfold fX12_loses_J77
      simp only [nI_add]
      exact eR (fun R => bnd (fX12_setPer R (nI i) (nI 2) (nI 2)) fun M12 => bnd (fX12_setPer M12 (nI i) (nI 3) (-1)) fun M14 => fX12_loses_L28 fu M14 (nI p) (nI (i + 1))) (fun R => fX12_loses_L28 fu R (nI p) (nI (i + 1)))
    by_cases hb : C (w + 19) i = nI p
    · have hs3 : s = 3 := by
        by_cases h3 : s = 3
        · exact h3
        · have := s2.2.2.2.2 h3; rw [this] at hb; exact absurd hb (za_m1n (by omega))
      have hst : C (w + 18) i = nI 3 := by rw [s1, hs3]
      have hR : RW w n t p a y (moFree (wr C w 8 u) (w + 15) i p) (wr (wr R 128 (768 + 8 * i + 2) (nI 2)) 128 (768 + 8 * i + 3) (-1)) := op_free hin hn hp (by rw [za_wra (by omega)]; exact hst) (by rw [za_wra (by omega)]; exact hb) h.1
      rw [free8] at hR
      have fc : FC w (wr C w 8 u) (wr (moFree C (w + 15) i p) w 8 u) := by
        rw [← free8]; exact fc_wr (fc_wr (fc_wr FC.rf (by omega)) (by omega)) (by omega)
      have fd : FD R (wr (wr R 128 (768 + 8 * i + 2) (nI 2)) 128 (768 + 8 * i + 3) (-1)) := fd_wr (fd_wr FD.rf (by first | omega | (have := rw_n100 h.1; omega))) (by first | omega | (have := rw_n100 h.1; omega))
      have ew : ∀ j, moFree C (w + 15) i p w j = C w j := fun j => by unfold moFree; rw [za_wra (by omega), za_wra (by omega), za_wra (by omega)]
      have ek : ∀ k', k' ≠ 18 → k' ≠ 19 → k' ≠ 20 → moFree C (w + 15) i p (w + k') = C (w + k') := fun k' a1 a2 a3 => by unfold moFree; rw [za_wrc (by omega), za_wrc (by omega), za_wrc (by omega)]
      have h1 : RV w n t p a y m (wr (moFree C (w + 15) i p) w 8 u) (wr (wr R 128 (768 + 8 * i + 2) (nI 2)) 128 (768 + 8 * i + 3) (-1)) :=
        h.step hR fc fd (by rw [za_wra (by omega), za_wra (by omega)]; exact congrFun (ek 37 (by omega) (by omega) (by omega)) _) (by rw [za_wri (by omega), za_wri (by omega)]; exact ew _) (by rw [za_wri (by omega), za_wri (by omega)]; exact ew _) (by rw [za_wri (by omega), za_wri (by omega)]; exact ew _)
      have e18 : ∀ q, moFree C (w + 15) i p (w + 18) q = if q = i then nI 2 else C (w + 18) q := fun q => by
        unfold moFree; rw [show w + 15 + 3 = w + 18 from rfl, za_wr]
        by_cases e : q = i
        · rw [if_pos ⟨rfl, e⟩, if_pos e]
        · rw [if_neg (fun z => e z.2), if_neg e, za_wra (by omega), za_wra (by omega)]
      have e19 : ∀ q, q ≠ i → moFree C (w + 15) i p (w + 19) q = C (w + 19) q := fun q e => by
        unfold moFree; rw [za_wra (by omega), show w + 15 + 4 = w + 19 from rfl, za_wri e, za_wra (by omega)]
      obtain ⟨C', R', j1, j2, j3, j4, j5, j6, j7, j8⟩ := lose_L hp k fu (i + 1) (moFree C (w + 15) i p) _ (by omega) (by omega) h1 (fun q hq' hh => by
        rw [e18] at hh
        by_cases e : q = i
        · rw [if_pos e] at hh; exact absurd (za_inj (by omega) (by omega) hh.1) (by decide)
        · rw [if_neg e, e19 q e] at hh; exact hq q (by omega) hh) (by
        rw [e18]
        by_cases e : p = i
        · rw [if_pos e]; exact fun q => absurd (za_inj (by omega) (by omega) q) (by decide)
        · rw [if_neg e]; exact hp3)
      refine ⟨C', R', fun u' => ?_, ?_, j3, j4, FC.tr (fc_wr (fc_wr (fc_wr FC.rf (by omega)) (by omega)) (by omega)) j5, fd.tr j6, fun j => (j7 j).trans (ew j), fun k' a1 a2 a3 => (j8 k' a1 a2 a3).trans (ek k' a1 a2 a3)⟩
      · rw [eC, if_pos hb, lf_rel (q := w + 15) (b := p) (by omega) (by rw [show w + 15 + 3 = w + 18 from rfl, za_wra (by omega)]; exact hst) (by rw [show w + 15 + 4 = w + 19 from rfl, za_wra (by omega)]; exact hb) (by omega), za_bnd, free8]
        exact j1 u'
      · rw [eRR, if_pos hb, rf_setPer (by omega) (by omega), za_bnd, rf_setPer (by omega) (by omega), za_bnd]
        exact j2
    · obtain ⟨C', R', j1, j2, j3, j4, j5, j6, j7, j8⟩ := lose_L hp k fu (i + 1) C R (by omega) (by omega) h (fun q hq' hh => by
        by_cases e : q = i
        · subst e; exact hb hh.2
        · exact hq q (by omega) hh) hp3
      exact ⟨C', R', fun u' => by rw [eC, if_neg hb]; exact j1 u', by rw [eRR, if_neg hb]; exact j2, j3, j4, j5, j6, j7, j8⟩
end LE
