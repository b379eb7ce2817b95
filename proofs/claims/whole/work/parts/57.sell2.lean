section SM
variable {w n t x a y m p c : Nat} {C R : Mc}
theorem rw_ts (h : RV w n t x a y m C R) : R 127 24 = C w 11 := ra_ts h.1.1
theorem rw_tp (h : RV w n t x a y m C R) : R 127 23 = C w 10 := ra_tp h.1.1
/-- the share of a sale, on both sides -/
theorem share_sim (h : RV w n t x a y m C R) : ∃ v C' R', v ≤ 100 ∧ (∀ f : Mc → Int32 → Option Mc, (if C w 11 = (-1) then bn2 (fX2_meaning C (w + 37) (C (w + 37) 2) (nI 1) (C w 6) (C (w + 1) 9) (C (w + 15) 1) 0) fun v3 M4 => f M4 v3 else f C (C w 11)) = f C' (nI v)) ∧ fX12_meaning R (nI 1) 0 = some (nI v, R') ∧ (∀ b, b ≠ w + 45 → b ≠ w + 46 → C' b = C b) ∧ (∀ b, b ≠ 140 → R' b = R b) := by
  unfold fX12_meaning fX12_meaning_J16
  rw [if_neg (by decide +kernel), if_pos rfl, rw_ts h]
  rcases h.2.2.2.2.1.2.1 with h1 | ⟨k, k1, k2⟩
  · obtain ⟨v, C', i1, i2, i3, i4, i5, i6⟩ := mean_c (k := 1) 0 h (by omega)
    obtain ⟨R', j1, j2⟩ := mean_r h (by omega) i6 i3
    exact ⟨v, C', R', i5 rfl, fun f => by rw [if_pos h1, i1, za_bn2], by rw [h1, if_pos (by decide +kernel)]; exact j1, i2, j2⟩
  · refine ⟨k, C, R, k1, fun f => by rw [k2, if_neg (za_nm1 (by omega))], by rw [k2, if_neg (nI_pos (by omega))], fun _ _ _ => rfl, fun _ _ => rfl⟩
theorem tel_lt {w' : Nat} (h : RV w' n t x a y m C R) : ∃ tl, (∀ {α : Type} (f : Int32 → Option α), (if C w' 10 ≤ 0 then bnd (fX2_teller C (w' + 37) (C (w' + 37) 2) 0) f else f (-1)) = f tl) ∧ (∀ {α : Type} (f : Int32 → Option α), (if R 127 23 ≤ 0 then bnd (fX12_forces R) fun v7 => bnd (fX12_teller R v7 0) f else f (-1)) = f tl) ∧ (tl = -1 ∨ ∃ l, l < 12 ∧ tl = nI l) := by
  obtain ⟨k, k1, k2⟩ := h.2.2.2.2.1.1
  rw [rw_tp h]
  by_cases h0 : C w' 10 ≤ 0
  · obtain ⟨tl, t1, t2, t3⟩ := tell_w (k := 0) h (by omega)
    rw [← za_0] at t1 t2
    rw [rv_forces h, za_bnd] at t2
    refine ⟨tl, @fun _ f => by rw [if_pos h0, t1, za_bnd], @fun _ f => by rw [if_pos h0, rv_forces h, za_bnd, t2, za_bnd], t3⟩
  · exact ⟨-1, @fun _ f => by rw [if_neg h0], @fun _ f => by rw [if_neg h0], Or.inl rfl⟩
theorem sell_sim {v k s : Nat} (h : RV w n t n a y m C R) (hp : p < n) (hc : c < 96) (h1c : C (w + 5) c = nI 1) (hv : v ≤ 1000) (hk : C (w + 17) p = nI k) (hk6 : k ≤ 1000000) (hkv : v ≤ k) (hst : C (w + 18) p = nI s) (hs2 : 2 ≤ s) (hs4 : s ≤ 4)
    (hpr : ∃ R2, fX12_meaning R 0 (C (w + 2) c) = some (nI v, R2) ∧ ∀ b, b ≠ 140 → R2 b = R b) :
    ∃ C' R', fX10_sell C w (nI p) (nI c) (nI v) = some C' ∧ fX12_sells R (nI p) (nI c) = some (nI v, R') ∧ RV w n t n a y m C' R' ∧ FC w C C' ∧ FD R R' ∧ C' (w + 15) 1 = C (w + 15) 1 ∧ C' (w + 18) p = nI 4 ∧ ∀ j, j ≠ 8 → j ≠ 9 → C' w j = C w j := by
  have hw := h.w17
  have hn := rw_n100 h.1
  obtain ⟨R2, r1, r2⟩ := hpr
  have hR2 : RV w n t n a y m C R2 := h.junk (fun _ _ _ => rfl) r2
  obtain ⟨sh, C3, R3, q1, q2, q3, q4, q5⟩ := share_sim hR2
  have h3 : RV w n t n a y m C3 R3 := hR2.junk q4 q5
  obtain ⟨tl', t1, u2, t3⟩ := tel_lt (hR2.junk q4 (fun _ _ => rfl) : RV w n t n a y m C3 R2)
  have hkC3 : C3 (w + 17) p = nI k := by rw [q4 _ (by omega) (by omega)]; exact hk
  have h4 : RV w n t n a y m (wr C3 (w + 17) p (nI (k - v))) (wr R3 128 (768 + 8 * p + 1) (nI (k - v))) := rv_coin hp (by omega) h3
  have h5 := rv_sales (C3 w 9 + nI v * nI sh / nI 100) h4
  have h6 := rv_tre (C3 w 8 + (nI v - nI v * nI sh / nI 100)) h5
  obtain ⟨C1, C', g1, g2, g3, g4, g5, g6, g7, g8⟩ := farm_sim (c := c) (p := p) (s := s) (kd := 3) (mm := v) (te := tl') h6 hp hc (by simp (disch := omega) only [za_wra]; rw [q4 _ (by omega) (by omega)]; exact h1c) (Or.inl rfl) hv (fun _ => t3) (by simp (disch := omega) only [za_wra]; rw [q4 _ (by omega) (by omega)]; exact hst) hs2 hs4
  refine ⟨C', _, ?_, ?_, g3, FC.tr ?_ g4, FD.tr ?_ g5, ?_, g8, fun j j1 j2 => ?_⟩
  · unfold fX10_sell
    rw [za_lt]
    refine Eq.trans (q2 (fun M4 v3 => fX10_sell_J48 w M4 (nI p) (nI c) (nI v) v3)) ?_
    unfold fX10_sell_J48
    rw [t1]
    unfold fX10_sell_J74
    rw [za_lt, lf_spend (q := w + 15) (by rw [q4 _ (by omega) (by omega)]; exact h.1.2.1.1) hn hp, za_bnd, za_lt, za_lt, show C3 (w + 15 + 2) p = nI k from hkC3, za_sub hkv]
    rw [show wr C3 (w + 15 + 2) p (nI (k - v)) w 9 = C3 w 9 from za_wra (by omega), show ∀ u, wr (wr C3 (w + 15 + 2) p (nI (k - v))) w 9 u w 8 = C3 w 8 from fun u => by rw [za_wri (by omega), za_wra (by omega)]]
    rw [show w + 15 + 2 = w + 17 from rfl, g1, za_bnd, g2, za_bnd]
  · unfold fX12_sells
    rw [za_chk _ hc (by omega), nI_clamp (by omega), ra_soil h.1.1 hc, r1, za_bn2, rf_per (by omega) (by omega), za_bnd, ra_coin hR2.1.1 (by omega), hk, if_pos (nI_le hkv (by omega)), u2]
    unfold fX12_sells_J45
    rw [q3, za_bn2, za_lt, rf_pays (by omega), za_bnd, ra_coin h3.1.1 (by omega), hkC3, cap_neg hkv hk6, za_chk _ (by omega) (by omega), za_chk _ (by omega) (by omega), za_lt, za_chk _ (by omega) (by omega), za_chk _ (by omega) (by omega), za_lt, nI_clamp (by omega), nI_clamp (by omega)]
    rw [show wr R3 128 (768 + 8 * p + 1) (nI (k - v)) 128 2119 = C3 w 9 by rw [za_wri (by omega)]; exact ra_sales h3.1.1, show ∀ u, wr (wr R3 128 (768 + 8 * p + 1) (nI (k - v))) 128 2119 u 128 2118 = C3 w 8 from fun u => by rw [za_wri (by omega), za_wri (by omega)]; exact ra_tre h3.1.1]
    rw [rf_holds hc, za_bnd, za_mul, nI_add, nI_add, za_chk _ (by omega) (by omega), za_lt, za_chk _ (by omega) (by omega), za_lt, nI_clamp (by omega), nI_clamp (by omega), rf_owns (by omega), za_bnd]
    rfl
  · exact fc_wr (fc_wr (fc_wr (fc_of q4) (by omega)) (by omega)) (by omega)
  · exact fd_wr (fd_wr (fd_wr ((fd_of r2).tr (fd_of q5)) (by first | omega | (have := rw_n100 h.1; omega))) (by first | omega | (have := rw_n100 h.1; omega))) (by first | omega | (have := rw_n100 h.1; omega))
  · rw [g6]; simp (disch := omega) only [za_wra]; rw [q4 _ (by omega) (by omega)]
  · rw [g7, za_wri j1, za_wri j2, za_wra (by omega), q4 _ (by omega) (by omega)]
end SM
