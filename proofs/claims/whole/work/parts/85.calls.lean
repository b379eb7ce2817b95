/-! ===== calls that do, on ===== -/
section AF
variable {n t m p c : Nat} {C R : Mc} {N L : Md} {e : Nat → Int32}
theorem rng1 (K : Nat) (hK : K < 2 ^ 31) (p : Int32) : p < nI 1 ∨ (¬ p < nI 1 ∧ nI K < p) ∨ ∃ j, 1 ≤ j ∧ j ≤ K ∧ p = nI j := by
  by_cases h : p < nI 1
  · exact Or.inl h
  · have h01 : (0 : Int32) < nI 1 := by decide +kernel
    by_cases h2 : nI K < p
    · exact Or.inr (Or.inl ⟨h, h2⟩)
    · obtain ⟨j, j1, j2⟩ := za_ofle hK (show ¬ p < 0 by grind) (show p ≤ nI K by grind)
      refine Or.inr (Or.inr ⟨j, ?_, j1, j2⟩)
      rw [j2, nI_ltI (by omega) (by omega)] at h; omega
theorem wr_cm {M : Mc} {a i j : Nat} {u v : Int32} (h : i ≠ j) : wr (wr M a i u) a j v = wr (wr M a j v) a i u := by
  funext b k
  unfold wr
  split <;> split <;> first | rfl | (rename_i h1 h2; exact absurd (h1.2.symm.trans h2.2) (fun q => h q.symm)) | skip
theorem ni0 (a : Nat) : nI a + 0 = nI a := by rw [za_0, nI_add]; rfl
theorem rv_fund {w x a y : Nat} (v : Int32) (h : RV w n t x a y m C R) : RV w n t x a y m (wr C (w + 32) 1 v) (wr R 128 2123 v) :=
  h.step (op_fund v h.1) (fc_wr FC.rf (by omega)) (fd_wr FD.rf (by omega)) (za_wra (by omega)) (za_wra (by omega)) (za_wra (by omega)) (za_wra (by omega))
theorem c_fund (h : IV n t m C R N L) (p0 : Int32) : OM eA C R N L (fX11_fund C p0) (fX12_fund R p0) := by
  unfold fX11_fund fX12_fund fX11_fund_J15 fX11_fund_J16 fX12_fund_J17 fX12_fund_J22
  have ih := iv_thr (v := 0) h
  rcases rng 100000 (by omega) p0 with g | ⟨g0, g⟩ | ⟨j, j1, rfl⟩
  · exact om_t (k := 2) (v := nI 1) h (by rw [if_pos g, need_0, za_bnxl]) (by rw [za_lt, if_pos g, bad_1, za_bn2, if_neg za_n10]) rfl za_n10
  · exact om_t (k := 2) (v := nI 1) h (by rw [if_neg g0, if_pos g, need_0, za_bnxl]) (by rw [za_lt, if_neg g0, if_neg (by grind), bad_1, za_bn2, if_neg za_n10]) rfl za_n10
  · refine om_fd (b := C (17 + 32) 1 + nI j) h ?_ ?_ (rv_fund (C (17 + 32) 1 + nI j) ih.1) (fc_wr FC.rf (by omega)) (fd_wr FD.rf (by omega)) (fun j _ _ => za_wra (by omega))
    · rw [if_neg (nI_pos (by omega)), if_neg (nI_nlt j1 (by omega)), need_1, za_bnx, za_lt, za_wrs]
    · rw [za_lt, if_neg (nI_pos (by omega)), if_pos (nI_le j1 (by omega)), bad_0, za_bn2, if_pos rfl, za_chk _ (by omega) (by omega), za_chk _ (by omega) (by omega), za_lt, za_chk _ (by omega) (by omega), nI_clamp (by omega), za_wrs, t128, ra_fund h.1.1.1]
theorem c_pass (h : IV n t m C R N L) (p0 : Int32) : OM eB C R N L (fX11_pass C p0) (fX12_pass R p0) := by
  unfold fX11_pass fX12_pass fX12_pass_J19 fX1_handOn
  have ih := iv_thr (v := 0) h
  rcases bils h p0 with ⟨h1, h2⟩ | ⟨mq, c, m1, m2, hc, rfl, h1, h2⟩
  · refine om_t (k := 1) (v := nI 1) h ?_ ?_ rfl za_n10
    · rw [h1, za_bnxl]
    · rw [za_lt, h2 _ t128, za_bnd, if_pos rfl, bad_1, za_bn2, if_neg za_n10]
  · have hc20 : c < 20 := by omega
    obtain ⟨_, _, _, i3⟩ := h.1.1.2.2.2.2.2.2.2.2.2.1
    obtain ⟨_, ⟨k, k1, k2⟩, ⟨s, s1, s2⟩, _⟩ := i3 c hc20
    rw [h1, za_bnx, za_inY hc20 (by omega), za_bnd, if_neg za_n10]
    simp only [za_lt]
    rw [h2 _ t128, za_bnd, if_neg za_n10, bad_0, za_bn2, if_pos rfl, za_mul, nI_add, nI_add, nI_add]
    simp only [za_chk _ hc20 (show 20 < 2 ^ 31 by omega), nI_clamp (show c < 2 ^ 31 by omega), za_chk _ (show 1640 + 4 * c + 1 < 2132 by omega) (show 2132 < 2 ^ 31 by omega), za_chk _ (show 1640 + 4 * c + 2 < 2132 by omega) (show 2132 < 2 ^ 31 by omega), nI_clamp (show 1640 + 4 * c + 1 < 2 ^ 31 by omega), nI_clamp (show 1640 + 4 * c + 2 < 2 ^ 31 by omega), t128, ra_bhan h.1.1.1 hc20, ra_bst h.1.1.1 hc20, za_lt, za_wrs]
    rw [show C (17 + 32 + 2) c = nI k from k2, show C (17 + 32 + 3) c = nI s from s2]
    by_cases q : k < 5
    · rw [if_pos (nI_lt q (by omega)), if_neg (nk k 5 (by omega) (by omega) (by omega))]
      by_cases q2 : s = 0
      · subst q2
        rw [if_pos nI_0, if_pos (by decide +kernel), nI_add, za_bn2]
        have hop := op_bhan (k := k + 1) hc20 (by omega) (fun mm hm1 hm2 => by have := za_inj (by omega) (by omega) (hm2.symm.trans m2); omega) ih.1.1
        exact om_fd (b := nI (k + 1)) h rfl rfl (ih.1.step hop (fc_wr FC.rf (by omega)) (fd_wr FD.rf (by omega)) (za_wra (by omega)) (za_wra (by omega)) (za_wra (by omega)) (za_wra (by omega))) (fc_wr FC.rf (by omega)) (fd_wr FD.rf (by omega)) (fun j _ _ => za_wra (by omega))
      · rw [if_neg (nk0 s (by omega) q2), if_neg (by rw [za_le0 (by omega)]; exact q2), za_bn2]
        exact om_r (b := -2) h rfl rfl
    · obtain rfl : k = 5 := by omega
      rw [if_neg (nI_nlt (by omega) (by omega)), if_pos rfl, za_bn2]
      exact om_r (b := -1) h rfl rfl
theorem c_bill (h : IV n t m C R N L) (p0 : Int32) : OM eA C R N L (fX11_bill C p0) (fX12_bill R p0) := by
  unfold fX11_bill fX12_bill fX11_bill_J16 fX11_bill_J17 fX12_bill_J18 fX12_bill_J23 fX1_add
  have ih := iv_thr (v := 0) h
  rcases rng1 10000 (by omega) p0 with g | ⟨g0, g⟩ | ⟨j, j0, j1, rfl⟩
  · exact om_t (k := 2) (v := nI 1) h (by rw [if_pos g, need_0, za_bnxl]) (by rw [za_lt, if_pos g, bad_1, za_bn2, if_neg za_n10]) rfl za_n10
  · exact om_t (k := 2) (v := nI 1) h (by rw [if_neg g0, if_pos g, need_0, za_bnxl]) (by rw [za_lt, if_neg g0, if_neg (by grind), bad_1, za_bn2, if_neg za_n10]) rfl za_n10
  · obtain ⟨b, i1, i2, i3⟩ := h.1.1.2.2.2.2.2.2.2.2.2.1
    have ebn : (wr R 127 0 0) 128 2126 = nI b := by rw [t128]; exact (ra_bn h.1.1.1).trans i2
    rw [if_neg (nI_nlt (by omega) (by omega)), if_neg (nI_nlt j1 (by omega)), need_1, za_bnx, i2, iv_tc h, nI_add]
    simp only [za_lt]
    rw [if_neg (nI_nlt (by omega) (by omega)), if_pos (nI_le j1 (by omega)), bad_0, za_bn2, if_pos rfl, za_chk (n := 2126) _ (by omega) (by omega), nI_clamp (n := 2126) (by omega), ebn]
    by_cases q : b = 20
    · subst q
      rw [za_in (by omega) (by omega), if_neg (by omega), za_bnd, if_pos rfl, za_bn2, if_pos rfl, if_pos rfl]
      exact om_r (b := -1) h rfl rfl
    · have hb : b < 20 := by omega
      have hop := op_bill (b := b) (v := j) (nI (t + 34)) hb j1 i2 ih.1.1
      have fc1 : FC 17 C (wr (wr (wr C (17 + 33) b (nI j)) (17 + 36) b (nI (t + 34))) (17 + 32) 0 (nI (b + 1))) := fc_wr (fc_wr (fc_wr FC.rf (by omega)) (by omega)) (by omega)
      have fd1 : FD (wr R 127 0 0) (wr (wr (wr (wr R 127 0 0) 128 (1640 + 4 * b) (nI j)) 128 (1640 + 4 * b + 3) (nI (t + 34))) 128 2126 (nI (b + 1))) := fd_wr (fd_wr (fd_wr FD.rf (by omega)) (by omega)) (by omega)
      have ew : ∀ j', wr (wr (wr C (17 + 33) b (nI j)) (17 + 36) b (nI (t + 34))) (17 + 32) 0 (nI (b + 1)) 17 j' = C 17 j' := fun j' => by rw [za_wra (by omega), za_wra (by omega), za_wra (by omega)]
      have h1 := ih.1.step hop fc1 fd1 (by rw [za_wra (by omega), za_wra (by omega), za_wra (by omega)]) (ew _) (ew _) (ew _)
      have h2 := rv_tre (C 17 8 + nI j) h1
      refine om_fd (b := nI b) h ?_ ?_ h2 (fc_wr fc1 (by omega)) (fd_wr fd1 (by omega)) (fun j' _ _ => by rw [za_wri (by omega)]; exact ew _)
      · rw [za_inY hb (by omega), za_bnd, if_neg za_n10, za_chk _ hb (by omega), nI_clamp (n := b) (by omega)]
        rw [show wr C (17 + 32 + 1) b (nI j) (17 + 32) 0 = nI b by rw [za_wra (by omega)]; exact i2, za_chk _ hb (by omega), nI_clamp (n := b) (by omega)]
        rw [show wr (wr C (17 + 32 + 1) b (nI j)) (17 + 32 + 4) b (nI (t + 34)) (17 + 32) 0 = nI b by rw [za_wra (by omega), za_wra (by omega)]; exact i2, nI_add, za_bn2, if_neg (za_nm1 (by omega))]
        rw [show wr (wr (wr C (17 + 32 + 1) b (nI j)) (17 + 32 + 4) b (nI (t + 34))) (17 + 32) 0 (nI (b + 1)) 17 8 = C 17 8 from ew 8]
      · have et : R 128 2116 = nI t := rw_t h.1.1
        have e8 : R 128 2118 = C 17 8 := ra_tre h.1.1.1
        have eb : R 128 2126 = nI b := (ra_bn h.1.1.1).trans i2
        rw [if_neg (fun z => q (za_inj (by omega) (by omega) z))]
        simp only [za_mul, nI_add, za_lt, ni0]
        simp (disch := omega) only [za_chk, nI_clamp, za_wri, za_wrs, eb, et, e8, nI_add]
        rw [nis rfl, wr_cm (i := 2118) (j := 2126) (by omega)]
end AF
