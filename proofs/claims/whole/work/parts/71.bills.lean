/-! ===== bills that are read ===== -/
theorem wr_tw {M : Mc} {k i : Nat} {u v : Int32} : wr (wr M k i u) k i v = wr M k i v := by
  funext b j; simp only [za_wr]; split <;> rfl
section BI
variable {w n t x a y m p : Nat} {C R : Mc} {T : Int32}
theorem bills_L {mb : Nat} (hmb : mb ≤ 20) : ∀ k fu fr b C R lost, b + k = mb → k < fu → k < fr → RV w n t n a y m (wr C w 8 (T - lost)) R → C (w + 32) 0 = nI mb → ∃ C' R' lost', fX1_readDue_L4 (w + 32) fu C (nI t) lost (nI b) = some (lost', C') ∧ fX12_letters_L95 fr R (nI b) = some R' ∧ RV w n t n a y m (wr C' w 8 (T - lost')) R' ∧ FC w C C' ∧ FD R R' ∧ (∀ j, C' w j = C w j)
  | k, 0, _, _, _, _, _, _, hf, _, _, _ => by omega
  | k, _, 0, _, _, _, _, _, _, hf, _, _ => by omega
  | 0, fu + 1, fr + 1, b, C, R, lost, hi, _, _, h, hm => by
    obtain rfl : b = mb := by omega
    rw [fX1_readDue_L4, fX12_letters_L95, za_chk (n := 2126) _ (by omega) (by omega), nI_clamp (n := 2126) (by omega), ra_bn h.1.1, za_wra (by omega), hm, if_pos (nI_le (Nat.le_refl _) (by omega)), if_pos (nI_le (Nat.le_refl _) (by omega))]
    exact ⟨C, R, lost, rfl, rfl, h, FC.rf, FD.rf, fun _ => rfl⟩
  | k + 1, fu + 1, fr + 1, b, C, R, lost, hi, hf, hfr, h, hm => by
    have hw := h.w17
    have hb20 : b < 20 := by omega
    have hbm : ∀ q, q ≤ 20 → wr C w 8 (T - lost) (w + 32) 0 = nI q → b < q := fun q hq he => by
      rw [za_wra (by omega), hm] at he
      have := za_inj (by omega) (by omega) he
      omega
    have ht := h.1.2.1.2.2.2
    obtain ⟨m', _, i2, i3⟩ := h.1.2.2.2.2.2.2.2.2.2.1
    obtain ⟨⟨sm, sm1, sm2⟩, ⟨hs, hs1, hs2⟩, ⟨st, st1, st2⟩, _⟩ := i3 b hb20
    rw [za_wra (by omega)] at sm2 hs2 st2
    have eD : R 128 (1640 + 4 * b + 3) = C (w + 36) b := (ra_bdue h.1.1 hb20).trans (za_wra (by omega))
    have eS : R 128 (1640 + 4 * b + 2) = nI st := (ra_bst h.1.1 hb20).trans ((za_wra (by omega)).trans st2)
    have eM : R 128 (1640 + 4 * b) = nI sm := (ra_bsum h.1.1 hb20).trans ((za_wra (by omega)).trans sm2)
    have eH : R 128 (1640 + 4 * b + 1) = nI hs := (ra_bhan h.1.1 hb20).trans ((za_wra (by omega)).trans hs2)
    have eF : R 128 2123 = C (w + 32) 1 := (ra_fund h.1.1).trans (za_wra (by omega))
    have eT : R 128 2118 = T - lost := (ra_tre h.1.1).trans (za_wrs _ _ _ _)
    have e0 : ∀ v : Nat, nI v + 0 = nI v := fun v => Int32.add_zero _
    have rdR : fX12_reads R (nI b) = (if C (w + 36) b = nI t then (if nI st = nI 1 then some R else if nI st = nI 3 then some R else if nI st = nI 2 then some (wr (wr R 128 2118 (T - lost - ((nI sm + nI sm * nI 20 / nI 100) + nI hs))) 128 (1640 + 4 * b + 2) (nI 3)) else if C (w + 32) 1 < nI sm then some (wr (wr R 128 (1640 + 4 * b + 2) (nI 2)) 128 (1640 + 4 * b + 3) (nI (t + 34))) else some (wr (wr R 128 2123 (C (w + 32) 1 - nI sm)) 128 (1640 + 4 * b + 2) (nI 1))) else some R) := by
      unfold fX12_reads
      rw [za_mul, nI_add, za_lt, e0]
      simp only [nI_add]
      simp (disch := omega) only [za_chk, za_lt, nI_clamp]
      rw [eM, eD, eS, eF, eT, eH, rw_t h.1, show wr R 128 (1640 + 4 * b + 2) (nI 2) 128 2116 = nI t by rw [za_wri (by omega)]; exact rw_t h.1, nI_add]
    have rdC : fX1_readDue_L4 (w + 32) (fu + 1) C (nI t) lost (nI b) = (if C (w + 36) b = nI t then (if nI st = 0 then bnd (fX1_present C (w + 32) (nI b)) fun M2 => fX1_readDue_L4 (w + 32) fu M2 (nI t) lost (nI (b + 1)) else (if nI st = nI 2 then bn2 (fX1_comeBack C (w + 32) (nI b)) fun v4 M5 => fX1_readDue_L4 (w + 32) fu M5 (nI t) (lost + v4) (nI (b + 1)) else fX1_readDue_L4 (w + 32) fu C (nI t) lost (nI (b + 1)))) else fX1_readDue_L4 (w + 32) fu C (nI t) lost (nI (b + 1))) := by
      rw [fX1_readDue_L4]
      unfold fX1_readDue_J45 fX1_readDue_J73
      simp only [nI_add, za_lt]
      rw [hm, if_neg (nI_ge (by omega) (by omega)), if_neg (nI_ge (by omega) (by omega))]
      simp only [za_chk _ hb20 (show 20 < 2 ^ 31 by omega), nI_clamp (show b < 2 ^ 31 by omega)]
      change (if C (w + 36) b = nI t then (if C (w + 35) b = 0 then _ else (if C (w + 36) b = nI t then (if C (w + 35) b = nI 2 then _ else _) else _)) else (if C (w + 36) b = nI t then (if C (w + 35) b = nI 2 then _ else _) else _)) = _
      rw [st2]
      by_cases hd : C (w + 36) b = nI t
      · simp only [if_pos hd]
      · simp only [if_neg hd]
    rw [rdC, fX12_letters_L95, za_chk (n := 2126) _ (by omega) (by omega), nI_clamp (n := 2126) (by omega), ra_bn h.1.1, za_wra (by omega), hm, if_neg (nI_ge (by omega) (by omega)), rdR, nI_add]
    have skip : ∃ C' R' lost', fX1_readDue_L4 (w + 32) fu C (nI t) lost (nI (b + 1)) = some (lost', C') ∧ (bnd (some R) fun M13 => fX12_letters_L95 fr M13 (nI (b + 1))) = some R' ∧ RV w n t n a y m (wr C' w 8 (T - lost')) R' ∧ FC w C C' ∧ FD R R' ∧ (∀ j, C' w j = C w j) := by
      rw [za_bnd]; exact bills_L hmb k fu fr (b + 1) C R lost (by omega) (by omega) (by omega) h hm
    by_cases hd : C (w + 36) b = nI t
    · rw [if_pos hd, if_pos hd]
      rcases (show st = 0 ∨ st = 1 ∨ st = 2 ∨ st = 3 by omega) with rfl | rfl | rfl | rfl
      · rw [if_pos (show nI 0 = 0 from nI_0), if_neg (show ¬ nI 0 = nI 1 by decide +kernel), if_neg (show ¬ nI 0 = nI 3 by decide +kernel), if_neg (show ¬ nI 0 = nI 2 by decide +kernel)]
        unfold fX1_present
        rw [za_inY hb20 (by omega), za_bnd, if_neg za_n10]
        simp only [za_chk _ hb20 (show 20 < 2 ^ 31 by omega), za_lt, nI_clamp (show b < 2 ^ 31 by omega)]
        change ∃ C' R' lost', (bnd (if C (w + 32) 1 < C (w + 33) b then some (wr (wr C (w + 35) b (nI 2)) (w + 36) b (wr C (w + 35) b (nI 2) (w + 36) b + nI 34)) else some (wr (wr C (w + 32) 1 (C (w + 32) 1 - C (w + 33) b)) (w + 35) b (nI 1))) _) = _ ∧ _
        rw [sm2, za_wra (by omega), hd, nI_add]
        by_cases hfu : C (w + 32) 1 < nI sm
        · rw [if_pos hfu, if_pos hfu, za_bnd, za_bnd]
          have hR := op_bdue (nI (t + 34)) hb20 (op_bst (s := 2) hb20 (by omega) hbm h.1)
          have e1 : wr (wr (wr C w 8 (T - lost)) (w + 35) b (nI 2)) (w + 36) b (nI (t + 34)) = wr (wr (wr C (w + 35) b (nI 2)) (w + 36) b (nI (t + 34))) w 8 (T - lost) := by rw [wr8 (by omega), wr8 (by omega)]
          have h1 := h.step hR (fc_wr (fc_wr FC.rf (by omega)) (by omega)) (fd_wr (fd_wr FD.rf (by first | omega | (have := rw_n100 h.1; omega))) (by first | omega | (have := rw_n100 h.1; omega))) (by rw [za_wra (by omega), za_wra (by omega)]) (by rw [za_wra (by omega), za_wra (by omega)]) (by rw [za_wra (by omega), za_wra (by omega)]) (by rw [za_wra (by omega), za_wra (by omega)])
          rw [e1] at h1
          obtain ⟨C', R', l', j1, j2, j3, j4, j5, j6⟩ := bills_L hmb k fu fr (b + 1) _ _ lost (by omega) (by omega) (by omega) h1 (by rw [za_wra (by omega), za_wra (by omega)]; exact hm)
          exact ⟨C', R', l', j1, j2, j3, FC.tr (fc_wr (fc_wr FC.rf (by omega)) (by omega)) j4, FD.tr (fd_wr (fd_wr FD.rf (by first | omega | (have := rw_n100 h.1; omega))) (by first | omega | (have := rw_n100 h.1; omega))) j5, fun j => (j6 j).trans (by rw [za_wra (by omega), za_wra (by omega)])⟩
        · rw [if_neg hfu, if_neg hfu, za_bnd, za_bnd]
          have hR := op_bst (s := 1) hb20 (by omega) (fun q hq he => hbm q hq (by rwa [za_wri (by omega)] at he)) (op_fund (C (w + 32) 1 - nI sm) h.1)
          have e1 : wr (wr (wr C w 8 (T - lost)) (w + 32) 1 (C (w + 32) 1 - nI sm)) (w + 35) b (nI 1) = wr (wr (wr C (w + 32) 1 (C (w + 32) 1 - nI sm)) (w + 35) b (nI 1)) w 8 (T - lost) := by rw [wr8 (by omega), wr8 (by omega)]
          have h1 := h.step hR (fc_wr (fc_wr FC.rf (by omega)) (by omega)) (fd_wr (fd_wr FD.rf (by first | omega | (have := rw_n100 h.1; omega))) (by first | omega | (have := rw_n100 h.1; omega))) (by rw [za_wra (by omega), za_wra (by omega)]) (by rw [za_wra (by omega), za_wra (by omega)]) (by rw [za_wra (by omega), za_wra (by omega)]) (by rw [za_wra (by omega), za_wra (by omega)])
          rw [e1] at h1
          obtain ⟨C', R', l', j1, j2, j3, j4, j5, j6⟩ := bills_L hmb k fu fr (b + 1) _ _ lost (by omega) (by omega) (by omega) h1 (by rw [za_wra (by omega), za_wri (by omega)]; exact hm)
          exact ⟨C', R', l', j1, j2, j3, FC.tr (fc_wr (fc_wr FC.rf (by omega)) (by omega)) j4, FD.tr (fd_wr (fd_wr FD.rf (by first | omega | (have := rw_n100 h.1; omega))) (by first | omega | (have := rw_n100 h.1; omega))) j5, fun j => (j6 j).trans (by rw [za_wra (by omega), za_wra (by omega)])⟩
      · rw [if_neg za_n10, if_neg (show ¬ nI 1 = nI 2 by decide +kernel), if_pos (show nI 1 = nI 1 from rfl)]
        exact skip
      · rw [if_neg (show ¬ nI 2 = 0 by decide +kernel), if_pos (show nI 2 = nI 2 from rfl), if_neg (show ¬ nI 2 = nI 1 by decide +kernel), if_neg (show ¬ nI 2 = nI 3 by decide +kernel), if_pos (show nI 2 = nI 2 from rfl), za_bnd]
        unfold fX1_comeBack
        rw [za_inY hb20 (by omega), za_bnd, if_neg za_n10]
        simp only [za_chk _ hb20 (show 20 < 2 ^ 31 by omega), za_lt, nI_clamp (show b < 2 ^ 31 by omega), za_bn2]
        rw [show wr C (w + 32 + 3) b (nI 3) (w + 32 + 1) b = nI sm by rw [za_wra (by omega)]; exact sm2, show wr C (w + 32 + 3) b (nI 3) (w + 32 + 2) b = nI hs by rw [za_wra (by omega)]; exact hs2]
        have hR := op_bst (s := 3) hb20 (by omega) (fun q hq he => hbm q hq (by rwa [za_wra (by omega)] at he)) (op_tre (T - lost - ((nI sm + nI sm * nI 20 / nI 100) + nI hs)) h.1)
        have e1 : wr (wr (wr C w 8 (T - lost)) w 8 (T - lost - ((nI sm + nI sm * nI 20 / nI 100) + nI hs))) (w + 35) b (nI 3) = wr (wr C (w + 35) b (nI 3)) w 8 (T - (lost + ((nI sm + nI sm * nI 20 / nI 100) + nI hs))) := by
          rw [wr_tw, wr8 (by omega), show T - lost - ((nI sm + nI sm * nI 20 / nI 100) + nI hs) = T - (lost + ((nI sm + nI sm * nI 20 / nI 100) + nI hs)) by grind]
        have h1 := h.step hR (fc_wr (fc_wr FC.rf (by omega)) (by omega)) (fd_wr (fd_wr FD.rf (by first | omega | (have := rw_n100 h.1; omega))) (by first | omega | (have := rw_n100 h.1; omega))) (by rw [za_wra (by omega), za_wra (by omega)]) (by rw [za_wra (by omega), za_wri (by omega)]) (by rw [za_wra (by omega), za_wri (by omega)]) (by rw [za_wra (by omega), za_wri (by omega)])
        rw [e1] at h1
        obtain ⟨C', R', l', j1, j2, j3, j4, j5, j6⟩ := bills_L hmb k fu fr (b + 1) _ _ _ (by omega) (by omega) (by omega) h1 (by rw [za_wra (by omega)]; exact hm)
        exact ⟨C', R', l', j1, j2, j3, FC.tr (fc_wr FC.rf (by omega)) j4, FD.tr (fd_wr (fd_wr FD.rf (by first | omega | (have := rw_n100 h.1; omega))) (by first | omega | (have := rw_n100 h.1; omega))) j5, fun j => (j6 j).trans (za_wra (by omega))⟩
      · rw [if_neg (show ¬ nI 3 = 0 by decide +kernel), if_neg (show ¬ nI 3 = nI 2 by decide +kernel), if_neg (show ¬ nI 3 = nI 1 by decide +kernel), if_pos (show nI 3 = nI 3 from rfl)]
        exact skip
    · rw [if_neg hd, if_neg hd]
      exact skip
/-- laws and bills of a week -/
theorem letters_sim (h : RV w n t n a y m C R) : ∃ C1 C2 R' v, fX10_readLaws C w = some C1 ∧ fX1_readDue C1 (w + 32) (nI t) = some (v, C2) ∧ fX12_letters R = some R' ∧ RV w n t n a y m (wr C2 w 8 (C1 w 8 - v)) R' ∧ FC w C C2 ∧ FD R R' ∧ C1 w 6 = nI t := by
  have h12 := h.2.2.1
  obtain ⟨C1, R1, i1, i2, i3, i4, i5, i6⟩ := laws_L m FU FU 0 C R (by omega) (by rw [za_FU]; omega) (by rw [za_FU]; omega) h
  obtain ⟨mb, mb1, mb2, _⟩ := i3.1.2.2.2.2.2.2.2.2.2.1
  have h2 : RV w n t n a y m (wr C1 w 8 (C1 w 8 - 0)) R1 := by rw [show C1 w 8 - 0 = C1 w 8 from Int32.sub_zero _, za_wrid]; exact i3
  obtain ⟨C2, R2, v, j1, j2, j3, j4, j5, j6⟩ := bills_L mb1 mb FU FU 0 C1 R1 0 (by omega) (by rw [za_FU]; omega) (by rw [za_FU]; omega) h2 mb2
  refine ⟨C1, C2, R2, v, ?_, ?_, ?_, j3, i4.tr j4, i5.tr j5, i3.1.2.1.2.2.1⟩
  · unfold fX10_readLaws; rw [za_0]; exact i1
  · unfold fX1_readDue; rw [← za_0] at j1; exact j1
  · unfold fX12_letters; rw [za_0, i2, za_0]; exact j2
end BI
