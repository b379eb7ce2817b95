section LF2
variable {w n t x a y m p : Nat} {C R : Mc} {u u' : Int32}
theorem undo_L {l : Nat} (hl : l < 12) : ∀ k fu i C R, i + k = 96 → k < fu → RV w n t n a y m C R → R 138 l ≠ 0 → ∃ C' R', fX10_undoSales_L2 w fu C (nI l) (nI i) = some C' ∧ fX12_undoes_L18 fu R (nI l) (nI i) = some R' ∧ RV w n t n a y m C' R' ∧ FC w C C' ∧ FD R R' ∧ (∀ j, j ≠ 8 → C' w j = C w j) ∧ (∀ j, 22 ≤ j → C' (w + j) = C (w + j))
  | k, 0, _, _, _, _, hf, _, _ => by omega
  | 0, fu + 1, i, C, R, hi, _, h, _ => by
    obtain rfl : i = 96 := by omega
    rw [fX10_undoSales_L2, fX12_undoes_L18, if_pos (nI_le (Nat.le_refl _) (by omega)), if_pos (nI_le (Nat.le_refl _) (by omega))]
    exact ⟨C, R, rfl, rfl, h, FC.rf, FD.rf, fun _ _ => rfl, fun _ _ => rfl⟩
  | k + 1, fu + 1, i, C, R, hi, hf, h, h8 => by
    have hi96 : i < 96 := by omega
    rw [fX10_undoSales_L2, fX12_undoes_L18, if_neg (nI_ge (by omega) (by omega)), if_neg (nI_ge (by omega) (by omega)), lg_bought hi96, za_bnd, za_chk (n := l) _ hl (by omega), nI_clamp (n := l) (by omega), if_neg h8, rf_sec0 hi96, za_bnd, ra_hold h.1.1 hi96, rf_sec hi96 (by omega), za_bnd, ra_tel h.1.1 hi96]
    unfold fX10_undoSales_J25 fX12_undoes_J104
    simp only [nI_add]
    by_cases h3 : C (w + 5) i = nI 3
    · rw [if_pos h3]
      by_cases ht : C (w + 11) i = nI l
      · rw [if_pos (show C (w + 1 + 4) i = nI 3 ∧ C (w + 1 + 10) i = nI l from ⟨h3, ht⟩), if_neg za_n10, if_pos ht]
        obtain ⟨C1, R1, i1, i2, i3, i4, i5, i6, i7⟩ := take_sim h hi96 h3
        obtain ⟨C', R', j1, j2, j3, j4, j5, j6, j7⟩ := undo_L hl k fu (i + 1) C1 R1 (by omega) (by omega) i3 (by rw [i5.1 138 (by omega) (by omega)]; exact h8)
        rw [i1, za_bnd]
        exact ⟨C', R', j1, (i2 (fun M => fX12_undoes_L18 fu M (nI l) (nI (i + 1)))).trans j2, j3, i4.tr j4, i5.tr j5, fun j hj => (j6 j hj).trans (i6 j hj), fun j hj => (j7 j hj).trans (i7 j hj)⟩
      · rw [if_neg (show ¬ (C (w + 1 + 4) i = nI 3 ∧ C (w + 1 + 10) i = nI l) from fun q => ht q.2), if_pos rfl, if_neg ht]
        exact undo_L hl k fu (i + 1) C R (by omega) (by omega) h h8
    · rw [if_neg (show ¬ (C (w + 1 + 4) i = nI 3 ∧ C (w + 1 + 10) i = nI l) from fun q => h3 q.1), if_pos rfl, if_neg h3]
      exact undo_L hl k fu (i + 1) C R (by omega) (by omega) h h8
theorem due_c {l : Nat} (hl : l < 12) (h1 : C (w + 37) 1 = nI m) (hm : m ≤ 12) : fX2_isDue C (w + 37) (nI l) (nI t) = some (if l < m ∧ C (w + 38) l = nI 2 ∧ C (w + 40) l = nI t then nI 1 else 0) := by
  unfold fX2_isDue
  rw [za_inY hl (by omega), za_bnd, if_neg za_n10, h1, za_chk _ hl (by omega), za_chk _ hl (by omega), nI_clamp (by omega)]
  change (if nI m ≤ nI l then _ else (if C (w + 38) l = nI 2 then (if C (w + 40) l = nI t then _ else _) else _)) = _
  by_cases h0 : l < m
  · rw [if_neg (nI_ge h0 (by omega))]
    by_cases h2 : C (w + 38) l = nI 2
    · rw [if_pos h2]
      by_cases h3 : C (w + 40) l = nI t
      · rw [if_pos h3, if_pos ⟨h0, h2, h3⟩]
      · rw [if_neg h3, if_neg (fun q => h3 q.2.2)]
    · rw [if_neg h2, if_neg (fun q => h2 q.2.1)]
  · rw [if_pos (nI_le (by omega) (by omega)), if_neg (fun q => h0 q.1)]
/-- laws that are read by the class where there are none -/
theorem laws_0 : ∀ k fu i C, i + k = 12 → k < fu → C (w + 37) 1 = nI m → m ≤ 12 → m ≤ i → C w 6 = nI t → fX10_readLaws_L2 w fu C (nI i) = some C
  | k, 0, _, _, _, hf, _, _, _, _ => by omega
  | 0, fu + 1, i, C, hi, _, _, _, _, _ => by
    obtain rfl : i = 12 := by omega
    rw [fX10_readLaws_L2, if_pos (nI_le (Nat.le_refl _) (by omega))]
  | k + 1, fu + 1, i, C, hi, hf, h1, hm, hmi, h6 => by
    rw [fX10_readLaws_L2, if_neg (nI_ge (by omega) (by omega)), h6, due_c (by omega) h1 hm, if_neg (fun q => by omega), za_bnd, if_pos rfl]
    unfold fX10_readLaws_J39
    rw [nI_add]
    exact laws_0 k fu (i + 1) C (by omega) (by omega) h1 hm (by omega) h6
theorem laws_L : ∀ k fu fr i C R, i + k = m → k < fr → 12 < i + fu → RV w n t n a y m C R → ∃ C' R', fX10_readLaws_L2 w fu C (nI i) = some C' ∧ fX12_letters_L2 fr R (nI i) = fX12_letters_L95 FU R' 0 ∧ RV w n t n a y m C' R' ∧ FC w C C' ∧ FD R R' ∧ (∀ j, j ≠ 8 → C' w j = C w j)
  | k, _, 0, _, _, _, _, hf, _, _ => by omega
  | 0, fu, fr + 1, i, C, R, hi, _, hfu, h => by
    obtain rfl : i = m := by omega
    have h12 := h.2.2.1
    rw [fX12_letters_L2, za_chk (n := 2125) _ (by omega) (by omega), nI_clamp (n := 2125) (by omega), ra_ln h.1.1, h.2.1, if_pos (nI_le (Nat.le_refl _) (by omega))]
    exact ⟨C, R, laws_0 (12 - i) fu i C (by omega) (by omega) h.2.1 h.2.2.1 (Nat.le_refl _) h.1.2.1.2.2.1, rfl, h, FC.rf, FD.rf, fun _ _ => rfl⟩
  | k + 1, fu, fr + 1, i, C, R, hi, hf, hfu, h => by
    have hw := h.w17
    have h12 := h.2.2.1
    have hi12 : i < 12 := by omega
    have hL := h.1.2.2.2.2.2.2.2.2.2.2.2.2.2 m i h.2.1 h12 (by omega)
    obtain ⟨fu', rfl⟩ : ∃ f, fu = f + 1 := ⟨fu - 1, by omega⟩
    rw [fX10_readLaws_L2, fX12_letters_L2, if_neg (nI_ge (by omega) (by omega)), za_chk (n := 2125) _ (by omega) (by omega), nI_clamp (n := 2125) (by omega), ra_ln h.1.1, h.2.1, if_neg (nI_ge (by omega) (by omega)), h.1.2.1.2.2.1, due_c hi12 h.2.1 h12, za_bnd, rf_ofLaw0 hi12, za_bnd, ra_lst h.1.1 hi12, rf_ofLaw hi12 (by omega), za_bnd, rf_ofLaw hi12 (by omega), za_bnd, za_bnd, za_chk (n := 2116) _ (by omega) (by omega), nI_clamp (n := 2116) (by omega), rw_t h.1]
    unfold fX10_readLaws_J39 fX12_letters_J87
    simp only [nI_add, za_mul, Nat.add_zero]
    have ht := h.1.2.1.2.2.2
    have skip : ∃ C' R', fX10_readLaws_L2 w fu' C (nI (i + 1)) = some C' ∧ fX12_letters_L2 fr R (nI (i + 1)) = fX12_letters_L95 FU R' 0 ∧ RV w n t n a y m C' R' ∧ FC w C C' ∧ FD R R' ∧ (∀ j, j ≠ 8 → C' w j = C w j) := laws_L k fu' fr (i + 1) C R (by omega) (by omega) (by omega) h
    by_cases h2 : C (w + 38) i = nI 2
    · rw [if_pos h2]
      rcases hL with ⟨r1, r2⟩ | ⟨d, d1, d2, d3, d4⟩
      · rw [if_neg (show ¬ (i < m ∧ C (w + 38) i = nI 2 ∧ C (w + 40) i = nI t) from fun q => za_m1n (show t < 2 ^ 31 by omega) (r1.symm.trans q.2.2)), r2, if_pos rfl, if_pos rfl]
        exact skip
      · have hsa : R 128 (1568 + 6 * i + 4) ≠ 0 := by rcases d4 with ⟨q, _⟩ | ⟨q, _⟩ <;> rw [q] <;> decide +kernel
        rw [if_neg hsa, d3]
        have e0 : ∀ v : Nat, nI v + 0 = nI v := fun v => Int32.add_zero _
        by_cases hd : t = d
        · subst hd
          rw [if_pos (show i < m ∧ C (w + 38) i = nI 2 ∧ C (w + 40) i = nI t from ⟨by omega, h2, d2⟩), if_neg za_n10, if_pos (show nI t = nI t from rfl), e0, za_chk (n := 1568 + 6 * i) _ (by omega) (by omega), za_lt, nI_clamp (n := 1568 + 6 * i) (by omega)]
          obtain ⟨bk, _⟩ := h.2.2.2.1 i hi12
          obtain ⟨z, z1, z2, z3, z4, z5, _⟩ := bk (by omega)
          have h4 : RV w n t n a y m (wr (wr C (w + 38) i (nI 4)) (w + 37) 2 (C (w + 37) 2 &&& (((nI 1) <<< (nI i &&& 31)) ^^^ (-1)))) (wr R 128 (1568 + 6 * i) (nI 4)) :=
            h.step (op_law4 hi12 h2 h.1) (fc_wr (fc_wr FC.rf (by omega)) (by omega)) (fd_wr FD.rf (by omega)) (by rw [za_wri (by omega), za_wra (by omega)]) (by rw [za_wra (by omega), za_wra (by omega)]) (by rw [za_wra (by omega), za_wra (by omega)]) (by rw [za_wra (by omega), za_wra (by omega)])
          have hhear : fX2_hear C (w + 37) (nI i) = (if C (w + 41) i = nI 1 then some (0, wr C (w + 38) i (nI 3)) else (if R 138 i = 0 then some (0, wr (wr C (w + 38) i (nI 4)) (w + 37) 2 (C (w + 37) 2 &&& (((nI 1) <<< (nI i &&& 31)) ^^^ (-1)))) else some (nI 1, wr (wr C (w + 38) i (nI 4)) (w + 37) 2 (C (w + 37) 2 &&& (((nI 1) <<< (nI i &&& 31)) ^^^ (-1)))))) := by
            unfold fX2_hear
            rw [za_inY hi12 (by omega), za_bnd, if_neg za_n10, za_bnd, if_neg za_n10]
            simp only [za_chk _ hi12 (show 12 < 2 ^ 31 by omega), za_lt, nI_clamp (show i < 2 ^ 31 by omega)]
            rw [show wr C (w + 37 + 1) i (nI 4) (w + 37) 2 = C (w + 37) 2 from za_wra (by omega)]
            rw [show ∀ v, wr (wr C (w + 37 + 1) i (nI 4)) (w + 37) 2 v 16 i = nI z from fun v => by rw [za_wra (by omega), za_wra (by omega)]; exact z3, nI_clamp z2, if_neg (show ¬ z = 0 by omega)]
            rw [show ∀ v, wr (wr C (w + 37 + 1) i (nI 4)) (w + 37) 2 v z 3 = R 138 i from fun v => by rw [za_wra (by omega), za_wra (by omega)]; exact z5]
          rw [hhear]
          rcases d4 with ⟨q1, q2⟩ | ⟨q1, q2⟩
          · rw [if_pos q2, za_bn2, if_pos rfl, q1, if_pos rfl]
            have h1 : RV w n t n a y m (wr C (w + 38) i (nI 3)) (wr R 128 (1568 + 6 * i) (nI 3)) :=
              h.step (op_law3 hi12 h2 h.1) (fc_wr FC.rf (by omega)) (fd_wr FD.rf (by omega)) (za_wra (by omega)) (za_wra (by omega)) (za_wra (by omega)) (za_wra (by omega))
            obtain ⟨C', R', j1, j2, j3, j4, j5, j6⟩ := laws_L k fu' fr (i + 1) _ _ (by omega) (by omega) (by omega) h1
            exact ⟨C', R', j1, j2, j3, FC.tr (fc_wr FC.rf (by omega)) j4, FD.tr (fd_wr FD.rf (by omega)) j5, fun j hj => (j6 j hj).trans (za_wra (by omega))⟩
          · have hun : fX12_undoes R (nI i) = fX12_undoes_L18 FU (wr R 128 (1568 + 6 * i) (nI 4)) (nI i) 0 := by
              unfold fX12_undoes
              rw [za_mul, nI_add, e0, za_chk _ (by omega) (by omega), za_lt, nI_clamp (by omega)]
            rw [if_neg (show ¬ C (w + 41) i = nI 1 by rw [q2]; decide +kernel), q1, if_neg (show ¬ nI 2 = nI 1 by decide +kernel), hun]
            by_cases hfa : R 138 i = 0
            · rw [if_pos hfa, za_bn2, if_pos rfl]
              rw [show fX12_undoes_L18 FU (wr R 128 (1568 + 6 * i) (nI 4)) (nI i) 0 = some (wr R 128 (1568 + 6 * i) (nI 4)) by
                rw [show FU = 99999 + 1 from rfl, fX12_undoes_L18, if_neg (by decide +kernel), za_chk _ hi12 (by omega), nI_clamp (by omega), if_pos (by rw [za_wra (by omega)]; exact hfa)], za_bnd]
              obtain ⟨C', R', j1, j2, j3, j4, j5, j6⟩ := laws_L k fu' fr (i + 1) _ _ (by omega) (by omega) (by omega) h4
              exact ⟨C', R', j1, j2, j3, FC.tr (fc_wr (fc_wr FC.rf (by omega)) (by omega)) j4, FD.tr (fd_wr FD.rf (by omega)) j5, fun j hj => (j6 j hj).trans (by rw [za_wra (by omega), za_wra (by omega)])⟩
            · rw [if_neg hfa, za_bn2, if_neg za_n10]
              obtain ⟨C1, R1, i1, i2, i3, i4, i5, i6, _⟩ := undo_L hi12 96 FU 0 _ _ (by omega) (by rw [za_FU]; omega) h4 (by rw [za_wra (by omega)]; exact hfa)
              rw [← za_0] at i1 i2
              unfold fX10_undoSales
              rw [i1, za_bnd, i2, za_bnd]
              obtain ⟨C', R', j1, j2, j3, j4, j5, j6⟩ := laws_L k fu' fr (i + 1) C1 R1 (by omega) (by omega) (by omega) i3
              exact ⟨C', R', j1, j2, j3, FC.tr (fc_wr (fc_wr FC.rf (by omega)) (by omega)) (i4.tr j4), FD.tr (fd_wr FD.rf (by omega)) (i5.tr j5), fun j hj => (j6 j hj).trans ((i6 j hj).trans (by rw [za_wra (by omega), za_wra (by omega)]))⟩
        · rw [if_neg (show ¬ (i < m ∧ C (w + 38) i = nI 2 ∧ C (w + 40) i = nI t) from fun q => hd (za_inj (by omega) (by omega) (d2.symm.trans q.2.2)).symm), if_pos rfl, if_neg (show ¬ nI d = nI t from fun q => hd (za_inj (by omega) (by omega) q).symm)]
          exact skip
    · rw [if_neg h2, if_neg (show ¬ (i < m ∧ C (w + 38) i = nI 2 ∧ C (w + 40) i = nI t) from fun q => h2 q.2.1), if_pos rfl]
      exact skip
end LF2
