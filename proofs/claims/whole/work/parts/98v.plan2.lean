/-! ===== planned ===== -/
section PM
variable {n t m : Nat} {C R C' R' : Mc} {N L : Md}
theorem mx_nI {a b : Nat} (ha : a < 2 ^ 31) (hb : b < 2 ^ 31) : xmax (nI a) (nI b) = (if nI b ≤ nI a then nI a else nI b) := by
  unfold xmax
  by_cases q : b ≤ a
  · rw [if_neg (nI_nlt q ha), if_pos (nI_le q ha)]
  · rw [if_pos (nI_lt (by omega) hb), if_neg (nI_ge (by omega) hb)]
theorem mn_nI {a b : Nat} (ha : a < 2 ^ 31) (hb : b < 2 ^ 31) : xmin (nI a) (nI b) = (if nI a ≤ nI b then nI a else nI b) := by
  unfold xmin
  by_cases q : a ≤ b
  · rw [if_neg (nI_nlt q hb), if_pos (nI_le q hb)]
  · rw [if_pos (nI_lt (by omega) ha), if_neg (nI_ge (by omega) ha)]
theorem rains_L {K102 : Mc → Int32 → Int32 → Int32 → Int32 → Int32 → Int32 → Option (Int32 × Mc)} {Y2 Y3 Y4 Y5 : Int32} {sN row a1 a2 many k0 : Nat} (hs : (sN = 1 ∧ a1 = row % 3) ∨ (sN = 2 ∧ a1 = row / 3)) (ha2 : a2 = row % 3) (hrow : row < 9) (hm : many ≤ 3) (hm0 : 0 < many) (hm1 : C 0 16 = nI many) (hk0 : C 32 2 = nI k0) (hk1 : k0 ≤ 100 * t) (ht : t + 13 * sN ≤ 1000) (hpr : ∀ i, i < 3 → ∃ v, v ≤ 1000 ∧ C 124 i = nI v ∧ R 142 i = nI v) (hra : ∀ i, i < 3 → ∃ v, v ≤ 500 ∧ C 125 i = nI v ∧ R 143 i = nI v) (hmR : R 127 29 = nI many) : ∀ k fu fr r C1 R1 X5 X6 Y7 Y8, r + k = many → k < fu → k < fr → PI n t m N L C R C1 R1 → ((r = 0 ∧ X5 = 0 ∧ X6 = nI 96) ∨ (0 < r ∧ ∃ H F, H ≤ 200000 ∧ F ≤ 96 ∧ X5 = nI H ∧ X6 = nI F ∧ Y7 = nI H ∧ Y8 = nI F)) → ∃ C2 R2 H F fr', fX11_tryRow_L28 fu C1 (nI sN) (nI row) (nI a1) (nI a2) X5 X6 (nI r) = fX11_tryRow_J157 C2 (nI sN) (nI row) (nI a1) (nI a2) (nI H) (nI F) ∧ fX12_planned_L127 K102 fr R1 (nI sN) Y2 Y3 Y4 Y5 (nI row) Y7 Y8 (nI r) = fX12_planned_L127 K102 (fr' + 1) R2 (nI sN) Y2 Y3 Y4 Y5 (nI row) (nI H) (nI F) (nI many) ∧ PI n t m N L C R C2 R2 ∧ H ≤ 200000 ∧ F ≤ 96 ∧ C2 126 = C1 126
  | k, 0, _, _, _, _, _, _, _, _, _, hf, _, _, _ => by omega
  | k, _, 0, _, _, _, _, _, _, _, _, _, hf, _, _ => by omega
  | 0, fu + 1, fr + 1, r, C1, R1, X5, X6, Y7, Y8, hi, _, _, hp, hx => by
    obtain rfl : r = many := by omega
    rcases hx with ⟨q, _⟩ | ⟨_, H, F, h1, h2, rfl, rfl, rfl, rfl⟩
    · omega
    · refine ⟨C1, R1, H, F, fr, ?_, rfl, hp, h1, h2, rfl⟩
      rw [fX11_tryRow_L28, hp.2.2.1 0 (by omega), hm1, if_pos (nI_le (Nat.le_refl _) (by omega))]
  | k + 1, fu + 1, fr + 1, r, C1, R1, X5, X6, Y7, Y8, hi, hf, hfr, hp, hx => by
    obtain ⟨C2, R2, H, F, i1, i2, i3, i4, i5, i6⟩ := life (K102 := K102) (X5 := X5) (X6 := X6) (Y2 := Y2) (Y3 := Y3) (Y4 := Y4) (Y5 := Y5) (Y7 := Y7) (Y8 := Y8) (r := r) (fu := fu) (fr := fr) hp hs ha2 hrow (by omega) hm hm1 hk0 hk1 ht hpr hra hmR
    have key : ∃ H' F', H' ≤ 200000 ∧ F' ≤ 96 ∧ xmax X5 (nI H) = nI H' ∧ xmin X6 (nI F) = nI F' ∧ (if r = 0 then nI H else if nI H ≤ Y7 then Y7 else nI H) = nI H' ∧ (if r = 0 then nI F else if Y8 ≤ nI F then Y8 else nI F) = nI F' := by
      rcases hx with ⟨rfl, rfl, rfl⟩ | ⟨hr0, h, f, h1, h2, rfl, rfl, rfl, rfl⟩
      · refine ⟨H, F, i4, i5, ?_, ?_, if_pos rfl, if_pos rfl⟩
        · rw [← nI_0, mx_nI (by omega) (by omega)]
          by_cases q : nI H ≤ nI 0
          · rw [if_pos q]; rw [nI_leI (by omega) (by omega)] at q; congr 1; omega
          · rw [if_neg q]
        · rw [mn_nI (by omega) (by omega)]
          by_cases q : nI 96 ≤ nI F
          · rw [if_pos q]; rw [nI_leI (by omega) (by omega)] at q; congr 1; omega
          · rw [if_neg q]
      · have e1 := mx_nI (a := h) (b := H) (by omega) (by omega)
        have e2 := mn_nI (a := f) (b := F) (by omega) (by omega)
        simp only [if_neg (show ¬ r = 0 by omega)]
        rw [e1, e2]
        by_cases q : nI H ≤ nI h
        · by_cases q2 : nI f ≤ nI F
          · rw [if_pos q, if_pos q2]; exact ⟨h, f, h1, h2, rfl, rfl, rfl, rfl⟩
          · rw [if_pos q, if_neg q2]; exact ⟨h, F, h1, i5, rfl, rfl, rfl, rfl⟩
        · by_cases q2 : nI f ≤ nI F
          · rw [if_neg q, if_pos q2]; exact ⟨H, f, i4, h2, rfl, rfl, rfl, rfl⟩
          · rw [if_neg q, if_neg q2]; exact ⟨H, F, i4, i5, rfl, rfl, rfl, rfl⟩
    obtain ⟨H', F', g1, g2, g3, g4, g5, g6⟩ := key
    rw [g3, g4] at i1
    rw [g5, g6] at i2
    obtain ⟨C3, R3, H3, F3, fr3, j1, j2, j3, j4, j5, j6⟩ := rains_L hs ha2 hrow hm hm0 hm1 hk0 hk1 ht hpr hra hmR k fu fr (r + 1) C2 R2 (nI H') (nI F') (nI H') (nI F') (by omega) (by omega) (by omega) i3 (Or.inr ⟨by omega, H', F', g1, g2, rfl, rfl, rfl, rfl⟩)
    exact ⟨C3, R3, H3, F3, fr3, i1.trans j1, i2.trans j2, j3, j4, j5, j6.trans i6⟩
/-- the best row so far, on both sides -/
def PS (sN row : Nat) (C : Mc) (Y3 Y4 Y5 : Int32) : Prop := (row = 0 ∧ Y3 = -1) ∨ (0 < row ∧ ∃ b H F, b < row ∧ H ≤ 200000 ∧ F ≤ 96 ∧ Y3 = nI b ∧ Y4 = nI H ∧ Y5 = nI F ∧ C 126 0 = (if sN = 2 then nI (b / 3) else nI b) ∧ C 126 1 = (if sN = 2 then nI (b % 3) else -1) ∧ C 126 2 = nI H ∧ C 126 3 = nI F)
def keptC (C : Mc) (a b c d : Int32) : Mc := wr (wr (wr (wr C 126 0 a) 126 1 b) 126 2 c) 126 3 d
theorem kept_o {C : Mc} {a b c d : Int32} {k : Nat} (h : k ≠ 126) : keptC C a b c d k = C k := by
  unfold keptC; rw [za_wrc h, za_wrc h, za_wrc h, za_wrc h]
theorem rwk_c {sN row a1 a2 H F : Nat} (hs : sN = 1 ∨ sN = 2) : fX11_tryRow_J207 C (nI sN) (nI a1) (nI a2) (nI H) (nI F) = some (keptC C (nI a1) (if sN = 2 then nI a2 else -1) (nI H) (nI F)) := by
  unfold fX11_tryRow_J207 fX11_tryRow_J230
  rw [za_0, za_chk _ (by omega) (by omega)]
  simp only [za_lt]
  rcases hs with rfl | rfl
  · rw [if_neg (nk 1 2 (by omega) (by omega) (by omega)), if_neg (by omega)]
    rw [za_chk _ (by omega) (by omega), za_chk _ (by omega) (by omega), za_chk _ (by omega) (by omega), nI_clamp (by omega), nI_clamp (by omega), nI_clamp (by omega), nI_clamp (by omega)]
    rfl
  · rw [if_pos rfl, if_pos rfl]
    rw [za_chk _ (by omega) (by omega), za_chk _ (by omega) (by omega), za_chk _ (by omega) (by omega), nI_clamp (by omega), nI_clamp (by omega), nI_clamp (by omega), nI_clamp (by omega)]
    rfl
theorem pi_kept {a b c d : Int32} {C1 R1 : Mc} (h : PI n t m N L C R C1 R1) : PI n t m N L C R (keptC C1 a b c d) R1 :=
  ⟨iv_C6 h.1 (fun b hb => kept_o hb.2), h.2.1, fun b hb => (kept_o hb.2).trans (h.2.2.1 b hb), h.2.2.2⟩
theorem row_step {Y2 Y3 Y4 Y5 : Int32} {sN row many k0 : Nat} {C1 R1 : Mc} (hs : (sN = 1 ∧ row < 3) ∨ (sN = 2 ∧ row < 9)) (hm : many ≤ 3) (hm0 : 0 < many) (hm1 : C 0 16 = nI many) (hk0 : C 32 2 = nI k0) (hk1 : k0 ≤ 100 * t) (ht : t + 13 * sN ≤ 1000) (hpr : ∀ i, i < 3 → ∃ v, v ≤ 1000 ∧ C 124 i = nI v ∧ R 142 i = nI v) (hra : ∀ i, i < 3 → ∃ v, v ≤ 500 ∧ C 125 i = nI v ∧ R 143 i = nI v) (hmR : R 127 29 = nI many) (hp : PI n t m N L C R C1 R1) (hps : PS sN row C1 Y3 Y4 Y5) (fr : Nat) : ∃ C2 R2 Y3' Y4' Y5', fX11_tryRow C1 (nI sN) (nI row) = some C2 ∧ fX12_planned_L102 (fr + 1) R1 (nI sN) Y2 Y3 Y4 Y5 (nI row) = fX12_planned_L102 fr R2 (nI sN) Y2 Y3' Y4' Y5' (nI (row + 1)) ∧ PI n t m N L C R C2 R2 ∧ PS sN (row + 1) C2 Y3' Y4' Y5' := by
  have hs2 : sN = 1 ∨ sN = 2 := by omega
  obtain ⟨C2, R2, H, F, fr', i1, i2, i3, i4, i5, i6⟩ := rains_L (K102 := fun M X0 X1 X2 X3 X4 X5 => fX12_planned_L102 fr M X0 X1 X2 X3 X4 X5) (Y2 := Y2) (Y3 := Y3) (Y4 := Y4) (Y5 := Y5) (sN := sN) (row := row) (a1 := if sN = 2 then row / 3 else row) (a2 := row % 3) (by
    by_cases q : sN = 2
    · rw [if_pos q]; exact Or.inr ⟨q, rfl⟩
    · rw [if_neg q]; exact Or.inl ⟨by omega, by omega⟩) rfl (by omega) hm hm0 hm1 hk0 hk1 ht hpr hra hmR many FU FU 0 C1 R1 0 (nI 96) 0 0 (by omega) (by rw [za_FU]; omega) (by rw [za_FU]; omega) hp (Or.inl ⟨rfl, rfl, rfl⟩)
  rw [nI_0] at i1 i2
  have hC : fX11_tryRow C1 (nI sN) (nI row) = fX11_tryRow_J157 C2 (nI sN) (nI row) (nI (if sN = 2 then row / 3 else row)) (nI (row % 3)) (nI H) (nI F) := by
    rw [← i1]
    unfold fX11_tryRow fX11_tryRow_J12
    rw [za_irm (by omega) (by omega) (by omega), za_div (by omega) (by omega) (by omega), za_lt, za_lt]
    rcases hs2 with rfl | rfl
    · rw [if_neg (nk 1 2 (by omega) (by omega) (by omega)), if_neg (by omega)]
    · rw [if_pos rfl, if_pos rfl]
  have hR : fX12_planned_L102 (fr + 1) R1 (nI sN) Y2 Y3 Y4 Y5 (nI row) = fX12_planned_L127 (fun M X0 X1 X2 X3 X4 X5 => fX12_planned_L102 fr M X0 X1 X2 X3 X4 X5) (fr' + 1) R2 (nI sN) Y2 Y3 Y4 Y5 (nI row) (nI H) (nI F) (nI many) := by
    rw [← i2, fX12_planned_L102]
    unfold fX12_planned_J115
    rcases hs with ⟨rfl, hr⟩ | ⟨rfl, hr⟩
    · rw [if_pos rfl, if_neg (nI_ge hr (by omega))]
    · rw [if_neg (nk 2 1 (by omega) (by omega) (by omega)), if_neg (nI_ge hr (by omega))]
  have hb : R2 127 29 = nI many := (i3.2.2.2.2 29 (by omega) (by omega)).trans hmR
  rw [hC, hR, fX12_planned_L127, hb, if_pos (nI_le (Nat.le_refl _) (by omega))]
  have h207 := rwk_c (C := C2) (row := row) (a1 := if sN = 2 then row / 3 else row) (a2 := row % 3) (H := H) (F := F) hs2
  have hnew : PS sN (row + 1) (keptC C2 (nI (if sN = 2 then row / 3 else row)) (if sN = 2 then nI (row % 3) else -1) (nI H) (nI F)) (nI row) (nI H) (nI F) := by
    refine Or.inr ⟨by omega, row, H, F, by omega, i4, i5, rfl, rfl, rfl, ?_, ?_, ?_, ?_⟩
    · unfold keptC; rw [za_wri (by omega), za_wri (by omega), za_wri (by omega), za_wrs]
      by_cases q : sN = 2
      · rw [if_pos q, if_pos q]
      · rw [if_neg q, if_neg q]
    · unfold keptC; rw [za_wri (by omega), za_wri (by omega), za_wrs]
    · unfold keptC; rw [za_wri (by omega), za_wrs]
    · unfold keptC; rw [za_wrs]
  have h309 : fX12_planned_J309 (fun M X0 X1 X2 X3 X4 X5 => fX12_planned_L102 fr M X0 X1 X2 X3 X4 X5) R2 (nI sN) Y2 (nI row) (nI H) (nI F) = fX12_planned_L102 fr R2 (nI sN) Y2 (nI row) (nI H) (nI F) (nI (row + 1)) := by
    unfold fX12_planned_J309 fX12_planned_J320; rw [nI_add]
  have h320 : fX12_planned_J320 (fun M X0 X1 X2 X3 X4 X5 => fX12_planned_L102 fr M X0 X1 X2 X3 X4 X5) R2 (nI sN) Y2 Y3 Y4 Y5 (nI row) = fX12_planned_L102 fr R2 (nI sN) Y2 Y3 Y4 Y5 (nI (row + 1)) := by
    unfold fX12_planned_J320; rw [nI_add]
  have h190 : fX11_tryRow_J190 C2 (nI sN) (nI row) (nI (if sN = 2 then row / 3 else row)) (nI (row % 3)) (nI H) (nI F) = some (keptC C2 (nI (if sN = 2 then row / 3 else row)) (if sN = 2 then nI (row % 3) else -1) (nI H) (nI F)) := by
    unfold fX11_tryRow_J190 fX11_tryRow_J195
    rw [h207, if_neg za_n10]
    split <;> rfl
  unfold fX11_tryRow_J157
  rw [za_chk _ (by omega) (by omega), za_chk _ (by omega) (by omega), za_chk _ (by omega) (by omega), nI_clamp (by omega), nI_clamp (by omega), h190, h309, h320]
  rcases hps with ⟨rfl, rfl⟩ | ⟨r0, b, H0, F0, b1, b2, b3, rfl, rfl, rfl, b7, b8, b9, b10⟩
  · have h194 : fX11_tryRow_J194 C2 (nI sN) (nI 0) (nI (if sN = 2 then 0 / 3 else 0)) (nI (0 % 3)) (nI H) (nI F) = some (keptC C2 (nI (if sN = 2 then 0 / 3 else 0)) (if sN = 2 then nI (0 % 3) else -1) (nI H) (nI F)) := by
      unfold fX11_tryRow_J194 fX11_tryRow_J195
      rw [h207, if_pos (show nI 0 ≤ 0 by rw [nI_0]; exact Int32.le_refl _)]
    rw [h194, if_pos za_m1lt0]
    refine ⟨_, R2, nI 0, nI H, nI F, ?_, rfl, pi_kept i3, hnew⟩
    split
    · rfl
    · split
      · split <;> rfl
      · rfl
  · have e126 : ∀ j, C2 126 j = C1 126 j := fun j => by rw [i6]
    have h194 : fX11_tryRow_J194 C2 (nI sN) (nI row) (nI (if sN = 2 then row / 3 else row)) (nI (row % 3)) (nI H) (nI F) = some C2 := by
      unfold fX11_tryRow_J194 fX11_tryRow_J195
      rw [if_neg (show ¬ nI row ≤ (0 : Int32) from fun z => by have := (za_le0 (by omega)).mp z; omega), if_pos rfl]
    have hold : PS sN (row + 1) C2 (nI b) (nI H0) (nI F0) := Or.inr ⟨by omega, b, H0, F0, by omega, b2, b3, rfl, rfl, rfl, by rw [e126]; exact b7, by rw [e126]; exact b8, by rw [e126]; exact b9, by rw [e126]; exact b10⟩
    rw [h194, e126, e126, b9, b10, if_neg (nI_pos (by omega))]
    by_cases q1 : H < H0
    · rw [if_pos (nI_lt q1 (by omega)), if_neg (nI_nlt (by omega) (by omega)), if_neg (show ¬ nI H = nI H0 from fun z => by have := za_inj (by omega) (by omega) z; omega)]
      exact ⟨_, R2, _, _, _, rfl, rfl, pi_kept i3, hnew⟩
    · rw [if_neg (nI_nlt (by omega) (by omega))]
      by_cases q2 : H = H0
      · subst q2
        rw [if_pos rfl, if_neg (nI_nlt (Nat.le_refl _) (by omega)), if_pos rfl]
        by_cases q3 : F ≤ F0
        · rw [if_pos (nI_le q3 (by omega)), if_neg (nI_nlt q3 (by omega))]
          exact ⟨_, R2, _, _, _, rfl, rfl, i3, hold⟩
        · rw [if_neg (nI_ge (by omega) (by omega)), if_pos (nI_lt (by omega) (by omega))]
          exact ⟨_, R2, _, _, _, rfl, rfl, pi_kept i3, hnew⟩
      · rw [if_neg (show ¬ nI H = nI H0 from fun z => q2 (za_inj (by omega) (by omega) z)), if_pos (nI_lt (by omega) (by omega))]
        exact ⟨_, R2, _, _, _, rfl, rfl, i3, hold⟩
theorem plan_L {wh sN rows many k0 : Nat} {cp : Int32} (hcp : cp = nI rows) (hs : (sN = 1 ∧ rows = 3) ∨ (sN = 2 ∧ rows = 9)) (hwh : wh ≤ 3) (hm : many ≤ 3) (hm0 : 0 < many) (hm1 : C 0 16 = nI many) (hk0 : C 32 2 = nI k0) (hk1 : k0 ≤ 100 * t) (ht : t + 13 * sN ≤ 1000) (hpr : ∀ i, i < 3 → ∃ v, v ≤ 1000 ∧ C 124 i = nI v ∧ R 142 i = nI v) (hra : ∀ i, i < 3 → ∃ v, v ≤ 500 ∧ C 125 i = nI v ∧ R 143 i = nI v) (hmR : R 127 29 = nI many) : ∀ k fu fr row C1 R1 Y3 Y4 Y5, row + k = rows → k < fu → k < fr → PI n t m N L C R C1 R1 → PS sN row C1 Y3 Y4 Y5 → ∃ v C2 R2, fX11_planned_L66 fu C1 (nI sN) (nI wh) cp (nI row) = some (.inr (v, C2)) ∧ fX12_planned_L102 fr R1 (nI sN) (nI wh) Y3 Y4 Y5 (nI row) = some (v, wr (wr R2 127 23 0) 127 7 (-1)) ∧ PI n t m N L C R C2 R2
  | k, 0, _, _, _, _, _, _, _, _, hf, _, _, _ => by omega
  | k, _, 0, _, _, _, _, _, _, _, _, hf, _, _ => by omega
  | 0, fu + 1, fr + 1, row, C1, R1, Y3, Y4, Y5, hi, _, _, hp, hps => by
    subst hcp
    obtain rfl : row = rows := by omega
    rcases hps with ⟨q, _⟩ | ⟨r0, b, H0, F0, b1, b2, b3, rfl, rfl, rfl, b7, b8, b9, b10⟩
    · omega
    have hC : fX11_planned_L66 (fu + 1) C1 (nI sN) (nI wh) (nI row) (nI row) = some (.inr (C1 126 wh, C1)) := by
      rw [fX11_planned_L66, if_pos (nI_le (Nat.le_refl _) (by omega)), za_inY (by omega) (by omega), za_bnd, if_neg za_n10, za_chk _ (by omega) (by omega), nI_clamp (by omega)]
    have hR : fX12_planned_L102 (fr + 1) R1 (nI sN) (nI wh) (nI b) (nI H0) (nI F0) (nI row) = fX12_planned_J348 (wr (wr R1 127 23 0) 127 7 (-1)) (nI sN) (nI wh) (nI b) (nI H0) (nI F0) (if sN = 2 then nI (b / 3) else nI b) := by
      rw [fX12_planned_L102]
      unfold fX12_planned_J115
      rw [za_lt, za_lt]
      rcases hs with ⟨rfl, hr⟩ | ⟨rfl, hr⟩
      · rw [if_pos rfl, if_pos rfl, if_pos (by rw [hr]; exact nI_le (Nat.le_refl _) (by omega)), if_neg (by omega)]
      · rw [if_neg (nk 2 1 (by omega) (by omega) (by omega)), if_neg (nk 2 1 (by omega) (by omega) (by omega)), if_pos (by rw [hr]; exact nI_le (Nat.le_refl _) (by omega)), if_pos rfl, za_div (by omega) (by omega) (by omega)]
    refine ⟨C1 126 wh, C1, R1, hC, ?_, hp⟩
    rw [hR]
    unfold fX12_planned_J348
    rcases (show wh = 0 ∨ wh = 1 ∨ wh = 2 ∨ wh = 3 by omega) with rfl | rfl | rfl | rfl
    · rw [if_pos nI_0, b7]
    · rw [if_neg (nk0 1 (by omega) (by omega)), if_pos rfl, b8, za_irm (by omega) (by omega) (by omega)]
      rcases hs with ⟨rfl, hr⟩ | ⟨rfl, hr⟩
      · rw [if_pos rfl, if_neg (by omega)]
      · rw [if_neg (nk 2 1 (by omega) (by omega) (by omega)), if_pos rfl]
    · rw [if_neg (nk0 2 (by omega) (by omega)), if_neg (nk 2 1 (by omega) (by omega) (by omega)), if_pos rfl, b9]
    · rw [if_neg (nk0 3 (by omega) (by omega)), if_neg (nk 3 1 (by omega) (by omega) (by omega)), if_neg (nk 3 2 (by omega) (by omega) (by omega)), b10]
  | k + 1, fu + 1, fr + 1, row, C1, R1, Y3, Y4, Y5, hi, hf, hfr, hp, hps => by
    obtain ⟨C2, R2, Y3', Y4', Y5', i1, i2, i3, i4⟩ := row_step (Y2 := nI wh) (sN := sN) (row := row) (by omega) hm hm0 hm1 hk0 hk1 ht hpr hra hmR hp hps fr
    rw [fX11_planned_L66, hcp, if_neg (nI_ge (by omega) (by omega)), i1, za_bnd, i2, nI_add, ← hcp]
    exact plan_L hcp hs hwh hm hm0 hm1 hk0 hk1 ht hpr hra hmR k fu fr (row + 1) C2 R2 Y3' Y4' Y5' (by omega) (by omega) (by omega) i3 i4
theorem c_planned (h : IV n t m C R N L) (hu : ∃ k, k ≤ 100 * t ∧ C (17 + 15) 2 = nI k) (p0 p1 : Int32) : OM eA C R N L (fX11_planned C p0 p1) (fX12_planned R p0 p1) := by
  have ih := iv_thr (v := 0) h
  have ht := iv_t h
  have hJ : fX12_planned_J25 (wr R 127 0 0) p0 p1 = some (0, wr (wr R 127 0 0) 127 0 (nI 1)) := by
    unfold fX12_planned_J25 fX12_planned_J30; rw [bad_1, za_bn2, if_neg za_n10]
  have hK : fX11_planned_J23 C p0 p1 = some (.inl 2) := by
    unfold fX11_planned_J23 fX11_planned_J24; rw [need_0, za_bnxl]
  unfold fX11_planned fX12_planned fX11_planned_J10
  rw [za_lt]
  rcases rng1 2 (by omega) p0 with g | ⟨g0, g⟩ | ⟨sN, s1, s2, rfl⟩
  · have n1 : ¬ p0 = nI 1 := by rintro rfl; exact absurd g (by decide +kernel)
    have n2 : ¬ p0 = nI 2 := by rintro rfl; exact absurd g (by decide +kernel)
    exact om_t (k := 2) (v := nI 1) h (by rw [if_neg n1, if_neg n2, hK]) (by rw [if_pos g, hJ]) rfl za_n10
  · have n1 : ¬ p0 = nI 1 := by rintro rfl; exact absurd g (by decide +kernel)
    have n2 : ¬ p0 = nI 2 := by rintro rfl; exact absurd g (by decide +kernel)
    exact om_t (k := 2) (v := nI 1) h (by rw [if_neg n1, if_neg n2, hK]) (by rw [if_neg g0, if_pos g, hJ]) rfl za_n10
  have hs : sN = 1 ∨ sN = 2 := by omega
  have hcl : ∀ X Y : Option (Nat ⊕ (Int32 × Mc)), (if nI sN = nI 1 then X else (if nI sN = nI 2 then X else Y)) = X := fun X Y => by
    rcases hs with rfl | rfl
    · rw [if_pos rfl]
    · rw [if_neg (nk 2 1 (by omega) (by omega) (by omega)), if_pos rfl]
  rw [hcl, if_neg (nI_nlt s1 (by omega)), if_neg (nI_nlt s2 (by omega))]
  rcases rng 3 (by omega) p1 with g | ⟨g0, g⟩ | ⟨wh, w1, rfl⟩
  · exact om_t (k := 2) (v := nI 1) h (by rw [if_pos g, hK]) (by rw [if_pos g, hJ]) rfl za_n10
  · exact om_t (k := 2) (v := nI 1) h (by rw [if_neg g0, if_pos g, hK]) (by rw [if_neg g0, if_neg (by grind), hJ]) rfl za_n10
  rw [if_neg (nI_pos (by omega)), if_neg (nI_nlt w1 (by omega)), if_neg (nI_pos (by omega)), if_pos (nI_le w1 (by omega))]
  unfold fX11_planned_J24 fX12_planned_J30 fX12_planned_J62 fX11_needWeeks
  rw [need_1, za_bnx, iv_tc h, za_mul, nI_add, bad_0, za_bn2, if_pos rfl, za_chk (n := 2116) _ (by omega) (by omega), nI_clamp (n := 2116) (by omega), rw_t ih.1.1, za_mul, nI_add, bad_0, za_bn2, if_pos rfl]
  by_cases q : t + 13 * sN ≤ 1000
  · rw [if_pos (show nI (t + sN * 13) ≤ nI 1000 from nI_le (by omega) (by omega)), za_bnx, if_pos (nI_le q (by omega))]
    obtain ⟨i1, i2, i3, ⟨many, m1, m2, m3⟩, i5⟩ := ih.2.2.2.2.2.2.2.2.2.1
    rw [i1, i3]
    by_cases z1 : C 0 14 = 0
    · rw [if_pos z1, if_pos z1]; exact om_r (b := -1) h rfl rfl
    rw [if_neg z1, if_neg z1]
    by_cases z2 : C 0 16 = 0
    · rw [if_pos z2, if_pos z2]; exact om_r (b := -1) h rfl rfl
    rw [if_neg z2, if_neg z2]
    have hm0 : many ≠ 0 := fun z => z2 (m2.trans (by rw [z]; rfl))
    obtain ⟨R1, r1, r2, r3⟩ := saves_c (wr R 127 0 0)
    obtain ⟨k0, k1, k2⟩ := hu
    have z7 : R 127 7 = -1 := (ra_tr h.1.1.1).trans h.2.2.2.2.2.2.2.2.2.2.2.2.2
    have z23 : R 127 23 = 0 := (ra_tp h.1.1.1).trans h.2.2.2.2.2.2.2.2.2.2.2.1
    have hp : PI n t m N L C R1 C R1 := by
      refine ⟨iv_tr ih (fun _ _ => rfl) (fun b b1 b2 b3 b4 => ?_) (fun j hj => ?_) (fun j hj => ?_), fun j hj => ?_, fun _ _ => rfl, fun _ _ _ _ _ _ => rfl, fun _ _ _ => rfl⟩
      · rw [za_wrc b1, za_wrc b1, r2 b b2]
      · by_cases e7 : j = 7
        · subst e7; rw [za_wrs, za_wri (by omega)]; exact z7.symm
        · rw [za_wri e7]
          by_cases e23 : j = 23
          · subst e23; rw [za_wrs, za_wri (by omega)]; exact z23.symm
          · rw [za_wri e23, r2 127 (by omega)]
      · rw [za_wra (by omega), za_wra (by omega), r2 141 (by omega)]
      · rw [r3 j hj, r2 128 (by omega)]
    obtain ⟨v, C2, R2, l1, l2, l3⟩ := plan_L (wh := wh) (sN := sN) (rows := if sN = 2 then 9 else 3) rfl (by rcases hs with rfl | rfl <;> simp) w1 m1 (by omega) m2 k2 k1 q (fun i hi => by
      obtain ⟨v, v1, v2, v3, v4⟩ := i5 z1 i hi
      exact ⟨v, v2, v3, by rw [r2 142 (by omega)]; exact v4⟩) (fun i hi => by
      obtain ⟨v, v1, v2, v3⟩ := m3 hm0 i hi
      exact ⟨v, v1, v2, by rw [r2 143 (by omega)]; exact v3⟩) (by rw [r2 127 (by omega)]; exact i3.trans m2) (if sN = 2 then 9 else 3) FU FU 0 C R1 (-1) 0 0 (by omega) (by rw [za_FU]; split <;> omega) (by rw [za_FU]; split <;> omega) hp (Or.inl ⟨rfl, rfl⟩)
    obtain ⟨q1, q2, q3, q4, q5⟩ := l3
    have hC : (if nI sN = nI 2 then (fX11_planned_J62 C (nI sN) (nI wh) (nI 9)) else (fX11_planned_J62 C (nI sN) (nI wh) (nI 3))) = fX11_planned_L66 FU C (nI sN) (nI wh) (nI (if sN = 2 then 9 else 3)) (nI 0) := by
      unfold fX11_planned_J62
      rcases hs with rfl | rfl
      · rw [if_neg (nk 1 2 (by omega) (by omega) (by omega)), if_neg (by omega), nI_0]
      · rw [if_pos rfl, if_pos rfl, nI_0]
    rw [nI_0] at l2
    rw [hC, l1, r1, za_bnd, l2]
    refine om_v (b := v) q1 rfl rfl (fun b h1 h2 => q3 b (by omega)) (fun b hb => ?_) ?_
    · rw [za_wrc (by omega), za_wrc (by omega), q4 b (by omega) (by omega) (by omega) (by omega) (by omega), r2 b (by omega), za_wrc (by omega)]
    · rw [za_wri (by omega), za_wri (by omega), q5 0 (by omega) (by omega), r2 127 (by omega), za_wrs]
  · have hn : ¬ nI (t + sN * 13) ≤ nI 1000 := fun z => q (by rw [nI_leI (by omega) (by omega)] at z; omega)
    have hn2 : ¬ nI (t + 13 * sN) ≤ nI 1000 := fun z => q (by rw [nI_leI (by omega) (by omega)] at z; omega)
    exact om_t (k := 3) (v := nI 2) h (by rw [if_neg hn, za_bnxl]) (by rw [if_neg hn2, bad_1, za_bn2, if_neg za_n10]) rfl (by decide +kernel)
end PM
