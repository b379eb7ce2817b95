/-! ===== prices planned by the worst of told rains ===== -/
section PL
variable {n t m x a y : Nat} {C R C' R' : Mc} {N L : Md} {w : Nat}
theorem iv_C6 (h : IV n t m C R N L) (hc : ∀ b, (b < 64 ∨ 110 < b) ∧ b ≠ 126 → C' b = C b) : IV n t m C' R N L := by
  obtain ⟨a1, a2, a3, a4, a5, a6, a7, a8, a9, a10, a11, a12⟩ := h
  obtain ⟨g1, g2, g3, g4, g5, g6⟩ := a1
  refine ⟨⟨rw_cc g1 (fun b h1 h2 => hc b (by omega)), by rw [hc _ (by omega)]; exact g2, g3, BK_cg g4 (fun b hb => hc b (by omega)) (fun _ _ _ => rfl), by unfold WT at *; rw [hc 17 (by omega)]; exact g5, g6⟩, ?_, ?_, ?_, ?_, ?_, ?_, ?_, ?_, ?_, ?_, ?_⟩
  · intro z hz; have := a2 z hz; rw [hc 7 (by omega), hc (3 + z) (by omega)]; exact this
  · unfold IH at *; rw [hc 0 (by omega)]; exact a3
  · intro r hr; have := a4 r hr
    exact ⟨fun k hk => by rw [hc _ (by omega)]; exact this.1 k hk, by rw [hc 15 (by omega)]; exact this.2⟩
  · unfold IO at *; rw [hc 32 (by omega), hc 39 (by omega), hc 40 (by omega), hc 41 (by omega)]; exact a5
  · unfold IT at *; rw [hc 111 (by omega), hc 112 (by omega), hc 113 (by omega)]; exact a6
  · unfold IP at *; rw [hc 0 (by omega), hc 123 (by omega)]; exact a7
  · rw [hc 0 (by omega)]; exact a8
  · unfold IW at *; rw [hc 59 (by omega), hc 60 (by omega), hc 61 (by omega)]; exact a9
  · unfold IC at *; rw [hc 0 (by omega), hc 124 (by omega), hc 125 (by omega)]; exact a10
  · unfold II at *; rw [hc 121 (by omega), hc 122 (by omega)]; exact a11
  · unfold IZ at *; rw [hc 17 (by omega)]; exact a12
theorem pp_c {ix v : Nat} (hix : ix < 3) (h : C 124 ix = nI v) : fX11_planPriceOf C (nI ix) = some (nI v) := by
  unfold fX11_planPriceOf
  rw [za_inY hix (by omega), za_bnd, if_neg za_n10, za_chk _ hix (by omega), nI_clamp (by omega), h]
theorem blk_L {K28 : Mc → Int32 → Int32 → Int32 → Int32 → Int32 → Int32 → Int32 → Option Mc} {K102 : Mc → Int32 → Int32 → Int32 → Int32 → Int32 → Int32 → Option (Int32 × Mc)} {K127 : Mc → Int32 → Int32 → Int32 → Int32 → Int32 → Int32 → Int32 → Int32 → Int32 → Option (Int32 × Mc)} {K150 : Mc → Int32 → Int32 → Int32 → Int32 → Int32 → Int32 → Int32 → Int32 → Int32 → Int32 → Option (Int32 × Mc)} {X2 X3 X4 X5 X6 X7 Y1 Y2 Y3 Y4 Y5 Y6 Y7 Y8 Y9 Y10 : Int32} {b sN v ix : Nat} (hb : (b = 0 ∧ X3 = nI ix ∧ (sN = 1 ∨ sN = 2)) ∨ (b = 13 ∧ X4 = nI ix ∧ sN = 2)) (hix : ix < 3) : ∀ k fu fr i t C R hh, i + k = 13 → k < fu → k < fr → t + k ≤ 1000 → RV 64 n t n (ab t) (t / 52) m (wr C 64 10 (nI v)) R → AL C R → C 124 ix = nI v → C (64 + 15) 2 = nI hh → (0 < i → C 64 10 = nI v) → ∃ C' R' fu' hh', fu' + k = fu ∧ fX11_tryRow_L71 K28 fu C (nI sN) X2 X3 X4 X5 X6 X7 (nI (b + i)) = fX11_tryRow_L71 K28 fu' C' (nI sN) X2 X3 X4 X5 X6 X7 (nI (b + 13)) ∧ fX12_planned_L190 K102 K127 K150 fr R Y1 Y2 Y3 Y4 Y5 Y6 Y7 Y8 Y9 Y10 (nI i) = K150 R' Y1 Y2 Y3 Y4 Y5 Y6 Y7 Y8 Y9 (Y10 + nI 1) ∧ RV 64 n (t + k) n (ab (t + k)) ((t + k) / 52) m C' R' ∧ FC 64 C C' ∧ FE R R' ∧ (∀ j, j < 7 * t → R' 141 j = R 141 j) ∧ C' (64 + 15) 2 = nI hh' ∧ hh' ≤ hh + 100 * k
  | k, 0, _, _, _, _, _, _, _, hf, _, _, _, _, _, _, _ => by omega
  | k, _, 0, _, _, _, _, _, _, _, hf, _, _, _, _, _, _ => by omega
  | 0, fu + 1, fr + 1, i, t, C, R, hh, hi, _, _, ht, h, _, _, h2, hi0 => by
    obtain rfl : i = 13 := by omega
    rw [fX12_planned_L190, if_pos (nI_le (Nat.le_refl _) (by omega))]
    rw [wr_same (hi0 (by omega))] at h
    exact ⟨C, R, fu + 1, hh, rfl, rfl, rfl, h, FC.rf, FE.of FD.rf, fun _ _ => rfl, h2, Nat.le_refl _⟩
  | k + 1, fu + 1, fr + 1, i, t, C, R, hh, hi, hf, hfr, ht, h, hal, h124, h2, hi0 => by
    have n100 := rw_n100 h.1
    have ew : ∀ b, b ≠ 64 → wr C 64 10 (nI v) b = C b := fun b hb => za_wrc hb
    obtain ⟨C1, R1, i1, i2, i3, i4, i5, i6, i7⟩ := goOn_sim h (AL_cc hal (ew 7 (by omega)) (fun z hz => ew _ (by omega)) rfl rfl) (by omega)
    obtain ⟨j, j1, j2⟩ := hun_week (h := hh) (by omega) n100 h.1.2.1.1 (by rw [za_wra (by omega)]; exact h2) i1
    have eC : ∀ b, b < 64 ∨ 110 < b → C1 b = C b := fun b hb => (i4.1 b (by omega)).trans (ew b (by omega))
    have e10 : C1 64 10 = nI v := by
      rw [← ra_tp i3.1.1, i5.1 127 (by omega) (by omega) (by omega), ra_tp h.1.1, za_wrs]
    have hstep : fX11_tryRow_L71 K28 (fu + 1) C (nI sN) X2 X3 X4 X5 X6 X7 (nI (b + i)) = fX11_tryRow_L71 K28 fu C1 (nI sN) X2 X3 X4 X5 X6 X7 (nI (b + (i + 1))) := by
      rw [fX11_tryRow_L71, za_mul, if_neg (nI_ge (by omega) (by omega))]
      unfold fX11_tryRow_J98
      rcases hb with ⟨rfl, rfl, hs⟩ | ⟨rfl, rfl, rfl⟩
      · rw [if_neg (nI_ge (by omega) (by omega)), pp_c hix h124, za_bnd, za_lt, i1, za_bnd, nI_add, Nat.add_assoc]
      · rw [if_pos (nI_le (by omega) (by omega)), pp_c hix h124, za_bnd, za_lt, i1, za_bnd, nI_add, Nat.add_assoc]
    obtain ⟨C', R', fu', hh', k1, k2, k3, k4, k5, k6, k7, k8, k9⟩ := blk_L (K28 := K28) (K102 := K102) (K127 := K127) (K150 := K150) (X2 := X2) (X5 := X5) (X6 := X6) (X7 := X7) (Y1 := Y1) (Y2 := Y2) (Y3 := Y3) (Y4 := Y4) (Y5 := Y5) (Y6 := Y6) (Y7 := Y7) (Y8 := Y8) (Y9 := Y9) (Y10 := Y10) (v := v) hb hix k fu fr (i + 1) (t + 1) C1 R1 (hh + j) (by omega) (by omega) (by omega) (by omega) (by rw [wr_same e10]; exact i3) (AL_cc hal (eC 7 (by omega)) (fun z hz => eC _ (by omega)) (i5.1 _ (by omega) (by omega) (by omega)) (i5.1 _ (by omega) (by omega) (by omega))) (by rw [eC 124 (by omega)]; exact h124) j2 (fun _ => e10)
    rw [show t + 1 + k = t + (k + 1) by omega] at k4
    refine ⟨C', R', fu', hh', by omega, hstep.trans k2, ?_, k4, (fc_wr FC.rf (by omega)).tr (i4.tr k5), i5.tr k6, fun j hj => (k7 j (by omega)).trans (i7 j hj), k8, by omega⟩
    rw [fX12_planned_L190, if_neg (nI_ge (by omega) (by omega)), i2, za_bnd, nI_add]
    exact k3
/-- what stands between the lives -/
def PI (n t m : Nat) (N L : Md) (C R C' R' : Mc) : Prop := IV n t m C' (wr (wr R' 127 23 0) 127 7 (-1)) N L ∧ (∀ j, j < 2132 → R' 129 j = R' 128 j) ∧ (∀ b, (b < 64 ∨ 110 < b) ∧ b ≠ 126 → C' b = C b) ∧ (∀ b, b ≠ 127 → b ≠ 128 → b ≠ 129 → b ≠ 140 → b ≠ 141 → R' b = R b) ∧ ∀ j, j ≠ 7 → j ≠ 23 → R' 127 j = R 127 j
theorem wr_ov {R : Mc} {a b c d : Int32} : wr (wr (wr (wr R 127 23 a) 127 7 b) 127 7 c) 127 23 d = wr (wr R 127 7 c) 127 23 d := by
  funext k j
  simp only [za_wr]
  by_cases h1 : k = 127 ∧ j = 23
  · rw [if_pos h1, if_pos h1]
  · rw [if_neg h1, if_neg h1]
    by_cases h2 : k = 127 ∧ j = 7
    · rw [if_pos h2, if_neg h1, if_pos h2]
    · simp only [if_neg h1, if_neg h2]
theorem life {K102 : Mc → Int32 → Int32 → Int32 → Int32 → Int32 → Int32 → Option (Int32 × Mc)} {C1 R1 : Mc} {X5 X6 Y2 Y3 Y4 Y5 Y7 Y8 : Int32} {sN row a1 a2 r many fu fr k0 : Nat} (hp : PI n t m N L C R C1 R1) (hs : (sN = 1 ∧ a1 = row % 3) ∨ (sN = 2 ∧ a1 = row / 3)) (ha2 : a2 = row % 3) (hrow : row < 9) (hr : r < many) (hm : many ≤ 3) (hm1 : C 0 16 = nI many) (hk0 : C 32 2 = nI k0) (hk1 : k0 ≤ 100 * t) (ht : t + 13 * sN ≤ 1000) (hpr : ∀ i, i < 3 → ∃ v, v ≤ 1000 ∧ C 124 i = nI v ∧ R 142 i = nI v) (hra : ∀ i, i < 3 → ∃ v, v ≤ 500 ∧ C 125 i = nI v ∧ R 143 i = nI v) (hmR : R 127 29 = nI many) : ∃ C2 R2 H F, fX11_tryRow_L28 (fu + 1) C1 (nI sN) (nI row) (nI a1) (nI a2) X5 X6 (nI r) = fX11_tryRow_L28 fu C2 (nI sN) (nI row) (nI a1) (nI a2) (xmax X5 (nI H)) (xmin X6 (nI F)) (nI (r + 1)) ∧ fX12_planned_L127 K102 (fr + 1) R1 (nI sN) Y2 Y3 Y4 Y5 (nI row) Y7 Y8 (nI r) = fX12_planned_L127 K102 fr R2 (nI sN) Y2 Y3 Y4 Y5 (nI row) (if r = 0 then nI H else if nI H ≤ Y7 then Y7 else nI H) (if r = 0 then nI F else if Y8 ≤ nI F then Y8 else nI F) (nI (r + 1)) ∧ PI n t m N L C R C2 R2 ∧ H ≤ 200000 ∧ F ≤ 96 ∧ C2 126 = C1 126 := by
  obtain ⟨h1, p2, p3, p4, p5⟩ := hp
  have a1l : a1 < 3 := by omega
  have a2l : a2 < 3 := by omega
  have tl : t ≤ 1000 := iv_t h1
  obtain ⟨pv, pv1, pv2, pv3⟩ := hpr a1 a1l
  obtain ⟨rv, rv1, rv2, rv3⟩ := hra r (by omega)
  obtain ⟨C2, c1, c2, c3, c4, c5, c6, c7⟩ := rv_copy h1
  have eC2 : ∀ b, (b < 64 ∨ 110 < b) ∧ b ≠ 126 → C2 b = C b := fun b hb => (c2 b hb.1).trans (p3 b hb)
  have hr4 := rv_tp pv1 (rv_tr rv1 c3)
  rw [wr_ov] at hr4
  have al0 : AL C1 (wr (wr R1 127 23 0) 127 7 (-1)) := h1.2.1
  have al1 : AL (wr C2 64 12 (nI rv)) (wr (wr R1 127 7 (nI rv)) 127 23 (nI pv)) := AL_cc al0 (by rw [za_wrc (by omega), c2 7 (by omega)]) (fun z hz => by rw [za_wrc (by omega), c2 _ (by omega)]) (by simp (disch := omega) only [za_wrc]) (by simp (disch := omega) only [za_wrc])
  have h79 : wr C2 64 12 (nI rv) (64 + 15) 2 = nI k0 := by rw [za_wra (by omega), c7, p3 _ (by omega)]; exact hk0
  have hcls : ∀ K : Mc → Option Mc, (bnd (fX10_copyFrom C1 (64) (17)) fun M3 => chk (nI r) (3) (lt (wr M3 (64) 12 (M3 (125) (nI r).toNatClampNeg)) fun M4 => K M4)) = K (wr C2 64 12 (nI rv)) := by
    intro K
    rw [c1, za_bnd, za_chk _ (show r < 3 by omega) (by omega), za_lt, nI_clamp (by omega), eC2 125 (by omega), rv2]
  have hC28 : fX11_tryRow_L28 (fu + 1) C1 (nI sN) (nI row) (nI a1) (nI a2) X5 X6 (nI r) = fX11_tryRow_L71 (fun M X0 X1 X2 X3 X4 X5 X6 => fX11_tryRow_L28 fu M X0 X1 X2 X3 X4 X5 X6) FU (wr C2 64 12 (nI rv)) (nI sN) (nI row) (nI a1) (nI a2) X5 X6 (nI r) 0 := by
    rw [fX11_tryRow_L28, p3 0 (by omega), hm1, if_neg (nI_ge hr (by omega)), if_neg (nI_ge (by omega) (by omega))]
    exact hcls _
  -- the first block
  obtain ⟨C4, R4, fu4, hh4, k1, k2, k3, k4, k5, k6, k7, k8, k9⟩ := blk_L (K28 := fun M X0 X1 X2 X3 X4 X5 X6 => fX11_tryRow_L28 fu M X0 X1 X2 X3 X4 X5 X6) (K102 := K102) (K127 := fun M X0 X1 X2 X3 X4 X5 X6 X7 X8 => fX12_planned_L127 K102 fr M X0 X1 X2 X3 X4 X5 X6 X7 X8) (K150 := fun M X0 X1 X2 X3 X4 X5 X6 X7 X8 X9 => fX12_planned_L150 K102 (fun M X0 X1 X2 X3 X4 X5 X6 X7 X8 => fX12_planned_L127 K102 fr M X0 X1 X2 X3 X4 X5 X6 X7 X8) 99999 M X0 X1 X2 X3 X4 X5 X6 X7 X8 X9) (X2 := nI row) (X3 := nI a1) (X4 := nI a2) (X5 := X5) (X6 := X6) (X7 := nI r) (Y1 := nI sN) (Y2 := Y2) (Y3 := Y3) (Y4 := Y4) (Y5 := Y5) (Y6 := nI row) (Y7 := Y7) (Y8 := Y8) (Y9 := nI r) (Y10 := 0) (b := 0) (sN := sN) (v := pv) (ix := a1) (Or.inl ⟨rfl, rfl, by omega⟩) a1l 13 FU FU 0 t (wr C2 64 12 (nI rv)) (wr (wr R1 127 7 (nI rv)) 127 23 (nI pv)) k0 rfl (by rw [za_FU]; omega) (by rw [za_FU]; omega) (by omega) hr4 al1 (by rw [za_wra (by omega), eC2 124 (by omega)]; exact pv2) h79 (fun z => by omega)
  have q127 : R1 127 29 = nI many ∧ R1 143 = R 143 ∧ R1 142 = R 142 := ⟨(p5 29 (by omega) (by omega)).trans hmR, p4 143 (by omega) (by omega) (by omega) (by omega) (by omega), p4 142 (by omega) (by omega) (by omega) (by omega) (by omega)⟩
  have hR127 : fX12_planned_L127 K102 (fr + 1) R1 (nI sN) Y2 Y3 Y4 Y5 (nI row) Y7 Y8 (nI r) = fX12_planned_L150 K102 (fun M X0 X1 X2 X3 X4 X5 X6 X7 X8 => fX12_planned_L127 K102 fr M X0 X1 X2 X3 X4 X5 X6 X7 X8) 99999 R4 (nI sN) Y2 Y3 Y4 Y5 (nI row) Y7 Y8 (nI r) (nI 1) := by
    rw [fX12_planned_L127, q127.1, if_neg (nI_ge hr (by omega)), za_chk _ (show r < 3 by omega) (by omega), za_lt, nI_clamp (by omega), q127.2.1, rv3, show FU = 99999 + 1 from rfl, fX12_planned_L150, if_neg (show ¬ nI sN ≤ (0 : Int32) from fun z => by have := (za_le0 (by omega)).mp z; omega)]
    have hfin : ∀ ix, ix = a1 → fX12_planned_J183 K102 (fun M X0 X1 X2 X3 X4 X5 X6 X7 X8 => fX12_planned_L127 K102 fr M X0 X1 X2 X3 X4 X5 X6 X7 X8) (fun M X0 X1 X2 X3 X4 X5 X6 X7 X8 X9 => fX12_planned_L150 K102 (fun M X0 X1 X2 X3 X4 X5 X6 X7 X8 => fX12_planned_L127 K102 fr M X0 X1 X2 X3 X4 X5 X6 X7 X8) 99999 M X0 X1 X2 X3 X4 X5 X6 X7 X8 X9) (wr R1 127 7 (nI rv)) (nI sN) Y2 Y3 Y4 Y5 (nI row) Y7 Y8 (nI r) 0 (nI ix) = fX12_planned_L150 K102 (fun M X0 X1 X2 X3 X4 X5 X6 X7 X8 => fX12_planned_L127 K102 fr M X0 X1 X2 X3 X4 X5 X6 X7 X8) 99999 R4 (nI sN) Y2 Y3 Y4 Y5 (nI row) Y7 Y8 (nI r) (nI 1) := by
      rintro ix rfl
      unfold fX12_planned_J183
      rw [za_chk _ a1l (by omega), za_lt, nI_clamp (by omega), za_wra (by omega), q127.2.2, pv3]
      rw [nI_0, Int32.zero_add] at k3
      exact k3
    by_cases s1 : sN = 1
    · subst s1
      rw [if_pos rfl]
      unfold fX12_planned_J172
      rw [za_irm (by omega) (by omega) (by omega)]
      exact hfin _ (by omega)
    · obtain rfl : sN = 2 := by omega
      rw [if_neg (nk 2 1 (by omega) (by omega) (by omega)), if_neg (show ¬ (0 : Int32) = nI 1 from fun z => za_n10 z.symm), za_div (by omega) (by omega) (by omega)]
      exact hfin _ (by omega)
  -- the second block, if there is one
  have fin : ∃ C5 R5 hh5 fu5, fX11_tryRow_L71 (fun M X0 X1 X2 X3 X4 X5 X6 => fX11_tryRow_L28 fu M X0 X1 X2 X3 X4 X5 X6) fu4 C4 (nI sN) (nI row) (nI a1) (nI a2) X5 X6 (nI r) (nI (0 + 13)) = fX11_tryRow_L71 (fun M X0 X1 X2 X3 X4 X5 X6 => fX11_tryRow_L28 fu M X0 X1 X2 X3 X4 X5 X6) (fu5 + 1) C5 (nI sN) (nI row) (nI a1) (nI a2) X5 X6 (nI r) (nI (13 * sN)) ∧ fX12_planned_L150 K102 (fun M X0 X1 X2 X3 X4 X5 X6 X7 X8 => fX12_planned_L127 K102 fr M X0 X1 X2 X3 X4 X5 X6 X7 X8) 99999 R4 (nI sN) Y2 Y3 Y4 Y5 (nI row) Y7 Y8 (nI r) (nI 1) = (if r = 0 then fX12_planned_J231 K102 (fun M X0 X1 X2 X3 X4 X5 X6 X7 X8 => fX12_planned_L127 K102 fr M X0 X1 X2 X3 X4 X5 X6 X7 X8) R5 (nI sN) Y2 Y3 Y4 Y5 (nI row) Y8 (nI r) else if nI hh5 ≤ Y7 then fX12_planned_J244 K102 (fun M X0 X1 X2 X3 X4 X5 X6 X7 X8 => fX12_planned_L127 K102 fr M X0 X1 X2 X3 X4 X5 X6 X7 X8) R5 (nI sN) Y2 Y3 Y4 Y5 (nI row) Y8 (nI r) Y7 else fX12_planned_J231 K102 (fun M X0 X1 X2 X3 X4 X5 X6 X7 X8 => fX12_planned_L127 K102 fr M X0 X1 X2 X3 X4 X5 X6 X7 X8) R5 (nI sN) Y2 Y3 Y4 Y5 (nI row) Y8 (nI r)) ∧ RV 64 n (t + 13 * sN) n (ab (t + 13 * sN)) ((t + 13 * sN) / 52) m C5 R5 ∧ FC 64 C4 C5 ∧ (∀ b, b ≠ 127 → b ≠ 128 → b ≠ 140 → b ≠ 141 → R5 b = R4 b) ∧ (∀ j, pz j → R5 128 j = R4 128 j) ∧ (∀ j, j ≠ 23 → R5 127 j = R4 127 j) ∧ (∀ j, j < 7 * t → R5 141 j = R4 141 j) ∧ C5 (64 + 15) 2 = nI hh5 ∧ hh5 ≤ hh4 + 1300 := by
    have hend : ∀ R5 hh5 f, R5 128 2122 = nI hh5 → fX12_planned_L150 K102 (fun M X0 X1 X2 X3 X4 X5 X6 X7 X8 => fX12_planned_L127 K102 fr M X0 X1 X2 X3 X4 X5 X6 X7 X8) (f + 1) R5 (nI sN) Y2 Y3 Y4 Y5 (nI row) Y7 Y8 (nI r) (nI sN) = (if r = 0 then fX12_planned_J231 K102 (fun M X0 X1 X2 X3 X4 X5 X6 X7 X8 => fX12_planned_L127 K102 fr M X0 X1 X2 X3 X4 X5 X6 X7 X8) R5 (nI sN) Y2 Y3 Y4 Y5 (nI row) Y8 (nI r) else if nI hh5 ≤ Y7 then fX12_planned_J244 K102 (fun M X0 X1 X2 X3 X4 X5 X6 X7 X8 => fX12_planned_L127 K102 fr M X0 X1 X2 X3 X4 X5 X6 X7 X8) R5 (nI sN) Y2 Y3 Y4 Y5 (nI row) Y8 (nI r) Y7 else fX12_planned_J231 K102 (fun M X0 X1 X2 X3 X4 X5 X6 X7 X8 => fX12_planned_L127 K102 fr M X0 X1 X2 X3 X4 X5 X6 X7 X8) R5 (nI sN) Y2 Y3 Y4 Y5 (nI row) Y8 (nI r)) := by
      intro R5 hh5 f e
      rw [fX12_planned_L150, if_pos (nI_le (Nat.le_refl _) (by omega))]
      by_cases q : r = 0
      · rw [if_pos q, if_pos (by rw [q]; exact nI_0)]
      · rw [if_neg q, if_neg (fun z => q ((za_eq0 (by omega)).mp z)), za_chk (n := 2122) _ (by omega) (by omega), nI_clamp (n := 2122) (by omega), e]
    by_cases s1 : sN = 1
    · subst s1
      refine ⟨C4, R4, hh4, fu4 - 1, by rw [show fu4 - 1 + 1 = fu4 by rw [za_FU] at k1; omega], hend R4 hh4 99998 ((k4.1.1 28 0 (by decide) (by decide)).trans k8), k4, FC.rf, fun _ _ _ _ _ => rfl, fun _ _ => rfl, fun _ _ => rfl, fun _ _ => rfl, k8, by omega⟩
    · obtain rfl : sN = 2 := by omega
      obtain ⟨pw, pw1, pw2, pw3⟩ := hpr a2 a2l
      have eC4 : ∀ b, (b < 64 ∨ 110 < b) ∧ b ≠ 126 → C4 b = C b := fun b hb => by rw [k5.1 b (by omega), za_wrc (by omega), eC2 b hb]
      have eR4 : ∀ b, b ≠ 127 → b ≠ 128 → b ≠ 129 → b ≠ 140 → b ≠ 141 → R4 b = R b := fun b b1 b2 b3 b4 b5 => by rw [k6.1 b b2 b4 b5, za_wrc b1, za_wrc b1, p4 b b1 b2 b3 b4 b5]
      have al4 : AL C4 (wr R4 127 23 (nI pw)) := AL_cc al1 (by rw [k5.1 7 (by omega)]) (fun z hz => by rw [k5.1 _ (by omega)]) (by rw [za_wrc (by omega), k6.1 133 (by omega) (by omega) (by omega)]) (by rw [za_wrc (by omega), k6.1 132 (by omega) (by omega) (by omega)])
      obtain ⟨C5, R5, fu5, hh5, l1, l2, l3, l4, l5, l6, l7, l8, l9⟩ := blk_L (K28 := fun M X0 X1 X2 X3 X4 X5 X6 => fX11_tryRow_L28 fu M X0 X1 X2 X3 X4 X5 X6) (K102 := K102) (K127 := fun M X0 X1 X2 X3 X4 X5 X6 X7 X8 => fX12_planned_L127 K102 fr M X0 X1 X2 X3 X4 X5 X6 X7 X8) (K150 := fun M X0 X1 X2 X3 X4 X5 X6 X7 X8 X9 => fX12_planned_L150 K102 (fun M X0 X1 X2 X3 X4 X5 X6 X7 X8 => fX12_planned_L127 K102 fr M X0 X1 X2 X3 X4 X5 X6 X7 X8) 99998 M X0 X1 X2 X3 X4 X5 X6 X7 X8 X9) (X2 := nI row) (X3 := nI a1) (X4 := nI a2) (X5 := X5) (X6 := X6) (X7 := nI r) (Y1 := nI 2) (Y2 := Y2) (Y3 := Y3) (Y4 := Y4) (Y5 := Y5) (Y6 := nI row) (Y7 := Y7) (Y8 := Y8) (Y9 := nI r) (Y10 := nI 1) (b := 13) (sN := 2) (v := pw) (ix := a2) (Or.inr ⟨rfl, rfl, rfl⟩) a2l 13 fu4 FU 0 (t + 13) C4 (wr R4 127 23 (nI pw)) hh4 rfl (by rw [za_FU] at k1; omega) (by rw [za_FU]; omega) (by omega) (rv_tp pw1 k4) al4 (by rw [eC4 124 (by omega)]; exact pw2) k8 (fun z => by omega)
      refine ⟨C5, R5, hh5, fu5 - 1, ?_, ?_, l4, l5, fun b b1 b2 b3 b4 => by rw [l6.1 b b2 b3 b4, za_wrc b1], fun j hj => by rw [l6.2 j hj, za_wra (by omega)], fun j hj => by rw [l6.1 127 (by omega) (by omega) (by omega), za_wri hj], fun j hj => by rw [l7 j (by omega), za_wra (by omega)], l8, by omega⟩
      · rw [show fu5 - 1 + 1 = fu5 by rw [za_FU] at k1; omega]; exact l2
      · rw [show (99999 : Nat) = 99998 + 1 from rfl, fX12_planned_L150, if_neg (nI_ge (by omega) (by omega)), if_neg (nk 2 1 (by omega) (by omega) (by omega)), if_pos rfl]
        unfold fX12_planned_J172 fX12_planned_J183
        rw [za_irm (by omega) (by omega) (by omega), ← ha2, za_chk _ a2l (by omega), za_lt, nI_clamp (by omega), eR4 142 (by omega) (by omega) (by omega) (by omega) (by omega), pw3]
        rw [nI_0] at l3
        refine l3.trans ?_
        rw [nI_add]
        exact hend R5 hh5 99997 ((l4.1.1 28 0 (by decide) (by decide)).trans l8)
  obtain ⟨C5, R5, hh5, fu5, f1, f2, f3, f4, f5, f6, f6b, f7, f8, f9⟩ := fin
  have n100 := rw_n100 f3.1
  obtain ⟨R6, b1, b2, b3, b4⟩ := back_c R5
  have hF := f3.1.2.2.2.2.2.2.1.2
  refine ⟨C5, R6, hh5, cn 96 (frmP (C5 (64 + 5))), ?_, ?_, ⟨?_, ?_, ?_, ?_, ?_⟩, by omega, cn_le _ _, ?_⟩
  · rw [hC28]
    rw [nI_0, Nat.zero_add] at k2
    refine k2.trans (f1.trans ?_)
    rw [fX11_tryRow_L71, za_mul, if_pos (nI_le (by omega) (by omega)), za_lt, za_lt, f8, hF, nI_add]
  · rw [hR127, f2]
    have hfr : fX12_farms R5 = some (nI (cn 96 (frmP (C5 (64 + 5))))) := (rw_farms f3.1).trans (congrArg some hF)
    have h244 : ∀ Z, fX12_planned_J244 K102 (fun M X0 X1 X2 X3 X4 X5 X6 X7 X8 => fX12_planned_L127 K102 fr M X0 X1 X2 X3 X4 X5 X6 X7 X8) R5 (nI sN) Y2 Y3 Y4 Y5 (nI row) Y8 (nI r) Z = fX12_planned_L127 K102 fr R6 (nI sN) Y2 Y3 Y4 Y5 (nI row) Z (if r = 0 then nI (cn 96 (frmP (C5 (64 + 5)))) else if Y8 ≤ nI (cn 96 (frmP (C5 (64 + 5)))) then Y8 else nI (cn 96 (frmP (C5 (64 + 5))))) (nI (r + 1)) := by
      intro Z
      unfold fX12_planned_J244 fX12_planned_J260 fX12_planned_J269
      rw [hfr, za_bnd, za_bnd, b1]
      simp only [za_bnd, nI_add]
      by_cases q : r = 0
      · rw [if_pos q, if_pos (by rw [q]; exact nI_0)]
      · rw [if_neg q, if_neg (fun z => q ((za_eq0 (by omega)).mp z))]
        by_cases q2 : Y8 ≤ nI (cn 96 (frmP (C5 (64 + 5))))
        · rw [if_pos q2, if_pos q2]
        · rw [if_neg q2, if_neg q2]
    have h231 : fX12_planned_J231 K102 (fun M X0 X1 X2 X3 X4 X5 X6 X7 X8 => fX12_planned_L127 K102 fr M X0 X1 X2 X3 X4 X5 X6 X7 X8) R5 (nI sN) Y2 Y3 Y4 Y5 (nI row) Y8 (nI r) = fX12_planned_J244 K102 (fun M X0 X1 X2 X3 X4 X5 X6 X7 X8 => fX12_planned_L127 K102 fr M X0 X1 X2 X3 X4 X5 X6 X7 X8) R5 (nI sN) Y2 Y3 Y4 Y5 (nI row) Y8 (nI r) (nI hh5) := by
      unfold fX12_planned_J231
      rw [za_chk (n := 2122) _ (by omega) (by omega), nI_clamp (n := 2122) (by omega), show R5 128 2122 = nI hh5 from (f3.1.1 28 0 (by decide) (by decide)).trans f8]
    rw [h231, h244, h244]
    by_cases q : r = 0
    · simp only [if_pos q]
    · simp only [if_neg q]
      by_cases q2 : nI hh5 ≤ Y7
      · simp only [if_pos q2]
      · simp only [if_neg q2]
  · have eR : ∀ b, b ≠ 127 → b ≠ 128 → b ≠ 140 → b ≠ 141 → R6 b = R1 b := fun b z1 z2 z3 z4 => by rw [b2 b z2, f5 b z1 z2 z3 z4, k6.1 b z2 z3 z4, za_wrc z1, za_wrc z1]
    refine iv_tr h1 (fun b hb => ?_) (fun b z1 z2 z3 z4 => ?_) (fun j hj => ?_) (fun j hj => ?_)
    · rw [f4.1 b (by omega), k5.1 b (by omega), za_wrc (by omega), c2 b hb]
    · rw [za_wrc z1, za_wrc z1, za_wrc z1, za_wrc z1]
      by_cases e : b = 128
      · subst e
        funext j
        by_cases hj : j < 2132
        · rw [b3 j hj, f5 129 (by omega) (by omega) (by omega) (by omega), k6.1 129 (by omega) (by omega) (by omega), za_wra (by omega), za_wra (by omega), p2 j hj]
        · rw [b4 j (by omega), f6 j (by unfold pz; omega), k6.2 j (by unfold pz; omega), za_wra (by omega), za_wra (by omega)]
      · exact eR b z1 e z3 z4
    · by_cases e7 : j = 7
      · subst e7; rw [za_wrs, za_wrs]
      · rw [za_wri e7, za_wri e7]
        by_cases e23 : j = 23
        · subst e23; rw [za_wrs, za_wrs]
        · rw [za_wri e23, za_wri e23, b2 127 (by omega), f6b j e23, k6.1 127 (by omega) (by omega) (by omega), za_wri e23, za_wri e7]
    · rw [za_wra (by omega), za_wra (by omega), za_wra (by omega), za_wra (by omega), b2 141 (by omega), f7 j hj, k7 j hj, za_wra (by omega), za_wra (by omega)]
  · intro j hj
    rw [b3 j hj, b2 129 (by omega)]
  · intro b hb
    rw [f4.1 b (by omega), k5.1 b (by omega), za_wrc (by omega), eC2 b hb]
  · intro b z1 z2 z3 z4 z5
    rw [b2 b z2, f5 b z1 z2 z4 z5, k6.1 b z2 z4 z5, za_wrc z1, za_wrc z1, p4 b z1 z2 z3 z4 z5]
  · intro j e7 e23
    rw [b2 127 (by omega), f6b j e23, k6.1 127 (by omega) (by omega) (by omega), za_wri e23, za_wri e7, p5 j e7 e23]
  · rw [f4.1 126 (by omega), k5.1 126 (by omega), za_wrc (by omega), c2 126 (by omega)]
end PL
