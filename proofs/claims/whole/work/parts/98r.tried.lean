/-! ===== another price tried beside what is ===== -/
section TI
variable {n t m x a y : Nat} {C R C' R' : Mc} {N L : Md} {w : Nat}
theorem rw_t0 (h : RW w n t x a y C R) (hc : ∀ b, b ≠ w → C' b = C b) (h6 : C' w 6 = C w 6) (hA : RA w C' R') (e128 : R' 128 = R 128) (e131 : R' 131 = R 131) : RW w n t x a y C' R' := by
  obtain ⟨_, hN, hS, hP, hH, hO, hC, hZ, hQ, hB, hL, hE, hq, hl⟩ := h
  refine ⟨hA, WN_cg hN ?_ h6, WS_cg hS (fun k _ _ => hc _ (by omega)), WP_cg hP (hc _ (by omega)) (hc _ (by omega)) (fun k _ _ => hc _ (by omega)), WH_cg hH (hc _ (by omega)) (hc _ (by omega)) (fun k _ _ => hc _ (by omega)), WO_cg hO (hc _ (by omega)) (hc _ (by omega)) (hc _ (by omega)) (hc _ (by omega)), WC_cg hC ?_ ?_ (hc _ (by omega)) (hc _ (by omega)), WZ_cg hZ (fun k _ _ => hc _ (by omega)), WQ_cg hQ ?_ (fun k _ _ => hc _ (by omega)), WB_cg hB ?_ (fun k _ _ => hc _ (by omega)), WL_cg hL ?_ ?_ (hc _ (by omega)), RE_cg hE (fun k _ _ => hc _ (by omega)) (fun c hc0 => ⟨congrFun e128 _, congrFun e128 _, congrFun e131 _⟩), RQ_cg hq (hc _ (by omega)) (hc _ (by omega)) (fun p hp i hi => by rw [e128]), RY_cg hl ?_ (hc _ (by omega)) (hc _ (by omega)) (fun l hl => by rw [e128]; exact ⟨rfl, rfl⟩)⟩
  all_goals exact congrFun (hc _ (by omega)) _
theorem rv_t0 (h : RV w n t x a y m C R) (hc : ∀ b, b ≠ w → C' b = C b) (h6 : C' w 6 = C w 6) (hA : RA w C' R') (hr : ∀ b, b ≠ 127 → R' b = R b) (ht : WT w C') : RV w n t x a y m C' R' := by
  have hw := h.w17
  obtain ⟨g1, g2, g3, g4, g5, g6⟩ := h
  exact ⟨rw_t0 g1 hc h6 hA (hr _ (by omega)) (hr _ (by omega)), by rw [hc _ (by omega)]; exact g2, g3, BK_cg g4 (fun b hb => hc b (by omega)) (fun b b1 b2 => hr b (by omega)), ht, g6⟩
theorem rv_tp {v : Nat} (hv : v ≤ 1000) (h : RV w n t x a y m C R) : RV w n t x a y m (wr C w 10 (nI v)) (wr R 127 23 (nI v)) := by
  refine rv_t0 h (fun b hb => za_wrc hb) (za_wri (by omega)) (fun f i hf hi => ?_) (fun b hb => za_wrc hb) ⟨⟨v, hv, za_wrs _ _ _ _⟩, by rw [za_wri (by omega)]; exact h.2.2.2.2.1.2.1, by rw [za_wri (by omega)]; exact h.2.2.2.2.1.2.2⟩
  rw [rc_tp hf hi, rr_tp hf hi]
  by_cases q : f = 38 ∧ i = 0
  · rw [if_pos q, if_pos q]
  · rw [if_neg q, if_neg q]; exact h.1.1 f i hf hi
theorem rv_ts {v : Int32} (hv : v = -1 ∨ ∃ k, k ≤ 100 ∧ v = nI k) (h : RV w n t x a y m C R) : RV w n t x a y m (wr C w 11 v) (wr R 127 24 v) := by
  refine rv_t0 h (fun b hb => za_wrc hb) (za_wri (by omega)) (fun f i hf hi => ?_) (fun b hb => za_wrc hb) ⟨by rw [za_wri (by omega)]; exact h.2.2.2.2.1.1, by rw [za_wrs]; exact hv, by rw [za_wri (by omega)]; exact h.2.2.2.2.1.2.2⟩
  rw [rc_ts hf hi, rr_ts hf hi]
  by_cases q : f = 39 ∧ i = 0
  · rw [if_pos q, if_pos q]
  · rw [if_neg q, if_neg q]; exact h.1.1 f i hf hi
theorem rv_tr {v : Nat} (hv : v ≤ 500) (h : RV w n t x a y m C R) : RV w n t x a y m (wr C w 12 (nI v)) (wr R 127 7 (nI v)) := by
  refine rv_t0 h (fun b hb => za_wrc hb) (za_wri (by omega)) (fun f i hf hi => ?_) (fun b hb => za_wrc hb) ⟨by rw [za_wri (by omega)]; exact h.2.2.2.2.1.1, by rw [za_wri (by omega)]; exact h.2.2.2.2.1.2.1, by rw [za_wrs]; exact Or.inr ⟨v, hv, rfl⟩⟩
  rw [rc_tr hf hi, rr_tr hf hi]
  by_cases q : f = 40 ∧ i = 0
  · rw [if_pos q, if_pos q]
  · rw [if_neg q, if_neg q]; exact h.1.1 f i hf hi
theorem rv_rr (h : RV w n t x a y m C R) (hr : ∀ b, b ≠ 129 → b ≠ 141 → R' b = R b) : RV w n t x a y m C R' := by
  obtain ⟨g1, g2, g3, g4, g5, g6⟩ := h
  exact ⟨rw_rr g1 (hr _ (by omega) (by omega)) (hr _ (by omega) (by omega)) (hr _ (by omega) (by omega)) (by rw [hr _ (by omega) (by omega)]) (by rw [hr _ (by omega) (by omega)]) (by rw [hr _ (by omega) (by omega)]), g2, g3, BK_cg g4 (fun _ _ => rfl) (fun b b1 b2 => hr b (by omega) (by omega)), g5, g6⟩
theorem AL_cc (h : AL C R) (e7 : C' 7 = C 7) (e3 : ∀ z, z < 4 → C' (3 + z) = C (3 + z)) (r3 : R' 133 = R 133) (r2 : R' 132 = R 132) : AL C' R' := by
  intro z hz; have := h z hz; rw [e7, e3 z hz, r3, r2]; exact this
theorem tri_L {cnt : Nat} {v : Int32} (hcnt : cnt ≤ 104) : ∀ k fu fr i t C R, i + k = cnt → k < fu → k < fr → t + k ≤ 1000 → RV 64 n t n (ab t) (t / 52) m C R → AL C R → ∃ C' R' fu' fr', fX11_tried_L95 fu C (nI cnt) v (nI i) = fX11_tried_L95 (fu' + 1) C' (nI cnt) v (nI cnt) ∧ fX12_tried_L110 fr R (nI cnt) v (nI i) = fX12_tried_L110 (fr' + 1) R' (nI cnt) v (nI cnt) ∧ RV 64 n (t + k) n (ab (t + k)) ((t + k) / 52) m C' R' ∧ FC 64 C C' ∧ FE R R' ∧ ∀ j, j < 7 * t → R' 141 j = R 141 j
  | k, 0, _, _, _, _, _, _, hf, _, _, _, _ => by omega
  | k, _, 0, _, _, _, _, _, _, hf, _, _, _ => by omega
  | 0, fu + 1, fr + 1, i, t, C, R, hi, _, _, ht, h, _ => by
    obtain rfl : i = cnt := by omega
    exact ⟨C, R, fu, fr, rfl, rfl, h, FC.rf, FE.of FD.rf, fun _ _ => rfl⟩
  | k + 1, fu + 1, fr + 1, i, t, C, R, hi, hf, hfr, ht, h, hal => by
    obtain ⟨C1, R1, i1, i2, i3, i4, i5, i6, i7⟩ := goOn_sim h hal (by omega)
    rw [fX11_tried_L95, fX12_tried_L110, if_neg (nI_ge (by omega) (by omega)), if_neg (nI_ge (by omega) (by omega)), i1, za_bnd, i2, za_bnd, nI_add]
    obtain ⟨C', R', fu', fr', j1, j2, j3, j4, j5, j6⟩ := tri_L (v := v) hcnt k fu fr (i + 1) (t + 1) C1 R1 (by omega) (by omega) (by omega) (by omega) i3 (AL_cc hal (i4.1 7 (by omega)) (fun z hz => i4.1 _ (by omega)) (i5.1 _ (by omega) (by omega) (by omega)) (i5.1 _ (by omega) (by omega) (by omega)))
    rw [show t + 1 + k = t + (k + 1) by omega] at j3
    exact ⟨C', R', fu', fr', j1, j2, j3, i4.tr j4, i5.tr j5, fun j hj => (j6 j (by omega)).trans (i7 j hj)⟩
theorem hird_L (h : RV w n t x a y m C R) : ∀ k fu fr i v, i + k = n → k < fu → k < fr → ∃ u, fX3_allHired_L4 (w + 15) fu C v (nI i) = some u ∧ fX12_told_L70 fr R v (nI i) = some u
  | k, 0, _, _, _, _, hf, _ => by omega
  | k, _, 0, _, _, _, _, hf => by omega
  | 0, fu + 1, fr + 1, i, v, hi, _, _ => by
    obtain rfl : i = n := by omega
    have := rw_n100 h.1
    rw [fX3_allHired_L4, fX12_told_L70, h.1.2.1.1, if_pos (nI_le (Nat.le_refl _) (by omega)), za_chk (n := 2124) _ (by omega) (by omega), nI_clamp (n := 2124) (by omega), rw_n h.1, if_pos (nI_le (Nat.le_refl _) (by omega))]
    exact ⟨v, rfl, rfl⟩
  | k + 1, fu + 1, fr + 1, i, v, hi, hf, hfr => by
    have n100 := rw_n100 h.1
    rw [fX3_allHired_L4, fX12_told_L70, h.1.2.1.1, if_neg (nI_ge (by omega) (by omega)), if_neg (nI_ge (by omega) (by omega)), za_chk (n := 2124) _ (by omega) (by omega), nI_clamp (n := 2124) (by omega), rw_n h.1, if_neg (nI_ge (by omega) (by omega)), za_chk (n := i) _ (by omega) (by omega), nI_clamp (n := i) (by omega), rx_st h (by omega), za_bnd]
    unfold fX3_allHired_J31 fX12_told_J98
    rw [za_lt, za_lt, nI_add]
    by_cases q : C (w + 18) i = nI 3
    · rw [if_pos (show C (w + 15 + 3) i = nI 3 from q), if_pos q]
      exact hird_L h k fu fr (i + 1) (v + nI 1) (by omega) (by omega) (by omega)
    · rw [if_neg (show ¬ C (w + 15 + 3) i = nI 3 from q), if_neg q, Int32.add_zero]
      exact hird_L h k fu fr (i + 1) v (by omega) (by omega) (by omega)
theorem told_eq {j : Nat} (hj : j ≤ 5) (h : RV 64 n t x a y m C R) : ∃ u, (if nI j = 0 then (some (.inr ((C (64 + 1) 9), C))) else if nI j = nI 1 then (some (.inr ((C (64 + 15) 2), C))) else if nI j = nI 2 then (some (.inr ((C (64) 8), C))) else if nI j = nI 3 then (some (.inr ((C (64) 7), C))) else if nI j = nI 4 then bnd (fX3_allHired C (64 + 15)) fun v18 => (some (.inr (v18, C))) else (some (.inr ((C (64 + 15) 1), C))) : Option (Nat ⊕ (Int32 × Mc))) = some (.inr (u, C)) ∧ fX12_told R (nI j) = some u := by
  unfold fX12_told fX3_allHired
  rcases (show j = 0 ∨ j = 1 ∨ j = 2 ∨ j = 3 ∨ j = 4 ∨ j = 5 by omega) with rfl | rfl | rfl | rfl | rfl | rfl
  · rw [if_pos nI_0, if_pos nI_0, rw_farms h.1, za_bnd]; exact ⟨_, rfl, rfl⟩
  · rw [if_neg (nk0 1 (by omega) (by omega)), if_pos rfl, if_neg (nk0 1 (by omega) (by omega)), if_pos rfl, za_chk (n := 2122) _ (by omega) (by omega), nI_clamp (n := 2122) (by omega)]
    exact ⟨_, rfl, congrArg some (h.1.1 28 0 (by decide) (by decide))⟩
  · rw [if_neg (nk0 2 (by omega) (by omega)), if_neg (nk 2 1 (by omega) (by omega) (by omega)), if_pos rfl, if_neg (nk0 2 (by omega) (by omega)), if_neg (nk 2 1 (by omega) (by omega) (by omega)), if_pos rfl, za_chk (n := 2118) _ (by omega) (by omega), nI_clamp (n := 2118) (by omega), ra_tre h.1.1]
    exact ⟨_, rfl, rfl⟩
  · rw [if_neg (nk0 3 (by omega) (by omega)), if_neg (nk 3 1 (by omega) (by omega) (by omega)), if_neg (nk 3 2 (by omega) (by omega) (by omega)), if_pos rfl, if_neg (nk0 3 (by omega) (by omega)), if_neg (nk 3 1 (by omega) (by omega) (by omega)), if_neg (nk 3 2 (by omega) (by omega) (by omega)), if_pos rfl, za_chk (n := 2117) _ (by omega) (by omega), nI_clamp (n := 2117) (by omega), ra_store h.1.1]
    exact ⟨_, rfl, rfl⟩
  · rw [if_neg (nk0 4 (by omega) (by omega)), if_neg (nk 4 1 (by omega) (by omega) (by omega)), if_neg (nk 4 2 (by omega) (by omega) (by omega)), if_neg (nk 4 3 (by omega) (by omega) (by omega)), if_pos rfl, if_neg (nk0 4 (by omega) (by omega)), if_neg (nk 4 1 (by omega) (by omega) (by omega)), if_neg (nk 4 2 (by omega) (by omega) (by omega)), if_neg (nk 4 3 (by omega) (by omega) (by omega)), if_pos rfl]
    have := rw_n100 h.1
    obtain ⟨u, u1, u2⟩ := hird_L h n FU FU 0 0 (by omega) (by rw [za_FU]; omega) (by rw [za_FU]; omega)
    rw [nI_0] at u1 u2
    rw [u1, za_bnd, u2]
    exact ⟨u, rfl, rfl⟩
  · rw [if_neg (nk0 5 (by omega) (by omega)), if_neg (nk 5 1 (by omega) (by omega) (by omega)), if_neg (nk 5 2 (by omega) (by omega) (by omega)), if_neg (nk 5 3 (by omega) (by omega) (by omega)), if_neg (nk 5 4 (by omega) (by omega) (by omega)), if_neg (nk0 5 (by omega) (by omega)), if_neg (nk 5 1 (by omega) (by omega) (by omega)), if_neg (nk 5 2 (by omega) (by omega) (by omega)), if_neg (nk 5 3 (by omega) (by omega) (by omega)), if_neg (nk 5 4 (by omega) (by omega) (by omega)), rw_here h.1, za_bnd]
    exact ⟨_, rfl, rfl⟩
theorem rngm (K : Nat) (hK : K < 2 ^ 31) (p : Int32) : p < -1 ∨ (¬ p < -1 ∧ nI K < p) ∨ (¬ p < -1 ∧ ¬ nI K < p ∧ (p = -1 ∨ ∃ j, j ≤ K ∧ p = nI j)) := by
  by_cases h1 : p < -1
  · exact Or.inl h1
  by_cases h2 : nI K < p
  · exact Or.inr (Or.inl ⟨h1, h2⟩)
  refine Or.inr (Or.inr ⟨h1, h2, ?_⟩)
  by_cases h3 : p = -1
  · exact Or.inl h3
  · have h4 : ¬ p < 0 := by grind
    obtain ⟨j, j1, rfl⟩ := za_ofle hK h4 (by grind)
    exact Or.inr ⟨j, j1, rfl⟩
theorem rng1b (K : Nat) (hK : K < 2 ^ 31) (p : Int32) : p < nI 1 ∨ (¬ p < nI 1 ∧ nI K < p) ∨ ∃ j, 1 ≤ j ∧ j ≤ K ∧ p = nI j := by
  by_cases h1 : p < nI 1
  · exact Or.inl h1
  by_cases h2 : nI K < p
  · exact Or.inr (Or.inl ⟨h1, h2⟩)
  right; right
  have h4 : ¬ p < 0 := by
    intro z
    apply h1
    have : (0 : Int32) < nI 1 := by decide +kernel
    grind
  obtain ⟨j, j1, rfl⟩ := za_ofle hK h4 (by grind)
  refine ⟨j, ?_, j1, rfl⟩
  rw [nI_ltI (by omega) (by omega)] at h1; omega
theorem c_tried (h : IV n t m C R N L) (p0 p1 p2 p3 : Int32) : OM eA C R N L (fX11_tried C p0 p1 p2 p3) (fX12_tried R p0 p1 p2 p3) := by
  have ih := iv_thr (v := 0) h
  have ht := iv_t h
  have hJ : fX12_tried_J50 (wr R 127 0 0) p0 p1 p2 p3 = some (0, wr (wr R 127 0 0) 127 0 (nI 1)) := by
    unfold fX12_tried_J50 fX12_tried_J55; rw [bad_1, za_bn2, if_neg za_n10]
  have hK : fX11_tried_J26 C p0 p1 p2 p3 = some (.inl 2) := by
    unfold fX11_tried_J26 fX11_tried_J27; rw [need_0, za_bnxl]
  have hK2 : fX11_tried_J56 C p0 p1 p2 p3 = some (.inl 2) := by
    unfold fX11_tried_J56 fX11_tried_J57; rw [need_0, za_bnxl]
  unfold fX11_tried fX12_tried fX11_tried_J27
  rw [za_lt]
  rcases rng 1000 (by omega) p0 with g | ⟨g0, g⟩ | ⟨a0, b0, rfl⟩
  · exact om_t (k := 2) (v := nI 1) h (by rw [if_pos g, hK]) (by rw [if_pos g, hJ]) rfl za_n10
  · exact om_t (k := 2) (v := nI 1) h (by rw [if_neg g0, if_pos g, hK]) (by rw [if_neg g0, if_pos g, hJ]) rfl za_n10
  rw [if_neg (nI_pos (by omega)), if_neg (nI_nlt b0 (by omega)), if_neg (nI_pos (by omega)), if_neg (nI_nlt b0 (by omega))]
  rcases rngm 100 (by omega) p1 with g | ⟨g0, g⟩ | ⟨g1, g2, b1⟩
  · exact om_t (k := 2) (v := nI 1) h (by rw [if_pos g, hK]) (by rw [if_pos g, hJ]) rfl za_n10
  · exact om_t (k := 2) (v := nI 1) h (by rw [if_neg g0, if_pos g, hK]) (by rw [if_neg g0, if_pos g, hJ]) rfl za_n10
  rw [if_neg g1, if_neg g2, if_neg g1, if_neg g2, need_1, za_bnx]
  rcases rng1b 104 (by omega) p2 with g | ⟨g0, g⟩ | ⟨a2, c2, b2, rfl⟩
  · exact om_t (k := 2) (v := nI 1) h (by rw [if_pos g, hK2]) (by rw [if_pos g, hJ]) rfl za_n10
  · exact om_t (k := 2) (v := nI 1) h (by rw [if_neg g0, if_pos g, hK2]) (by rw [if_neg g0, if_pos g, hJ]) rfl za_n10
  have q21 : ¬ nI a2 < nI 1 := nI_nlt c2 (by omega)
  have q22 : ¬ nI 104 < nI a2 := nI_nlt b2 (by omega)
  rw [if_neg q21, if_neg q22, if_neg q21, if_neg q22]
  rcases rng 5 (by omega) p3 with g | ⟨g0, g⟩ | ⟨a3, b3, rfl⟩
  · exact om_t (k := 2) (v := nI 1) h (by rw [if_pos g, hK2]) (by rw [if_pos g, hJ]) rfl za_n10
  · exact om_t (k := 2) (v := nI 1) h (by rw [if_neg g0, if_pos g, hK2]) (by rw [if_neg g0, if_neg (by grind), hJ]) rfl za_n10
  unfold fX11_tried_J57 fX12_tried_J55 fX12_tried_J84 fX11_needWeeks
  rw [if_neg (nI_pos (by omega)), if_neg (nI_nlt b3 (by omega)), if_neg (nI_pos (by omega)), if_pos (nI_le b3 (by omega)), need_1, za_bnx, iv_tc h, nI_add, bad_0, za_bn2, if_pos rfl, za_chk (n := 2116) _ (by omega) (by omega), nI_clamp (n := 2116) (by omega), rw_t ih.1.1, nI_add, bad_0, za_bn2, if_pos rfl]
  by_cases q : t + a2 ≤ 1000
  · obtain ⟨C1, c1, c2', c3, _⟩ := rv_copy ih
    obtain ⟨R1, r1, r2, r3⟩ := saves_c (wr R 127 0 0)
    rw [if_pos (nI_le q (by omega)), za_bnx, c1, za_bnd, za_lt, za_lt, if_pos (nI_le q (by omega)), r1, za_bnd, za_lt, za_lt]
    have c4 := rv_ts b1 (rv_tp b0 (rv_rr (R' := R1) c3 (fun b hb _ => r2 b hb)))
    have al : AL C1 R1 := AL_cc ih.2.1 (c2' 7 (by omega)) (fun z hz => c2' _ (by omega)) (r2 133 (by omega)) (r2 132 (by omega))
    obtain ⟨C3, R3, fu, fr, j1, j2, j3, j4, j5, j6⟩ := tri_L (v := nI a3) b2 a2 FU FU 0 t _ _ (by omega) (by rw [za_FU]; omega) (by rw [za_FU]; omega) q c4 (AL_cc al (by rw [za_wrc (by omega), za_wrc (by omega)]) (fun z hz => by rw [za_wrc (by omega), za_wrc (by omega)]) (by rw [za_wrc (by omega), za_wrc (by omega)]) (by rw [za_wrc (by omega), za_wrc (by omega)]))
    rw [nI_0] at j1 j2
    obtain ⟨u, u1, u2⟩ := told_eq b3 j3
    obtain ⟨R4, k1, k2, k3, k4⟩ := back_c (wr (wr R3 127 23 0) 127 24 (-1))
    have z23 : R 127 23 = 0 := (ra_tp h.1.1.1).trans h.2.2.2.2.2.2.2.2.2.2.2.1
    have z24 : R 127 24 = -1 := (ra_ts h.1.1.1).trans h.2.2.2.2.2.2.2.2.2.2.2.2.1
    have e5 : ∀ b, b ≠ 127 → b ≠ 128 → b ≠ 140 → b ≠ 141 → R3 b = R1 b := fun b h1 h2 h3 h4 => by rw [j5.1 b h2 h3 h4, za_wrc h1, za_wrc h1]
    have e127 : ∀ j, j ≠ 23 → j ≠ 24 → R4 127 j = R1 127 j := fun j h1 h2 => by rw [k2 127 (by omega), za_wri h2, za_wri h1, j5.1 127 (by omega) (by omega) (by omega), za_wri h2, za_wri h1]
    have gc : ∀ b, b < 64 ∨ 110 < b → C3 b = C b := fun b hb => by rw [j4.1 b (by omega), za_wrc (by omega), za_wrc (by omega), c2' b hb]
    rw [j1, j2, fX11_tried_L95, fX12_tried_L110, if_pos (nI_le (Nat.le_refl _) (by omega)), if_pos (nI_le (Nat.le_refl _) (by omega)), u1, u2, za_bnd, za_lt, za_lt, k1, za_bnd]
    refine om_v (b := u) (C' := C3) (iv_tr (C' := C3) (R' := R4) ih gc (fun b b1 b2' b3' b4' => ?_) (fun j hj => ?_) (fun j hj => ?_)) rfl rfl (fun b h1 h2 => gc b (by omega)) (fun b hb => ?_) ?_
    · by_cases e : b = 128
      · subst e
        funext j
        by_cases hj : j < 2132
        · rw [k3 j hj, za_wra (by omega), za_wra (by omega), e5 129 (by omega) (by omega) (by omega) (by omega), r3 j hj]
        · rw [k4 j (by omega), za_wra (by omega), za_wra (by omega), j5.2 j (by unfold pz; omega), za_wra (by omega), za_wra (by omega), r2 128 (by omega)]
      · rw [k2 b e, za_wrc b1, za_wrc b1, e5 b b1 e b3' b4', r2 b b2']
    · rcases hj with e | e | e | e | e | e | e | e
      · rw [e127 j (by omega) (by omega), r2 127 (by omega)]
      · rw [e127 j (by omega) (by omega), r2 127 (by omega)]
      · rw [e127 j (by omega) (by omega), r2 127 (by omega)]
      · subst e; rw [k2 127 (by omega), za_wri (by omega), za_wrs, za_wri (by omega), z23]
      · subst e; rw [k2 127 (by omega), za_wrs, za_wri (by omega), z24]
      · rw [e127 j (by omega) (by omega), r2 127 (by omega)]
      · rw [e127 j (by omega) (by omega), r2 127 (by omega)]
      · rw [e127 j (by omega) (by omega), r2 127 (by omega)]
    · rw [k2 141 (by omega), za_wra (by omega), za_wra (by omega), j6 j hj, za_wra (by omega), za_wra (by omega), r2 141 (by omega)]
    · rw [k2 b (by omega), za_wrc (by omega), za_wrc (by omega), e5 b (by omega) (by omega) (by omega) (by omega), r2 b (by omega), za_wrc (by omega)]
    · rw [e127 0 (by omega) (by omega), r2 127 (by omega), za_wrs]
  · have hn : ¬ nI (t + a2) ≤ nI 1000 := fun z => q (by rw [nI_leI (by omega) (by omega)] at z; exact z)
    exact om_t (k := 3) (v := nI 2) h (by rw [if_neg hn, za_bnxl]) (by rw [if_neg hn, bad_1, za_bn2, if_neg za_n10]) rfl (by decide +kernel)
end TI
