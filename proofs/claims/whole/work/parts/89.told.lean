/-! ===== what is told, prices, the image's tear ===== -/
section AJ
variable {n t m p c : Nat} {C R C' R' : Mc} {N L N' L' : Md} {e : Nat → Int32}
/-- nothing of the world's cells changes -/
theorem rv_ot {w x a y : Nat} (h : RV w n t x a y m C R) (hc : ∀ b, (16 ≤ b ∧ b ≤ 110) ∨ 146 ≤ b → C' b = C b) (hr : ∀ b, b = 128 ∨ b = 130 ∨ b = 131 ∨ (135 ≤ b ∧ b ≤ 139) ∨ b = 141 → R' b = R b) (h7 : ∀ j, j = 7 ∨ j = 23 ∨ j = 24 → R' 127 j = R 127 j) : RV w n t x a y m C' R' := by
  have hw := h.w17
  obtain ⟨⟨hA, hN, hS, hP, hH, hO, hC, hZ, hQ, hB, hL, hE, hq, hl⟩, g1, g2, g3, g4, g5⟩ := h
  have e : ∀ k, k ≤ 46 → C' (w + k) = C (w + k) := fun k hk => hc _ (by omega)
  have e0 : C' w = C w := hc _ (by omega)
  have e128 : R' 128 = R 128 := hr _ (by omega)
  have e131 : R' 131 = R 131 := hr _ (by omega)
  refine ⟨⟨fun f i hf hi => ?_, ?_, ?_, ?_, ?_, ?_, ?_, ?_, ?_, ?_, ?_, ?_, ?_, ?_⟩, by rw [e _ (by omega)]; exact g1, g2, BK_cg g3 (fun b hb => hc b (by omega)) (fun b b1 b2 => hr b (by omega)), by unfold WT at *; rw [e0]; exact g4, g5⟩
  · have hf39 : fA f ≤ 39 := by
      clear hi
      revert f
      decide +kernel
    have hc' : (fC f = 127 ∧ (f = 38 ∨ f = 39 ∨ f = 40)) ∨ fC f = 128 ∨ fC f = 130 ∨ fC f = 131 := by
      clear hi hf39
      revert f
      decide +kernel
    rw [e _ (by omega), ← hA f i hf hi]
    rcases hc' with ⟨_, rfl | rfl | rfl⟩ | g
    · have hi0 : i = 0 := by have : fN 38 = 1 := by decide
                             omega
      subst hi0
      exact h7 23 (by omega)
    · have hi0 : i = 0 := by have : fN 39 = 1 := by decide
                             omega
      subst hi0
      exact h7 24 (by omega)
    · have hi0 : i = 0 := by have : fN 40 = 1 := by decide
                             omega
      subst hi0
      exact h7 7 (by omega)
    · rw [hr _ (by omega)]
  · unfold WN at *; rw [e _ (by omega), e0]; exact hN
  · unfold WS at *; intro c hc'; simp (disch := omega) only [e]; exact hS c hc'
  · unfold WP at *; intro c hc'; simp (disch := omega) only [e]; exact hP c hc'
  · unfold WH at *; intro c hc'; simp (disch := omega) only [e]; exact hH c hc'
  · unfold WO at *; intro c hc' hd'; simp (disch := omega) only [e]; exact hO c hc' hd'
  · unfold WC at *; simp (disch := omega) only [e]; exact hC
  · unfold WZ at *; intro c hc'; simp (disch := omega) only [e]; exact hZ c hc'
  · unfold WQ at *; simp (disch := omega) only [e]; exact hQ
  · unfold WB at *; simp (disch := omega) only [e]; exact hB
  · unfold WL at *; simp (disch := omega) only [e]; exact hL
  · unfold RE at *; intro c hc'; simp (disch := omega) only [e, e128, e131]; exact hE c hc'
  · unfold RQ at *; simp (disch := omega) only [e, e128]; exact hq
  · unfold RY at *; simp (disch := omega) only [e, e128]; exact hl
theorem iv_ot (h : IV n t m C R N L) (hc : ∀ b, (9 ≤ b ∧ b ≤ 113) ∨ 146 ≤ b → C' b = C b) (hr : ∀ b, b = 128 ∨ b = 130 ∨ b = 131 ∨ (135 ≤ b ∧ b ≤ 139) ∨ b = 141 → R' b = R b) (h7 : ∀ j, j = 7 ∨ j = 23 ∨ j = 24 → R' 127 j = R 127 j) (hal : AL C' R') (hih : ∀ j, 10 ≤ j → j ≤ 12 → C' 0 j = C 0 j) (hip : IP C' R') (hf : C' 0 9 = R' 127 13) (hic : IC C' R') (hii : II C' R' N' L') : IV n t m C' R' N' L' := by
  obtain ⟨a1, a2, a3, a4, a5, a6, a7, a8, a9, a10, a11, a12⟩ := h
  have e128 : R' 128 = R 128 := hr _ (by omega)
  refine ⟨rv_ot a1 (fun b hb => hc b (by omega)) hr h7, hal, ?_, IR_cg a4 (fun b _ _ => hc b (by omega)) (hr _ (by omega)), IO_cg a5 (rw_n100 a1.1) (by rw [hc 32 (by omega)]) (hc 39 (by omega)) (hc 40 (by omega)) (hc 41 (by omega)) (fun j _ _ => by rw [e128]), ?_, hip, hf, IW_cg a9 (hc 59 (by omega)) (hc 60 (by omega)) (hc 61 (by omega)) (hr 139 (by omega)) (fun l k _ _ => by rw [e128]), hic, hii, ?_⟩
  · unfold IH at *; rw [e128, hih 10 (by omega) (by omega), hih 11 (by omega) (by omega), hih 12 (by omega) (by omega)]; exact a3
  · unfold IT at *; rw [e128, hc 111 (by omega), hc 112 (by omega), hc 113 (by omega)]; exact a6
  · unfold IZ at *; rw [hc 17 (by omega)]; exact a12
theorem AL_c (h : AL C R) (hc : ∀ b, 3 ≤ b → b ≤ 7 → C' b = C b) (h1 : R' 132 = R 132) (h2 : R' 133 = R 133) : AL C' R' := fun z hz => by
  have := h z hz
  rw [hc 7 (by omega) (by omega), hc (3 + z) (by omega) (by omega), h1, h2]; exact this
theorem IP_c (h : IP C R) (h1 : C' 0 8 = C 0 8) (h2 : C' 123 = C 123) (h3 : R' 127 9 = R 127 9) (h4 : R' 134 = R 134) : IP C' R' := by
  unfold IP at *; rw [h1, h2, h3, h4]; exact h
theorem IC_c (h : IC C R) (h1 : C' 0 14 = C 0 14) (h2 : C' 0 16 = C 0 16) (h3 : C' 124 = C 124) (h4 : C' 125 = C 125) (g1 : R' 127 28 = R 127 28) (g2 : R' 127 29 = R 127 29) (g3 : R' 142 = R 142) (g4 : R' 143 = R 143) : IC C' R' := by
  unfold IC at *; rw [h1, h2, h3, h4, g1, g2, g3, g4]; exact h
theorem II_c (h : II C R N L) (h1 : C' 121 1 = C 121 1) (h2 : C' 122 = C 122) (h3 : R' 127 31 = R 127 31) (h4 : R' 144 = R 144) : II C' R' N L := by
  unfold II at *; rw [h1, h2, h3, h4]; exact h
def toldC (C : Mc) (z k : Nat) (v : Int32) : Mc := wr (wr C (3 + z) k v) 7 z (nI (k + 1))
def toldR (R : Mc) (z k : Nat) (v : Int32) : Mc := wr (wr R 132 (1000 * z + k) v) 133 z (nI (k + 1))
theorem iv_told {z k : Nat} {v : Int32} (h : IV n t m C R N L) (hz : z < 4) (hk : k < 1000) (h7 : C 7 z = nI k) (hv : v = -1 ∨ ∃ r, r ≤ 500 ∧ v = nI r) : IV n t m (toldC C z k v) (toldR R z k v) N L := by
  have ec : ∀ b, b < 3 ∨ 7 < b → toldC C z k v b = C b := fun b hb => by unfold toldC; rw [za_wrc (by omega), za_wrc (by omega)]
  have er : ∀ b, b ≠ 132 → b ≠ 133 → toldR R z k v b = R b := fun b b1 b2 => by unfold toldR; rw [za_wrc b2, za_wrc b1]
  refine iv_ot h (fun b hb => ec b (by omega)) (fun b hb => er b (by omega) (by omega)) (fun j _ => by rw [er 127 (by omega) (by omega)]) (fun z' hz' => ?_) (fun j _ _ => by rw [ec 0 (by omega)]) (IP_c h.2.2.2.2.2.2.1 (by rw [ec 0 (by omega)]) (ec 123 (by omega)) (by rw [er 127 (by omega) (by omega)]) (er 134 (by omega) (by omega))) (by rw [ec 0 (by omega), er 127 (by omega) (by omega)]; exact h.2.2.2.2.2.2.2.1) (IC_c h.2.2.2.2.2.2.2.2.2.1 (by rw [ec 0 (by omega)]) (by rw [ec 0 (by omega)]) (ec 124 (by omega)) (ec 125 (by omega)) (by rw [er 127 (by omega) (by omega)]) (by rw [er 127 (by omega) (by omega)]) (er 142 (by omega) (by omega)) (er 143 (by omega) (by omega))) (II_c h.2.2.2.2.2.2.2.2.2.2.1 (by rw [ec 121 (by omega)]) (ec 122 (by omega)) (by rw [er 127 (by omega) (by omega)]) (er 144 (by omega) (by omega)))
  obtain ⟨k', k1, k2, k3, k4⟩ := h.2.1 z' hz'
  by_cases e : z' = z
  · subst e
    obtain rfl : k' = k := za_inj (by omega) (by omega) (k2.symm.trans h7)
    unfold toldC toldR
    refine ⟨k' + 1, by omega, za_wrs _ _ _ _, za_wrs _ _ _ _, fun i hi => ?_⟩
    rw [za_wra (by omega), za_wra (a := 132) (by omega)]
    by_cases ei : i = k'
    · subst ei; rw [za_wrs, za_wrs]; exact ⟨rfl, hv⟩
    · rw [za_wri ei, za_wri (by omega)]; exact k4 i (by omega)
  · unfold toldC toldR
    refine ⟨k', k1, ?_, ?_, fun i hi => ?_⟩
    · rw [za_wri e, za_wra (by omega)]; exact k2
    · rw [za_wri e, za_wra (by omega)]; exact k3
    · rw [za_wra (by omega), za_wra (by omega), za_wra (by omega), za_wri (by omega)]; exact k4 i hi
theorem told_L {cnt z : Nat} {v : Int32} (hcnt : cnt ≤ 1000) (hz : z < 4) (hv : v = -1 ∨ ∃ r, r ≤ 500 ∧ v = nI r) : ∀ j fu fr i k C R, i + j = cnt → j < fu → j < fr → C 7 z = nI k → k + j ≤ 1000 → IV n t m C R N L → ∃ C' R', fX0_tell_L31 fu C (nI z) v (nI cnt) (nI i) = some (nI (k + j), C') ∧ fX12_rains_L83 fr R (nI z) v (nI cnt) (nI i) = some (nI (k + j), R') ∧ IV n t m C' R' N L ∧ GC C C' ∧ GR2 R R' ∧ R' 127 0 = R 127 0
  | j, 0, _, _, _, _, _, _, hf, _, _, _, _ => by omega
  | j, _, 0, _, _, _, _, _, _, hf, _, _, _ => by omega
  | 0, fu + 1, fr + 1, i, k, C, R, hi, _, _, h7, hk, h => by
    obtain rfl : i = cnt := by omega
    have h133 : R 133 z = nI k := by
      obtain ⟨k', k1, k2, k3, _⟩ := h.2.1 z hz
      rw [k3, ← k2, h7]
    rw [fX0_tell_L31, fX12_rains_L83, if_pos (nI_le (Nat.le_refl _) (by omega)), if_pos (nI_le (Nat.le_refl _) (by omega)), za_chk _ hz (by omega), za_chk _ hz (by omega), nI_clamp (by omega), h7, h133]
    exact ⟨C, R, rfl, rfl, h, GC.rf, GR2.rf, rfl⟩
  | j + 1, fu + 1, fr + 1, i, k, C, R, hi, hf, hfr, h7, hk, h => by
    have h133 : R 133 z = nI k := by
      obtain ⟨k', k1, k2, k3, _⟩ := h.2.1 z hz
      rw [k3, ← k2, h7]
    obtain ⟨C', R', j1, j2, j3, j4, j5, j6⟩ := told_L hcnt hz hv j fu fr (i + 1) (k + 1) (toldC C z k v) (toldR R z k v) (by omega) (by omega) (by omega) (by unfold toldC; exact za_wrs _ _ _ _) (by omega) (iv_told h hz (by omega) h7 hv)
    refine ⟨C', R', ?_, ?_, j3, GC.tr (by unfold toldC; exact gc_wr (gc_wr GC.rf (by omega)) (by omega)) j4, GR2.tr (by unfold toldR; exact gr_wr (gr_wr GR2.rf (by omega)) (by omega)) j5, j6.trans (by unfold toldR; rw [za_wra (by omega), za_wra (by omega)])⟩
    · rw [fX0_tell_L31, if_neg (nI_ge (by omega) (by omega))]
      simp only [za_lt, za_chk _ hz (show 4 < 2 ^ 31 by omega), nI_clamp (show z < 2 ^ 31 by omega), h7]
      rw [za_inY (show k < 1000 by omega) (by omega), za_bnd, if_neg za_n10, za_chk _ (by omega) (by omega), nI_clamp (by omega), show wr C (2 + 1 + z) k v 7 z = nI k by rw [za_wra (by omega)]; exact h7, nI_add, nI_add]
      rw [show k + (j + 1) = k + 1 + j by omega]
      exact j1
    · rw [fX12_rains_L83, if_neg (nI_ge (by omega) (by omega))]
      simp only [za_lt, za_chk _ hz (show 4 < 2 ^ 31 by omega), nI_clamp (show z < 2 ^ 31 by omega), h133, za_mul, nI_add]
      rw [za_chk _ (by omega) (by omega), nI_clamp (by omega), show wr R 132 (1000 * z + k) v 133 z = nI k by rw [za_wra (by omega)]; exact h133, nI_add]
      rw [show k + (j + 1) = k + 1 + j by omega]
      exact j2
theorem tell_sim {cnt z : Nat} {v : Int32} (h : IV n t m C R N L) (h1 : 1 ≤ cnt) (hcnt : cnt ≤ 1000) (hz : z < 4) (hv : v = -1 ∨ ∃ r, r ≤ 500 ∧ v = nI r) (x : Option (Nat ⊕ (Int32 × Mc))) (hx : x = bn2 (fX0_tell C (nI z) v (nI cnt)) fun v10 M11 => some (.inr (v10, M11))) : ∃ k, R 133 z = nI k ∧ k ≤ 1000 ∧ ((k + cnt ≤ 1000 ∧ ∀ y, y = fX12_rains_L83 FU (wr R 127 0 0) (nI z) v (nI cnt) 0 → OM e C R N L x y) ∨ (¬ k + cnt ≤ 1000 ∧ ∀ y, y = some (-1, wr R 127 0 0) → OM e C R N L x y)) := by
  have ih := iv_thr (v := 0) h
  obtain ⟨k, k1, k2, k3, _⟩ := h.2.1 z hz
  subst hx
  refine ⟨k, k3, k1, ?_⟩
  unfold fX0_tell
  rw [za_inY hz (by omega), za_bnd, if_neg za_n10, if_neg (nI_pos (by omega)), za_chk _ hz (by omega), nI_clamp (by omega), k2, za_sub k1]
  by_cases q : k + cnt ≤ 1000
  · left
    refine ⟨q, fun y hy => ?_⟩
    rw [if_pos (nI_le (by omega) (by omega))]
    obtain ⟨C', R', j1, j2, j3, j4, j5, j6⟩ := told_L hcnt hz hv cnt FU FU 0 k C (wr R 127 0 0) (by omega) (by rw [za_FU]; omega) (by rw [za_FU]; omega) k2 q ih
    rw [nI_0] at j1 j2
    exact om_v (b := nI (k + cnt)) j3 (by rw [j1, za_bn2]) (by rw [hy]; exact j2) j4 ((gr_wr GR2.rf (by omega)).tr j5) (by rw [j6, za_wrs])
  · right
    refine ⟨q, fun y hy => ?_⟩
    rw [if_neg (fun z => q (by rw [nI_leI (by omega) (by omega)] at z; omega))]
    exact om_r (b := -1) h rfl hy
theorem rain1 {z k fu : Nat} {v : Int32} (hz : z < 4) (h133 : R 133 z = nI k) : fX12_rains_L83 (fu + 1 + 1) R (nI z) v (nI 1) 0 = chk (nI z) 4 (chk (nI 1000 * nI z + nI k) 4000 (chk (nI z) 4 (chk (nI z) 4 (chk (nI z) 4 (some (wr (wr R 132 (nI 1000 * nI z + nI k).toNatClampNeg v) 133 z (wr R 132 (nI 1000 * nI z + nI k).toNatClampNeg v 133 z + nI 1) 133 z, wr (wr R 132 (nI 1000 * nI z + nI k).toNatClampNeg v) 133 z (wr R 132 (nI 1000 * nI z + nI k).toNatClampNeg v 133 z + nI 1))))))) := by
  have f1 : ¬ nI 1 ≤ 0 := by decide +kernel
  have f2 : nI 1 ≤ 0 + nI 1 := by decide +kernel
  simp only [fX12_rains_L83, za_lt, za_chk _ hz (show 4 < 2 ^ 31 by omega), nI_clamp (show z < 2 ^ 31 by omega), h133, if_neg f1, if_pos f2]
theorem c_rain (h : IV n t m C R N L) (p0 p1 : Int32) : OM eB C R N L (fX11_rain C p0 p1) (fX12_rain R p0 p1) := by
  unfold fX11_rain fX12_rain fX11_rain_J20 fX11_rain_J21 fX12_rain_J19 fX12_rain_J39 fX12_rain_J44
  simp only [za_lt]
  rcases zones p0 with ⟨h1, h2⟩ | ⟨z, hz, rfl, h1, h2⟩
  · exact om_t (k := 1) (v := nI 1) h (by rw [h1, za_bnxl]) (by rw [h2, za_bnd, if_pos rfl, bad_1, za_bn2, if_neg za_n10]) rfl za_n10
  · rw [h1, za_bnx, h2, za_bnd, if_neg za_n10, bad_0, za_bn2, if_pos rfl]
    by_cases g : p1 < -1
    · exact om_t (k := 2) (v := nI 2) h (by rw [if_pos g, need_0, za_bnxl]) (by rw [if_pos g, bad_1, za_bn2, if_neg za_n10]) rfl (by decide +kernel)
    · by_cases g2 : nI 500 < p1
      · exact om_t (k := 2) (v := nI 2) h (by rw [if_neg g, if_pos g2, need_0, za_bnxl]) (by rw [if_neg g, if_neg (by grind), bad_1, za_bn2, if_neg za_n10]) rfl (by decide +kernel)
      · have hv : p1 = -1 ∨ ∃ r, r ≤ 500 ∧ p1 = nI r := by
          by_cases q : p1 < 0
          · left; grind
          · exact Or.inr (za_ofle (by omega) q (by grind))
        rw [if_neg g, if_neg g2, need_1, za_bnx, if_neg g, if_pos (by grind), bad_0, za_bn2, if_pos rfl]
        obtain ⟨k, k1, k2, hh⟩ := tell_sim (cnt := 1) (e := eB) h (by omega) (by omega) hz hv _ rfl
        have h133 : wr R 127 0 0 133 z = nI k := by rw [za_wra (by omega)]; exact k1
        rcases hh with ⟨q, hh⟩ | ⟨q, hh⟩
        · refine hh _ ?_
          have hne : ¬ nI k = nI 1000 := fun w => by have := za_inj (by omega) (by omega) w; omega
          rw [za_chk _ hz (by omega), nI_clamp (n := z) (by omega), h133, if_neg hne]
          exact (rain1 (fu := 99998) (R := wr R 127 0 0) hz h133).symm
        · refine hh _ ?_
          rw [za_chk _ hz (by omega), nI_clamp (by omega), h133, if_pos (by rw [show k = 1000 by omega])]
theorem c_rains (h : IV n t m C R N L) (p0 p1 p2 : Int32) : OM eB C R N L (fX11_rains C p0 p1 p2) (fX12_rains R p0 p1 p2) := by
  unfold fX11_rains fX12_rains fX11_rains_J31 fX11_rains_J32 fX12_rains_J19 fX12_rains_J50 fX12_rains_J55
  simp only [za_lt]
  rcases zones p0 with ⟨h1, h2⟩ | ⟨z, hz, rfl, h1, h2⟩
  · exact om_t (k := 1) (v := nI 1) h (by rw [h1, za_bnxl]) (by rw [h2, za_bnd, if_pos rfl, bad_1, za_bn2, if_neg za_n10]) rfl za_n10
  · rw [h1, za_bnx, h2, za_bnd, if_neg za_n10, bad_0, za_bn2, if_pos rfl]
    rcases rng 500 (by omega) p1 with g | ⟨g0, g⟩ | ⟨r, r1, rfl⟩
    · exact om_t (k := 2) (v := nI 2) h (by rw [if_pos g, need_0, za_bnxl]) (by rw [if_pos g, bad_1, za_bn2, if_neg za_n10]) rfl (by decide +kernel)
    · exact om_t (k := 2) (v := nI 2) h (by rw [if_neg g0, if_pos g, need_0, za_bnxl]) (by rw [if_neg g0, if_pos g, bad_1, za_bn2, if_neg za_n10]) rfl (by decide +kernel)
    · rw [if_neg (nI_pos (by omega)), if_neg (nI_nlt r1 (by omega)), if_neg (nI_pos (by omega)), if_neg (nI_nlt r1 (by omega))]
      rcases rng1 1000 (by omega) p2 with g | ⟨g0, g⟩ | ⟨cnt, j0, j1, rfl⟩
      · exact om_t (k := 2) (v := nI 2) h (by rw [if_pos g, need_0, za_bnxl]) (by rw [if_pos g, bad_1, za_bn2, if_neg za_n10]) rfl (by decide +kernel)
      · exact om_t (k := 2) (v := nI 2) h (by rw [if_neg g0, if_pos g, need_0, za_bnxl]) (by rw [if_neg g0, if_neg (by grind), bad_1, za_bn2, if_neg za_n10]) rfl (by decide +kernel)
      · rw [if_neg (nI_nlt (by omega) (by omega)), if_neg (nI_nlt j1 (by omega)), need_1, za_bnx, if_neg (nI_nlt (by omega) (by omega)), if_pos (nI_le j1 (by omega)), bad_0, za_bn2, if_pos rfl]
        obtain ⟨k, k1, k2, hh⟩ := tell_sim (cnt := cnt) (e := eB) h j0 j1 hz (Or.inr ⟨r, r1, rfl⟩) _ rfl
        have h133 : wr R 127 0 0 133 z = nI k := by rw [za_wra (by omega)]; exact k1
        rw [za_chk _ hz (by omega), nI_clamp (by omega), h133, nI_add]
        rcases hh with ⟨q, hh⟩ | ⟨q, hh⟩
        · exact hh _ (if_pos (nI_le q (by omega)))
        · exact hh _ (if_neg (fun z => q (by rw [nI_leI (by omega) (by omega)] at z; omega)))
end AJ
