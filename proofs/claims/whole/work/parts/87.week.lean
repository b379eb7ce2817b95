/-! ===== land, people, weeks ===== -/
section AH
variable {n t m p c : Nat} {C R : Mc} {N L : Md} {e : Nat → Int32}
theorem mil_ok : ∀ s, s < 10 → ∀ b, b < 2 → milI (nI s) (nI b) = nI (6 + 3 * b + (9 - s) / 3) := by decide +kernel
theorem c_land (h : IV n t m C R N L) (p0 p1 p2 : Int32) (hp2 : isZ p2) : OM eB C R N L (fX11_land C p0 p1 p2) (fX12_land R p0 p1 p2) := by
  unfold fX11_land fX12_land fX11_land_J18 fX11_land_J19 fX12_land_J19 fX12_land_J37 fX12_land_J42
  have ih := iv_thr (v := 0) h
  simp only [za_lt]
  rcases secs p0 with ⟨h1, h2⟩ | ⟨c, hc, rfl, h1, h2⟩
  · exact om_t (k := 1) (v := nI 1) h (by rw [h1, za_bnxl]) (by rw [h2, za_bnd, if_pos rfl, bad_1, za_bn2, if_neg za_n10]) rfl za_n10
  · rw [h1, za_bnx, h2, za_bnd, if_neg za_n10, bad_0, za_bn2, if_pos rfl]
    rcases rng 9 (by omega) p1 with g | ⟨g0, g⟩ | ⟨s, j1, rfl⟩
    · exact om_t (k := 2) (v := nI 2) h (by rw [if_pos g, need_0, za_bnxl]) (by rw [if_pos g, bad_1, za_bn2, if_neg za_n10]) rfl (by decide +kernel)
    · exact om_t (k := 2) (v := nI 2) h (by rw [if_neg g0, if_pos g, need_0, za_bnxl]) (by rw [if_neg g0, if_neg (by grind), bad_1, za_bn2, if_neg za_n10]) rfl (by decide +kernel)
    · obtain ⟨b, hb, rfl⟩ : ∃ b, b < 2 ∧ p2 = nI b := by
        rcases hp2 with rfl | rfl
        · exact ⟨0, by omega, rfl⟩
        · exact ⟨1, by omega, rfl⟩
      have hm := mil_ok s (by omega) b hb
      rw [if_neg (nI_pos (by omega)), if_neg (nI_nlt j1 (by omega)), need_1, za_bnx, if_neg (nI_pos (by omega)), if_pos (nI_le j1 (by omega)), bad_0, za_bn2, if_pos rfl, rx_hold ih.1 hc, za_bnd]
      have hsh : fX4_shape C (17 + 1) (nI c) (nI s) (nI b) = if C (17 + 5) c = 0 then some (nI 1, wr (wr C (17 + 2) c (nI s)) (17 + 4) c (nI (6 + 3 * b + (9 - s) / 3))) else some (0, C) := by
        unfold fX4_shape fX4_shape_J33
        rw [wf_wild hc, za_bnd, ite01]
        simp only [za_lt, za_chk _ hc (show 96 < 2 ^ 31 by omega), nI_clamp (show c < 2 ^ 31 by omega), narz hp2, ← hm]
        by_cases q : C (17 + 5) c = 0
        · rw [if_pos q, if_pos q]
          unfold milI
          by_cases qb : nI b = 0
          · rw [if_pos qb, if_pos qb]
          · rw [if_neg qb, if_neg qb]
        · rw [if_neg q, if_neg q]
      rw [hsh, narz hp2]
      by_cases q : C (17 + 5) c = 0
      · rw [if_pos q, if_pos q, za_bn2, if_neg za_n10]
        have hop := op_land (k := 6 + 3 * b + (9 - s) / 3) (nI b) hc j1 hp2 q ⟨by omega, by omega⟩ hm ih.1.1
        obtain ⟨_, g1, g2, g3, g4, g5⟩ := ih.1
        have ew : ∀ j', wr (wr C (17 + 2) c (nI s)) (17 + 4) c (nI (6 + 3 * b + (9 - s) / 3)) 17 j' = C 17 j' := fun j' => by rw [za_wra (by omega), za_wra (by omega)]
        have ec : ∀ k, k ≠ 17 + 2 → k ≠ 17 + 3 → k ≠ 17 + 4 → wr (wr C (17 + 2) c (nI s)) (17 + 4) c (nI (6 + 3 * b + (9 - s) / 3)) k = C k := fun k k1 k2 k3 => by rw [za_wrc k3, za_wrc k1]
        have er : ∀ k, k ≠ 128 → k ≠ 130 → k ≠ 131 → wr (wr (wr (wr R 127 0 0) 130 c (nI s)) 131 c (nI b)) 128 (8 * c + 7) 0 k = wr R 127 0 0 k := fun k k1 k2 k3 => by rw [za_wrc k1, za_wrc k3, za_wrc k2]
        have ep : ∀ k, 768 ≤ k → wr (wr (wr (wr R 127 0 0) 130 c (nI s)) 131 c (nI b)) 128 (8 * c + 7) 0 128 k = wr R 127 0 0 128 k := fun k k1 => by rw [za_wri (by omega), za_wra (by omega), za_wra (by omega)]
        have h2 : RV 17 n t n (ab t) (t / 52) m (wr (wr C (17 + 2) c (nI s)) (17 + 4) c (nI (6 + 3 * b + (9 - s) / 3))) (wr (wr (wr (wr R 127 0 0) 130 c (nI s)) 131 c (nI b)) 128 (8 * c + 7) 0) :=
          ⟨hop, (congrFun (ec _ (by omega) (by omega) (by omega)) _).trans g1, g2, BK_cg g3 (fun b hb => ec _ (by omega) (by omega) (by omega)) (fun b b1 b2 => er _ (by omega) (by omega) (by omega)), by unfold WT at *; rw [ew, ew, ew]; exact g4, g5⟩
        have hIV := iv_fg ih h2 (fun b hb => ec b (by omega) (by omega) (by omega)) (fun b hb => er b (by omega) (by omega) (by omega)) (fun j hj => ep j (by omega)) (IR_cg ih.2.2.2.1 (fun b _ _ => ec b (by omega) (by omega) (by omega)) (er 141 (by omega) (by omega) (by omega))) (IO_cg ih.2.2.2.2.1 (rw_n100 ih.1.1) (by rw [ec 32 (by omega) (by omega) (by omega)]) (ec 39 (by omega) (by omega) (by omega)) (ec 40 (by omega) (by omega) (by omega)) (ec 41 (by omega) (by omega) (by omega)) (fun j _ _ => ep j (by omega))) (IW_cg ih.2.2.2.2.2.2.2.2.1 (ec 59 (by omega) (by omega) (by omega)) (ec 60 (by omega) (by omega) (by omega)) (ec 61 (by omega) (by omega) (by omega)) (er 139 (by omega) (by omega) (by omega)) (fun l k hl _ => ep _ (by omega))) (by obtain ⟨z1, z2, z3⟩ := ih.2.2.2.2.2.2.2.2.2.2.2; exact ⟨(ew 10).trans z1, (ew 11).trans z2, (ew 12).trans z3⟩)
        refine om_v (b := nI 1) hIV rfl ?_ (fun a h1 h2 => ec a (by omega) (by omega) (by omega)) ((gr_wr GR2.rf (by omega)).tr (fun a h1 => er a (by omega) (by omega) (by omega))) (by rw [er 127 (by omega) (by omega) (by omega), za_wrs])
        rw [za_mul, nI_add, za_chk _ hc (by omega), za_chk _ hc (by omega), za_chk _ (by omega) (by omega), nI_clamp (n := c) (by omega), nI_clamp (by omega)]
      · rw [if_neg q, if_neg q, za_bn2, if_pos rfl]
        exact om_r (b := -1) h rfl rfl
/-- the class's rows are written -/
def rowsC (C : Mc) (t : Nat) : Mc := wr (wr (wr (wr (wr (wr (wr C 9 t (C (17 + 15) 1)) 10 t (C (17 + 1) 9)) 11 t (C 17 7)) 12 t (C 17 8)) 13 t (C (17 + 15) 2)) 14 t (C 17 9)) 15 t (C (17 + 37) 2)
theorem write_c (h6 : C 17 6 = nI (t + 1)) (ht : t < 1000) : fX0_write C 17 = some (rowsC C t) := by
  unfold fX0_write
  rw [h6, nis rfl, za_inY ht (by omega), za_bnd, if_neg za_n10]
  simp (disch := omega) only [za_chk, za_lt, za_wra, nI_clamp]
  rw [za_0]
  simp (disch := omega) only [za_chk, za_lt, za_wra, nI_clamp]
  rfl
theorem rowsC_o {b : Nat} (hb : b < 9 ∨ 15 < b) : rowsC C t b = C b := by
  unfold rowsC
  rw [za_wrc (by omega), za_wrc (by omega), za_wrc (by omega), za_wrc (by omega), za_wrc (by omega), za_wrc (by omega), za_wrc (by omega)]
theorem rowsC_r {k r : Nat} (hr : r ≠ t) : rowsC C t (9 + k) r = C (9 + k) r := by
  unfold rowsC
  rw [za_wri hr, za_wri hr, za_wri hr, za_wri hr, za_wri hr, za_wri hr, za_wri hr]
theorem rv_oth {w x a y : Nat} {C' : Mc} (h : RV w n t x a y m C R) (hc : ∀ b, 16 ≤ b → C' b = C b) : RV w n t x a y m C' R := by
  have hw := h.w17
  obtain ⟨⟨hA, hN, hS, hP, hH, hO, hC, hZ, hQ, hB, hL, hE, hq, hl⟩, g1, g2, g3, g4, g5⟩ := h
  have e : ∀ k, C' (w + k) = C (w + k) := fun k => hc _ (by omega)
  have e0 : C' w = C w := hc _ (by omega)
  refine ⟨⟨fun f i hf hi => by rw [e]; exact hA f i hf hi, ?_, ?_, ?_, ?_, ?_, ?_, ?_, ?_, ?_, ?_, ?_, ?_, ?_⟩, by rw [e]; exact g1, g2, BK_cg g3 (fun b hb => hc b (by omega)) (fun _ _ _ => rfl), by unfold WT at *; rw [e0]; exact g4, g5⟩
  · unfold WN at *; rw [e, e0]; exact hN
  · unfold WS at *; intro c hc'; simp only [e]; exact hS c hc'
  · unfold WP at *; intro c hc'; simp only [e]; exact hP c hc'
  · unfold WH at *; intro c hc'; simp only [e]; exact hH c hc'
  · unfold WO at *; intro c hc' hd'; simp only [e]; exact hO c hc' hd'
  · unfold WC at *; simp only [e]; exact hC
  · unfold WZ at *; intro c hc'; simp only [e]; exact hZ c hc'
  · unfold WQ at *; simp only [e]; exact hQ
  · unfold WB at *; simp only [e]; exact hB
  · unfold WL at *; simp only [e]; exact hL
  · unfold RE at *; intro c hc'; simp only [e]; exact hE c hc'
  · unfold RQ at *; simp only [e]; exact hq
  · unfold RY at *; simp only [e]; exact hl
theorem week_1 (h : IV n t m C R N L) (ht : t + 1 ≤ 1000) : ∃ C1 C' R', fX10_goOn C 17 = some C1 ∧ fX0_write C1 17 = some C' ∧ fX12_goes R = some R' ∧ IV n (t + 1) m C' R' N L ∧ GC C C' ∧ GR2 R R' ∧ R' 127 0 = R 127 0 := by
  obtain ⟨C1, R', i1, i2, i3, i4, i5, i6, i7⟩ := goOn_sim h.1 h.2.1 ht
  obtain ⟨r0, r1, r2, r3, r4, r5, r6⟩ := i6
  have eo : ∀ b, b < 9 ∨ 15 < b → rowsC C1 t b = C1 b := fun b hb => rowsC_o hb
  have hz := h.2.2.2.2.2.2.2.2.2.2.2
  have hwt : WT 17 C1 := i3.2.2.2.2.1
  refine ⟨C1, rowsC C1 t, R', i1, write_c i3.1.2.1.2.2.1 (by omega), i2, iv_fg h (rv_oth i3 (fun b hb => eo b (by omega))) (fun b hb => (eo b (by omega)).trans (i4.1 b (by omega))) (fun b hb => i5.1 b (by omega) (by omega) (by omega)) (fun j hj => i5.2 j (by unfold pz; omega)) (fun r hr => ?_) ?_ ?_ ?_, fun a h1 h2 => (eo a (by omega)).trans (i4.1 a (by omega)), fun a h1 => i5.1 a (by omega) (by omega) (by omega), by rw [i5.1 127 (by omega) (by omega) (by omega)]⟩
  · by_cases e : r = t
    · subst e
      refine ⟨fun k hk => ?_, ?_⟩
      · rcases (show k = 0 ∨ k = 1 ∨ k = 2 ∨ k = 3 ∨ k = 4 ∨ k = 5 ∨ k = 6 by omega) with rfl | rfl | rfl | rfl | rfl | rfl | rfl
        · refine r0.trans ?_; unfold rowsC; simp (disch := omega) only [za_wra, za_wrs]
        · refine r1.trans ?_; unfold rowsC; simp (disch := omega) only [za_wra, za_wrs]
        · refine r2.trans ?_; unfold rowsC; simp (disch := omega) only [za_wra, za_wrs]
        · refine r3.trans ?_; unfold rowsC; simp (disch := omega) only [za_wra, za_wrs]
        · refine r4.trans ?_; unfold rowsC; simp (disch := omega) only [za_wra, za_wrs]
        · refine r5.trans ?_; unfold rowsC; simp (disch := omega) only [za_wra, za_wrs]
        · refine r6.trans ?_; unfold rowsC; simp (disch := omega) only [za_wra, za_wrs]
      · rw [show rowsC C1 r 15 r = C1 (17 + 37) 2 by unfold rowsC; rw [za_wrs]]
        exact rv_bits i3
    · have := h.2.2.2.1 r (by omega)
      refine ⟨fun k hk => ?_, ?_⟩
      · rw [i7 _ (by omega), rowsC_r e, i4.1 _ (by omega)]; exact this.1 k hk
      · rw [show (15 : Nat) = 9 + 6 from rfl, rowsC_r e, i4.1 _ (by omega)]; exact this.2
  · exact IO_cg h.2.2.2.2.1 (rw_n100 h.1.1) (by rw [eo 32 (by omega)]; exact i4.2.2) ((eo 39 (by omega)).trans (i4.2.1 22 (by omega))) ((eo 40 (by omega)).trans (i4.2.1 23 (by omega))) ((eo 41 (by omega)).trans (i4.2.1 24 (by omega))) (fun j _ _ => i5.2 j (by unfold pz; omega))
  · exact IW_cg h.2.2.2.2.2.2.2.2.1 ((eo 59 (by omega)).trans (i4.2.1 42 (by omega))) ((eo 60 (by omega)).trans (i4.2.1 43 (by omega))) ((eo 61 (by omega)).trans (i4.2.1 44 (by omega))) (i5.1 139 (by omega) (by omega) (by omega)) (fun l k hl hk => i5.2 _ (by unfold pz; omega))
  · have e127 : R' 127 = R 127 := i5.1 127 (by omega) (by omega) (by omega)
    obtain ⟨z1, z2, z3⟩ := hz
    unfold IZ
    rw [eo 17 (by omega), ← ra_tp i3.1.1, ← ra_ts i3.1.1, ← ra_tr i3.1.1, e127, ra_tp h.1.1.1, ra_ts h.1.1.1, ra_tr h.1.1.1]
    exact ⟨z1, z2, z3⟩
theorem week_L {cnt : Nat} (hcnt : cnt ≤ 104) : ∀ k fu fr i t C R, i + k = cnt → k < fu → k < fr → t + k ≤ 1000 → IV n t m C R N L → ∃ C' R', fX11_week_L25 fu C (nI cnt) (nI i) = some (.inr (nI (t + k), C')) ∧ fX12_week_L61 fr R (nI cnt) (nI i) = some (nI (t + k), R') ∧ IV n (t + k) m C' R' N L ∧ GC C C' ∧ GR2 R R' ∧ R' 127 0 = R 127 0
  | k, 0, _, _, _, _, _, _, hf, _, _, _ => by omega
  | k, _, 0, _, _, _, _, _, _, hf, _, _ => by omega
  | 0, fu + 1, fr + 1, i, t, C, R, hi, _, _, ht, h => by
    obtain rfl : i = cnt := by omega
    rw [fX11_week_L25, fX12_week_L61, if_pos (nI_le (Nat.le_refl _) (by omega)), if_pos (nI_le (Nat.le_refl _) (by omega)), za_chk _ (by omega) (by omega), nI_clamp (by omega), rw_t h.1.1, iv_tc h]
    exact ⟨C, R, rfl, rfl, h, GC.rf, GR2.rf, rfl⟩
  | k + 1, fu + 1, fr + 1, i, t, C, R, hi, hf, hfr, ht, h => by
    obtain ⟨C1, C2, R2, i1, i2, i3, i4, i5, i6, i7⟩ := week_1 h (by omega)
    rw [fX11_week_L25, fX12_week_L61, if_neg (nI_ge (by omega) (by omega)), if_neg (nI_ge (by omega) (by omega)), i1, za_bnd, i2, za_bnd, i3, za_bnd, nI_add]
    obtain ⟨C', R', j1, j2, j3, j4, j5, j6⟩ := week_L hcnt k fu fr (i + 1) (t + 1) C2 R2 (by omega) (by omega) (by omega) (by omega) i4
    rw [show t + 1 + k = t + (k + 1) by omega] at j1 j2 j3
    exact ⟨C', R', j1, j2, j3, i5.tr j4, i6.tr j5, j6.trans i7⟩
theorem c_week (h : IV n t m C R N L) (p0 : Int32) : OM eA C R N L (fX11_week C p0) (fX12_week R p0) := by
  unfold fX11_week fX12_week fX11_week_J14 fX11_week_J15 fX12_week_J16 fX12_week_J21 fX12_week_J50 fX11_needWeeks
  have ih := iv_thr (v := 0) h
  have ht := iv_t h
  rcases rng 104 (by omega) p0 with g | ⟨g0, g⟩ | ⟨j, j1, rfl⟩
  · exact om_t (k := 2) (v := nI 1) h (by rw [if_pos g, need_0, za_bnxl]) (by rw [za_lt, if_pos g, bad_1, za_bn2, if_neg za_n10]) rfl za_n10
  · exact om_t (k := 2) (v := nI 1) h (by rw [if_neg g0, if_pos g, need_0, za_bnxl]) (by rw [za_lt, if_neg g0, if_neg (by grind), bad_1, za_bn2, if_neg za_n10]) rfl za_n10
  · rw [if_neg (nI_pos (by omega)), if_neg (nI_nlt j1 (by omega)), need_1, za_bnx, iv_tc h, nI_add, za_lt, if_neg (nI_pos (by omega)), if_pos (nI_le j1 (by omega)), bad_0, za_bn2, if_pos rfl, za_chk _ (by omega) (by omega), nI_clamp (by omega), rw_t ih.1.1, nI_add, bad_0, za_bn2, if_pos rfl]
    by_cases q : t + j ≤ 1000
    · rw [if_pos (nI_le q (by omega)), if_pos (nI_le q (by omega)), za_bnx]
      obtain ⟨C', R', j1, j2, j3, j4, j5, j6⟩ := week_L (cnt := j) j1 j FU FU 0 t C (wr R 127 0 0) (by omega) (by rw [za_FU]; omega) (by rw [za_FU]; omega) q ih
      rw [nI_0] at j1 j2
      exact om_v j3 j1 j2 j4 ((gr_wr GR2.rf (by omega)).tr j5) (by rw [j6, za_wrs])
    · have hn : ¬ nI (t + j) ≤ nI 1000 := fun z => q (by rw [nI_leI (by omega) (by omega)] at z; exact z)
      exact om_t (k := 3) (v := nI 2) h (by rw [if_neg hn, za_bnxl]) (by rw [if_neg hn, bad_1, za_bn2, if_neg za_n10]) rfl (by decide +kernel)
end AH
