/-! ===== what is tried leaves all as it was; lot ===== -/
section LT
variable {n t m x a y : Nat} {C R C' R' : Mc} {N L : Md} {w : Nat}
theorem rw_cc (h : RW w n t x a y C R) (hc : ∀ b, w ≤ b → b ≤ w + 44 → C' b = C b) : RW w n t x a y C' R := by
  obtain ⟨hA, hN, hS, hP, hH, hO, hC, hZ, hQ, hB, hL, hE, hq, hl⟩ := h
  refine ⟨fun f i hf hi => ?_, WN_cg hN ?_ ?_, WS_cg hS (fun k _ _ => hc _ (by omega) (by omega)), WP_cg hP (hc _ (by omega) (by omega)) (hc _ (by omega) (by omega)) (fun k _ _ => hc _ (by omega) (by omega)), WH_cg hH (hc _ (by omega) (by omega)) (hc _ (by omega) (by omega)) (fun k _ _ => hc _ (by omega) (by omega)), WO_cg hO (hc _ (by omega) (by omega)) (hc _ (by omega) (by omega)) (hc _ (by omega) (by omega)) (hc _ (by omega) (by omega)), WC_cg hC ?_ ?_ (hc _ (by omega) (by omega)) (hc _ (by omega) (by omega)), WZ_cg hZ (fun k _ _ => hc _ (by omega) (by omega)), WQ_cg hQ ?_ (fun k _ _ => hc _ (by omega) (by omega)), WB_cg hB ?_ (fun k _ _ => hc _ (by omega) (by omega)), WL_cg hL ?_ ?_ (hc _ (by omega) (by omega)), RE_cg hE (fun k _ _ => hc _ (by omega) (by omega)) (fun c hc0 => ⟨rfl, rfl, rfl⟩), RQ_cg hq (hc _ (by omega) (by omega)) (hc _ (by omega) (by omega)) (fun p hp i hi => rfl), RY_cg hl ?_ (hc _ (by omega) (by omega)) (hc _ (by omega) (by omega)) (fun l hl => ⟨rfl, rfl⟩)⟩
  · have h0 : fA f ≤ 39 := by
      clear hi
      revert f
      decide +kernel
    rw [hc _ (by omega) (by omega)]; exact hA f i hf hi
  all_goals exact congrFun (hc _ (by omega) (by omega)) _
theorem rw_rr (h : RW w n t x a y C R) (e128 : R' 128 = R 128) (e130 : R' 130 = R 130) (e131 : R' 131 = R 131) (h7 : R' 127 7 = R 127 7) (h23 : R' 127 23 = R 127 23) (h24 : R' 127 24 = R 127 24) : RW w n t x a y C R' := by
  obtain ⟨hA, hN, hS, hP, hH, hO, hC, hZ, hQ, hB, hL, hE, hq, hl⟩ := h
  refine ⟨fun f i hf hi => ?_, hN, hS, hP, hH, hO, hC, hZ, hQ, hB, hL, RE_cg hE (fun _ _ _ => rfl) (fun c _ => by rw [e128]; exact ⟨rfl, rfl, congrFun e131 c⟩), RQ_cg hq rfl rfl (fun _ _ _ _ => by rw [e128]), RY_cg hl rfl rfl rfl (fun _ _ => by rw [e128]; exact ⟨rfl, rfl⟩)⟩
  have h0 := hA f i hf hi
  have hcs : (fC f = 127 ∧ (f = 38 ∨ f = 39 ∨ f = 40)) ∨ fC f = 128 ∨ fC f = 130 ∨ fC f = 131 := by
    clear hi h0
    revert f
    decide +kernel
  rcases hcs with ⟨g1, rfl | rfl | rfl⟩ | g | g | g
  · have hi0 : i = 0 := by have : fN 38 = 1 := by decide
                           omega
    subst hi0
    exact h23.trans h0
  · have hi0 : i = 0 := by have : fN 39 = 1 := by decide
                           omega
    subst hi0
    exact h24.trans h0
  · have hi0 : i = 0 := by have : fN 40 = 1 := by decide
                           omega
    subst hi0
    exact h7.trans h0
  · rw [g, e128, ← g]; exact h0
  · rw [g, e130, ← g]; exact h0
  · rw [g, e131, ← g]; exact h0
/-- the class's other world is free -/
theorem iv_C (h : IV n t m C R N L) (hc : ∀ b, b < 64 ∨ 110 < b → C' b = C b) : IV n t m C' R N L := by
  obtain ⟨a1, a2, a3, a4, a5, a6, a7, a8, a9, a10, a11, a12⟩ := h
  obtain ⟨g1, g2, g3, g4, g5, g6⟩ := a1
  refine ⟨⟨rw_cc g1 (fun b h1 h2 => hc b (by omega)), by rw [hc _ (by omega)]; exact g2, g3, BK_cg g4 (fun b hb => hc b (by omega)) (fun _ _ _ => rfl), by unfold WT at *; rw [hc 17 (by omega)]; exact g5, g6⟩, ?_, ?_, ?_, ?_, ?_, ?_, ?_, ?_, ?_, ?_, ?_⟩
  · intro z hz; have := a2 z hz; rw [hc 7 (by omega), hc (3 + z) (by omega)]; exact this
  · unfold IH at *; rw [hc 0 (by omega)]; exact a3
  · intro r hr; have := a4 r hr
    exact ⟨fun k hk => by rw [hc _ (by omega)]; exact this.1 k hk, by rw [hc 15 (by omega)]; exact this.2⟩
  · unfold IO at *; rw [hc 32 (by omega), hc 39 (by omega), hc 40 (by omega), hc 41 (by omega)]; exact a5
  · unfold IT at *; rw [hc 111 (by omega), hc 112 (by omega), hc 113 (by omega)]; exact a6
  · unfold IP at *; rw [hc 0 (by omega), hc 123 (by omega)]; exact a7
  · rw [hc 0 (by omega)]; exact a8
  · unfold IW at *; rw [hc 59 (by omega), hc 60 (by omega), hc 61 (by omega)]; exact a9
  · unfold IC at *; rw [hc 0 (by omega), hc 124 (by omega), hc 125 (by omega)]; exact a10
  · unfold II at *; rw [hc 121 (by omega), hc 122 (by omega)]; exact a11
  · unfold IZ at *; rw [hc 17 (by omega)]; exact a12
/-- rows of weeks that are still to come are free -/
theorem iv_141 (h : IV n t m C R N L) (hr : ∀ b, b ≠ 141 → R' b = R b) (h3 : ∀ j, j < 7 * t → R' 141 j = R 141 j) : IV n t m C R' N L := by
  obtain ⟨a1, a2, a3, a4, a5, a6, a7, a8, a9, a10, a11, a12⟩ := h
  obtain ⟨g1, g2, g3, g4, g5, g6⟩ := a1
  refine ⟨⟨rw_rr g1 (hr _ (by omega)) (hr _ (by omega)) (hr _ (by omega)) (by rw [hr _ (by omega)]) (by rw [hr _ (by omega)]) (by rw [hr _ (by omega)]), g2, g3, BK_cg g4 (fun b hb => rfl) (fun b b1 b2 => hr b (by omega)), g5, g6⟩, ?_, ?_, ?_, ?_, ?_, ?_, ?_, ?_, ?_, ?_, a12⟩
  · intro z hz; have := a2 z hz; rw [hr 133 (by omega), hr 132 (by omega)]; exact this
  · unfold IH at *; rw [hr 128 (by omega)]; exact a3
  · intro r hr; have := a4 r hr
    exact ⟨fun k hk => by rw [h3 _ (by omega)]; exact this.1 k hk, this.2⟩
  · unfold IO at *; rw [hr 128 (by omega)]; exact a5
  · unfold IT at *; rw [hr 128 (by omega)]; exact a6
  · unfold IP at *; rw [hr 127 (by omega), hr 134 (by omega)]; exact a7
  · rw [hr 127 (by omega)]; exact a8
  · unfold IW at *; rw [hr 128 (by omega), hr 139 (by omega)]; exact a9
  · unfold IC at *; rw [hr 127 (by omega), hr 142 (by omega), hr 143 (by omega)]; exact a10
  · unfold II at *; rw [hr 127 (by omega), hr 144 (by omega)]; exact a11
/-- all as it was behind what was tried -/
theorem iv_tr (h : IV n t m C R N L) (hc : ∀ b, b < 64 ∨ 110 < b → C' b = C b) (hr : ∀ b, b ≠ 127 → b ≠ 129 → b ≠ 140 → b ≠ 141 → R' b = R b) (h2 : ∀ j, j = 7 ∨ j = 9 ∨ j = 13 ∨ j = 23 ∨ j = 24 ∨ j = 28 ∨ j = 29 ∨ j = 31 → R' 127 j = R 127 j) (h3 : ∀ j, j < 7 * t → R' 141 j = R 141 j) : IV n t m C' R' N L := by
  have s1 : IV n t m C (fun b => if b = 141 then R 141 else R' b) N L := iv_R h (fun b b1 b2 b3 => by
    by_cases e : b = 141
    · subst e; exact if_pos rfl
    · show (if b = 141 then R 141 else R' b) = R b
      rw [if_neg e]; exact hr b b1 b2 b3 e) (fun j hj => by
    show (if 127 = 141 then R 141 else R' 127) j = R 127 j
    rw [if_neg (by omega)]; exact h2 j hj)
  refine iv_C (iv_141 s1 (fun b hb => ?_) (fun j hj => ?_)) hc
  · exact (if_neg hb).symm
  · show R' 141 j = (if 141 = 141 then R 141 else R' 141) j
    rw [if_pos rfl]; exact h3 j hj
theorem idle_L {mp : Nat} (hmp : mp ≤ 4) (h : RV w n t x a y m C R) (hm : C (w + 27) 0 = nI mp) : ∀ k fu fr i, i + k = mp → k < fu → k < fr → (fX5_idle_L2 (w + 27) fu C (nI i) = some (nI 1) ∧ fX12_isQueued_L2 fr R (nI i) = some 0) ∨ (fX5_idle_L2 (w + 27) fu C (nI i) = some 0 ∧ fX12_isQueued_L2 fr R (nI i) = some (nI 1) ∧ ∃ p, p < 4 ∧ C (w + 30) p ≠ 0)
  | k, 0, _, _, _, hf, _ => by omega
  | k, _, 0, _, _, _, hf => by omega
  | 0, fu + 1, fr + 1, i, hi, _, _ => by
    obtain rfl : i = mp := by omega
    left
    rw [fX5_idle_L2, fX12_isQueued_L2, hm, if_pos (nI_le (Nat.le_refl _) (by omega)), za_chk (n := 2127) _ (by omega) (by omega), nI_clamp (n := 2127) (by omega), ra_pn h.1.1, hm, if_pos (nI_le (Nat.le_refl _) (by omega))]
    exact ⟨rfl, rfl⟩
  | k + 1, fu + 1, fr + 1, i, hi, hf, hfr => by
    have hi4 : i < 4 := by omega
    obtain ⟨_, q, _, _, q1, q2, _⟩ := rw_q h.1 hi4
    have e : C (w + 27 + 3) i = nI q := q2
    have eR : R 128 (1720 + 15 * i + 2) = nI q := (ra_wait h.1.1 hi4).trans q2
    rw [fX5_idle_L2, fX12_isQueued_L2, hm, if_neg (nI_ge (by omega) (by omega)), if_neg (nI_ge (by omega) (by omega)), za_chk (n := 2127) _ (by omega) (by omega), nI_clamp (n := 2127) (by omega), ra_pn h.1.1, hm, if_neg (nI_ge (by omega) (by omega)), za_chk _ hi4 (by omega), nI_clamp (n := i) (by omega), e, za_mul, nI_add, nI_add, nI_add, za_chk (n := 1720 + 15 * i + 2) _ (by omega) (by omega), nI_clamp (n := 1720 + 15 * i + 2) (by omega), eR]
    by_cases q0 : q = 0
    · rw [if_pos ((za_le0 (by omega)).mpr q0), if_pos ((za_le0 (by omega)).mpr q0)]
      exact idle_L hmp h hm k fu fr (i + 1) (by omega) (by omega) (by omega)
    · right
      rw [if_neg (fun z => q0 ((za_le0 (by omega)).mp z)), if_neg (fun z => q0 ((za_le0 (by omega)).mp z))]
      exact ⟨rfl, rfl, i, hi4, fun z => q0 ((za_eq0 (by omega)).mp (q2.symm.trans z))⟩
theorem idle_eq (h : RV w n t x a y m C R) : (fX5_idle C (w + 27) = some (nI 1) ∧ fX12_isQueued R = some 0) ∨ (fX5_idle C (w + 27) = some 0 ∧ fX12_isQueued R = some (nI 1) ∧ ∃ p, p < 4 ∧ C (w + 30) p ≠ 0) := by
  obtain ⟨mp, m1, m2, m3⟩ := h.1.2.2.2.2.2.2.2.2.1
  unfold fX5_idle fX12_isQueued
  rw [za_0]
  exact idle_L m1 h m2 mp FU FU 0 (by omega) (by rw [za_FU]; omega) (by rw [za_FU]; omega)
theorem j71 {c : Nat} {v : Int32} (h : RV w n t x a y m C R) (hc : c < 96) : fX12_lot_J71 R (nI c) v = bnd (fX12_back R) fun M => some (if C (w + 5) c = 0 then -1 else v, M) := by
  unfold fX12_lot_J71 fX12_lot_J85
  rw [rx_hold h hc, za_bnd]
  by_cases q : C (w + 5) c = 0
  · rw [if_pos q, if_pos q]; simp only [if_true]
  · rw [if_neg q, if_neg q]; simp only [if_neg za_n10]
theorem lot_L {c : Nat} (hc : c < 96) : ∀ B fu fr i C R, i + B ≤ 999 → B < fu → B + 1 < fr → RV 64 n t n a y m C R → C (64 + 5) c = 0 → (∀ p, p < 4 → meP 64 C p ≤ B) → ∃ v C' R', fX10_weeksTillLot_L15 64 fu C (nI c) (nI (i + 1)) = some (v, C') ∧ fX12_lot_L45 fr R (nI c) (nI i) = (bnd (fX12_back R') fun M => some (v, M)) ∧ FC 64 C C' ∧ FD R R'
  | B, 0, _, _, _, _, _, hf, _, _, _, _ => by omega
  | B, _, 0, _, _, _, _, _, hf, _, _, _ => by omega
  | B, fu + 1, fr + 1, i, C, R, hi, hf, hfr, h, h0, hB => by
    rw [fX10_weeksTillLot_L15, fX12_lot_L45, if_neg (nI_nlt (by omega) (by omega)), rx_hold h hc, za_bnd, if_pos h0]
    rcases idle_eq h with ⟨e1, e2⟩ | ⟨e1, e2, p, p4, pq⟩
    · rw [e1, za_bnd, if_neg za_n10, e2, za_bnd, if_pos rfl, j71 h hc, if_pos h0]
      exact ⟨_, _, _, rfl, rfl, FC.rf, FD.rf⟩
    · obtain ⟨C1, R1, i1, i2, i3, i4, i5, i6, i7, i8⟩ := out_sm h
      rw [e1, za_bnd, if_pos rfl, e2, za_bnd, if_neg za_n10, i1, za_bnd, i2, za_bnd, wf_wild hc, za_bnd, ite01, nI_add, nI_add]
      by_cases q : C1 (64 + 5) c = 0
      · rw [if_pos q]
        cases B with
        | zero =>
          have := hB p p4
          unfold meP at this
          rw [if_neg pq] at this
          omega
        | succ B =>
          obtain ⟨v, C2, R2, j1, j2, j3, j4⟩ := lot_L hc B fu fr (i + 1) C1 R1 (by omega) (by omega) (by omega) i3 q (fun p' hp' => by
            have g1 := i8 p' hp'; have g2 := hB p' hp'; omega)
          exact ⟨v, C2, R2, j1, j2, i4.tr j3, i5.tr j4⟩
      · rw [if_neg q]
        cases fr with
        | zero => omega
        | succ fr =>
          rw [fX12_lot_L45, rx_hold i3 hc, za_bnd, if_neg q, j71 i3 hc, if_neg q]
          exact ⟨_, _, _, rfl, rfl, i4, i5⟩
theorem c_lot (h : IV n t m C R N L) (p0 : Int32) : OM eB C R N L (fX11_lot C p0) (fX12_lot R p0) := by
  unfold fX11_lot fX12_lot fX12_lot_J19 fX10_weeksTillLot
  have ih := iv_thr (v := 0) h
  rw [za_lt]
  rcases secs p0 with ⟨h1, h2⟩ | ⟨c, hc, rfl, h1, h2⟩
  · exact om_t (k := 1) (v := nI 1) h (by rw [h1, za_bnxl]) (by rw [h2, za_bnd, if_pos rfl, bad_1, za_bn2, if_neg za_n10]) rfl za_n10
  · obtain ⟨C1, c1, c2, c3, _⟩ := rv_copy ih
    have gc1 : GC C C1 := fun b h1 h2 => c2 b (by omega)
    rw [h1, za_bnx, h2, za_bnd, if_neg za_n10, bad_0, za_bn2, if_pos rfl, rx_hold ih.1 hc, za_bnd, c1, za_bnd, wf_wild hc, za_bnd, ite01]
    have e5 : C1 (64 + 5) c = C (17 + 5) c := by rw [← ra_hold c3.1.1 hc, ← ra_hold ih.1.1.1 hc]
    rw [e5]
    by_cases q : C (17 + 5) c = 0
    · rw [if_pos q, if_pos q]
      obtain ⟨R1, r1, r2, r3⟩ := saves_c (wr R 127 0 0)
      rw [r1, za_bnd]
      have c3' : RV 64 n t n (ab t) (t / 52) m C1 R1 := by
        obtain ⟨g1, g2, g3, g4, g5, g6⟩ := c3
        exact ⟨rw_rr g1 (r2 _ (by omega)) (r2 _ (by omega)) (r2 _ (by omega)) (by rw [r2 _ (by omega)]) (by rw [r2 _ (by omega)]) (by rw [r2 _ (by omega)]), g2, g3, BK_cg g4 (fun _ _ => rfl) (fun b b1 b2 => r2 b (by omega)), g5, g6⟩
      obtain ⟨v, C2, R2, l1, l2, l3, l4⟩ := lot_L hc 372 FU FU 0 C1 R1 (by omega) (by rw [za_FU]; omega) (by rw [za_FU]; omega) c3' (by rw [e5]; exact q) (fun p hp => me_le c3'.1 hp)
      obtain ⟨R3, b1, b2, b3, b4⟩ := back_c R2
      rw [l1, za_bn2, show nI 0 = (0 : Int32) from nI_0] at *
      rw [l2, b1, za_bnd]
      refine om_v (b := v) (C' := C2) (iv_tr (C' := C2) (R' := R3) ih (fun b hb => (l3.1 b (by omega)).trans (c2 b (by omega))) (fun b b1 b2' b3' b4' => ?_) (fun j hj => ?_) (fun j hj => ?_)) rfl rfl (fun b h1 h2 => (l3.1 b (by omega)).trans (c2 b (by omega))) (fun b hb => ?_) ?_
      · by_cases e : b = 128
        · subst e
          funext j
          by_cases hj : j < 2132
          · rw [b3 j hj, l4.1 129 (by omega) (by omega), r3 j hj]
          · rw [b4 j (by omega), l4.2 j (by unfold pz; omega), r2 128 (by omega)]
        · rw [b2 b e, l4.1 b e b3', r2 b b2']
      · rw [b2 127 (by omega), l4.1 127 (by omega) (by omega), r2 127 (by omega)]
      · rw [b2 141 (by omega), l4.1 141 (by omega) (by omega), r2 141 (by omega)]
      · rw [b2 b (by omega), l4.1 b (by omega) (by omega), r2 b (by omega), za_wrc (by omega)]
      · rw [b2 127 (by omega), l4.1 127 (by omega) (by omega), r2 127 (by omega), za_wrs]
    · rw [if_neg q, if_neg q, za_bn2]
      exact om_v (b := 0) (iv_C ih c2) rfl rfl gc1 (gr_wr GR2.rf (by omega)) (za_wrs _ _ _ _)
end LT
