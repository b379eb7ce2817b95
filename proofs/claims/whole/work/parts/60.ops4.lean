/-! ===== steps: landing, laws, bills, rain ===== -/
theorem op_board {w n t x a y : Nat} {C R : Mc} {p : Nat} (hp : p < n) (hn : n ≤ 100) (h1 : C (w + 18) p = nI 1) (h : RW w n t x a y C R) : RW w n t x a y (wr (wr C (w + 18) p (nI 2)) (w + 15) 1 (C (w + 15) 1 + nI 1)) (wr R 128 (768 + 8 * p + 2) (nI 2)) := by
  obtain ⟨hA, hN, hS, hP, hH, hO, hC, hZ, hQ, hB, hL, hE, hq, hl⟩ := h
  have e18 : (wr (wr C (w + 18) p (nI 2)) (w + 15) 1 (C (w + 15) 1 + nI 1)) (w + 18) = up1 (C (w + 18)) p (nI 2) := by simp (disch := omega) only [up1_2, za_wrf, za_wrc, za_wra, za_wri]
  have e19 : (wr (wr C (w + 18) p (nI 2)) (w + 15) 1 (C (w + 15) 1 + nI 1)) (w + 19) = C (w + 19) := by simp (disch := omega) only [up1_2, za_wrf, za_wrc, za_wra, za_wri]
  have e16 : (wr (wr C (w + 18) p (nI 2)) (w + 15) 1 (C (w + 15) 1 + nI 1)) (w + 16) = C (w + 16) := by simp (disch := omega) only [up1_2, za_wrf, za_wrc, za_wra, za_wri]
  have e17 : (wr (wr C (w + 18) p (nI 2)) (w + 15) 1 (C (w + 15) 1 + nI 1)) (w + 17) = C (w + 17) := by simp (disch := omega) only [up1_2, za_wrf, za_wrc, za_wra, za_wri]
  have e20 : (wr (wr C (w + 18) p (nI 2)) (w + 15) 1 (C (w + 15) 1 + nI 1)) (w + 20) = C (w + 20) := by simp (disch := omega) only [up1_2, za_wrf, za_wrc, za_wra, za_wri]
  have e21 : (wr (wr C (w + 18) p (nI 2)) (w + 15) 1 (C (w + 15) 1 + nI 1)) (w + 21) = C (w + 21) := by simp (disch := omega) only [up1_2, za_wrf, za_wrc, za_wra, za_wri]
  have e5 : (wr (wr C (w + 18) p (nI 2)) (w + 15) 1 (C (w + 15) 1 + nI 1)) (w + 5) = C (w + 5) := by simp (disch := omega) only [up1_2, za_wrf, za_wrc, za_wra, za_wri]
  have e6 : (wr (wr C (w + 18) p (nI 2)) (w + 15) 1 (C (w + 15) 1 + nI 1)) (w + 6) = C (w + 6) := by simp (disch := omega) only [up1_2, za_wrf, za_wrc, za_wra, za_wri]
  refine ⟨?_, ?_, ?_, ?_, ?_, ?_, ?_, ?_, ?_, ?_, ?_, ?_, ?_, ?_⟩
  · intro f i hf hi
    have h0 := hA f i hf hi
    simp only [rj_here hf hi, rc_st (show p < 100 from by omega) hf hi, rr_st (show p < 100 from by omega) hf hi]
    grind
  · exact WN_cg hN (by first | rfl | simp (disch := omega) only [za_wra, za_wri, za_wrc]) (by first | rfl | simp (disch := omega) only [za_wra, za_wri, za_wrc])
  · exact WS_cg hS (fun k h1 h2 => by first | rfl | simp (disch := omega) only [za_wra, za_wri, za_wrc])
  · intro q hq
    obtain ⟨s, i1, i2, i3⟩ := hP q hq
    rw [e18, e19, e16, e17, e5, e6]
    by_cases e : q = p
    · subst e
      obtain rfl : s = 1 := st_eq (by have := i2.1; omega) (by omega) i1 h1
      exact ⟨2, by rw [up1_s], ⟨by omega, i2.2.1, i2.2.2.1, fun h => absurd h (by decide), fun _ => i2.2.2.2.2 (by omega)⟩, ⟨fun h => absurd h (by decide), fun h => absurd (i3.mpr h) (by decide)⟩⟩
    · refine ⟨s, by rw [up1_o e]; exact i1, ⟨i2.1, i2.2.1, i2.2.2.1, fun h3 => ?_, i2.2.2.2.2⟩, i3⟩
      obtain ⟨y', hy, hy1, hy2⟩ := i2.2.2.2.1 h3
      refine ⟨y', hy, hy1, hy2.imp (fun h4 => ?_) id⟩
      by_cases ey : y' = p
      · subst ey; exact absurd (st_eq (by omega) (by omega) h1 h4) (by decide)
      · rw [up1_o ey]; exact h4
  · intro q hq
    obtain ⟨i1, i2⟩ := hH q hq
    rw [e18, e19, e20, e21, e5, e6]
    refine ⟨i1.trans (congrArg nI (cn_con n _ _ (fun k hk => ?_))), i2⟩
    unfold hirP
    by_cases e : k = p
    · subst e
      rw [up1_s, h1, decide_eq_false (fun h => absurd h.1 (by decide +kernel)), decide_eq_false (fun h => absurd h.1 (by decide +kernel))]
    · rw [up1_o e]
  · exact WO_cg hO (by first | rfl | simp (disch := omega) only [za_wra, za_wri, za_wrc]) (by first | rfl | simp (disch := omega) only [za_wra, za_wri, za_wrc]) (by first | rfl | simp (disch := omega) only [za_wra, za_wri, za_wrc]) (by first | rfl | simp (disch := omega) only [za_wra, za_wri, za_wrc])
  · obtain ⟨i1, i2⟩ := hC
    refine ⟨?_, by rw [e5]; simp (disch := omega) only [za_wra, za_wri, za_wrc]; exact i2⟩
    rw [e18, za_wrs, i1, nI_add]
    exact congrArg nI (cn_inc n _ _ p hp (by rw [her_n h1 (by omega)]; rfl) (by rw [her_s]; decide +kernel) (fun k hk e => (her_o e).symm)).symm
  · exact WZ_cg hZ (fun k h1 h2 => by first | rfl | simp (disch := omega) only [za_wra, za_wri, za_wrc])
  · exact WQ_cg hQ (by first | rfl | simp (disch := omega) only [za_wra, za_wri, za_wrc]) (fun k h1 h2 => by first | rfl | simp (disch := omega) only [za_wra, za_wri, za_wrc])
  · exact WB_cg hB (by first | rfl | simp (disch := omega) only [za_wra, za_wri, za_wrc]) (fun k h1 h2 => by first | rfl | simp (disch := omega) only [za_wra, za_wri, za_wrc])
  · exact WL_cg hL (by first | rfl | simp (disch := omega) only [za_wra, za_wri, za_wrc]) (by first | rfl | simp (disch := omega) only [za_wra, za_wri, za_wrc]) (by first | rfl | simp (disch := omega) only [za_wra, za_wri, za_wrc])
  · exact RE_cg hE (fun k h1 h2 => by first | rfl | simp (disch := omega) only [za_wra, za_wri, za_wrc]) (fun c0 hc0 => ⟨by first | rfl | simp (disch := omega) only [za_wra, za_wri, za_wrc], by first | rfl | simp (disch := omega) only [za_wra, za_wri, za_wrc], by first | rfl | simp (disch := omega) only [za_wra, za_wri, za_wrc]⟩)
  · exact RQ_cg hq (by first | rfl | simp (disch := omega) only [za_wra, za_wri, za_wrc]) (by first | rfl | simp (disch := omega) only [za_wra, za_wri, za_wrc]) (fun p0 hp0 i0 hi0 => by first | rfl | simp (disch := omega) only [za_wra, za_wri, za_wrc])
  · exact RY_cg hl (by first | rfl | simp (disch := omega) only [za_wra, za_wri, za_wrc]) (by first | rfl | simp (disch := omega) only [za_wra, za_wri, za_wrc]) (by first | rfl | simp (disch := omega) only [za_wra, za_wri, za_wrc]) (fun l0 hl0 => ⟨by first | rfl | simp (disch := omega) only [za_wra, za_wri, za_wrc], by first | rfl | simp (disch := omega) only [za_wra, za_wri, za_wrc]⟩)

theorem op_law3 {w n t x a y : Nat} {C R : Mc} {l : Nat} (hl12 : l < 12) (h2 : C (w + 38) l = nI 2) (h : RW w n t x a y C R) : RW w n t x a y (wr C (w + 38) l (nI 3)) (wr R 128 (1568 + 6 * l) (nI 3)) := by
  obtain ⟨hA, hN, hS, hP, hH, hO, hC, hZ, hQ, hB, hL, hE, hq, hl⟩ := h
  refine ⟨?_, ?_, ?_, ?_, ?_, ?_, ?_, ?_, ?_, ?_, ?_, ?_, ?_, ?_⟩
  · intro f i hf hi
    have h0 := hA f i hf hi
    simp only [rc_lst hl12 hf hi, rr_lst hl12 hf hi]
    grind
  · exact WN_cg hN (by first | rfl | simp (disch := omega) only [za_wra, za_wri, za_wrc]) (by first | rfl | simp (disch := omega) only [za_wra, za_wri, za_wrc])
  · exact WS_cg hS (fun k h1 h2 => by first | rfl | simp (disch := omega) only [za_wra, za_wri, za_wrc])
  · exact WP_cg hP (by first | rfl | simp (disch := omega) only [za_wra, za_wri, za_wrc]) (by first | rfl | simp (disch := omega) only [za_wra, za_wri, za_wrc]) (fun k h1 h2 => by first | rfl | simp (disch := omega) only [za_wra, za_wri, za_wrc])
  · exact WH_cg hH (by first | rfl | simp (disch := omega) only [za_wra, za_wri, za_wrc]) (by first | rfl | simp (disch := omega) only [za_wra, za_wri, za_wrc]) (fun k h1 h2 => by first | rfl | simp (disch := omega) only [za_wra, za_wri, za_wrc])
  · exact WO_cg hO (by first | rfl | simp (disch := omega) only [za_wra, za_wri, za_wrc]) (by first | rfl | simp (disch := omega) only [za_wra, za_wri, za_wrc]) (by first | rfl | simp (disch := omega) only [za_wra, za_wri, za_wrc]) (by first | rfl | simp (disch := omega) only [za_wra, za_wri, za_wrc])
  · exact WC_cg hC (by first | rfl | simp (disch := omega) only [za_wra, za_wri, za_wrc]) (by first | rfl | simp (disch := omega) only [za_wra, za_wri, za_wrc]) (by first | rfl | simp (disch := omega) only [za_wra, za_wri, za_wrc]) (by first | rfl | simp (disch := omega) only [za_wra, za_wri, za_wrc])
  · exact WZ_cg hZ (fun k h1 h2 => by first | rfl | simp (disch := omega) only [za_wra, za_wri, za_wrc])
  · exact WQ_cg hQ (by first | rfl | simp (disch := omega) only [za_wra, za_wri, za_wrc]) (fun k h1 h2 => by first | rfl | simp (disch := omega) only [za_wra, za_wri, za_wrc])
  · exact WB_cg hB (by first | rfl | simp (disch := omega) only [za_wra, za_wri, za_wrc]) (fun k h1 h2 => by first | rfl | simp (disch := omega) only [za_wra, za_wri, za_wrc])
  · obtain ⟨m, i1, i2, i3, i4⟩ := hL
    refine ⟨m, i1, by rw [za_wra (by omega)]; exact i2, ?_, fun l' hl' => ?_⟩
    · rw [za_wra (by omega), za_wrf, i3]
      refine congrArg nI (mk_con m (fun l' hl' => ?_))
      by_cases e : l' = l
      · subst e; rw [up1_s, h2]; exact ⟨fun _ => Or.inr rfl, fun _ => Or.inl rfl⟩
      · rw [up1_o e]
    · by_cases e : l' = l
      · subst e
        rw [za_wrs]
        exact ⟨⟨3, by omega, rfl⟩, fun hm => absurd ((i4 l' hl').2 hm) (by rw [h2]; decide +kernel)⟩
      · rw [za_wri e]; exact i4 l' hl' 
  · exact RE_cg hE (fun k h1 h2 => by first | rfl | simp (disch := omega) only [za_wra, za_wri, za_wrc]) (fun c0 hc0 => ⟨by first | rfl | simp (disch := omega) only [za_wra, za_wri, za_wrc], by first | rfl | simp (disch := omega) only [za_wra, za_wri, za_wrc], by first | rfl | simp (disch := omega) only [za_wra, za_wri, za_wrc]⟩)
  · exact RQ_cg hq (by first | rfl | simp (disch := omega) only [za_wra, za_wri, za_wrc]) (by first | rfl | simp (disch := omega) only [za_wra, za_wri, za_wrc]) (fun p0 hp0 i0 hi0 => by first | rfl | simp (disch := omega) only [za_wra, za_wri, za_wrc])
  · exact RY_cg hl (by first | rfl | simp (disch := omega) only [za_wra, za_wri, za_wrc]) (by first | rfl | simp (disch := omega) only [za_wra, za_wri, za_wrc]) (by first | rfl | simp (disch := omega) only [za_wra, za_wri, za_wrc]) (fun l0 hl0 => ⟨by first | rfl | simp (disch := omega) only [za_wra, za_wri, za_wrc], by first | rfl | simp (disch := omega) only [za_wra, za_wri, za_wrc]⟩)

theorem op_law4 {w n t x a y : Nat} {C R : Mc} {l : Nat} (hl12 : l < 12) (h2 : C (w + 38) l = nI 2) (h : RW w n t x a y C R) : RW w n t x a y (wr (wr C (w + 38) l (nI 4)) (w + 37) 2 (C (w + 37) 2 &&& (((nI 1) <<< (nI l &&& 31)) ^^^ (-1)))) (wr R 128 (1568 + 6 * l) (nI 4)) := by
  obtain ⟨hA, hN, hS, hP, hH, hO, hC, hZ, hQ, hB, hL, hE, hq, hl⟩ := h
  refine ⟨?_, ?_, ?_, ?_, ?_, ?_, ?_, ?_, ?_, ?_, ?_, ?_, ?_, ?_⟩
  · intro f i hf hi
    have h0 := hA f i hf hi
    simp only [rj_mask hf hi, rc_lst hl12 hf hi, rr_lst hl12 hf hi]
    grind
  · exact WN_cg hN (by first | rfl | simp (disch := omega) only [za_wra, za_wri, za_wrc]) (by first | rfl | simp (disch := omega) only [za_wra, za_wri, za_wrc])
  · exact WS_cg hS (fun k h1 h2 => by first | rfl | simp (disch := omega) only [za_wra, za_wri, za_wrc])
  · exact WP_cg hP (by first | rfl | simp (disch := omega) only [za_wra, za_wri, za_wrc]) (by first | rfl | simp (disch := omega) only [za_wra, za_wri, za_wrc]) (fun k h1 h2 => by first | rfl | simp (disch := omega) only [za_wra, za_wri, za_wrc])
  · exact WH_cg hH (by first | rfl | simp (disch := omega) only [za_wra, za_wri, za_wrc]) (by first | rfl | simp (disch := omega) only [za_wra, za_wri, za_wrc]) (fun k h1 h2 => by first | rfl | simp (disch := omega) only [za_wra, za_wri, za_wrc])
  · exact WO_cg hO (by first | rfl | simp (disch := omega) only [za_wra, za_wri, za_wrc]) (by first | rfl | simp (disch := omega) only [za_wra, za_wri, za_wrc]) (by first | rfl | simp (disch := omega) only [za_wra, za_wri, za_wrc]) (by first | rfl | simp (disch := omega) only [za_wra, za_wri, za_wrc])
  · exact WC_cg hC (by first | rfl | simp (disch := omega) only [za_wra, za_wri, za_wrc]) (by first | rfl | simp (disch := omega) only [za_wra, za_wri, za_wrc]) (by first | rfl | simp (disch := omega) only [za_wra, za_wri, za_wrc]) (by first | rfl | simp (disch := omega) only [za_wra, za_wri, za_wrc])
  · exact WZ_cg hZ (fun k h1 h2 => by first | rfl | simp (disch := omega) only [za_wra, za_wri, za_wrc])
  · exact WQ_cg hQ (by first | rfl | simp (disch := omega) only [za_wra, za_wri, za_wrc]) (fun k h1 h2 => by first | rfl | simp (disch := omega) only [za_wra, za_wri, za_wrc])
  · exact WB_cg hB (by first | rfl | simp (disch := omega) only [za_wra, za_wri, za_wrc]) (fun k h1 h2 => by first | rfl | simp (disch := omega) only [za_wra, za_wri, za_wrc])
  · obtain ⟨m, i1, i2, i3, i4⟩ := hL
    have hlm : l < m := by
      by_cases q : l < m
      · exact q
      · exact absurd ((i4 l hl12).2 (by omega)) (by rw [h2]; decide +kernel)
    have hsub := mk_sub (f := C (w + 38)) (l := l) (v := nI 4) (Or.inl h2) (by decide +kernel) m hlm
    refine ⟨m, i1, by rw [za_wri (by omega), za_wra (by omega)]; exact i2, ?_, fun l' hl' => ?_⟩
    · rw [za_wrs, i3, (bit_ok (mk_4096 i1) hl12).2.1 ((mk_bit i1).mpr ⟨hlm, Or.inl h2⟩), za_wrc (by omega), za_wrf]
      refine congrArg nI ?_
      omega
    · rw [za_wra (by omega)]
      by_cases e : l' = l
      · subst e
        rw [za_wrs]
        exact ⟨⟨4, by omega, rfl⟩, fun hm => absurd hm (by omega)⟩
      · rw [za_wri e]; exact i4 l' hl' 
  · exact RE_cg hE (fun k h1 h2 => by first | rfl | simp (disch := omega) only [za_wra, za_wri, za_wrc]) (fun c0 hc0 => ⟨by first | rfl | simp (disch := omega) only [za_wra, za_wri, za_wrc], by first | rfl | simp (disch := omega) only [za_wra, za_wri, za_wrc], by first | rfl | simp (disch := omega) only [za_wra, za_wri, za_wrc]⟩)
  · exact RQ_cg hq (by first | rfl | simp (disch := omega) only [za_wra, za_wri, za_wrc]) (by first | rfl | simp (disch := omega) only [za_wra, za_wri, za_wrc]) (fun p0 hp0 i0 hi0 => by first | rfl | simp (disch := omega) only [za_wra, za_wri, za_wrc])
  · exact RY_cg hl (by first | rfl | simp (disch := omega) only [za_wra, za_wri, za_wrc]) (by first | rfl | simp (disch := omega) only [za_wra, za_wri, za_wrc]) (by first | rfl | simp (disch := omega) only [za_wra, za_wri, za_wrc]) (fun l0 hl0 => ⟨by first | rfl | simp (disch := omega) only [za_wra, za_wri, za_wrc], by first | rfl | simp (disch := omega) only [za_wra, za_wri, za_wrc]⟩)

theorem op_bst {w n t x a y : Nat} {C R : Mc} {b s : Nat} (hb : b < 20) (hs : s ≤ 3) (hbm : ∀ m, m ≤ 20 → C (w + 32) 0 = nI m → b < m) (h : RW w n t x a y C R) : RW w n t x a y (wr C (w + 35) b (nI s)) (wr R 128 (1640 + 4 * b + 2) (nI s)) := by
  obtain ⟨hA, hN, hS, hP, hH, hO, hC, hZ, hQ, hB, hL, hE, hq, hl⟩ := h
  refine ⟨?_, ?_, ?_, ?_, ?_, ?_, ?_, ?_, ?_, ?_, ?_, ?_, ?_, ?_⟩
  · intro f i hf hi
    have h0 := hA f i hf hi
    simp only [rc_bst hb hf hi, rr_bst hb hf hi]
    grind
  · exact WN_cg hN (by first | rfl | simp (disch := omega) only [za_wra, za_wri, za_wrc]) (by first | rfl | simp (disch := omega) only [za_wra, za_wri, za_wrc])
  · exact WS_cg hS (fun k h1 h2 => by first | rfl | simp (disch := omega) only [za_wra, za_wri, za_wrc])
  · exact WP_cg hP (by first | rfl | simp (disch := omega) only [za_wra, za_wri, za_wrc]) (by first | rfl | simp (disch := omega) only [za_wra, za_wri, za_wrc]) (fun k h1 h2 => by first | rfl | simp (disch := omega) only [za_wra, za_wri, za_wrc])
  · exact WH_cg hH (by first | rfl | simp (disch := omega) only [za_wra, za_wri, za_wrc]) (by first | rfl | simp (disch := omega) only [za_wra, za_wri, za_wrc]) (fun k h1 h2 => by first | rfl | simp (disch := omega) only [za_wra, za_wri, za_wrc])
  · exact WO_cg hO (by first | rfl | simp (disch := omega) only [za_wra, za_wri, za_wrc]) (by first | rfl | simp (disch := omega) only [za_wra, za_wri, za_wrc]) (by first | rfl | simp (disch := omega) only [za_wra, za_wri, za_wrc]) (by first | rfl | simp (disch := omega) only [za_wra, za_wri, za_wrc])
  · exact WC_cg hC (by first | rfl | simp (disch := omega) only [za_wra, za_wri, za_wrc]) (by first | rfl | simp (disch := omega) only [za_wra, za_wri, za_wrc]) (by first | rfl | simp (disch := omega) only [za_wra, za_wri, za_wrc]) (by first | rfl | simp (disch := omega) only [za_wra, za_wri, za_wrc])
  · exact WZ_cg hZ (fun k h1 h2 => by first | rfl | simp (disch := omega) only [za_wra, za_wri, za_wrc])
  · exact WQ_cg hQ (by first | rfl | simp (disch := omega) only [za_wra, za_wri, za_wrc]) (fun k h1 h2 => by first | rfl | simp (disch := omega) only [za_wra, za_wri, za_wrc])
  · obtain ⟨m, i1, i2, i3⟩ := hB
    refine ⟨m, i1, ?_, fun b' hb' => ?_⟩
    · refine Eq.trans ?_ i2
      simp (disch := omega) only [za_wra, za_wri, za_wrc]
    · obtain ⟨j1, j2, j3, j4⟩ := i3 b' hb'
      simp (disch := omega) only [za_wrc (k := w + 36), za_wrc (k := w + 32), za_wra]
      by_cases e : b' = b
      · subst e
        rw [za_wrs]
        exact ⟨j1, j2, ⟨s, by omega, rfl⟩, fun hm => absurd hm (by have := hbm m i1 i2; omega)⟩
      · rw [za_wri e]; exact ⟨j1, j2, j3, j4⟩
  · exact WL_cg hL (by first | rfl | simp (disch := omega) only [za_wra, za_wri, za_wrc]) (by first | rfl | simp (disch := omega) only [za_wra, za_wri, za_wrc]) (by first | rfl | simp (disch := omega) only [za_wra, za_wri, za_wrc])
  · exact RE_cg hE (fun k h1 h2 => by first | rfl | simp (disch := omega) only [za_wra, za_wri, za_wrc]) (fun c0 hc0 => ⟨by first | rfl | simp (disch := omega) only [za_wra, za_wri, za_wrc], by first | rfl | simp (disch := omega) only [za_wra, za_wri, za_wrc], by first | rfl | simp (disch := omega) only [za_wra, za_wri, za_wrc]⟩)
  · exact RQ_cg hq (by first | rfl | simp (disch := omega) only [za_wra, za_wri, za_wrc]) (by first | rfl | simp (disch := omega) only [za_wra, za_wri, za_wrc]) (fun p0 hp0 i0 hi0 => by first | rfl | simp (disch := omega) only [za_wra, za_wri, za_wrc])
  · exact RY_cg hl (by first | rfl | simp (disch := omega) only [za_wra, za_wri, za_wrc]) (by first | rfl | simp (disch := omega) only [za_wra, za_wri, za_wrc]) (by first | rfl | simp (disch := omega) only [za_wra, za_wri, za_wrc]) (fun l0 hl0 => ⟨by first | rfl | simp (disch := omega) only [za_wra, za_wri, za_wrc], by first | rfl | simp (disch := omega) only [za_wra, za_wri, za_wrc]⟩)

theorem op_bdue {w n t x a y : Nat} {C R : Mc} {b : Nat} (v : Int32) (hb : b < 20) (h : RW w n t x a y C R) : RW w n t x a y (wr C (w + 36) b v) (wr R 128 (1640 + 4 * b + 3) v) := by
  obtain ⟨hA, hN, hS, hP, hH, hO, hC, hZ, hQ, hB, hL, hE, hq, hl⟩ := h
  refine ⟨?_, ?_, ?_, ?_, ?_, ?_, ?_, ?_, ?_, ?_, ?_, ?_, ?_, ?_⟩
  · intro f i hf hi
    have h0 := hA f i hf hi
    simp only [rc_bdue hb hf hi, rr_bdue hb hf hi]
    grind
  · exact WN_cg hN (by first | rfl | simp (disch := omega) only [za_wra, za_wri, za_wrc]) (by first | rfl | simp (disch := omega) only [za_wra, za_wri, za_wrc])
  · exact WS_cg hS (fun k h1 h2 => by first | rfl | simp (disch := omega) only [za_wra, za_wri, za_wrc])
  · exact WP_cg hP (by first | rfl | simp (disch := omega) only [za_wra, za_wri, za_wrc]) (by first | rfl | simp (disch := omega) only [za_wra, za_wri, za_wrc]) (fun k h1 h2 => by first | rfl | simp (disch := omega) only [za_wra, za_wri, za_wrc])
  · exact WH_cg hH (by first | rfl | simp (disch := omega) only [za_wra, za_wri, za_wrc]) (by first | rfl | simp (disch := omega) only [za_wra, za_wri, za_wrc]) (fun k h1 h2 => by first | rfl | simp (disch := omega) only [za_wra, za_wri, za_wrc])
  · exact WO_cg hO (by first | rfl | simp (disch := omega) only [za_wra, za_wri, za_wrc]) (by first | rfl | simp (disch := omega) only [za_wra, za_wri, za_wrc]) (by first | rfl | simp (disch := omega) only [za_wra, za_wri, za_wrc]) (by first | rfl | simp (disch := omega) only [za_wra, za_wri, za_wrc])
  · exact WC_cg hC (by first | rfl | simp (disch := omega) only [za_wra, za_wri, za_wrc]) (by first | rfl | simp (disch := omega) only [za_wra, za_wri, za_wrc]) (by first | rfl | simp (disch := omega) only [za_wra, za_wri, za_wrc]) (by first | rfl | simp (disch := omega) only [za_wra, za_wri, za_wrc])
  · exact WZ_cg hZ (fun k h1 h2 => by first | rfl | simp (disch := omega) only [za_wra, za_wri, za_wrc])
  · exact WQ_cg hQ (by first | rfl | simp (disch := omega) only [za_wra, za_wri, za_wrc]) (fun k h1 h2 => by first | rfl | simp (disch := omega) only [za_wra, za_wri, za_wrc])
  · obtain ⟨m, i1, i2, i3⟩ := hB
    refine ⟨m, i1, by rw [za_wra (by omega)]; exact i2, fun b' hb' => ?_⟩
    rw [za_wra (by omega), za_wra (by omega), za_wra (by omega)]; exact i3 b' hb' 
  · exact WL_cg hL (by first | rfl | simp (disch := omega) only [za_wra, za_wri, za_wrc]) (by first | rfl | simp (disch := omega) only [za_wra, za_wri, za_wrc]) (by first | rfl | simp (disch := omega) only [za_wra, za_wri, za_wrc])
  · exact RE_cg hE (fun k h1 h2 => by first | rfl | simp (disch := omega) only [za_wra, za_wri, za_wrc]) (fun c0 hc0 => ⟨by first | rfl | simp (disch := omega) only [za_wra, za_wri, za_wrc], by first | rfl | simp (disch := omega) only [za_wra, za_wri, za_wrc], by first | rfl | simp (disch := omega) only [za_wra, za_wri, za_wrc]⟩)
  · exact RQ_cg hq (by first | rfl | simp (disch := omega) only [za_wra, za_wri, za_wrc]) (by first | rfl | simp (disch := omega) only [za_wra, za_wri, za_wrc]) (fun p0 hp0 i0 hi0 => by first | rfl | simp (disch := omega) only [za_wra, za_wri, za_wrc])
  · exact RY_cg hl (by first | rfl | simp (disch := omega) only [za_wra, za_wri, za_wrc]) (by first | rfl | simp (disch := omega) only [za_wra, za_wri, za_wrc]) (by first | rfl | simp (disch := omega) only [za_wra, za_wri, za_wrc]) (fun l0 hl0 => ⟨by first | rfl | simp (disch := omega) only [za_wra, za_wri, za_wrc], by first | rfl | simp (disch := omega) only [za_wra, za_wri, za_wrc]⟩)

theorem op_yr {w n t x a y : Nat} {C R : Mc} {z k : Nat} (hz : z < 4) (hk : k ≤ a) (h : RW w n t x a y C R) : RW w n t x a y (wr C (w + 12) z (nI k)) (wr R 128 (2104 + z) (nI k)) := by
  obtain ⟨hA, hN, hS, hP, hH, hO, hC, hZ, hQ, hB, hL, hE, hq, hl⟩ := h
  refine ⟨?_, ?_, ?_, ?_, ?_, ?_, ?_, ?_, ?_, ?_, ?_, ?_, ?_, ?_⟩
  · intro f i hf hi
    have h0 := hA f i hf hi
    simp only [rc_yr hz hf hi, rr_yr hz hf hi]
    grind
  · exact WN_cg hN (by first | rfl | simp (disch := omega) only [za_wra, za_wri, za_wrc]) (by first | rfl | simp (disch := omega) only [za_wra, za_wri, za_wrc])
  · exact WS_cg hS (fun k h1 h2 => by first | rfl | simp (disch := omega) only [za_wra, za_wri, za_wrc])
  · exact WP_cg hP (by first | rfl | simp (disch := omega) only [za_wra, za_wri, za_wrc]) (by first | rfl | simp (disch := omega) only [za_wra, za_wri, za_wrc]) (fun k h1 h2 => by first | rfl | simp (disch := omega) only [za_wra, za_wri, za_wrc])
  · exact WH_cg hH (by first | rfl | simp (disch := omega) only [za_wra, za_wri, za_wrc]) (by first | rfl | simp (disch := omega) only [za_wra, za_wri, za_wrc]) (fun k h1 h2 => by first | rfl | simp (disch := omega) only [za_wra, za_wri, za_wrc])
  · exact WO_cg hO (by first | rfl | simp (disch := omega) only [za_wra, za_wri, za_wrc]) (by first | rfl | simp (disch := omega) only [za_wra, za_wri, za_wrc]) (by first | rfl | simp (disch := omega) only [za_wra, za_wri, za_wrc]) (by first | rfl | simp (disch := omega) only [za_wra, za_wri, za_wrc])
  · exact WC_cg hC (by first | rfl | simp (disch := omega) only [za_wra, za_wri, za_wrc]) (by first | rfl | simp (disch := omega) only [za_wra, za_wri, za_wrc]) (by first | rfl | simp (disch := omega) only [za_wra, za_wri, za_wrc]) (by first | rfl | simp (disch := omega) only [za_wra, za_wri, za_wrc])
  · intro z' hz'
    obtain ⟨j1, j2, j3⟩ := hZ z' hz'
    rw [za_wra (a := w + 13) (by omega), za_wra (a := w + 14) (by omega)]
    refine ⟨?_, j2, j3⟩
    by_cases e : z' = z
    · subst e; exact ⟨k, hk, za_wrs _ _ _ _⟩
    · rw [za_wri e]; exact j1
  · exact WQ_cg hQ (by first | rfl | simp (disch := omega) only [za_wra, za_wri, za_wrc]) (fun k h1 h2 => by first | rfl | simp (disch := omega) only [za_wra, za_wri, za_wrc])
  · exact WB_cg hB (by first | rfl | simp (disch := omega) only [za_wra, za_wri, za_wrc]) (fun k h1 h2 => by first | rfl | simp (disch := omega) only [za_wra, za_wri, za_wrc])
  · exact WL_cg hL (by first | rfl | simp (disch := omega) only [za_wra, za_wri, za_wrc]) (by first | rfl | simp (disch := omega) only [za_wra, za_wri, za_wrc]) (by first | rfl | simp (disch := omega) only [za_wra, za_wri, za_wrc])
  · exact RE_cg hE (fun k h1 h2 => by first | rfl | simp (disch := omega) only [za_wra, za_wri, za_wrc]) (fun c0 hc0 => ⟨by first | rfl | simp (disch := omega) only [za_wra, za_wri, za_wrc], by first | rfl | simp (disch := omega) only [za_wra, za_wri, za_wrc], by first | rfl | simp (disch := omega) only [za_wra, za_wri, za_wrc]⟩)
  · exact RQ_cg hq (by first | rfl | simp (disch := omega) only [za_wra, za_wri, za_wrc]) (by first | rfl | simp (disch := omega) only [za_wra, za_wri, za_wrc]) (fun p0 hp0 i0 hi0 => by first | rfl | simp (disch := omega) only [za_wra, za_wri, za_wrc])
  · exact RY_cg hl (by first | rfl | simp (disch := omega) only [za_wra, za_wri, za_wrc]) (by first | rfl | simp (disch := omega) only [za_wra, za_wri, za_wrc]) (by first | rfl | simp (disch := omega) only [za_wra, za_wri, za_wrc]) (fun l0 hl0 => ⟨by first | rfl | simp (disch := omega) only [za_wra, za_wri, za_wrc], by first | rfl | simp (disch := omega) only [za_wra, za_wri, za_wrc]⟩)

theorem op_sy {w n t x a y : Nat} {C R : Mc} {z k r : Nat} (hz : z < 4) (hk : k ≤ y) (hr : r ≤ 26500 * y) (h : RW w n t x a y C R) : RW w n t x a y (wr (wr C (w + 13) z (nI k)) (w + 14) z (nI r)) (wr (wr R 128 (2108 + z) (nI k)) 128 (2112 + z) (nI r)) := by
  obtain ⟨hA, hN, hS, hP, hH, hO, hC, hZ, hQ, hB, hL, hE, hq, hl⟩ := h
  refine ⟨?_, ?_, ?_, ?_, ?_, ?_, ?_, ?_, ?_, ?_, ?_, ?_, ?_, ?_⟩
  · intro f i hf hi
    have h0 := hA f i hf hi
    simp only [rc_sy hz hf hi, rr_sy hz hf hi, rc_sr hz hf hi, rr_sr hz hf hi]
    grind
  · exact WN_cg hN (by first | rfl | simp (disch := omega) only [za_wra, za_wri, za_wrc]) (by first | rfl | simp (disch := omega) only [za_wra, za_wri, za_wrc])
  · exact WS_cg hS (fun k h1 h2 => by first | rfl | simp (disch := omega) only [za_wra, za_wri, za_wrc])
  · exact WP_cg hP (by first | rfl | simp (disch := omega) only [za_wra, za_wri, za_wrc]) (by first | rfl | simp (disch := omega) only [za_wra, za_wri, za_wrc]) (fun k h1 h2 => by first | rfl | simp (disch := omega) only [za_wra, za_wri, za_wrc])
  · exact WH_cg hH (by first | rfl | simp (disch := omega) only [za_wra, za_wri, za_wrc]) (by first | rfl | simp (disch := omega) only [za_wra, za_wri, za_wrc]) (fun k h1 h2 => by first | rfl | simp (disch := omega) only [za_wra, za_wri, za_wrc])
  · exact WO_cg hO (by first | rfl | simp (disch := omega) only [za_wra, za_wri, za_wrc]) (by first | rfl | simp (disch := omega) only [za_wra, za_wri, za_wrc]) (by first | rfl | simp (disch := omega) only [za_wra, za_wri, za_wrc]) (by first | rfl | simp (disch := omega) only [za_wra, za_wri, za_wrc])
  · exact WC_cg hC (by first | rfl | simp (disch := omega) only [za_wra, za_wri, za_wrc]) (by first | rfl | simp (disch := omega) only [za_wra, za_wri, za_wrc]) (by first | rfl | simp (disch := omega) only [za_wra, za_wri, za_wrc]) (by first | rfl | simp (disch := omega) only [za_wra, za_wri, za_wrc])
  · intro z' hz'
    obtain ⟨j1, j2, j3⟩ := hZ z' hz'
    rw [za_wra (by omega), za_wra (by omega), za_wra (a := w + 13) (by omega)]
    refine ⟨j1, ?_, ?_⟩
    · by_cases e : z' = z
      · subst e; exact ⟨k, hk, za_wrs _ _ _ _⟩
      · rw [za_wri e]; exact j2
    · by_cases e : z' = z
      · subst e; exact ⟨r, hr, za_wrs _ _ _ _⟩
      · rw [za_wri e, za_wra (by omega)]; exact j3
  · exact WQ_cg hQ (by first | rfl | simp (disch := omega) only [za_wra, za_wri, za_wrc]) (fun k h1 h2 => by first | rfl | simp (disch := omega) only [za_wra, za_wri, za_wrc])
  · exact WB_cg hB (by first | rfl | simp (disch := omega) only [za_wra, za_wri, za_wrc]) (fun k h1 h2 => by first | rfl | simp (disch := omega) only [za_wra, za_wri, za_wrc])
  · exact WL_cg hL (by first | rfl | simp (disch := omega) only [za_wra, za_wri, za_wrc]) (by first | rfl | simp (disch := omega) only [za_wra, za_wri, za_wrc]) (by first | rfl | simp (disch := omega) only [za_wra, za_wri, za_wrc])
  · exact RE_cg hE (fun k h1 h2 => by first | rfl | simp (disch := omega) only [za_wra, za_wri, za_wrc]) (fun c0 hc0 => ⟨by first | rfl | simp (disch := omega) only [za_wra, za_wri, za_wrc], by first | rfl | simp (disch := omega) only [za_wra, za_wri, za_wrc], by first | rfl | simp (disch := omega) only [za_wra, za_wri, za_wrc]⟩)
  · exact RQ_cg hq (by first | rfl | simp (disch := omega) only [za_wra, za_wri, za_wrc]) (by first | rfl | simp (disch := omega) only [za_wra, za_wri, za_wrc]) (fun p0 hp0 i0 hi0 => by first | rfl | simp (disch := omega) only [za_wra, za_wri, za_wrc])
  · exact RY_cg hl (by first | rfl | simp (disch := omega) only [za_wra, za_wri, za_wrc]) (by first | rfl | simp (disch := omega) only [za_wra, za_wri, za_wrc]) (by first | rfl | simp (disch := omega) only [za_wra, za_wri, za_wrc]) (fun l0 hl0 => ⟨by first | rfl | simp (disch := omega) only [za_wra, za_wri, za_wrc], by first | rfl | simp (disch := omega) only [za_wra, za_wri, za_wrc]⟩)

