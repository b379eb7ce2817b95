/-! ===== steps of the calls: ships ===== -/
theorem op_sail {w n t x a y : Nat} {C R : Mc} {p : Nat} (v : Int32) (hp : p < n) (hn : n ≤ 100) (h1 : C (w + 18) p = 0) (h : RW w n t x a y C R) : RW w n t x a y (wr (wr C (w + 18) p (nI 1)) (w + 26) p v) (wr (wr R 128 (768 + 8 * p + 2) (nI 1)) 128 (768 + 8 * p + 5) v) := by
  obtain ⟨hA, hN, hS, hP, hH, hO, hC, hZ, hQ, hB, hL, hE, hq, hl⟩ := h
  have e18 : (wr (wr C (w + 18) p (nI 1)) (w + 26) p v) (w + 18) = up1 (C (w + 18)) p (nI 1) := by simp (disch := omega) only [up1_2, za_wrf, za_wrc, za_wra, za_wri]
  have e19 : (wr (wr C (w + 18) p (nI 1)) (w + 26) p v) (w + 19) = C (w + 19) := by simp (disch := omega) only [up1_2, za_wrf, za_wrc, za_wra, za_wri]
  have e16 : (wr (wr C (w + 18) p (nI 1)) (w + 26) p v) (w + 16) = C (w + 16) := by simp (disch := omega) only [up1_2, za_wrf, za_wrc, za_wra, za_wri]
  have e17 : (wr (wr C (w + 18) p (nI 1)) (w + 26) p v) (w + 17) = C (w + 17) := by simp (disch := omega) only [up1_2, za_wrf, za_wrc, za_wra, za_wri]
  have e20 : (wr (wr C (w + 18) p (nI 1)) (w + 26) p v) (w + 20) = C (w + 20) := by simp (disch := omega) only [up1_2, za_wrf, za_wrc, za_wra, za_wri]
  have e21 : (wr (wr C (w + 18) p (nI 1)) (w + 26) p v) (w + 21) = C (w + 21) := by simp (disch := omega) only [up1_2, za_wrf, za_wrc, za_wra, za_wri]
  have e5 : (wr (wr C (w + 18) p (nI 1)) (w + 26) p v) (w + 5) = C (w + 5) := by simp (disch := omega) only [up1_2, za_wrf, za_wrc, za_wra, za_wri]
  have e6 : (wr (wr C (w + 18) p (nI 1)) (w + 26) p v) (w + 6) = C (w + 6) := by simp (disch := omega) only [up1_2, za_wrf, za_wrc, za_wra, za_wri]
  refine ⟨?_, ?_, ?_, ?_, ?_, ?_, ?_, ?_, ?_, ?_, ?_, ?_, ?_, ?_⟩
  · intro f i hf hi
    have h0 := hA f i hf hi
    simp only [rc_st (show p < 100 by omega) hf hi, rr_st (show p < 100 by omega) hf hi, rc_land (show p < 100 by omega) hf hi, rr_land (show p < 100 by omega) hf hi]
    grind
  · exact WN_cg hN (by first | rfl | simp (disch := omega) only [za_wra, za_wri, za_wrc]) (by first | rfl | simp (disch := omega) only [za_wra, za_wri, za_wrc])
  · exact WS_cg hS (fun k h1 h2 => by first | rfl | simp (disch := omega) only [za_wra, za_wri, za_wrc])
  · intro q hq
    obtain ⟨s, i1, i2, i3⟩ := hP q hq
    rw [e18, e19, e16, e17, e5, e6]
    by_cases e : q = p
    · subst e
      obtain rfl : s = 0 := st_eq (by have := i2.1; omega) (by omega) i1 (h1.trans nI_0.symm)
      exact ⟨1, by rw [up1_s], ⟨by omega, i2.2.1, i2.2.2.1, fun h => absurd h (by decide), fun _ => i2.2.2.2.2 (by omega)⟩, ⟨fun h => absurd h (by decide), fun h => absurd (i3.mpr h) (by decide)⟩⟩
    · refine ⟨s, by rw [up1_o e]; exact i1, ⟨i2.1, i2.2.1, i2.2.2.1, fun h3 => ?_, i2.2.2.2.2⟩, i3⟩
      obtain ⟨y', hy, hy1, hy2⟩ := i2.2.2.2.1 h3
      refine ⟨y', hy, hy1, hy2.imp (fun h4 => ?_) id⟩
      by_cases ey : y' = p
      · subst ey; rw [h1] at h4; exact absurd h4 (by decide +kernel)
      · rw [up1_o ey]; exact h4
  · intro q hq
    obtain ⟨i1, i2⟩ := hH q hq
    rw [e18, e19, e20, e21, e5, e6]
    refine ⟨i1.trans (congrArg nI (cn_con n _ _ (fun k hk => ?_))), i2⟩
    unfold hirP
    by_cases e : k = p
    · subst e
      rw [up1_s, h1, decide_eq_false (fun h => absurd h.1 (by decide +kernel)), decide_eq_false (fun h => absurd h.1 (by decide +kernel))]
    · rw [up1_o e]
  · exact WO_cg hO (by first | rfl | simp (disch := omega) only [za_wra, za_wri, za_wrc]) (by first | rfl | simp (disch := omega) only [za_wra, za_wri, za_wrc]) (by first | rfl | simp (disch := omega) only [za_wra, za_wri, za_wrc]) (by first | rfl | simp (disch := omega) only [za_wra, za_wri, za_wrc])
  · obtain ⟨i1, i2⟩ := hC
    refine ⟨?_, by rw [e5]; simp (disch := omega) only [za_wra, za_wri, za_wrc]; exact i2⟩
    rw [e18]
    refine Eq.trans (by simp (disch := omega) only [za_wra, za_wri, za_wrc]) (i1.trans (congrArg nI (cn_con n _ _ (fun k hk => ?_))))
    by_cases e : k = p
    · subst e
      rw [her_s]; unfold herP; rw [h1]; decide +kernel
    · rw [her_o e]
  · exact WZ_cg hZ (fun k h1 h2 => by first | rfl | simp (disch := omega) only [za_wra, za_wri, za_wrc])
  · exact WQ_cg hQ (by first | rfl | simp (disch := omega) only [za_wra, za_wri, za_wrc]) (fun k h1 h2 => by first | rfl | simp (disch := omega) only [za_wra, za_wri, za_wrc])
  · exact WB_cg hB (by first | rfl | simp (disch := omega) only [za_wra, za_wri, za_wrc]) (fun k h1 h2 => by first | rfl | simp (disch := omega) only [za_wra, za_wri, za_wrc])
  · exact WL_cg hL (by first | rfl | simp (disch := omega) only [za_wra, za_wri, za_wrc]) (by first | rfl | simp (disch := omega) only [za_wra, za_wri, za_wrc]) (by first | rfl | simp (disch := omega) only [za_wra, za_wri, za_wrc])
  · exact RE_cg hE (fun k h1 h2 => by first | rfl | simp (disch := omega) only [za_wra, za_wri, za_wrc]) (fun c0 hc0 => ⟨by first | rfl | simp (disch := omega) only [za_wra, za_wri, za_wrc], by first | rfl | simp (disch := omega) only [za_wra, za_wri, za_wrc], by first | rfl | simp (disch := omega) only [za_wra, za_wri, za_wrc]⟩)
  · exact RQ_cg hq (by first | rfl | simp (disch := omega) only [za_wra, za_wri, za_wrc]) (by first | rfl | simp (disch := omega) only [za_wra, za_wri, za_wrc]) (fun p0 hp0 i0 hi0 => by first | rfl | simp (disch := omega) only [za_wra, za_wri, za_wrc])
  · exact RY_cg hl (by first | rfl | simp (disch := omega) only [za_wra, za_wri, za_wrc]) (by first | rfl | simp (disch := omega) only [za_wra, za_wri, za_wrc]) (by first | rfl | simp (disch := omega) only [za_wra, za_wri, za_wrc]) (fun l0 hl0 => ⟨by first | rfl | simp (disch := omega) only [za_wra, za_wri, za_wrc], by first | rfl | simp (disch := omega) only [za_wra, za_wri, za_wrc]⟩)

