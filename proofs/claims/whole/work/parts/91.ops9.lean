/-! ===== steps of the calls: laws ===== -/
theorem op_close1 {w n t x a y : Nat} {C R : Mc} {l : Nat} (v : Int32) (hl12 : l < 12) (hlm : ∀ m, m ≤ 12 → C (w + 37) 1 = nI m → l < m) (h0 : C (w + 38) l = 0) (h : RW w n t x a y C R) : RW w n t x a y (wr (wr C (w + 38) l (nI 1)) (w + 39) l v) (wr (wr R 128 (1568 + 6 * l) (nI 1)) 128 (1568 + 6 * l + 3) v) := by
  obtain ⟨hA, hN, hS, hP, hH, hO, hC, hZ, hQ, hB, hL, hE, hq, hl⟩ := h
  refine ⟨?_, ?_, ?_, ?_, ?_, ?_, ?_, ?_, ?_, ?_, ?_, ?_, ?_, ?_⟩
  · intro f i hf hi
    have h0 := hA f i hf hi
    simp only [rc_lst hl12 hf hi, rr_lst hl12 hf hi, rc_lsin hl12 hf hi, rr_lsin hl12 hf hi]
    grind
  · exact WN_cg hN (by first | rfl | simp (disch := omega) only [za_wra, za_wri, za_wrc]) (by first | rfl | simp (disch := omega) only [za_wra, za_wri, za_wrc])
  · exact WS_cg hS (fun k h1 h2 => by first | rfl | simp (disch := omega) only [za_wra, za_wri, za_wrc])
  · exact WP_cg hP (by first | rfl | simp (disch := omega) only [za_wra, za_wri, za_wrc]) (by first | rfl | simp (disch := omega) only [za_wra, za_wri, za_wrc]) (fun k h1 h2 => by first | rfl | simp (disch := omega) only [za_wra, za_wri, za_wrc])
  · exact WH_cg hH (by first | rfl | simp (disch := omega) only [za_wra, za_wri, za_wrc]) (by first | rfl | simp (disch := omega) only [za_wra, za_wri, za_wrc]) (fun k h1 h2 => by first | rfl | simp (disch := omega) only [za_wra, za_wri, za_wrc])
  · exact WO_cg hO (by first | rfl | simp (disch := omega) only [za_wra, za_wri, za_wrc]) (by first | rfl | simp (disch := omega) only [za_wra, za_wri, za_wrc]) (by first | rfl | simp (disch := omega) only [za_wra, za_wri, za_wrc]) (by first | rfl | simp (disch := omega) only [za_wra, za_wri, za_wrc])
  · exact WC_cg hC (by first | rfl | simp (disch := omega) only [za_wra, za_wri, za_wrc]) (by first | rfl | simp (disch := omega) only [za_wra, za_wri, za_wrc]) (by first | rfl | simp (disch := omega) only [za_wra, za_wri, za_wrc]) (by first | rfl | simp (disch := omega) only [za_wra, za_wri, za_wrc])
  · exact WZ_cg hZ (fun k h1 h2 => by first | rfl | simp (disch := omega) only [za_wra, za_wri, za_wrc])
  · exact WQ_cg hQ (by first | rfl | simp (disch := omega) only [za_wra, za_wri, za_wrc]) (fun k h1 h2 => by first | rfl | simp (disch := omega) only [za_wra, za_wri, za_wrc])
  · exact WB_cg hB (by first | rfl | simp (disch := omega) only [za_wra, za_wri, za_wrc]) (fun k h1 h2 => by first | rfl | simp (disch := omega) only [za_wra, za_wri, za_wrc])
  · obtain ⟨m, i1, i2, i3, i4⟩ := hL
    refine ⟨m, i1, by rw [za_wra (by omega), za_wra (by omega)]; exact i2, ?_, fun l' hl' => ?_⟩
    · rw [za_wra (by omega), za_wra (by omega), za_wrc (by omega), za_wrf, i3]
      refine congrArg nI (mk_con m (fun l' hl' => ?_))
      by_cases e : l' = l
      · subst e; rw [up1_s, h0]; exact ⟨fun h => absurd h (by decide +kernel), fun h => absurd h (by decide +kernel)⟩
      · rw [up1_o e]
    · rw [za_wra (by omega)]
      by_cases e : l' = l
      · subst e
        rw [za_wrs]
        exact ⟨⟨1, by omega, rfl⟩, fun hm => absurd (hlm m i1 i2) (by omega)⟩
      · rw [za_wri e]; exact i4 l' hl' 
  · exact RE_cg hE (fun k h1 h2 => by first | rfl | simp (disch := omega) only [za_wra, za_wri, za_wrc]) (fun c0 hc0 => ⟨by first | rfl | simp (disch := omega) only [za_wra, za_wri, za_wrc], by first | rfl | simp (disch := omega) only [za_wra, za_wri, za_wrc], by first | rfl | simp (disch := omega) only [za_wra, za_wri, za_wrc]⟩)
  · exact RQ_cg hq (by first | rfl | simp (disch := omega) only [za_wra, za_wri, za_wrc]) (by first | rfl | simp (disch := omega) only [za_wra, za_wri, za_wrc]) (fun p0 hp0 i0 hi0 => by first | rfl | simp (disch := omega) only [za_wra, za_wri, za_wrc])
  · exact RY_cg hl (by first | rfl | simp (disch := omega) only [za_wra, za_wri, za_wrc]) (by first | rfl | simp (disch := omega) only [za_wra, za_wri, za_wrc]) (by first | rfl | simp (disch := omega) only [za_wra, za_wri, za_wrc]) (fun l0 hl0 => ⟨by first | rfl | simp (disch := omega) only [za_wra, za_wri, za_wrc], by first | rfl | simp (disch := omega) only [za_wra, za_wri, za_wrc]⟩)

theorem op_close2 {w n t x a y : Nat} {C R : Mc} {l : Nat} (v : Int32) (hl12 : l < 12) (hlm : ∀ m, m ≤ 12 → C (w + 37) 1 = nI m → l < m) (h0 : C (w + 38) l = 0) (h : RW w n t x a y C R) : RW w n t x a y (wr (wr (wr C (w + 38) l (nI 2)) (w + 39) l v) (w + 37) 2 (C (w + 37) 2 ||| ((nI 1) <<< (nI l &&& 31)))) (wr (wr R 128 (1568 + 6 * l) (nI 2)) 128 (1568 + 6 * l + 3) v) := by
  obtain ⟨hA, hN, hS, hP, hH, hO, hC, hZ, hQ, hB, hL, hE, hq, hl⟩ := h
  refine ⟨?_, ?_, ?_, ?_, ?_, ?_, ?_, ?_, ?_, ?_, ?_, ?_, ?_, ?_⟩
  · intro f i hf hi
    have h0 := hA f i hf hi
    simp only [rj_mask hf hi, rc_lst hl12 hf hi, rr_lst hl12 hf hi, rc_lsin hl12 hf hi, rr_lsin hl12 hf hi]
    grind
  · exact WN_cg hN (by first | rfl | simp (disch := omega) only [za_wra, za_wri, za_wrc]) (by first | rfl | simp (disch := omega) only [za_wra, za_wri, za_wrc])
  · exact WS_cg hS (fun k h1 h2 => by first | rfl | simp (disch := omega) only [za_wra, za_wri, za_wrc])
  · exact WP_cg hP (by first | rfl | simp (disch := omega) only [za_wra, za_wri, za_wrc]) (by first | rfl | simp (disch := omega) only [za_wra, za_wri, za_wrc]) (fun k h1 h2 => by first | rfl | simp (disch := omega) only [za_wra, za_wri, za_wrc])
  · exact WH_cg hH (by first | rfl | simp (disch := omega) only [za_wra, za_wri, za_wrc]) (by first | rfl | simp (disch := omega) only [za_wra, za_wri, za_wrc]) (fun k h1 h2 => by first | rfl | simp (disch := omega) only [za_wra, za_wri, za_wrc])
  · exact WO_cg hO (by first | rfl | simp (disch := omega) only [za_wra, za_wri, za_wrc]) (by first | rfl | simp (disch := omega) only [za_wra, za_wri, za_wrc]) (by first | rfl | simp (disch := omega) only [za_wra, za_wri, za_wrc]) (by first | rfl | simp (disch := omega) only [za_wra, za_wri, za_wrc])
  · exact WC_cg hC (by first | rfl | simp (disch := omega) only [za_wra, za_wri, za_wrc]) (by first | rfl | simp (disch := omega) only [za_wra, za_wri, za_wrc]) (by first | rfl | simp (disch := omega) only [za_wra, za_wri, za_wrc]) (by first | rfl | simp (disch := omega) only [za_wra, za_wri, za_wrc])
  · exact WZ_cg hZ (fun k h1 h2 => by first | rfl | simp (disch := omega) only [za_wra, za_wri, za_wrc])
  · exact WQ_cg hQ (by first | rfl | simp (disch := omega) only [za_wra, za_wri, za_wrc]) (fun k h1 h2 => by first | rfl | simp (disch := omega) only [za_wra, za_wri, za_wrc])
  · exact WB_cg hB (by first | rfl | simp (disch := omega) only [za_wra, za_wri, za_wrc]) (fun k h1 h2 => by first | rfl | simp (disch := omega) only [za_wra, za_wri, za_wrc])
  · obtain ⟨m, i1, i2, i3, i4⟩ := hL
    have hlt := hlm m i1 i2
    have hn : ¬ (C (w + 38) l = nI 2 ∨ C (w + 38) l = nI 3) := by rw [h0]; decide +kernel
    have hadd := mk_add (f := C (w + 38)) (l := l) (v := nI 2) hn (Or.inl rfl) m hlt
    refine ⟨m, i1, by rw [za_wri (by omega), za_wra (by omega), za_wra (by omega)]; exact i2, ?_, fun l' hl' => ?_⟩
    · rw [za_wrs, i3, (bit_ok (mk_4096 i1) hl12).2.2 (fun z => hn ((mk_bit i1).mp z).2), za_wrc (by omega), za_wrc (by omega), za_wrf, hadd]
    · rw [za_wra (by omega), za_wra (by omega)]
      by_cases e : l' = l
      · subst e
        rw [za_wrs]
        exact ⟨⟨2, by omega, rfl⟩, fun hm => absurd hm (by omega)⟩
      · rw [za_wri e]; exact i4 l' hl' 
  · exact RE_cg hE (fun k h1 h2 => by first | rfl | simp (disch := omega) only [za_wra, za_wri, za_wrc]) (fun c0 hc0 => ⟨by first | rfl | simp (disch := omega) only [za_wra, za_wri, za_wrc], by first | rfl | simp (disch := omega) only [za_wra, za_wri, za_wrc], by first | rfl | simp (disch := omega) only [za_wra, za_wri, za_wrc]⟩)
  · exact RQ_cg hq (by first | rfl | simp (disch := omega) only [za_wra, za_wri, za_wrc]) (by first | rfl | simp (disch := omega) only [za_wra, za_wri, za_wrc]) (fun p0 hp0 i0 hi0 => by first | rfl | simp (disch := omega) only [za_wra, za_wri, za_wrc])
  · exact RY_cg hl (by first | rfl | simp (disch := omega) only [za_wra, za_wri, za_wrc]) (by first | rfl | simp (disch := omega) only [za_wra, za_wri, za_wrc]) (by first | rfl | simp (disch := omega) only [za_wra, za_wri, za_wrc]) (fun l0 hl0 => ⟨by first | rfl | simp (disch := omega) only [za_wra, za_wri, za_wrc], by first | rfl | simp (disch := omega) only [za_wra, za_wri, za_wrc]⟩)

theorem op_answer {w n t x a y : Nat} {C R : Mc} {l d : Nat} {s sa : Int32} (hl12 : l < 12) (hd : d < 2 ^ 31) (hs : (sa = nI 1 ∧ s = nI 1) ∨ (sa = nI 2 ∧ s = 0)) (h : RW w n t x a y C R) : RW w n t x a y (wr (wr C (w + 41) l s) (w + 40) l (nI d)) (wr (wr R 128 (1568 + 6 * l + 4) sa) 128 (1568 + 6 * l + 5) (nI d)) := by
  obtain ⟨hA, hN, hS, hP, hH, hO, hC, hZ, hQ, hB, hL, hE, hq, hl⟩ := h
  refine ⟨?_, ?_, ?_, ?_, ?_, ?_, ?_, ?_, ?_, ?_, ?_, ?_, ?_, ?_⟩
  · intro f i hf hi
    have h0 := hA f i hf hi
    simp only [rj_ass hf hi, rj_rh hf hi, rk_said hl12 hf hi, rk_read hl12 hf hi]
    grind
  · exact WN_cg hN (by first | rfl | simp (disch := omega) only [za_wra, za_wri, za_wrc]) (by first | rfl | simp (disch := omega) only [za_wra, za_wri, za_wrc])
  · exact WS_cg hS (fun k h1 h2 => by first | rfl | simp (disch := omega) only [za_wra, za_wri, za_wrc])
  · exact WP_cg hP (by first | rfl | simp (disch := omega) only [za_wra, za_wri, za_wrc]) (by first | rfl | simp (disch := omega) only [za_wra, za_wri, za_wrc]) (fun k h1 h2 => by first | rfl | simp (disch := omega) only [za_wra, za_wri, za_wrc])
  · exact WH_cg hH (by first | rfl | simp (disch := omega) only [za_wra, za_wri, za_wrc]) (by first | rfl | simp (disch := omega) only [za_wra, za_wri, za_wrc]) (fun k h1 h2 => by first | rfl | simp (disch := omega) only [za_wra, za_wri, za_wrc])
  · exact WO_cg hO (by first | rfl | simp (disch := omega) only [za_wra, za_wri, za_wrc]) (by first | rfl | simp (disch := omega) only [za_wra, za_wri, za_wrc]) (by first | rfl | simp (disch := omega) only [za_wra, za_wri, za_wrc]) (by first | rfl | simp (disch := omega) only [za_wra, za_wri, za_wrc])
  · exact WC_cg hC (by first | rfl | simp (disch := omega) only [za_wra, za_wri, za_wrc]) (by first | rfl | simp (disch := omega) only [za_wra, za_wri, za_wrc]) (by first | rfl | simp (disch := omega) only [za_wra, za_wri, za_wrc]) (by first | rfl | simp (disch := omega) only [za_wra, za_wri, za_wrc])
  · exact WZ_cg hZ (fun k h1 h2 => by first | rfl | simp (disch := omega) only [za_wra, za_wri, za_wrc])
  · exact WQ_cg hQ (by first | rfl | simp (disch := omega) only [za_wra, za_wri, za_wrc]) (fun k h1 h2 => by first | rfl | simp (disch := omega) only [za_wra, za_wri, za_wrc])
  · exact WB_cg hB (by first | rfl | simp (disch := omega) only [za_wra, za_wri, za_wrc]) (fun k h1 h2 => by first | rfl | simp (disch := omega) only [za_wra, za_wri, za_wrc])
  · exact WL_cg hL (by first | rfl | simp (disch := omega) only [za_wra, za_wri, za_wrc]) (by first | rfl | simp (disch := omega) only [za_wra, za_wri, za_wrc]) (by first | rfl | simp (disch := omega) only [za_wra, za_wri, za_wrc])
  · exact RE_cg hE (fun k h1 h2 => by first | rfl | simp (disch := omega) only [za_wra, za_wri, za_wrc]) (fun c0 hc0 => ⟨by first | rfl | simp (disch := omega) only [za_wra, za_wri, za_wrc], by first | rfl | simp (disch := omega) only [za_wra, za_wri, za_wrc], by first | rfl | simp (disch := omega) only [za_wra, za_wri, za_wrc]⟩)
  · exact RQ_cg hq (by first | rfl | simp (disch := omega) only [za_wra, za_wri, za_wrc]) (by first | rfl | simp (disch := omega) only [za_wra, za_wri, za_wrc]) (fun p0 hp0 i0 hi0 => by first | rfl | simp (disch := omega) only [za_wra, za_wri, za_wrc])
  · intro m l' h1 h2 h3
    rw [za_wra (by omega), za_wra (by omega)] at h1
    by_cases e : l' = l
    · subst e
      rw [za_wrs, za_wra (by omega), za_wrs, za_wri (by omega), za_wrs, za_wrs]
      exact Or.inr ⟨d, hd, rfl, rfl, hs⟩
    · rw [za_wri e, za_wra (by omega), za_wra (by omega), za_wri e, za_wri (by omega), za_wri (by omega), za_wri (by omega), za_wri (by omega)]
      exact hl m l' h1 h2 h3

theorem op_votey {w n t x a y : Nat} {C R : Mc} {l j : Nat} (u v : Int32) (hl12 : l < 12) (h : RW w n t x a y C R) : RW w n t x a y (wr (wr C (w + 44) j u) (w + 42) l v) (wr (wr R 139 j u) 128 (1568 + 6 * l + 1) v) := by
  obtain ⟨hA, hN, hS, hP, hH, hO, hC, hZ, hQ, hB, hL, hE, hq, hl⟩ := h
  refine ⟨?_, ?_, ?_, ?_, ?_, ?_, ?_, ?_, ?_, ?_, ?_, ?_, ?_, ?_⟩
  · intro f i hf hi
    have h0 := hA f i hf hi
    simp only [rj_vot hf hi, rj_yes hf hi, rk_yes hl12 hf hi, rk_oth (show (139 : Nat) ≠ 127 ∧ (139 : Nat) ≠ 128 ∧ (139 : Nat) ≠ 130 ∧ (139 : Nat) ≠ 131 by omega) hf hi]
    grind
  · exact WN_cg hN (by first | rfl | simp (disch := omega) only [za_wra, za_wri, za_wrc]) (by first | rfl | simp (disch := omega) only [za_wra, za_wri, za_wrc])
  · exact WS_cg hS (fun k h1 h2 => by first | rfl | simp (disch := omega) only [za_wra, za_wri, za_wrc])
  · exact WP_cg hP (by first | rfl | simp (disch := omega) only [za_wra, za_wri, za_wrc]) (by first | rfl | simp (disch := omega) only [za_wra, za_wri, za_wrc]) (fun k h1 h2 => by first | rfl | simp (disch := omega) only [za_wra, za_wri, za_wrc])
  · exact WH_cg hH (by first | rfl | simp (disch := omega) only [za_wra, za_wri, za_wrc]) (by first | rfl | simp (disch := omega) only [za_wra, za_wri, za_wrc]) (fun k h1 h2 => by first | rfl | simp (disch := omega) only [za_wra, za_wri, za_wrc])
  · exact WO_cg hO (by first | rfl | simp (disch := omega) only [za_wra, za_wri, za_wrc]) (by first | rfl | simp (disch := omega) only [za_wra, za_wri, za_wrc]) (by first | rfl | simp (disch := omega) only [za_wra, za_wri, za_wrc]) (by first | rfl | simp (disch := omega) only [za_wra, za_wri, za_wrc])
  · exact WC_cg hC (by first | rfl | simp (disch := omega) only [za_wra, za_wri, za_wrc]) (by first | rfl | simp (disch := omega) only [za_wra, za_wri, za_wrc]) (by first | rfl | simp (disch := omega) only [za_wra, za_wri, za_wrc]) (by first | rfl | simp (disch := omega) only [za_wra, za_wri, za_wrc])
  · exact WZ_cg hZ (fun k h1 h2 => by first | rfl | simp (disch := omega) only [za_wra, za_wri, za_wrc])
  · exact WQ_cg hQ (by first | rfl | simp (disch := omega) only [za_wra, za_wri, za_wrc]) (fun k h1 h2 => by first | rfl | simp (disch := omega) only [za_wra, za_wri, za_wrc])
  · exact WB_cg hB (by first | rfl | simp (disch := omega) only [za_wra, za_wri, za_wrc]) (fun k h1 h2 => by first | rfl | simp (disch := omega) only [za_wra, za_wri, za_wrc])
  · exact WL_cg hL (by first | rfl | simp (disch := omega) only [za_wra, za_wri, za_wrc]) (by first | rfl | simp (disch := omega) only [za_wra, za_wri, za_wrc]) (by first | rfl | simp (disch := omega) only [za_wra, za_wri, za_wrc])
  · exact RE_cg hE (fun k h1 h2 => by first | rfl | simp (disch := omega) only [za_wra, za_wri, za_wrc]) (fun c0 hc0 => ⟨by first | rfl | simp (disch := omega) only [za_wra, za_wri, za_wrc], by first | rfl | simp (disch := omega) only [za_wra, za_wri, za_wrc], by first | rfl | simp (disch := omega) only [za_wra, za_wri, za_wrc]⟩)
  · exact RQ_cg hq (by first | rfl | simp (disch := omega) only [za_wra, za_wri, za_wrc]) (by first | rfl | simp (disch := omega) only [za_wra, za_wri, za_wrc]) (fun p0 hp0 i0 hi0 => by first | rfl | simp (disch := omega) only [za_wra, za_wri, za_wrc])
  · exact RY_cg hl (by first | rfl | simp (disch := omega) only [za_wra, za_wri, za_wrc]) (by first | rfl | simp (disch := omega) only [za_wra, za_wri, za_wrc]) (by first | rfl | simp (disch := omega) only [za_wra, za_wri, za_wrc]) (fun l0 hl0 => ⟨by first | rfl | simp (disch := omega) only [za_wra, za_wri, za_wrc], by first | rfl | simp (disch := omega) only [za_wra, za_wri, za_wrc]⟩)

theorem op_voten {w n t x a y : Nat} {C R : Mc} {l j : Nat} (u v : Int32) (hl12 : l < 12) (h : RW w n t x a y C R) : RW w n t x a y (wr (wr C (w + 44) j u) (w + 43) l v) (wr (wr R 139 j u) 128 (1568 + 6 * l + 2) v) := by
  obtain ⟨hA, hN, hS, hP, hH, hO, hC, hZ, hQ, hB, hL, hE, hq, hl⟩ := h
  refine ⟨?_, ?_, ?_, ?_, ?_, ?_, ?_, ?_, ?_, ?_, ?_, ?_, ?_, ?_⟩
  · intro f i hf hi
    have h0 := hA f i hf hi
    simp only [rj_vot hf hi, rj_no hf hi, rk_no hl12 hf hi, rk_oth (show (139 : Nat) ≠ 127 ∧ (139 : Nat) ≠ 128 ∧ (139 : Nat) ≠ 130 ∧ (139 : Nat) ≠ 131 by omega) hf hi]
    grind
  · exact WN_cg hN (by first | rfl | simp (disch := omega) only [za_wra, za_wri, za_wrc]) (by first | rfl | simp (disch := omega) only [za_wra, za_wri, za_wrc])
  · exact WS_cg hS (fun k h1 h2 => by first | rfl | simp (disch := omega) only [za_wra, za_wri, za_wrc])
  · exact WP_cg hP (by first | rfl | simp (disch := omega) only [za_wra, za_wri, za_wrc]) (by first | rfl | simp (disch := omega) only [za_wra, za_wri, za_wrc]) (fun k h1 h2 => by first | rfl | simp (disch := omega) only [za_wra, za_wri, za_wrc])
  · exact WH_cg hH (by first | rfl | simp (disch := omega) only [za_wra, za_wri, za_wrc]) (by first | rfl | simp (disch := omega) only [za_wra, za_wri, za_wrc]) (fun k h1 h2 => by first | rfl | simp (disch := omega) only [za_wra, za_wri, za_wrc])
  · exact WO_cg hO (by first | rfl | simp (disch := omega) only [za_wra, za_wri, za_wrc]) (by first | rfl | simp (disch := omega) only [za_wra, za_wri, za_wrc]) (by first | rfl | simp (disch := omega) only [za_wra, za_wri, za_wrc]) (by first | rfl | simp (disch := omega) only [za_wra, za_wri, za_wrc])
  · exact WC_cg hC (by first | rfl | simp (disch := omega) only [za_wra, za_wri, za_wrc]) (by first | rfl | simp (disch := omega) only [za_wra, za_wri, za_wrc]) (by first | rfl | simp (disch := omega) only [za_wra, za_wri, za_wrc]) (by first | rfl | simp (disch := omega) only [za_wra, za_wri, za_wrc])
  · exact WZ_cg hZ (fun k h1 h2 => by first | rfl | simp (disch := omega) only [za_wra, za_wri, za_wrc])
  · exact WQ_cg hQ (by first | rfl | simp (disch := omega) only [za_wra, za_wri, za_wrc]) (fun k h1 h2 => by first | rfl | simp (disch := omega) only [za_wra, za_wri, za_wrc])
  · exact WB_cg hB (by first | rfl | simp (disch := omega) only [za_wra, za_wri, za_wrc]) (fun k h1 h2 => by first | rfl | simp (disch := omega) only [za_wra, za_wri, za_wrc])
  · exact WL_cg hL (by first | rfl | simp (disch := omega) only [za_wra, za_wri, za_wrc]) (by first | rfl | simp (disch := omega) only [za_wra, za_wri, za_wrc]) (by first | rfl | simp (disch := omega) only [za_wra, za_wri, za_wrc])
  · exact RE_cg hE (fun k h1 h2 => by first | rfl | simp (disch := omega) only [za_wra, za_wri, za_wrc]) (fun c0 hc0 => ⟨by first | rfl | simp (disch := omega) only [za_wra, za_wri, za_wrc], by first | rfl | simp (disch := omega) only [za_wra, za_wri, za_wrc], by first | rfl | simp (disch := omega) only [za_wra, za_wri, za_wrc]⟩)
  · exact RQ_cg hq (by first | rfl | simp (disch := omega) only [za_wra, za_wri, za_wrc]) (by first | rfl | simp (disch := omega) only [za_wra, za_wri, za_wrc]) (fun p0 hp0 i0 hi0 => by first | rfl | simp (disch := omega) only [za_wra, za_wri, za_wrc])
  · exact RY_cg hl (by first | rfl | simp (disch := omega) only [za_wra, za_wri, za_wrc]) (by first | rfl | simp (disch := omega) only [za_wra, za_wri, za_wrc]) (by first | rfl | simp (disch := omega) only [za_wra, za_wri, za_wrc]) (fun l0 hl0 => ⟨by first | rfl | simp (disch := omega) only [za_wra, za_wri, za_wrc], by first | rfl | simp (disch := omega) only [za_wra, za_wri, za_wrc]⟩)

