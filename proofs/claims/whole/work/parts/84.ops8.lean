/-! ===== steps of the calls, on ===== -/
theorem op_queue {w n t x a y : Nat} {C R : Mc} {p k c : Nat} (hp : p < 4) (hk : k ≤ 11) (hk0 : C (w + 30) p = nI k) (hc : c < 96) (hpm : ∀ m, m ≤ 4 → C (w + 27) 0 = nI m → p < m) (h : RW w n t x a y C R) : RW w n t x a y (wr (wr C (w + 31) (p * 12 + k) (nI c)) (w + 30) p (nI (k + 1))) (wr (wr R 128 (1720 + 15 * p + 3 + k) (nI c)) 128 (1720 + 15 * p + 2) (nI (k + 1))) := by
  obtain ⟨hA, hN, hS, hP, hH, hO, hC, hZ, hQ, hB, hL, hE, hq, hl⟩ := h
  refine ⟨?_, ?_, ?_, ?_, ?_, ?_, ?_, ?_, ?_, ?_, ?_, ?_, ?_, ?_⟩
  · intro f i hf hi
    have h0 := hA f i hf hi
    simp only [rj_sent hf hi, rk_fst hp (show k < 12 by omega) hf hi, rc_wait hp hf hi, rr_wait hp hf hi]
    grind
  · exact WN_cg hN (by first | rfl | simp (disch := omega) only [za_wra, za_wri, za_wrc]) (by first | rfl | simp (disch := omega) only [za_wra, za_wri, za_wrc])
  · exact WS_cg hS (fun k h1 h2 => by first | rfl | simp (disch := omega) only [za_wra, za_wri, za_wrc])
  · exact WP_cg hP (by first | rfl | simp (disch := omega) only [za_wra, za_wri, za_wrc]) (by first | rfl | simp (disch := omega) only [za_wra, za_wri, za_wrc]) (fun k h1 h2 => by first | rfl | simp (disch := omega) only [za_wra, za_wri, za_wrc])
  · exact WH_cg hH (by first | rfl | simp (disch := omega) only [za_wra, za_wri, za_wrc]) (by first | rfl | simp (disch := omega) only [za_wra, za_wri, za_wrc]) (fun k h1 h2 => by first | rfl | simp (disch := omega) only [za_wra, za_wri, za_wrc])
  · exact WO_cg hO (by first | rfl | simp (disch := omega) only [za_wra, za_wri, za_wrc]) (by first | rfl | simp (disch := omega) only [za_wra, za_wri, za_wrc]) (by first | rfl | simp (disch := omega) only [za_wra, za_wri, za_wrc]) (by first | rfl | simp (disch := omega) only [za_wra, za_wri, za_wrc])
  · exact WC_cg hC (by first | rfl | simp (disch := omega) only [za_wra, za_wri, za_wrc]) (by first | rfl | simp (disch := omega) only [za_wra, za_wri, za_wrc]) (by first | rfl | simp (disch := omega) only [za_wra, za_wri, za_wrc]) (by first | rfl | simp (disch := omega) only [za_wra, za_wri, za_wrc])
  · exact WZ_cg hZ (fun k h1 h2 => by first | rfl | simp (disch := omega) only [za_wra, za_wri, za_wrc])
  · obtain ⟨m', m1, m2, m3⟩ := hQ
    refine ⟨m', m1, by rw [za_wra (by omega), za_wra (by omega)]; exact m2, fun p' hp' => ?_⟩
    obtain ⟨g1, g2, g3, k', g4, g5, g6⟩ := m3 p' hp'
    rw [za_wrc (a := w + 28) (by omega), za_wrc (a := w + 28) (by omega), za_wrc (a := w + 29) (by omega), za_wrc (a := w + 29) (by omega), za_wrc (a := w + 31) (by omega)]
    by_cases e : p' = p
    · subst e
      obtain rfl : k' = k := za_inj (by omega) (by omega) (g5.symm.trans hk0)
      refine ⟨g1, fun hm => absurd (hpm m' m1 m2) (by omega), g3, k' + 1, by omega, za_wrs _ _ _ _, fun i hi => ?_⟩
      by_cases ei : i = k'
      · subst ei; exact ⟨c, hc, za_wrs _ _ _ _⟩
      · obtain ⟨c', c1, c2⟩ := g6 i (by omega)
        exact ⟨c', c1, by rw [za_wri (by omega)]; exact c2⟩
    · rw [za_wri e, za_wra (by omega)]
      refine ⟨g1, g2, g3, k', g4, g5, fun i hi => ?_⟩
      obtain ⟨c', c1, c2⟩ := g6 i hi
      exact ⟨c', c1, by rw [za_wri (by omega)]; exact c2⟩
  · exact WB_cg hB (by first | rfl | simp (disch := omega) only [za_wra, za_wri, za_wrc]) (fun k h1 h2 => by first | rfl | simp (disch := omega) only [za_wra, za_wri, za_wrc])
  · exact WL_cg hL (by first | rfl | simp (disch := omega) only [za_wra, za_wri, za_wrc]) (by first | rfl | simp (disch := omega) only [za_wra, za_wri, za_wrc]) (by first | rfl | simp (disch := omega) only [za_wra, za_wri, za_wrc])
  · exact RE_cg hE (fun k h1 h2 => by first | rfl | simp (disch := omega) only [za_wra, za_wri, za_wrc]) (fun c0 hc0 => ⟨by first | rfl | simp (disch := omega) only [za_wra, za_wri, za_wrc], by first | rfl | simp (disch := omega) only [za_wra, za_wri, za_wrc], by first | rfl | simp (disch := omega) only [za_wra, za_wri, za_wrc]⟩)
  · intro p' hp' k' i hk' hk12 hi
    rw [za_wra (a := w + 31) (by omega)]
    by_cases e : p' = p
    · subst e
      rw [za_wrs] at hk'
      obtain rfl : k' = k + 1 := za_inj (by omega) (by omega) hk'.symm
      by_cases ei : i = k
      · subst ei; rw [za_wri (by omega), za_wrs, za_wrs]
      · rw [za_wri (by omega), za_wri (by omega), za_wri (by omega)]; exact hq p' hp' k i hk0 (by omega) (by omega)
    · rw [za_wri e, za_wra (by omega)] at hk'
      rw [za_wri (by omega), za_wri (by omega), za_wri (by omega)]; exact hq p' hp' k' i hk' hk12 hi
  · exact RY_cg hl (by first | rfl | simp (disch := omega) only [za_wra, za_wri, za_wrc]) (by first | rfl | simp (disch := omega) only [za_wra, za_wri, za_wrc]) (by first | rfl | simp (disch := omega) only [za_wra, za_wri, za_wrc]) (fun l0 hl0 => ⟨by first | rfl | simp (disch := omega) only [za_wra, za_wri, za_wrc], by first | rfl | simp (disch := omega) only [za_wra, za_wri, za_wrc]⟩)

theorem op_adds {w n t x a y : Nat} {C R : Mc} {tr co st : Nat} (la : Int32) (hn : n < 100) (htr : tr ≤ 3) (hco : co ≤ 1000000) (hst : st ≤ 1) (h : RW w n t n a y C R) : RW w (n + 1) t (n + 1) a y (wr (wr (wr (wr (wr (wr (wr C (w + 16) n (nI tr)) (w + 17) n (nI co)) (w + 18) n (nI st)) (w + 19) n (-1)) (w + 22) n (-1)) (w + 26) n la) (w + 15) 0 (nI (n + 1))) (wr (wr (wr (wr (wr (wr (wr (wr R 128 (768 + 8 * n) (nI tr)) 128 (768 + 8 * n + 1) (nI co)) 128 (768 + 8 * n + 2) (nI st)) 128 (768 + 8 * n + 3) (-1)) 128 (768 + 8 * n + 4) 0) 128 (768 + 8 * n + 5) la) 128 (768 + 8 * n + 6) (-1)) 128 2124 (nI (n + 1))) := by
  obtain ⟨hA, hN, hS, hP, hH, hO, hC, hZ, hQ, hB, hL, hE, hq, hl⟩ := h
  have hfar : cn 96 (farP (C (w + 5)) (C (w + 6)) (nI n)) = 0 := cn_0 96 _ (fun c hc => by
    obtain ⟨⟨k, i1, i2, i3, i4, i5, _⟩, _⟩ := hS c hc
    refine decide_eq_false (fun z => ?_)
    have hk1 : 1 < k := by
      rcases z.1 with z1 | z1 <;> rw [i1] at z1 <;> have := za_inj (by omega) (by omega) z1 <;> omega
    obtain ⟨p, p1, p2⟩ := i5 hk1
    have := za_inj (a := p) (b := n) (by omega) (by omega) (p2.symm.trans z.2)
    omega)
  have e18 : (wr (wr (wr (wr (wr (wr (wr C (w + 16) n (nI tr)) (w + 17) n (nI co)) (w + 18) n (nI st)) (w + 19) n (-1)) (w + 22) n (-1)) (w + 26) n la) (w + 15) 0 (nI (n + 1))) (w + 18) = up1 (C (w + 18)) n (nI st) := by simp (disch := omega) only [up1_2, za_wrf, za_wrc, za_wra, za_wri]
  have e19 : (wr (wr (wr (wr (wr (wr (wr C (w + 16) n (nI tr)) (w + 17) n (nI co)) (w + 18) n (nI st)) (w + 19) n (-1)) (w + 22) n (-1)) (w + 26) n la) (w + 15) 0 (nI (n + 1))) (w + 19) = up1 (C (w + 19)) n (-1) := by simp (disch := omega) only [up1_2, za_wrf, za_wrc, za_wra, za_wri]
  have e16 : (wr (wr (wr (wr (wr (wr (wr C (w + 16) n (nI tr)) (w + 17) n (nI co)) (w + 18) n (nI st)) (w + 19) n (-1)) (w + 22) n (-1)) (w + 26) n la) (w + 15) 0 (nI (n + 1))) (w + 16) = up1 (C (w + 16)) n (nI tr) := by simp (disch := omega) only [up1_2, za_wrf, za_wrc, za_wra, za_wri]
  have e17 : (wr (wr (wr (wr (wr (wr (wr C (w + 16) n (nI tr)) (w + 17) n (nI co)) (w + 18) n (nI st)) (w + 19) n (-1)) (w + 22) n (-1)) (w + 26) n la) (w + 15) 0 (nI (n + 1))) (w + 17) = up1 (C (w + 17)) n (nI co) := by simp (disch := omega) only [up1_2, za_wrf, za_wrc, za_wra, za_wri]
  have e20 : (wr (wr (wr (wr (wr (wr (wr C (w + 16) n (nI tr)) (w + 17) n (nI co)) (w + 18) n (nI st)) (w + 19) n (-1)) (w + 22) n (-1)) (w + 26) n la) (w + 15) 0 (nI (n + 1))) (w + 20) = C (w + 20) := by simp (disch := omega) only [up1_2, za_wrf, za_wrc, za_wra, za_wri]
  have e21 : (wr (wr (wr (wr (wr (wr (wr C (w + 16) n (nI tr)) (w + 17) n (nI co)) (w + 18) n (nI st)) (w + 19) n (-1)) (w + 22) n (-1)) (w + 26) n la) (w + 15) 0 (nI (n + 1))) (w + 21) = C (w + 21) := by simp (disch := omega) only [up1_2, za_wrf, za_wrc, za_wra, za_wri]
  have e5 : (wr (wr (wr (wr (wr (wr (wr C (w + 16) n (nI tr)) (w + 17) n (nI co)) (w + 18) n (nI st)) (w + 19) n (-1)) (w + 22) n (-1)) (w + 26) n la) (w + 15) 0 (nI (n + 1))) (w + 5) = C (w + 5) := by simp (disch := omega) only [up1_2, za_wrf, za_wrc, za_wra, za_wri]
  have e6 : (wr (wr (wr (wr (wr (wr (wr C (w + 16) n (nI tr)) (w + 17) n (nI co)) (w + 18) n (nI st)) (w + 19) n (-1)) (w + 22) n (-1)) (w + 26) n la) (w + 15) 0 (nI (n + 1))) (w + 6) = C (w + 6) := by simp (disch := omega) only [up1_2, za_wrf, za_wrc, za_wra, za_wri]
  refine ⟨?_, ?_, ?_, ?_, ?_, ?_, ?_, ?_, ?_, ?_, ?_, ?_, ?_, ?_⟩
  · intro f i hf hi
    have h0 := hA f i hf hi
    have hz : C (w + fA 12) (fJ 12 + n) = 0 := by
      rw [show fJ 12 + n = n from Nat.zero_add n]
      exact (hO n (Nat.le_refl _) hn).2.2.1
    simp only [rc_trade hn hf hi, rc_coin hn hf hi, rc_st hn hf hi, rc_boss hn hf hi, rc_land hn hf hi, rc_ord hn hf hi, rr_trade hn hf hi, rr_coin hn hf hi, rr_st hn hf hi, rr_boss hn hf hi, rr_land hn hf hi, rr_ord hn hf hi, rr_hun hn hf hi, rc_n hf hi, rr_n hf hi]
    grind
  · exact ⟨za_wrs _ _ _ _, hn, by rw [za_wra (by omega), za_wra (by omega), za_wra (by omega), za_wra (by omega), za_wra (by omega), za_wra (by omega), za_wra (by omega)]; exact hN.2.2.1, hN.2.2.2⟩
  · intro c hc
    obtain ⟨⟨k, i1, i2, i3, i4, i5, i6⟩, i7⟩ := hS c hc
    simp (disch := omega) only [za_wra]
    refine ⟨⟨k, i1, i2, i3, i4, fun h => ?_, i6⟩, i7⟩
    obtain ⟨p, p1, p2⟩ := i5 h
    exact ⟨p, by omega, p2⟩
  · intro q hq
    rw [e18, e19, e16, e17, e5, e6]
    by_cases e : q = n
    · subst e
      refine ⟨st, by rw [up1_s], ⟨by omega, ⟨co, hco, by rw [up1_s]⟩, ⟨tr, htr, by rw [up1_s]⟩, fun h => by omega, fun _ => by rw [up1_s]⟩, ⟨fun h => by omega, fun h => ?_⟩⟩
      rw [hfar] at h; exact absurd h (by omega)
    · obtain ⟨s, i1, i2, i3⟩ := hP q (by omega)
      refine ⟨s, by rw [up1_o e]; exact i1, ⟨i2.1, by rw [up1_o e]; exact i2.2.1, by rw [up1_o e]; exact i2.2.2.1, fun h3 => ?_, fun h => by rw [up1_o e]; exact i2.2.2.2.2 h⟩, i3⟩
      obtain ⟨y', hy, hy1, hy2⟩ := i2.2.2.2.1 h3
      refine ⟨y', by omega, by rw [up1_o e]; exact hy1, Or.inl ?_⟩
      rw [up1_o (by omega)]
      exact hy2.elim id (fun h => by omega)
  · intro q hq
    rw [e18, e19, e20, e21, e5, e6]
    have hstn : ∀ v, hirP (up1 (C (w + 18)) n (nI st)) (up1 (C (w + 19)) n (-1)) v n = false := fun v => by
      rw [hir_s]; exact decide_eq_false (fun z => by have := za_inj (a := st) (b := 3) (by omega) (by omega) z.1; omega)
    have hcn : ∀ v, cn (n + 1) (hirP (up1 (C (w + 18)) n (nI st)) (up1 (C (w + 19)) n (-1)) v) = cn n (hirP (C (w + 18)) (C (w + 19)) v) := fun v => by
      rw [cn_succ, hstn]
      exact cn_con n _ _ (fun k hk => hir_o (by omega))
    rw [hcn]
    by_cases e : q = n
    · subst e
      obtain ⟨z1, z2, _⟩ := hO q (Nat.le_refl _) hn
      rw [z1, z2, hfar, cn_0 q _ (fun k hk => ?_)]
      · exact ⟨rfl, rfl⟩
      · refine hir_f ?_
        obtain ⟨s, i1, i2, i3⟩ := hP k hk
        by_cases h3 : s = 3
        · right
          obtain ⟨y', hy, hy1, hy2⟩ := i2.2.2.2.1 h3
          rw [hy1]; exact fun z => by have := za_inj (a := y') (b := q) (by omega) (by omega) z; omega
        · left
          rw [i1]; exact fun z => h3 (za_inj (by have := i2.1; omega) (by omega) z)
    · exact hH q (by omega)
  · intro q hq hq1
    have := hO q (by omega) hq1
    simp (disch := omega) only [za_wra]; exact this
  · obtain ⟨i1, i2⟩ := hC
    refine ⟨?_, by rw [e5]; simp (disch := omega) only [za_wra]; exact i2⟩
    rw [e18, cn_succ, herP, up1_s, decide_eq_false (fun z => z (nI_lt (by omega) (by omega))), za_wri (by omega)]
    simp (disch := omega) only [za_wra]
    rw [i1]
    exact congrArg nI (cn_con n _ _ (fun k hk => (her_o (by omega)).symm))
  · exact WZ_cg hZ (fun k h1 h2 => by first | rfl | simp (disch := omega) only [za_wra, za_wri, za_wrc])
  · exact WQ_cg hQ (by first | rfl | simp (disch := omega) only [za_wra, za_wri, za_wrc]) (fun k h1 h2 => by first | rfl | simp (disch := omega) only [za_wra, za_wri, za_wrc])
  · exact WB_cg hB (by first | rfl | simp (disch := omega) only [za_wra, za_wri, za_wrc]) (fun k h1 h2 => by first | rfl | simp (disch := omega) only [za_wra, za_wri, za_wrc])
  · exact WL_cg hL (by first | rfl | simp (disch := omega) only [za_wra, za_wri, za_wrc]) (by first | rfl | simp (disch := omega) only [za_wra, za_wri, za_wrc]) (by first | rfl | simp (disch := omega) only [za_wra, za_wri, za_wrc])
  · exact RE_cg hE (fun k h1 h2 => by first | rfl | simp (disch := omega) only [za_wra, za_wri, za_wrc]) (fun c0 hc0 => ⟨by first | rfl | simp (disch := omega) only [za_wra, za_wri, za_wrc], by first | rfl | simp (disch := omega) only [za_wra, za_wri, za_wrc], by first | rfl | simp (disch := omega) only [za_wra, za_wri, za_wrc]⟩)
  · exact RQ_cg hq (by first | rfl | simp (disch := omega) only [za_wra, za_wri, za_wrc]) (by first | rfl | simp (disch := omega) only [za_wra, za_wri, za_wrc]) (fun p0 hp0 i0 hi0 => by first | rfl | simp (disch := omega) only [za_wra, za_wri, za_wrc])
  · exact RY_cg hl (by first | rfl | simp (disch := omega) only [za_wra, za_wri, za_wrc]) (by first | rfl | simp (disch := omega) only [za_wra, za_wri, za_wrc]) (by first | rfl | simp (disch := omega) only [za_wra, za_wri, za_wrc]) (fun l0 hl0 => ⟨by first | rfl | simp (disch := omega) only [za_wra, za_wri, za_wrc], by first | rfl | simp (disch := omega) only [za_wra, za_wri, za_wrc]⟩)

