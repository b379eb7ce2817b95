/-! ===== a farm is got, or lost ===== -/
theorem op_farm {w n t x a y : Nat} {C R : Mc} {c p s kd m : Nat} {te : Int32} (hc : c < 96) (hp : p < n) (hn : n ≤ 100) (h1c : C (w + 5) c = nI 1) (hkd : kd = 3 ∨ kd = 5) (hm : m ≤ 1000) (hte : kd = 3 → te = -1 ∨ ∃ l, l < 12 ∧ te = nI l) (hst : C (w + 18) p = nI s) (hs2 : 2 ≤ s) (hs3 : s ≠ 3) (hs4 : s ≤ 4) (h : RW w n t x a y C R) : RW w n t x a y (wr (wr (wr (wr (wr (wr (wr (wr (wr (wr (wr (wr (wr (wr C (w + 5) c (nI 1)) (w + 6) c (-1)) (w + 7) c (-1)) (w + 8) c 0) (w + 9) c 0) (w + 10) c (-1)) (w + 11) c (-1)) (w + 5) c (nI kd)) (w + 6) c (nI p)) (w + 10) c (nI m)) (w + 11) c te) (w + 1) 9 (C (w + 1) 9 + nI 1)) (w + 21) p (C (w + 21) p + nI 1)) (w + 18) p (nI 4)) (wr (wr (wr (wr (moHolds R c (nI kd) (nI p)) 128 (8 * c + 5) (nI m)) 128 (8 * c + 6) te) 128 (768 + 8 * p + 2) (nI 4)) 128 (768 + 8 * p + 3) (-1)) := by
  obtain ⟨hA, hN, hS, hP, hH, hO, hC, hZ, hQ, hB, hL, hE, hq, hl⟩ := h
  unfold moHolds
  have hkd2 : nI kd = nI 3 ∨ nI kd = nI 5 := hkd.elim (fun h => Or.inl (by rw [h])) (fun h => Or.inr (by rw [h]))
  have hnf : ¬ (C (w + 5) c = nI 3 ∨ C (w + 5) c = nI 5) := by rw [h1c]; decide +kernel
  have hb : C (w + fA 11) (fJ 11 + p) = -1 := by
    obtain ⟨s', i1, i2, _⟩ := hP p hp
    have hs' : s' = s := st_eq (by have := i2.1; omega) (by omega) i1 hst
    show C (w + 19) (0 + p) = -1
    rw [Nat.zero_add]; exact i2.2.2.2.2 (by omega)
  have hfp : cn 96 (farP (up1 (C (w + 5)) c (nI kd)) (up1 (C (w + 6)) c (nI p)) (nI p)) = cn 96 (farP (C (w + 5)) (C (w + 6)) (nI p)) + 1 :=
    cn_inc 96 _ _ c hc (far_f (Or.inl hnf)) (by rw [far_s]; exact decide_eq_true ⟨hkd2, rfl⟩) (fun k hk e => (far_o e).symm)
  have hfq : ∀ q, q < n → q ≠ p → cn 96 (farP (up1 (C (w + 5)) c (nI kd)) (up1 (C (w + 6)) c (nI p)) (nI q)) = cn 96 (farP (C (w + 5)) (C (w + 6)) (nI q)) := fun q hq hqp => cn_con _ _ _ (fun k hk => by
    by_cases e : k = c
    · subst e; rw [far_s, far_f (Or.inl hnf)]; exact decide_eq_false (fun h => hqp (za_inj (by omega) (by omega) h.2.symm))
    · rw [far_o e])
  have e18 : (wr (wr (wr (wr (wr (wr (wr (wr (wr (wr (wr (wr (wr (wr C (w + 5) c (nI 1)) (w + 6) c (-1)) (w + 7) c (-1)) (w + 8) c 0) (w + 9) c 0) (w + 10) c (-1)) (w + 11) c (-1)) (w + 5) c (nI kd)) (w + 6) c (nI p)) (w + 10) c (nI m)) (w + 11) c te) (w + 1) 9 (C (w + 1) 9 + nI 1)) (w + 21) p (C (w + 21) p + nI 1)) (w + 18) p (nI 4)) (w + 18) = up1 (C (w + 18)) p (nI 4) := by simp (disch := omega) only [up1_2, za_wrf, za_wrc, za_wra, za_wri]
  have e19 : (wr (wr (wr (wr (wr (wr (wr (wr (wr (wr (wr (wr (wr (wr C (w + 5) c (nI 1)) (w + 6) c (-1)) (w + 7) c (-1)) (w + 8) c 0) (w + 9) c 0) (w + 10) c (-1)) (w + 11) c (-1)) (w + 5) c (nI kd)) (w + 6) c (nI p)) (w + 10) c (nI m)) (w + 11) c te) (w + 1) 9 (C (w + 1) 9 + nI 1)) (w + 21) p (C (w + 21) p + nI 1)) (w + 18) p (nI 4)) (w + 19) = C (w + 19) := by simp (disch := omega) only [up1_2, za_wrf, za_wrc, za_wra, za_wri]
  have e16 : (wr (wr (wr (wr (wr (wr (wr (wr (wr (wr (wr (wr (wr (wr C (w + 5) c (nI 1)) (w + 6) c (-1)) (w + 7) c (-1)) (w + 8) c 0) (w + 9) c 0) (w + 10) c (-1)) (w + 11) c (-1)) (w + 5) c (nI kd)) (w + 6) c (nI p)) (w + 10) c (nI m)) (w + 11) c te) (w + 1) 9 (C (w + 1) 9 + nI 1)) (w + 21) p (C (w + 21) p + nI 1)) (w + 18) p (nI 4)) (w + 16) = C (w + 16) := by simp (disch := omega) only [up1_2, za_wrf, za_wrc, za_wra, za_wri]
  have e17 : (wr (wr (wr (wr (wr (wr (wr (wr (wr (wr (wr (wr (wr (wr C (w + 5) c (nI 1)) (w + 6) c (-1)) (w + 7) c (-1)) (w + 8) c 0) (w + 9) c 0) (w + 10) c (-1)) (w + 11) c (-1)) (w + 5) c (nI kd)) (w + 6) c (nI p)) (w + 10) c (nI m)) (w + 11) c te) (w + 1) 9 (C (w + 1) 9 + nI 1)) (w + 21) p (C (w + 21) p + nI 1)) (w + 18) p (nI 4)) (w + 17) = C (w + 17) := by simp (disch := omega) only [up1_2, za_wrf, za_wrc, za_wra, za_wri]
  have e20 : (wr (wr (wr (wr (wr (wr (wr (wr (wr (wr (wr (wr (wr (wr C (w + 5) c (nI 1)) (w + 6) c (-1)) (w + 7) c (-1)) (w + 8) c 0) (w + 9) c 0) (w + 10) c (-1)) (w + 11) c (-1)) (w + 5) c (nI kd)) (w + 6) c (nI p)) (w + 10) c (nI m)) (w + 11) c te) (w + 1) 9 (C (w + 1) 9 + nI 1)) (w + 21) p (C (w + 21) p + nI 1)) (w + 18) p (nI 4)) (w + 20) = C (w + 20) := by simp (disch := omega) only [up1_2, za_wrf, za_wrc, za_wra, za_wri]
  have e21 : (wr (wr (wr (wr (wr (wr (wr (wr (wr (wr (wr (wr (wr (wr C (w + 5) c (nI 1)) (w + 6) c (-1)) (w + 7) c (-1)) (w + 8) c 0) (w + 9) c 0) (w + 10) c (-1)) (w + 11) c (-1)) (w + 5) c (nI kd)) (w + 6) c (nI p)) (w + 10) c (nI m)) (w + 11) c te) (w + 1) 9 (C (w + 1) 9 + nI 1)) (w + 21) p (C (w + 21) p + nI 1)) (w + 18) p (nI 4)) (w + 21) = up1 (C (w + 21)) p (C (w + 21) p + nI 1) := by simp (disch := omega) only [up1_2, za_wrf, za_wrc, za_wra, za_wri]
  have e5 : (wr (wr (wr (wr (wr (wr (wr (wr (wr (wr (wr (wr (wr (wr C (w + 5) c (nI 1)) (w + 6) c (-1)) (w + 7) c (-1)) (w + 8) c 0) (w + 9) c 0) (w + 10) c (-1)) (w + 11) c (-1)) (w + 5) c (nI kd)) (w + 6) c (nI p)) (w + 10) c (nI m)) (w + 11) c te) (w + 1) 9 (C (w + 1) 9 + nI 1)) (w + 21) p (C (w + 21) p + nI 1)) (w + 18) p (nI 4)) (w + 5) = up1 (C (w + 5)) c (nI kd) := by simp (disch := omega) only [up1_2, za_wrf, za_wrc, za_wra, za_wri]
  have e6 : (wr (wr (wr (wr (wr (wr (wr (wr (wr (wr (wr (wr (wr (wr C (w + 5) c (nI 1)) (w + 6) c (-1)) (w + 7) c (-1)) (w + 8) c 0) (w + 9) c 0) (w + 10) c (-1)) (w + 11) c (-1)) (w + 5) c (nI kd)) (w + 6) c (nI p)) (w + 10) c (nI m)) (w + 11) c te) (w + 1) 9 (C (w + 1) 9 + nI 1)) (w + 21) p (C (w + 21) p + nI 1)) (w + 18) p (nI 4)) (w + 6) = up1 (C (w + 6)) c (nI p) := by simp (disch := omega) only [up1_2, za_wrf, za_wrc, za_wra, za_wri]
  refine ⟨?_, ?_, ?_, ?_, ?_, ?_, ?_, ?_, ?_, ?_, ?_, ?_, ?_, ?_⟩
  · intro f i hf hi
    have h0 := hA f i hf hi
    simp only [rc_hold hc hf hi, rc_own hc hf hi, rc_stk hc hf hi, rc_fen hc hf hi, rc_paid hc hf hi, rc_tel hc hf hi, rj_end hf hi, rj_gf hf hi, rj_far hf hi, rc_st (show p < 100 from by omega) hf hi, rr_hold hc hf hi, rr_own hc hf hi, rr_stk hc hf hi, rr_fen hc hf hi, rr_paid hc hf hi, rr_tel hc hf hi, rk_end hc hf hi, rr_st (show p < 100 from by omega) hf hi, rr_boss (show p < 100 from by omega) hf hi]
    grind
  · exact WN_cg hN (by first | rfl | simp (disch := omega) only [za_wra, za_wri, za_wrc]) (by first | rfl | simp (disch := omega) only [za_wra, za_wri, za_wrc])
  · intro c' hc'
    by_cases e : c' = c
    · subst e
      have h0 := hS c' hc'
      simp (disch := omega) only [za_wrs, za_wra, za_wri]
      exact ⟨⟨kd, rfl, by omega, by omega, fun h => absurd h (by omega), fun _ => ⟨p, hp, rfl⟩, fun _ => rfl, fun _ => ⟨m, hm, rfl⟩, fun h h' => absurd hkd (by omega), fun h => hte h, fun h => absurd h (by omega)⟩, isz0, ⟨0, by omega, rfl⟩, h0.2.2.2.1, h0.2.2.2.2⟩
    · have h0 := hS c' hc'
      simp (disch := omega) only [za_wrs, za_wra, za_wri]
      exact h0
  · intro q hq
    obtain ⟨s1, i1, i2, i7⟩ := hP q hq
    rw [e18, e19, e16, e17, e5, e6]
    by_cases e : q = p
    · subst e
      have hs' : s1 = s := st_eq (by have := i2.1; omega) (by omega) i1 hst
      subst hs'
      rw [hfp]
      refine ⟨4, by rw [up1_s], ⟨by omega, i2.2.1, i2.2.2.1, fun h => absurd h (by decide), fun _ => i2.2.2.2.2 (by omega)⟩, ⟨fun _ => by omega, fun _ => rfl⟩⟩
    · rw [hfq q hq e]
      refine ⟨s1, by rw [up1_o e]; exact i1, ⟨i2.1, i2.2.1, i2.2.2.1, ?_, i2.2.2.2.2⟩, i7⟩
      intro hs3
      obtain ⟨y, hy, hy1, hy2⟩ := i2.2.2.2.1 hs3
      refine ⟨y, hy, hy1, ?_⟩
      by_cases ey : y = p
      · subst ey; rw [up1_s]; exact Or.inl rfl
      · rw [up1_o ey]; exact hy2
  · intro q hq
    obtain ⟨h1, h2⟩ := hH q hq
    rw [e18, e19, e20, e21, e5, e6]
    refine ⟨h1.trans (congrArg nI (cn_con n _ _ (fun k hk => ?_))), ?_⟩
    · unfold hirP
      by_cases e : k = p
      · subst e
        rw [up1_s, hst, decide_eq_false (fun h => hs3 (za_inj (by omega) (by omega) h.1)), decide_eq_false (fun h => absurd h.1 (by decide +kernel))]
      · rw [up1_o e]
    · by_cases e : q = p
      · subst e; rw [up1_s, h2, nI_add, hfp]
      · rw [up1_o e, h2, hfq q hq e]
  · intro q hq hq1
    have := hO q hq hq1
    have ea : ∀ u v : Nat, u ≠ v → w + u ≠ w + v := fun u v h => by omega
    refine ⟨?_, ?_, ?_, ?_⟩
    · refine Eq.trans ?_ this.1
      first | rfl | simp (disch := omega) only [za_wra, za_wri, za_wrc]
    · refine Eq.trans ?_ this.2.1
      first | rfl | simp (disch := omega) only [za_wra, za_wri, za_wrc]
    · refine Eq.trans ?_ this.2.2.1
      first | rfl | simp (disch := omega) only [za_wra, za_wri, za_wrc]
    · refine Eq.trans ?_ this.2.2.2
      first | rfl | simp (disch := omega) only [za_wra, za_wri, za_wrc]
  · obtain ⟨h1, h2⟩ := hC
    refine ⟨?_, ?_⟩
    · rw [e18]
      refine Eq.trans (by simp (disch := omega) only [za_wra, za_wri, za_wrc]) (h1.trans (congrArg nI (cn_con n _ _ (fun k hk => ?_))))
      by_cases e : k = p
      · subst e; rw [her_s, her_n hst (by omega), decide_eq_true hs2]; decide +kernel
      · rw [her_o e]
    · rw [e5]
      refine Eq.trans (b := C (w + 1) 9 + nI 1) (by simp (disch := omega) only [za_wrs, za_wra, za_wri]) ?_
      rw [h2, nI_add]
      exact congrArg nI (cn_inc 96 _ _ c hc (frm_f hnf) (by rw [frm_s]; exact decide_eq_true hkd2) (fun k hk e => (frm_o e).symm)).symm
  · exact WZ_cg hZ (fun k h1 h2 => by first | rfl | simp (disch := omega) only [za_wra, za_wri, za_wrc])
  · exact WQ_cg hQ (by first | rfl | simp (disch := omega) only [za_wra, za_wri, za_wrc]) (fun k h1 h2 => by first | rfl | simp (disch := omega) only [za_wra, za_wri, za_wrc])
  · exact WB_cg hB (by first | rfl | simp (disch := omega) only [za_wra, za_wri, za_wrc]) (fun k h1 h2 => by first | rfl | simp (disch := omega) only [za_wra, za_wri, za_wrc])
  · exact WL_cg hL (by first | rfl | simp (disch := omega) only [za_wra, za_wri, za_wrc]) (by first | rfl | simp (disch := omega) only [za_wra, za_wri, za_wrc]) (by first | rfl | simp (disch := omega) only [za_wra, za_wri, za_wrc])
  · intro c' hc'
    have h0 := hE c' hc'
    by_cases e : c' = c
    · subst e
      simp (disch := omega) only [za_wrs, za_wra, za_wri]
      exact okE_n (by rcases hkd with rfl | rfl <;> decide +kernel) (by rcases hkd with rfl | rfl <;> decide +kernel)
    · simp (disch := omega) only [za_wrs, za_wra, za_wri]
      exact h0
  · exact RQ_cg hq (by first | rfl | simp (disch := omega) only [za_wra, za_wri, za_wrc]) (by first | rfl | simp (disch := omega) only [za_wra, za_wri, za_wrc]) (fun p0 hp0 i0 hi0 => by first | rfl | simp (disch := omega) only [za_wra, za_wri, za_wrc])
  · exact RY_cg hl (by first | rfl | simp (disch := omega) only [za_wra, za_wri, za_wrc]) (by first | rfl | simp (disch := omega) only [za_wra, za_wri, za_wrc]) (by first | rfl | simp (disch := omega) only [za_wra, za_wri, za_wrc]) (fun l0 hl0 => ⟨by first | rfl | simp (disch := omega) only [za_wra, za_wri, za_wrc], by first | rfl | simp (disch := omega) only [za_wra, za_wri, za_wrc]⟩)

theorem op_lose1 {w n t x a y : Nat} {C R : Mc} {c p k m : Nat} (hc : c < 96) (hp : p < n) (hn : n ≤ 100) (hf3 : C (w + 5) c = nI 3 ∨ C (w + 5) c = nI 5) (ho : C (w + 6) c = nI p) (hk : k ≤ 1000000) (hm : C (w + 21) p = nI m) (hm1 : 2 ≤ m) (hmx : m ≤ 96) (h : RW w n t x a y C R) : RW w n t x a y (wr (wr (wr (wr (wr (wr (wr (wr (wr (wr C (w + 1) 9 (C (w + 1) 9 - nI 1)) (w + 5) c (nI 1)) (w + 6) c (-1)) (w + 7) c (-1)) (w + 8) c 0) (w + 9) c 0) (w + 10) c (-1)) (w + 11) c (-1)) (w + 17) p (nI k)) (w + 21) p (C (w + 21) p - nI 1)) (moHolds (wr R 128 (768 + 8 * p + 1) (nI k)) c (nI 1) (-1)) := by
  obtain ⟨hA, hN, hS, hP, hH, hO, hC, hZ, hQ, hB, hL, hE, hq, hl⟩ := h
  unfold moHolds
  have hp4 : C (w + 18) p = nI 4 := by
    obtain ⟨s', i1, i2, i3⟩ := hP p hp
    rw [i1, i3.mpr ((cn_pos _ _).mpr ⟨c, hc, far_t hf3 ho⟩)]
  have hfp : cn 96 (farP (C (w + 5)) (C (w + 6)) (nI p)) = cn 96 (farP (up1 (C (w + 5)) c (nI 1)) (up1 (C (w + 6)) c (-1)) (nI p)) + 1 :=
    cn_dec 96 _ _ c hc (far_t hf3 ho) (by rw [far_s]; exact decide_eq_false (fun h => absurd h.1 (by decide +kernel))) (fun k hk e => (far_o e).symm)
  have hfq : ∀ q, q < n → q ≠ p → cn 96 (farP (up1 (C (w + 5)) c (nI 1)) (up1 (C (w + 6)) c (-1)) (nI q)) = cn 96 (farP (C (w + 5)) (C (w + 6)) (nI q)) := fun q hq hqp => cn_con _ _ _ (fun k hk => by
    by_cases e : k = c
    · subst e; rw [far_s, far_f (Or.inr (by rw [ho]; exact fun h => hqp (za_inj (by omega) (by omega) h.symm)))]; exact decide_eq_false (fun h => absurd h.1 (by decide +kernel))
    · rw [far_o e])
  have hfm : cn 96 (farP (C (w + 5)) (C (w + 6)) (nI p)) = m := by
    have := (hH p hp).2
    rw [hm] at this
    have h96 := cn_le 96 (farP (C (w + 5)) (C (w + 6)) (nI p))
    exact (za_inj (by omega) (by omega) this).symm
  have e18 : (wr (wr (wr (wr (wr (wr (wr (wr (wr (wr C (w + 1) 9 (C (w + 1) 9 - nI 1)) (w + 5) c (nI 1)) (w + 6) c (-1)) (w + 7) c (-1)) (w + 8) c 0) (w + 9) c 0) (w + 10) c (-1)) (w + 11) c (-1)) (w + 17) p (nI k)) (w + 21) p (C (w + 21) p - nI 1)) (w + 18) = C (w + 18) := by simp (disch := omega) only [up1_2, za_wrf, za_wrc, za_wra, za_wri]
  have e19 : (wr (wr (wr (wr (wr (wr (wr (wr (wr (wr C (w + 1) 9 (C (w + 1) 9 - nI 1)) (w + 5) c (nI 1)) (w + 6) c (-1)) (w + 7) c (-1)) (w + 8) c 0) (w + 9) c 0) (w + 10) c (-1)) (w + 11) c (-1)) (w + 17) p (nI k)) (w + 21) p (C (w + 21) p - nI 1)) (w + 19) = C (w + 19) := by simp (disch := omega) only [up1_2, za_wrf, za_wrc, za_wra, za_wri]
  have e16 : (wr (wr (wr (wr (wr (wr (wr (wr (wr (wr C (w + 1) 9 (C (w + 1) 9 - nI 1)) (w + 5) c (nI 1)) (w + 6) c (-1)) (w + 7) c (-1)) (w + 8) c 0) (w + 9) c 0) (w + 10) c (-1)) (w + 11) c (-1)) (w + 17) p (nI k)) (w + 21) p (C (w + 21) p - nI 1)) (w + 16) = C (w + 16) := by simp (disch := omega) only [up1_2, za_wrf, za_wrc, za_wra, za_wri]
  have e17 : (wr (wr (wr (wr (wr (wr (wr (wr (wr (wr C (w + 1) 9 (C (w + 1) 9 - nI 1)) (w + 5) c (nI 1)) (w + 6) c (-1)) (w + 7) c (-1)) (w + 8) c 0) (w + 9) c 0) (w + 10) c (-1)) (w + 11) c (-1)) (w + 17) p (nI k)) (w + 21) p (C (w + 21) p - nI 1)) (w + 17) = up1 (C (w + 17)) p (nI k) := by simp (disch := omega) only [up1_2, za_wrf, za_wrc, za_wra, za_wri]
  have e20 : (wr (wr (wr (wr (wr (wr (wr (wr (wr (wr C (w + 1) 9 (C (w + 1) 9 - nI 1)) (w + 5) c (nI 1)) (w + 6) c (-1)) (w + 7) c (-1)) (w + 8) c 0) (w + 9) c 0) (w + 10) c (-1)) (w + 11) c (-1)) (w + 17) p (nI k)) (w + 21) p (C (w + 21) p - nI 1)) (w + 20) = C (w + 20) := by simp (disch := omega) only [up1_2, za_wrf, za_wrc, za_wra, za_wri]
  have e21 : (wr (wr (wr (wr (wr (wr (wr (wr (wr (wr C (w + 1) 9 (C (w + 1) 9 - nI 1)) (w + 5) c (nI 1)) (w + 6) c (-1)) (w + 7) c (-1)) (w + 8) c 0) (w + 9) c 0) (w + 10) c (-1)) (w + 11) c (-1)) (w + 17) p (nI k)) (w + 21) p (C (w + 21) p - nI 1)) (w + 21) = up1 (C (w + 21)) p (C (w + 21) p - nI 1) := by simp (disch := omega) only [up1_2, za_wrf, za_wrc, za_wra, za_wri]
  have e5 : (wr (wr (wr (wr (wr (wr (wr (wr (wr (wr C (w + 1) 9 (C (w + 1) 9 - nI 1)) (w + 5) c (nI 1)) (w + 6) c (-1)) (w + 7) c (-1)) (w + 8) c 0) (w + 9) c 0) (w + 10) c (-1)) (w + 11) c (-1)) (w + 17) p (nI k)) (w + 21) p (C (w + 21) p - nI 1)) (w + 5) = up1 (C (w + 5)) c (nI 1) := by simp (disch := omega) only [up1_2, za_wrf, za_wrc, za_wra, za_wri]
  have e6 : (wr (wr (wr (wr (wr (wr (wr (wr (wr (wr C (w + 1) 9 (C (w + 1) 9 - nI 1)) (w + 5) c (nI 1)) (w + 6) c (-1)) (w + 7) c (-1)) (w + 8) c 0) (w + 9) c 0) (w + 10) c (-1)) (w + 11) c (-1)) (w + 17) p (nI k)) (w + 21) p (C (w + 21) p - nI 1)) (w + 6) = up1 (C (w + 6)) c (-1) := by simp (disch := omega) only [up1_2, za_wrf, za_wrc, za_wra, za_wri]
  refine ⟨?_, ?_, ?_, ?_, ?_, ?_, ?_, ?_, ?_, ?_, ?_, ?_, ?_, ?_⟩
  · intro f i hf hi
    have h0 := hA f i hf hi
    simp only [rc_hold hc hf hi, rc_own hc hf hi, rc_stk hc hf hi, rc_fen hc hf hi, rc_paid hc hf hi, rc_tel hc hf hi, rj_end hf hi, rj_gf hf hi, rj_far hf hi, rc_coin (show p < 100 from by omega) hf hi, rr_hold hc hf hi, rr_own hc hf hi, rr_stk hc hf hi, rr_fen hc hf hi, rr_paid hc hf hi, rr_tel hc hf hi, rk_end hc hf hi, rr_coin (show p < 100 from by omega) hf hi]
    grind
  · exact WN_cg hN (by first | rfl | simp (disch := omega) only [za_wra, za_wri, za_wrc]) (by first | rfl | simp (disch := omega) only [za_wra, za_wri, za_wrc])
  · intro c' hc'
    by_cases e : c' = c
    · subst e
      have h0 := hS c' hc'
      simp (disch := omega) only [za_wrs, za_wra, za_wri]
      exact okS_lot h0.2.2.2.1 h0.2.2.2.2
    · have h0 := hS c' hc'
      simp (disch := omega) only [za_wrs, za_wra, za_wri]
      exact h0
  · intro q hq
    obtain ⟨s1, i1, i2, i7⟩ := hP q hq
    rw [e18, e19, e16, e17, e5, e6]
    by_cases e : q = p
    · subst e
      refine ⟨s1, i1, ⟨i2.1, ⟨k, hk, by rw [up1_s]⟩, i2.2.2.1, i2.2.2.2.1, i2.2.2.2.2⟩, ⟨fun h => by omega, fun _ => i7.mpr (by omega)⟩⟩
    · rw [hfq q hq e, up1_o (f := C (w + 17)) e]
      refine ⟨s1, i1, ⟨i2.1, i2.2.1, i2.2.2.1, ?_, i2.2.2.2.2⟩, i7⟩
      intro hs3
      obtain ⟨y, hy, hy1, hy2⟩ := i2.2.2.2.1 hs3
      refine ⟨y, hy, hy1, ?_⟩
      exact hy2
  · intro q hq
    obtain ⟨h1, h2⟩ := hH q hq
    rw [e18, e19, e20, e21, e5, e6]
    refine ⟨h1, ?_⟩
    · by_cases e : q = p
      · subst e; rw [up1_s, h2]; exact nis hfp
      · rw [up1_o e, h2, hfq q hq e]
  · intro q hq hq1
    have := hO q hq hq1
    have ea : ∀ u v : Nat, u ≠ v → w + u ≠ w + v := fun u v h => by omega
    refine ⟨?_, ?_, ?_, ?_⟩
    · refine Eq.trans ?_ this.1
      first | rfl | simp (disch := omega) only [za_wra, za_wri, za_wrc]
    · refine Eq.trans ?_ this.2.1
      first | rfl | simp (disch := omega) only [za_wra, za_wri, za_wrc]
    · refine Eq.trans ?_ this.2.2.1
      first | rfl | simp (disch := omega) only [za_wra, za_wri, za_wrc]
    · refine Eq.trans ?_ this.2.2.2
      first | rfl | simp (disch := omega) only [za_wra, za_wri, za_wrc]
  · obtain ⟨h1, h2⟩ := hC
    refine ⟨?_, ?_⟩
    · rw [e18]
      refine Eq.trans (by simp (disch := omega) only [za_wra, za_wri, za_wrc]) (h1)
    · rw [e5]
      refine Eq.trans (b := C (w + 1) 9 - nI 1) (by simp (disch := omega) only [za_wrs, za_wra, za_wri]) ?_
      rw [h2]
      exact nis (cn_dec 96 _ _ c hc (frm_t hf3) (by rw [frm_s]; decide +kernel) (fun k hk e => (frm_o e).symm))
  · exact WZ_cg hZ (fun k h1 h2 => by first | rfl | simp (disch := omega) only [za_wra, za_wri, za_wrc])
  · exact WQ_cg hQ (by first | rfl | simp (disch := omega) only [za_wra, za_wri, za_wrc]) (fun k h1 h2 => by first | rfl | simp (disch := omega) only [za_wra, za_wri, za_wrc])
  · exact WB_cg hB (by first | rfl | simp (disch := omega) only [za_wra, za_wri, za_wrc]) (fun k h1 h2 => by first | rfl | simp (disch := omega) only [za_wra, za_wri, za_wrc])
  · exact WL_cg hL (by first | rfl | simp (disch := omega) only [za_wra, za_wri, za_wrc]) (by first | rfl | simp (disch := omega) only [za_wra, za_wri, za_wrc]) (by first | rfl | simp (disch := omega) only [za_wra, za_wri, za_wrc])
  · intro c' hc'
    have h0 := hE c' hc'
    by_cases e : c' = c
    · subst e
      simp (disch := omega) only [za_wrs, za_wra, za_wri]
      exact okE_n (by decide +kernel) (by decide +kernel)
    · simp (disch := omega) only [za_wrs, za_wra, za_wri]
      exact h0
  · exact RQ_cg hq (by first | rfl | simp (disch := omega) only [za_wra, za_wri, za_wrc]) (by first | rfl | simp (disch := omega) only [za_wra, za_wri, za_wrc]) (fun p0 hp0 i0 hi0 => by first | rfl | simp (disch := omega) only [za_wra, za_wri, za_wrc])
  · exact RY_cg hl (by first | rfl | simp (disch := omega) only [za_wra, za_wri, za_wrc]) (by first | rfl | simp (disch := omega) only [za_wra, za_wri, za_wrc]) (by first | rfl | simp (disch := omega) only [za_wra, za_wri, za_wrc]) (fun l0 hl0 => ⟨by first | rfl | simp (disch := omega) only [za_wra, za_wri, za_wrc], by first | rfl | simp (disch := omega) only [za_wra, za_wri, za_wrc]⟩)

theorem op_lose0 {w n t x a y : Nat} {C R : Mc} {c p k m : Nat} (hc : c < 96) (hp : p < n) (hn : n ≤ 100) (hf3 : C (w + 5) c = nI 3 ∨ C (w + 5) c = nI 5) (ho : C (w + 6) c = nI p) (hk : k ≤ 1000000) (hm : C (w + 21) p = nI m) (hm1 : m = 1) (hmx : m ≤ 96) (h : RW w n t n a y C R) : RW w n t p a y (wr (wr (wr (wr (wr (wr (wr (wr (wr (wr (wr C (w + 1) 9 (C (w + 1) 9 - nI 1)) (w + 5) c (nI 1)) (w + 6) c (-1)) (w + 7) c (-1)) (w + 8) c 0) (w + 9) c 0) (w + 10) c (-1)) (w + 11) c (-1)) (w + 17) p (nI k)) (w + 21) p (C (w + 21) p - nI 1)) (w + 18) p (nI 2)) (wr (moHolds (wr R 128 (768 + 8 * p + 1) (nI k)) c (nI 1) (-1)) 128 (768 + 8 * p + 2) (nI 2)) := by
  obtain ⟨hA, hN, hS, hP, hH, hO, hC, hZ, hQ, hB, hL, hE, hq, hl⟩ := h
  unfold moHolds
  have hp4 : C (w + 18) p = nI 4 := by
    obtain ⟨s', i1, i2, i3⟩ := hP p hp
    rw [i1, i3.mpr ((cn_pos _ _).mpr ⟨c, hc, far_t hf3 ho⟩)]
  have hfp : cn 96 (farP (C (w + 5)) (C (w + 6)) (nI p)) = cn 96 (farP (up1 (C (w + 5)) c (nI 1)) (up1 (C (w + 6)) c (-1)) (nI p)) + 1 :=
    cn_dec 96 _ _ c hc (far_t hf3 ho) (by rw [far_s]; exact decide_eq_false (fun h => absurd h.1 (by decide +kernel))) (fun k hk e => (far_o e).symm)
  have hfq : ∀ q, q < n → q ≠ p → cn 96 (farP (up1 (C (w + 5)) c (nI 1)) (up1 (C (w + 6)) c (-1)) (nI q)) = cn 96 (farP (C (w + 5)) (C (w + 6)) (nI q)) := fun q hq hqp => cn_con _ _ _ (fun k hk => by
    by_cases e : k = c
    · subst e; rw [far_s, far_f (Or.inr (by rw [ho]; exact fun h => hqp (za_inj (by omega) (by omega) h.symm)))]; exact decide_eq_false (fun h => absurd h.1 (by decide +kernel))
    · rw [far_o e])
  have hfm : cn 96 (farP (C (w + 5)) (C (w + 6)) (nI p)) = m := by
    have := (hH p hp).2
    rw [hm] at this
    have h96 := cn_le 96 (farP (C (w + 5)) (C (w + 6)) (nI p))
    exact (za_inj (by omega) (by omega) this).symm
  have e18 : (wr (wr (wr (wr (wr (wr (wr (wr (wr (wr (wr C (w + 1) 9 (C (w + 1) 9 - nI 1)) (w + 5) c (nI 1)) (w + 6) c (-1)) (w + 7) c (-1)) (w + 8) c 0) (w + 9) c 0) (w + 10) c (-1)) (w + 11) c (-1)) (w + 17) p (nI k)) (w + 21) p (C (w + 21) p - nI 1)) (w + 18) p (nI 2)) (w + 18) = up1 (C (w + 18)) p (nI 2) := by simp (disch := omega) only [up1_2, za_wrf, za_wrc, za_wra, za_wri]
  have e19 : (wr (wr (wr (wr (wr (wr (wr (wr (wr (wr (wr C (w + 1) 9 (C (w + 1) 9 - nI 1)) (w + 5) c (nI 1)) (w + 6) c (-1)) (w + 7) c (-1)) (w + 8) c 0) (w + 9) c 0) (w + 10) c (-1)) (w + 11) c (-1)) (w + 17) p (nI k)) (w + 21) p (C (w + 21) p - nI 1)) (w + 18) p (nI 2)) (w + 19) = C (w + 19) := by simp (disch := omega) only [up1_2, za_wrf, za_wrc, za_wra, za_wri]
  have e16 : (wr (wr (wr (wr (wr (wr (wr (wr (wr (wr (wr C (w + 1) 9 (C (w + 1) 9 - nI 1)) (w + 5) c (nI 1)) (w + 6) c (-1)) (w + 7) c (-1)) (w + 8) c 0) (w + 9) c 0) (w + 10) c (-1)) (w + 11) c (-1)) (w + 17) p (nI k)) (w + 21) p (C (w + 21) p - nI 1)) (w + 18) p (nI 2)) (w + 16) = C (w + 16) := by simp (disch := omega) only [up1_2, za_wrf, za_wrc, za_wra, za_wri]
  have e17 : (wr (wr (wr (wr (wr (wr (wr (wr (wr (wr (wr C (w + 1) 9 (C (w + 1) 9 - nI 1)) (w + 5) c (nI 1)) (w + 6) c (-1)) (w + 7) c (-1)) (w + 8) c 0) (w + 9) c 0) (w + 10) c (-1)) (w + 11) c (-1)) (w + 17) p (nI k)) (w + 21) p (C (w + 21) p - nI 1)) (w + 18) p (nI 2)) (w + 17) = up1 (C (w + 17)) p (nI k) := by simp (disch := omega) only [up1_2, za_wrf, za_wrc, za_wra, za_wri]
  have e20 : (wr (wr (wr (wr (wr (wr (wr (wr (wr (wr (wr C (w + 1) 9 (C (w + 1) 9 - nI 1)) (w + 5) c (nI 1)) (w + 6) c (-1)) (w + 7) c (-1)) (w + 8) c 0) (w + 9) c 0) (w + 10) c (-1)) (w + 11) c (-1)) (w + 17) p (nI k)) (w + 21) p (C (w + 21) p - nI 1)) (w + 18) p (nI 2)) (w + 20) = C (w + 20) := by simp (disch := omega) only [up1_2, za_wrf, za_wrc, za_wra, za_wri]
  have e21 : (wr (wr (wr (wr (wr (wr (wr (wr (wr (wr (wr C (w + 1) 9 (C (w + 1) 9 - nI 1)) (w + 5) c (nI 1)) (w + 6) c (-1)) (w + 7) c (-1)) (w + 8) c 0) (w + 9) c 0) (w + 10) c (-1)) (w + 11) c (-1)) (w + 17) p (nI k)) (w + 21) p (C (w + 21) p - nI 1)) (w + 18) p (nI 2)) (w + 21) = up1 (C (w + 21)) p (C (w + 21) p - nI 1) := by simp (disch := omega) only [up1_2, za_wrf, za_wrc, za_wra, za_wri]
  have e5 : (wr (wr (wr (wr (wr (wr (wr (wr (wr (wr (wr C (w + 1) 9 (C (w + 1) 9 - nI 1)) (w + 5) c (nI 1)) (w + 6) c (-1)) (w + 7) c (-1)) (w + 8) c 0) (w + 9) c 0) (w + 10) c (-1)) (w + 11) c (-1)) (w + 17) p (nI k)) (w + 21) p (C (w + 21) p - nI 1)) (w + 18) p (nI 2)) (w + 5) = up1 (C (w + 5)) c (nI 1) := by simp (disch := omega) only [up1_2, za_wrf, za_wrc, za_wra, za_wri]
  have e6 : (wr (wr (wr (wr (wr (wr (wr (wr (wr (wr (wr C (w + 1) 9 (C (w + 1) 9 - nI 1)) (w + 5) c (nI 1)) (w + 6) c (-1)) (w + 7) c (-1)) (w + 8) c 0) (w + 9) c 0) (w + 10) c (-1)) (w + 11) c (-1)) (w + 17) p (nI k)) (w + 21) p (C (w + 21) p - nI 1)) (w + 18) p (nI 2)) (w + 6) = up1 (C (w + 6)) c (-1) := by simp (disch := omega) only [up1_2, za_wrf, za_wrc, za_wra, za_wri]
  refine ⟨?_, ?_, ?_, ?_, ?_, ?_, ?_, ?_, ?_, ?_, ?_, ?_, ?_, ?_⟩
  · intro f i hf hi
    have h0 := hA f i hf hi
    simp only [rc_hold hc hf hi, rc_own hc hf hi, rc_stk hc hf hi, rc_fen hc hf hi, rc_paid hc hf hi, rc_tel hc hf hi, rj_end hf hi, rj_gf hf hi, rj_far hf hi, rc_coin (show p < 100 from by omega) hf hi, rc_st (show p < 100 from by omega) hf hi, rr_hold hc hf hi, rr_own hc hf hi, rr_stk hc hf hi, rr_fen hc hf hi, rr_paid hc hf hi, rr_tel hc hf hi, rk_end hc hf hi, rr_coin (show p < 100 from by omega) hf hi, rr_st (show p < 100 from by omega) hf hi]
    grind
  · exact WN_cg hN (by first | rfl | simp (disch := omega) only [za_wra, za_wri, za_wrc]) (by first | rfl | simp (disch := omega) only [za_wra, za_wri, za_wrc])
  · intro c' hc'
    by_cases e : c' = c
    · subst e
      have h0 := hS c' hc'
      simp (disch := omega) only [za_wrs, za_wra, za_wri]
      exact okS_lot h0.2.2.2.1 h0.2.2.2.2
    · have h0 := hS c' hc'
      simp (disch := omega) only [za_wrs, za_wra, za_wri]
      exact h0
  · intro q hq
    obtain ⟨s1, i1, i2, i7⟩ := hP q hq
    rw [e18, e19, e16, e17, e5, e6]
    by_cases e : q = p
    · subst e
      have hs' : s1 = 4 := st_eq (by have := i2.1; omega) (by omega) i1 hp4
      subst hs'
      refine ⟨2, by rw [up1_s], ⟨by omega, ⟨k, hk, by rw [up1_s]⟩, i2.2.2.1, fun h => absurd h (by decide), fun _ => i2.2.2.2.2 (by omega)⟩, ⟨fun h => absurd h (by decide), fun h => by omega⟩⟩
    · rw [hfq q hq e, up1_o (f := C (w + 17)) e, up1_o (f := C (w + 18)) e]
      refine ⟨s1, i1, ⟨i2.1, i2.2.1, i2.2.2.1, ?_, i2.2.2.2.2⟩, i7⟩
      intro hs3
      obtain ⟨y, hy, hy1, hy2⟩ := i2.2.2.2.1 hs3
      refine ⟨y, hy, hy1, ?_⟩
      by_cases ey : y = p
      · exact Or.inr ey
      · rw [up1_o ey]; exact hy2.elim Or.inl (fun h => by omega)
  · intro q hq
    obtain ⟨h1, h2⟩ := hH q hq
    rw [e18, e19, e20, e21, e5, e6]
    refine ⟨h1.trans (congrArg nI (cn_con n _ _ (fun k hk => ?_))), ?_⟩
    · unfold hirP
      by_cases e : k = p
      · subst e
        rw [up1_s, hp4, decide_eq_false (fun h => absurd h.1 (by decide +kernel)), decide_eq_false (fun h => absurd h.1 (by decide +kernel))]
      · rw [up1_o e]
    · by_cases e : q = p
      · subst e; rw [up1_s, h2]; exact nis hfp
      · rw [up1_o e, h2, hfq q hq e]
  · intro q hq hq1
    have := hO q hq hq1
    have ea : ∀ u v : Nat, u ≠ v → w + u ≠ w + v := fun u v h => by omega
    refine ⟨?_, ?_, ?_, ?_⟩
    · refine Eq.trans ?_ this.1
      first | rfl | simp (disch := omega) only [za_wra, za_wri, za_wrc]
    · refine Eq.trans ?_ this.2.1
      first | rfl | simp (disch := omega) only [za_wra, za_wri, za_wrc]
    · refine Eq.trans ?_ this.2.2.1
      first | rfl | simp (disch := omega) only [za_wra, za_wri, za_wrc]
    · refine Eq.trans ?_ this.2.2.2
      first | rfl | simp (disch := omega) only [za_wra, za_wri, za_wrc]
  · obtain ⟨h1, h2⟩ := hC
    refine ⟨?_, ?_⟩
    · rw [e18]
      refine Eq.trans (by simp (disch := omega) only [za_wra, za_wri, za_wrc]) (h1.trans (congrArg nI (cn_con n _ _ (fun k hk => ?_))))
      by_cases e : k = p
      · subst e; rw [her_s, her_n hp4 (by omega)]; decide +kernel
      · rw [her_o e]
    · rw [e5]
      refine Eq.trans (b := C (w + 1) 9 - nI 1) (by simp (disch := omega) only [za_wrs, za_wra, za_wri]) ?_
      rw [h2]
      exact nis (cn_dec 96 _ _ c hc (frm_t hf3) (by rw [frm_s]; decide +kernel) (fun k hk e => (frm_o e).symm))
  · exact WZ_cg hZ (fun k h1 h2 => by first | rfl | simp (disch := omega) only [za_wra, za_wri, za_wrc])
  · exact WQ_cg hQ (by first | rfl | simp (disch := omega) only [za_wra, za_wri, za_wrc]) (fun k h1 h2 => by first | rfl | simp (disch := omega) only [za_wra, za_wri, za_wrc])
  · exact WB_cg hB (by first | rfl | simp (disch := omega) only [za_wra, za_wri, za_wrc]) (fun k h1 h2 => by first | rfl | simp (disch := omega) only [za_wra, za_wri, za_wrc])
  · exact WL_cg hL (by first | rfl | simp (disch := omega) only [za_wra, za_wri, za_wrc]) (by first | rfl | simp (disch := omega) only [za_wra, za_wri, za_wrc]) (by first | rfl | simp (disch := omega) only [za_wra, za_wri, za_wrc])
  · intro c' hc'
    have h0 := hE c' hc'
    by_cases e : c' = c
    · subst e
      simp (disch := omega) only [za_wrs, za_wra, za_wri]
      exact okE_n (by decide +kernel) (by decide +kernel)
    · simp (disch := omega) only [za_wrs, za_wra, za_wri]
      exact h0
  · exact RQ_cg hq (by first | rfl | simp (disch := omega) only [za_wra, za_wri, za_wrc]) (by first | rfl | simp (disch := omega) only [za_wra, za_wri, za_wrc]) (fun p0 hp0 i0 hi0 => by first | rfl | simp (disch := omega) only [za_wra, za_wri, za_wrc])
  · exact RY_cg hl (by first | rfl | simp (disch := omega) only [za_wra, za_wri, za_wrc]) (by first | rfl | simp (disch := omega) only [za_wra, za_wri, za_wrc]) (by first | rfl | simp (disch := omega) only [za_wra, za_wri, za_wrc]) (fun l0 hl0 => ⟨by first | rfl | simp (disch := omega) only [za_wra, za_wri, za_wrc], by first | rfl | simp (disch := omega) only [za_wra, za_wri, za_wrc]⟩)

/-- nobody works for x any more -/
theorem rw_done {w n t x a y : Nat} {C R : Mc} (hx : ∀ q, q < n → C (w + 18) q = nI 3 → C (w + 19) q ≠ nI x) (h : RW w n t x a y C R) : RW w n t n a y C R := by
  obtain ⟨h1, h2, h3, h4, h5⟩ := h
  refine ⟨h1, h2, h3, ?_, h5⟩
  intro p hp
  obtain ⟨s, i1, i2, i3⟩ := h4 p hp
  refine ⟨s, i1, ⟨i2.1, i2.2.1, i2.2.2.1, fun h3' => ?_, i2.2.2.2.2⟩, i3⟩
  obtain ⟨z, hz, hz1, hz2⟩ := i2.2.2.2.1 h3'
  refine ⟨z, hz, hz1, hz2.elim Or.inl (fun e => ?_)⟩
  subst e
  exact absurd hz1 (hx p hp (by rw [i1, h3']))

