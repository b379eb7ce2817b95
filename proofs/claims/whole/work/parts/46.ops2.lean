/-! ===== steps on sections ===== -/
theorem far_f {ho ow : Nat → Int32} {c : Nat} {z : Int32} (h : ¬ (ho c = nI 3 ∨ ho c = nI 5) ∨ ow c ≠ z) : farP ho ow z c = false := by
  unfold farP; exact decide_eq_false (fun q => h.elim (fun a => a q.1) (fun a => a q.2))
theorem far_t {ho ow : Nat → Int32} {c : Nat} {z : Int32} (h : ho c = nI 3 ∨ ho c = nI 5) (h2 : ow c = z) : farP ho ow z c = true := decide_eq_true ⟨h, h2⟩
theorem frm_f {ho : Nat → Int32} {c : Nat} (h : ¬ (ho c = nI 3 ∨ ho c = nI 5)) : frmP ho c = false := decide_eq_false h
theorem frm_t {ho : Nat → Int32} {c : Nat} (h : ho c = nI 3 ∨ ho c = nI 5) : frmP ho c = true := decide_eq_true h
theorem za_wrid (M : Mc) (k i : Nat) : wr M k i (M k i) = M := by
  funext a j; unfold wr; split
  · rename_i h; rw [h.1, h.2]
  · rfl
theorem ho_n {h : Nat} {v : Int32} (e : v = nI h) (hh : h ≤ 6) (h3 : h ≠ 3) (h5 : h ≠ 5) : ¬ (v = nI 3 ∨ v = nI 5) := by
  rw [e]; rintro (q | q)
  · exact h3 (za_inj (by omega) (by omega) q)
  · exact h5 (za_inj (by omega) (by omega) q)
theorem ni1_0 : ¬ nI 1 = nI 0 := by decide +kernel
theorem isz0 : isZ (0 : Int32) := Or.inl rfl
theorem isz1 : isZ (nI 1) := Or.inr rfl
/-- a lot's row -/
theorem okS_lot {n : Nat} {wa so we : Int32} (hs : ∃ m, m ≤ 9 ∧ so = nI m) (hw : isZ we) : okS n (nI 1) (-1) (-1) 0 0 (-1) (-1) wa so we :=
  ⟨⟨1, rfl, by omega, by omega, fun _ => rfl, fun h => absurd h (by omega), fun _ => rfl, fun h => absurd h (by omega), fun _ _ => rfl, fun h => absurd h (by omega), fun h => absurd h (by omega)⟩, isz0, ⟨0, by omega, rfl⟩, hs, hw⟩
theorem okE_n {h en wa so we e d : Int32} (h4 : h ≠ nI 4) (h0 : h ≠ 0) : okE h en wa so we e d := ⟨fun q => absurd q h4, fun q => absurd q h0⟩

theorem op_lot {w n t x a y : Nat} {C R : Mc} {c : Nat} (v u : Int32) (hc : c < 96) (hnf : ¬ (C (w + 5) c = nI 3 ∨ C (w + 5) c = nI 5)) (h : RW w n t x a y C R) : RW w n t x a y (wr (wr (wr (wr (wr (wr (wr (wr C (w + 4) c v) (w + 5) c (nI 1)) (w + 6) c (-1)) (w + 7) c (-1)) (w + 8) c 0) (w + 9) c 0) (w + 10) c (-1)) (w + 11) c (-1)) (moHolds (wr R 128 (8 * c + 7) u) c (nI 1) (-1)) := by
  obtain ⟨hA, hN, hS, hP, hH, hO, hC, hZ, hQ, hB, hL, hE, hq, hl⟩ := h
  unfold moHolds
  have e18 : (wr (wr (wr (wr (wr (wr (wr (wr C (w + 4) c v) (w + 5) c (nI 1)) (w + 6) c (-1)) (w + 7) c (-1)) (w + 8) c 0) (w + 9) c 0) (w + 10) c (-1)) (w + 11) c (-1)) (w + 18) = C (w + 18) := by simp (disch := omega) only [za_wrf, za_wrc, za_wra, za_wri]
  have e19 : (wr (wr (wr (wr (wr (wr (wr (wr C (w + 4) c v) (w + 5) c (nI 1)) (w + 6) c (-1)) (w + 7) c (-1)) (w + 8) c 0) (w + 9) c 0) (w + 10) c (-1)) (w + 11) c (-1)) (w + 19) = C (w + 19) := by simp (disch := omega) only [za_wrf, za_wrc, za_wra, za_wri]
  have e16 : (wr (wr (wr (wr (wr (wr (wr (wr C (w + 4) c v) (w + 5) c (nI 1)) (w + 6) c (-1)) (w + 7) c (-1)) (w + 8) c 0) (w + 9) c 0) (w + 10) c (-1)) (w + 11) c (-1)) (w + 16) = C (w + 16) := by simp (disch := omega) only [za_wrf, za_wrc, za_wra, za_wri]
  have e17 : (wr (wr (wr (wr (wr (wr (wr (wr C (w + 4) c v) (w + 5) c (nI 1)) (w + 6) c (-1)) (w + 7) c (-1)) (w + 8) c 0) (w + 9) c 0) (w + 10) c (-1)) (w + 11) c (-1)) (w + 17) = C (w + 17) := by simp (disch := omega) only [za_wrf, za_wrc, za_wra, za_wri]
  have e20 : (wr (wr (wr (wr (wr (wr (wr (wr C (w + 4) c v) (w + 5) c (nI 1)) (w + 6) c (-1)) (w + 7) c (-1)) (w + 8) c 0) (w + 9) c 0) (w + 10) c (-1)) (w + 11) c (-1)) (w + 20) = C (w + 20) := by simp (disch := omega) only [za_wrf, za_wrc, za_wra, za_wri]
  have e21 : (wr (wr (wr (wr (wr (wr (wr (wr C (w + 4) c v) (w + 5) c (nI 1)) (w + 6) c (-1)) (w + 7) c (-1)) (w + 8) c 0) (w + 9) c 0) (w + 10) c (-1)) (w + 11) c (-1)) (w + 21) = C (w + 21) := by simp (disch := omega) only [za_wrf, za_wrc, za_wra, za_wri]
  have e5 : (wr (wr (wr (wr (wr (wr (wr (wr C (w + 4) c v) (w + 5) c (nI 1)) (w + 6) c (-1)) (w + 7) c (-1)) (w + 8) c 0) (w + 9) c 0) (w + 10) c (-1)) (w + 11) c (-1)) (w + 5) = up1 (C (w + 5)) c (nI 1) := by simp (disch := omega) only [za_wrf, za_wrc, za_wra, za_wri]
  have e6 : (wr (wr (wr (wr (wr (wr (wr (wr C (w + 4) c v) (w + 5) c (nI 1)) (w + 6) c (-1)) (w + 7) c (-1)) (w + 8) c 0) (w + 9) c 0) (w + 10) c (-1)) (w + 11) c (-1)) (w + 6) = up1 (C (w + 6)) c (-1) := by simp (disch := omega) only [za_wrf, za_wrc, za_wra, za_wri]
  refine ⟨?_, ?_, ?_, ?_, ?_, ?_, ?_, ?_, ?_, ?_, ?_, ?_, ?_, ?_⟩
  · intro f i hf hi
    have h0 := hA f i hf hi
    simp only [rc_hold hc hf hi, rc_own hc hf hi, rc_stk hc hf hi, rc_fen hc hf hi, rc_paid hc hf hi, rc_tel hc hf hi, rj_end hf hi, rj_wan hf hi, rr_hold hc hf hi, rr_own hc hf hi, rr_stk hc hf hi, rr_fen hc hf hi, rr_paid hc hf hi, rr_tel hc hf hi, rk_end hc hf hi, rk_done hc hf hi]
    grind
  · exact WN_cg hN (by first | rfl | simp (disch := omega) only [za_wra, za_wri, za_wrc]) (by first | rfl | simp (disch := omega) only [za_wra, za_wri, za_wrc])
  · intro c' hc'
    by_cases e : c' = c
    · subst e
      have h0 := hS c' hc'
      simp (disch := omega) only [za_wrs, za_wra, za_wri]
      exact okS_lot h0.2.2.2.1 h0.2.2.2.2
    · have h0 := hS c' hc'
      simp (disch := omega) only [za_wrs, za_wra, za_wri]
      exact h0
  · have hcn : ∀ q : Nat, q < n → cn 96 (farP (up1 (C (w + 5)) c (nI 1)) (up1 (C (w + 6)) c (-1)) (nI q)) = cn 96 (farP (C (w + 5)) (C (w + 6)) (nI q)) := fun q _ => cn_con _ _ _ (fun k hk => by
      by_cases e : k = c
      · subst e; rw [far_s, far_f (Or.inl hnf)]; exact decide_eq_false (fun h => absurd h.1 (by decide +kernel))
      · rw [far_o e])
    intro q hq
    obtain ⟨s, h1, h2, h7⟩ := hP q hq
    rw [e18, e19, e16, e17, e5, e6, hcn q hq]
    exact ⟨s, h1, h2, h7⟩
  · have hcn : ∀ q : Nat, q < n → cn 96 (farP (up1 (C (w + 5)) c (nI 1)) (up1 (C (w + 6)) c (-1)) (nI q)) = cn 96 (farP (C (w + 5)) (C (w + 6)) (nI q)) := fun q _ => cn_con _ _ _ (fun k hk => by
      by_cases e : k = c
      · subst e; rw [far_s, far_f (Or.inl hnf)]; exact decide_eq_false (fun h => absurd h.1 (by decide +kernel))
      · rw [far_o e])
    intro q hq
    obtain ⟨h1, h2⟩ := hH q hq
    rw [e18, e19, e20, e21, e5, e6, hcn q hq]
    exact ⟨h1, h2⟩
  · exact WO_cg hO (by first | rfl | simp (disch := omega) only [za_wra, za_wri, za_wrc]) (by first | rfl | simp (disch := omega) only [za_wra, za_wri, za_wrc]) (by first | rfl | simp (disch := omega) only [za_wra, za_wri, za_wrc]) (by first | rfl | simp (disch := omega) only [za_wra, za_wri, za_wrc])
  · obtain ⟨h1, h2⟩ := hC
    refine ⟨?_, ?_⟩
    · rw [e18]; refine Eq.trans ?_ h1
      first | rfl | simp (disch := omega) only [za_wra, za_wri, za_wrc]
    · rw [e5]; refine Eq.trans ?_ (h2.trans (congrArg nI (cn_con 96 _ _ (fun k hk => ?_))))
      · first | rfl | simp (disch := omega) only [za_wra, za_wri, za_wrc]
      · by_cases e : k = c
        · subst e; rw [frm_s, frm_f hnf]; decide +kernel
        · rw [frm_o e]
  · exact WZ_cg hZ (fun k h1 h2 => by first | rfl | simp (disch := omega) only [za_wra, za_wri, za_wrc])
  · exact WQ_cg hQ (by first | rfl | simp (disch := omega) only [za_wra, za_wri, za_wrc]) (fun k h1 h2 => by first | rfl | simp (disch := omega) only [za_wra, za_wri, za_wrc])
  · exact WB_cg hB (by first | rfl | simp (disch := omega) only [za_wra, za_wri, za_wrc]) (fun k h1 h2 => by first | rfl | simp (disch := omega) only [za_wra, za_wri, za_wrc])
  · exact WL_cg hL (by first | rfl | simp (disch := omega) only [za_wra, za_wri, za_wrc]) (by first | rfl | simp (disch := omega) only [za_wra, za_wri, za_wrc]) (by first | rfl | simp (disch := omega) only [za_wra, za_wri, za_wrc])
  · intro c' hc'
    have h0 := hE c' hc'
    by_cases e : c' = c
    · subst e
      simp (disch := omega) only [za_wrs, za_wra, za_wri]
      exact okE_n (by decide +kernel) (by decide +kernel)
    · simp (disch := omega) only [za_wrs, za_wra, za_wri]
      exact h0
  · exact RQ_cg hq (by first | rfl | simp (disch := omega) only [za_wra, za_wri, za_wrc]) (by first | rfl | simp (disch := omega) only [za_wra, za_wri, za_wrc]) (fun p0 hp0 i0 hi0 => by first | rfl | simp (disch := omega) only [za_wra, za_wri, za_wrc])
  · exact RY_cg hl (by first | rfl | simp (disch := omega) only [za_wra, za_wri, za_wrc]) (by first | rfl | simp (disch := omega) only [za_wra, za_wri, za_wrc]) (by first | rfl | simp (disch := omega) only [za_wra, za_wri, za_wrc]) (fun l0 hl0 => ⟨by first | rfl | simp (disch := omega) only [za_wra, za_wri, za_wrc], by first | rfl | simp (disch := omega) only [za_wra, za_wri, za_wrc]⟩)

theorem up1_2 (f : Nat → Int32) (p : Nat) (u v : Int32) : up1 (up1 f p u) p v = up1 f p v := by
  funext j; unfold up1; split <;> rfl

theorem op_squat {w n t x a y : Nat} {C R : Mc} {c p : Nat} (hc : c < 96) (hp : p < n) (hnf : ¬ (C (w + 5) c = nI 3 ∨ C (w + 5) c = nI 5)) (h : RW w n t x a y C R) : RW w n t x a y (wr (wr (wr (wr (wr (wr (wr (wr (wr C (w + 5) c (nI 1)) (w + 6) c (-1)) (w + 7) c (-1)) (w + 8) c 0) (w + 9) c 0) (w + 10) c (-1)) (w + 11) c (-1)) (w + 5) c (nI 6)) (w + 6) c (nI p)) (moHolds R c (nI 6) (nI p)) := by
  obtain ⟨hA, hN, hS, hP, hH, hO, hC, hZ, hQ, hB, hL, hE, hq, hl⟩ := h
  unfold moHolds
  have e18 : (wr (wr (wr (wr (wr (wr (wr (wr (wr C (w + 5) c (nI 1)) (w + 6) c (-1)) (w + 7) c (-1)) (w + 8) c 0) (w + 9) c 0) (w + 10) c (-1)) (w + 11) c (-1)) (w + 5) c (nI 6)) (w + 6) c (nI p)) (w + 18) = C (w + 18) := by simp (disch := omega) only [up1_2, za_wrf, za_wrc, za_wra, za_wri]
  have e19 : (wr (wr (wr (wr (wr (wr (wr (wr (wr C (w + 5) c (nI 1)) (w + 6) c (-1)) (w + 7) c (-1)) (w + 8) c 0) (w + 9) c 0) (w + 10) c (-1)) (w + 11) c (-1)) (w + 5) c (nI 6)) (w + 6) c (nI p)) (w + 19) = C (w + 19) := by simp (disch := omega) only [up1_2, za_wrf, za_wrc, za_wra, za_wri]
  have e16 : (wr (wr (wr (wr (wr (wr (wr (wr (wr C (w + 5) c (nI 1)) (w + 6) c (-1)) (w + 7) c (-1)) (w + 8) c 0) (w + 9) c 0) (w + 10) c (-1)) (w + 11) c (-1)) (w + 5) c (nI 6)) (w + 6) c (nI p)) (w + 16) = C (w + 16) := by simp (disch := omega) only [up1_2, za_wrf, za_wrc, za_wra, za_wri]
  have e17 : (wr (wr (wr (wr (wr (wr (wr (wr (wr C (w + 5) c (nI 1)) (w + 6) c (-1)) (w + 7) c (-1)) (w + 8) c 0) (w + 9) c 0) (w + 10) c (-1)) (w + 11) c (-1)) (w + 5) c (nI 6)) (w + 6) c (nI p)) (w + 17) = C (w + 17) := by simp (disch := omega) only [up1_2, za_wrf, za_wrc, za_wra, za_wri]
  have e20 : (wr (wr (wr (wr (wr (wr (wr (wr (wr C (w + 5) c (nI 1)) (w + 6) c (-1)) (w + 7) c (-1)) (w + 8) c 0) (w + 9) c 0) (w + 10) c (-1)) (w + 11) c (-1)) (w + 5) c (nI 6)) (w + 6) c (nI p)) (w + 20) = C (w + 20) := by simp (disch := omega) only [up1_2, za_wrf, za_wrc, za_wra, za_wri]
  have e21 : (wr (wr (wr (wr (wr (wr (wr (wr (wr C (w + 5) c (nI 1)) (w + 6) c (-1)) (w + 7) c (-1)) (w + 8) c 0) (w + 9) c 0) (w + 10) c (-1)) (w + 11) c (-1)) (w + 5) c (nI 6)) (w + 6) c (nI p)) (w + 21) = C (w + 21) := by simp (disch := omega) only [up1_2, za_wrf, za_wrc, za_wra, za_wri]
  have e5 : (wr (wr (wr (wr (wr (wr (wr (wr (wr C (w + 5) c (nI 1)) (w + 6) c (-1)) (w + 7) c (-1)) (w + 8) c 0) (w + 9) c 0) (w + 10) c (-1)) (w + 11) c (-1)) (w + 5) c (nI 6)) (w + 6) c (nI p)) (w + 5) = up1 (C (w + 5)) c (nI 6) := by simp (disch := omega) only [up1_2, za_wrf, za_wrc, za_wra, za_wri]
  have e6 : (wr (wr (wr (wr (wr (wr (wr (wr (wr C (w + 5) c (nI 1)) (w + 6) c (-1)) (w + 7) c (-1)) (w + 8) c 0) (w + 9) c 0) (w + 10) c (-1)) (w + 11) c (-1)) (w + 5) c (nI 6)) (w + 6) c (nI p)) (w + 6) = up1 (C (w + 6)) c (nI p) := by simp (disch := omega) only [up1_2, za_wrf, za_wrc, za_wra, za_wri]
  refine ⟨?_, ?_, ?_, ?_, ?_, ?_, ?_, ?_, ?_, ?_, ?_, ?_, ?_, ?_⟩
  · intro f i hf hi
    have h0 := hA f i hf hi
    simp only [rc_hold hc hf hi, rc_own hc hf hi, rc_stk hc hf hi, rc_fen hc hf hi, rc_paid hc hf hi, rc_tel hc hf hi, rj_end hf hi, rr_hold hc hf hi, rr_own hc hf hi, rr_stk hc hf hi, rr_fen hc hf hi, rr_paid hc hf hi, rr_tel hc hf hi, rk_end hc hf hi]
    grind
  · exact WN_cg hN (by first | rfl | simp (disch := omega) only [za_wra, za_wri, za_wrc]) (by first | rfl | simp (disch := omega) only [za_wra, za_wri, za_wrc])
  · intro c' hc'
    by_cases e : c' = c
    · subst e
      have h0 := hS c' hc'
      simp (disch := omega) only [za_wrs, za_wra, za_wri]
      exact ⟨⟨6, rfl, by omega, by omega, fun h => absurd h (by omega), fun _ => ⟨p, hp, rfl⟩, fun _ => rfl, fun h => absurd h (by omega), fun _ _ => rfl, fun h => absurd h (by omega), fun h => absurd h (by omega)⟩, isz0, ⟨0, by omega, rfl⟩, h0.2.2.2.1, h0.2.2.2.2⟩
    · have h0 := hS c' hc'
      simp (disch := omega) only [za_wrs, za_wra, za_wri]
      exact h0
  · have hcn : ∀ q : Nat, q < n → cn 96 (farP (up1 (C (w + 5)) c (nI 6)) (up1 (C (w + 6)) c (nI p)) (nI q)) = cn 96 (farP (C (w + 5)) (C (w + 6)) (nI q)) := fun q _ => cn_con _ _ _ (fun k hk => by
      by_cases e : k = c
      · subst e; rw [far_s, far_f (Or.inl hnf)]; exact decide_eq_false (fun h => absurd h.1 (by decide +kernel))
      · rw [far_o e])
    intro q hq
    obtain ⟨s, h1, h2, h7⟩ := hP q hq
    rw [e18, e19, e16, e17, e5, e6, hcn q hq]
    exact ⟨s, h1, h2, h7⟩
  · have hcn : ∀ q : Nat, q < n → cn 96 (farP (up1 (C (w + 5)) c (nI 6)) (up1 (C (w + 6)) c (nI p)) (nI q)) = cn 96 (farP (C (w + 5)) (C (w + 6)) (nI q)) := fun q _ => cn_con _ _ _ (fun k hk => by
      by_cases e : k = c
      · subst e; rw [far_s, far_f (Or.inl hnf)]; exact decide_eq_false (fun h => absurd h.1 (by decide +kernel))
      · rw [far_o e])
    intro q hq
    obtain ⟨h1, h2⟩ := hH q hq
    rw [e18, e19, e20, e21, e5, e6, hcn q hq]
    exact ⟨h1, h2⟩
  · exact WO_cg hO (by first | rfl | simp (disch := omega) only [za_wra, za_wri, za_wrc]) (by first | rfl | simp (disch := omega) only [za_wra, za_wri, za_wrc]) (by first | rfl | simp (disch := omega) only [za_wra, za_wri, za_wrc]) (by first | rfl | simp (disch := omega) only [za_wra, za_wri, za_wrc])
  · obtain ⟨h1, h2⟩ := hC
    refine ⟨?_, ?_⟩
    · rw [e18]; refine Eq.trans ?_ h1
      first | rfl | simp (disch := omega) only [za_wra, za_wri, za_wrc]
    · rw [e5]; refine Eq.trans ?_ (h2.trans (congrArg nI (cn_con 96 _ _ (fun k hk => ?_))))
      · first | rfl | simp (disch := omega) only [za_wra, za_wri, za_wrc]
      · by_cases e : k = c
        · subst e; rw [frm_s, frm_f hnf]; decide +kernel
        · rw [frm_o e]
  · exact WZ_cg hZ (fun k h1 h2 => by first | rfl | simp (disch := omega) only [za_wra, za_wri, za_wrc])
  · exact WQ_cg hQ (by first | rfl | simp (disch := omega) only [za_wra, za_wri, za_wrc]) (fun k h1 h2 => by first | rfl | simp (disch := omega) only [za_wra, za_wri, za_wrc])
  · exact WB_cg hB (by first | rfl | simp (disch := omega) only [za_wra, za_wri, za_wrc]) (fun k h1 h2 => by first | rfl | simp (disch := omega) only [za_wra, za_wri, za_wrc])
  · exact WL_cg hL (by first | rfl | simp (disch := omega) only [za_wra, za_wri, za_wrc]) (by first | rfl | simp (disch := omega) only [za_wra, za_wri, za_wrc]) (by first | rfl | simp (disch := omega) only [za_wra, za_wri, za_wrc])
  · intro c' hc'
    have h0 := hE c' hc'
    by_cases e : c' = c
    · subst e
      simp (disch := omega) only [za_wrs, za_wra, za_wri]
      exact okE_n (by decide +kernel) (by decide +kernel)
    · simp (disch := omega) only [za_wrs, za_wra, za_wri]
      exact h0
  · exact RQ_cg hq (by first | rfl | simp (disch := omega) only [za_wra, za_wri, za_wrc]) (by first | rfl | simp (disch := omega) only [za_wra, za_wri, za_wrc]) (fun p0 hp0 i0 hi0 => by first | rfl | simp (disch := omega) only [za_wra, za_wri, za_wrc])
  · exact RY_cg hl (by first | rfl | simp (disch := omega) only [za_wra, za_wri, za_wrc]) (by first | rfl | simp (disch := omega) only [za_wra, za_wri, za_wrc]) (by first | rfl | simp (disch := omega) only [za_wra, za_wri, za_wrc]) (fun l0 hl0 => ⟨by first | rfl | simp (disch := omega) only [za_wra, za_wri, za_wrc], by first | rfl | simp (disch := omega) only [za_wra, za_wri, za_wrc]⟩)

theorem op_run {w n t x a y : Nat} {C R : Mc} {c p : Nat} (v : Int32) (hc : c < 96) (hp : p < n) (hnf : ¬ (C (w + 5) c = nI 3 ∨ C (w + 5) c = nI 5)) (h : RW w n t x a y C R) : RW w n t x a y (wr (wr (wr (wr (wr (wr (wr (wr (wr (wr C (w + 5) c (nI 1)) (w + 6) c (-1)) (w + 7) c (-1)) (w + 8) c 0) (w + 9) c 0) (w + 10) c (-1)) (w + 11) c (-1)) (w + 5) c (nI 4)) (w + 6) c (nI p)) (w + 7) c v) (wr (wr (moHolds R c (nI 4) (nI p)) 128 (8 * c) (nI 4)) 128 (8 * c + 2) v) := by
  obtain ⟨hA, hN, hS, hP, hH, hO, hC, hZ, hQ, hB, hL, hE, hq, hl⟩ := h
  unfold moHolds
  have e18 : (wr (wr (wr (wr (wr (wr (wr (wr (wr (wr C (w + 5) c (nI 1)) (w + 6) c (-1)) (w + 7) c (-1)) (w + 8) c 0) (w + 9) c 0) (w + 10) c (-1)) (w + 11) c (-1)) (w + 5) c (nI 4)) (w + 6) c (nI p)) (w + 7) c v) (w + 18) = C (w + 18) := by simp (disch := omega) only [up1_2, za_wrf, za_wrc, za_wra, za_wri]
  have e19 : (wr (wr (wr (wr (wr (wr (wr (wr (wr (wr C (w + 5) c (nI 1)) (w + 6) c (-1)) (w + 7) c (-1)) (w + 8) c 0) (w + 9) c 0) (w + 10) c (-1)) (w + 11) c (-1)) (w + 5) c (nI 4)) (w + 6) c (nI p)) (w + 7) c v) (w + 19) = C (w + 19) := by simp (disch := omega) only [up1_2, za_wrf, za_wrc, za_wra, za_wri]
  have e16 : (wr (wr (wr (wr (wr (wr (wr (wr (wr (wr C (w + 5) c (nI 1)) (w + 6) c (-1)) (w + 7) c (-1)) (w + 8) c 0) (w + 9) c 0) (w + 10) c (-1)) (w + 11) c (-1)) (w + 5) c (nI 4)) (w + 6) c (nI p)) (w + 7) c v) (w + 16) = C (w + 16) := by simp (disch := omega) only [up1_2, za_wrf, za_wrc, za_wra, za_wri]
  have e17 : (wr (wr (wr (wr (wr (wr (wr (wr (wr (wr C (w + 5) c (nI 1)) (w + 6) c (-1)) (w + 7) c (-1)) (w + 8) c 0) (w + 9) c 0) (w + 10) c (-1)) (w + 11) c (-1)) (w + 5) c (nI 4)) (w + 6) c (nI p)) (w + 7) c v) (w + 17) = C (w + 17) := by simp (disch := omega) only [up1_2, za_wrf, za_wrc, za_wra, za_wri]
  have e20 : (wr (wr (wr (wr (wr (wr (wr (wr (wr (wr C (w + 5) c (nI 1)) (w + 6) c (-1)) (w + 7) c (-1)) (w + 8) c 0) (w + 9) c 0) (w + 10) c (-1)) (w + 11) c (-1)) (w + 5) c (nI 4)) (w + 6) c (nI p)) (w + 7) c v) (w + 20) = C (w + 20) := by simp (disch := omega) only [up1_2, za_wrf, za_wrc, za_wra, za_wri]
  have e21 : (wr (wr (wr (wr (wr (wr (wr (wr (wr (wr C (w + 5) c (nI 1)) (w + 6) c (-1)) (w + 7) c (-1)) (w + 8) c 0) (w + 9) c 0) (w + 10) c (-1)) (w + 11) c (-1)) (w + 5) c (nI 4)) (w + 6) c (nI p)) (w + 7) c v) (w + 21) = C (w + 21) := by simp (disch := omega) only [up1_2, za_wrf, za_wrc, za_wra, za_wri]
  have e5 : (wr (wr (wr (wr (wr (wr (wr (wr (wr (wr C (w + 5) c (nI 1)) (w + 6) c (-1)) (w + 7) c (-1)) (w + 8) c 0) (w + 9) c 0) (w + 10) c (-1)) (w + 11) c (-1)) (w + 5) c (nI 4)) (w + 6) c (nI p)) (w + 7) c v) (w + 5) = up1 (C (w + 5)) c (nI 4) := by simp (disch := omega) only [up1_2, za_wrf, za_wrc, za_wra, za_wri]
  have e6 : (wr (wr (wr (wr (wr (wr (wr (wr (wr (wr C (w + 5) c (nI 1)) (w + 6) c (-1)) (w + 7) c (-1)) (w + 8) c 0) (w + 9) c 0) (w + 10) c (-1)) (w + 11) c (-1)) (w + 5) c (nI 4)) (w + 6) c (nI p)) (w + 7) c v) (w + 6) = up1 (C (w + 6)) c (nI p) := by simp (disch := omega) only [up1_2, za_wrf, za_wrc, za_wra, za_wri]
  refine ⟨?_, ?_, ?_, ?_, ?_, ?_, ?_, ?_, ?_, ?_, ?_, ?_, ?_, ?_⟩
  · intro f i hf hi
    have h0 := hA f i hf hi
    simp only [rc_hold hc hf hi, rc_own hc hf hi, rc_stk hc hf hi, rc_fen hc hf hi, rc_paid hc hf hi, rc_tel hc hf hi, rj_end hf hi, rr_hold hc hf hi, rr_own hc hf hi, rr_stk hc hf hi, rr_fen hc hf hi, rr_paid hc hf hi, rr_tel hc hf hi, rk_end hc hf hi]
    grind
  · exact WN_cg hN (by first | rfl | simp (disch := omega) only [za_wra, za_wri, za_wrc]) (by first | rfl | simp (disch := omega) only [za_wra, za_wri, za_wrc])
  · intro c' hc'
    by_cases e : c' = c
    · subst e
      have h0 := hS c' hc'
      simp (disch := omega) only [za_wrs, za_wra, za_wri]
      exact ⟨⟨4, rfl, by omega, by omega, fun h => absurd h (by omega), fun _ => ⟨p, hp, rfl⟩, fun h => absurd rfl h, fun h => absurd h (by omega), fun _ _ => rfl, fun h => absurd h (by omega), fun h => absurd h (by omega)⟩, isz0, ⟨0, by omega, rfl⟩, h0.2.2.2.1, h0.2.2.2.2⟩
    · have h0 := hS c' hc'
      simp (disch := omega) only [za_wrs, za_wra, za_wri]
      exact h0
  · have hcn : ∀ q : Nat, q < n → cn 96 (farP (up1 (C (w + 5)) c (nI 4)) (up1 (C (w + 6)) c (nI p)) (nI q)) = cn 96 (farP (C (w + 5)) (C (w + 6)) (nI q)) := fun q _ => cn_con _ _ _ (fun k hk => by
      by_cases e : k = c
      · subst e; rw [far_s, far_f (Or.inl hnf)]; exact decide_eq_false (fun h => absurd h.1 (by decide +kernel))
      · rw [far_o e])
    intro q hq
    obtain ⟨s, h1, h2, h7⟩ := hP q hq
    rw [e18, e19, e16, e17, e5, e6, hcn q hq]
    exact ⟨s, h1, h2, h7⟩
  · have hcn : ∀ q : Nat, q < n → cn 96 (farP (up1 (C (w + 5)) c (nI 4)) (up1 (C (w + 6)) c (nI p)) (nI q)) = cn 96 (farP (C (w + 5)) (C (w + 6)) (nI q)) := fun q _ => cn_con _ _ _ (fun k hk => by
      by_cases e : k = c
      · subst e; rw [far_s, far_f (Or.inl hnf)]; exact decide_eq_false (fun h => absurd h.1 (by decide +kernel))
      · rw [far_o e])
    intro q hq
    obtain ⟨h1, h2⟩ := hH q hq
    rw [e18, e19, e20, e21, e5, e6, hcn q hq]
    exact ⟨h1, h2⟩
  · exact WO_cg hO (by first | rfl | simp (disch := omega) only [za_wra, za_wri, za_wrc]) (by first | rfl | simp (disch := omega) only [za_wra, za_wri, za_wrc]) (by first | rfl | simp (disch := omega) only [za_wra, za_wri, za_wrc]) (by first | rfl | simp (disch := omega) only [za_wra, za_wri, za_wrc])
  · obtain ⟨h1, h2⟩ := hC
    refine ⟨?_, ?_⟩
    · rw [e18]; refine Eq.trans ?_ h1
      first | rfl | simp (disch := omega) only [za_wra, za_wri, za_wrc]
    · rw [e5]; refine Eq.trans ?_ (h2.trans (congrArg nI (cn_con 96 _ _ (fun k hk => ?_))))
      · first | rfl | simp (disch := omega) only [za_wra, za_wri, za_wrc]
      · by_cases e : k = c
        · subst e; rw [frm_s, frm_f hnf]; decide +kernel
        · rw [frm_o e]
  · exact WZ_cg hZ (fun k h1 h2 => by first | rfl | simp (disch := omega) only [za_wra, za_wri, za_wrc])
  · exact WQ_cg hQ (by first | rfl | simp (disch := omega) only [za_wra, za_wri, za_wrc]) (fun k h1 h2 => by first | rfl | simp (disch := omega) only [za_wra, za_wri, za_wrc])
  · exact WB_cg hB (by first | rfl | simp (disch := omega) only [za_wra, za_wri, za_wrc]) (fun k h1 h2 => by first | rfl | simp (disch := omega) only [za_wra, za_wri, za_wrc])
  · exact WL_cg hL (by first | rfl | simp (disch := omega) only [za_wra, za_wri, za_wrc]) (by first | rfl | simp (disch := omega) only [za_wra, za_wri, za_wrc]) (by first | rfl | simp (disch := omega) only [za_wra, za_wri, za_wrc])
  · intro c' hc'
    have h0 := hE c' hc'
    by_cases e : c' = c
    · subst e
      simp (disch := omega) only [za_wrs, za_wra, za_wri]
      exact ⟨fun _ => rfl, fun q => absurd q (by decide +kernel)⟩
    · simp (disch := omega) only [za_wrs, za_wra, za_wri]
      exact h0
  · exact RQ_cg hq (by first | rfl | simp (disch := omega) only [za_wra, za_wri, za_wrc]) (by first | rfl | simp (disch := omega) only [za_wra, za_wri, za_wrc]) (fun p0 hp0 i0 hi0 => by first | rfl | simp (disch := omega) only [za_wra, za_wri, za_wrc])
  · exact RY_cg hl (by first | rfl | simp (disch := omega) only [za_wra, za_wri, za_wrc]) (by first | rfl | simp (disch := omega) only [za_wra, za_wri, za_wrc]) (by first | rfl | simp (disch := omega) only [za_wra, za_wri, za_wrc]) (fun l0 hl0 => ⟨by first | rfl | simp (disch := omega) only [za_wra, za_wri, za_wrc], by first | rfl | simp (disch := omega) only [za_wra, za_wri, za_wrc]⟩)

theorem op_rerun {w n t x a y : Nat} {C R : Mc} {c p : Nat} (v : Int32) (hc : c < 96) (hp : p < n) (hnf : ¬ (C (w + 5) c = nI 3 ∨ C (w + 5) c = nI 5)) (ho : C (w + 6) c = nI p) (h : RW w n t x a y C R) : RW w n t x a y (wr (wr (wr C (w + 5) c (nI 4)) (w + 6) c (nI p)) (w + 7) c v) (wr (wr R 128 (8 * c) (nI 4)) 128 (8 * c + 2) v) := by
  obtain ⟨hA, hN, hS, hP, hH, hO, hC, hZ, hQ, hB, hL, hE, hq, hl⟩ := h
  have e18 : (wr (wr (wr C (w + 5) c (nI 4)) (w + 6) c (nI p)) (w + 7) c v) (w + 18) = C (w + 18) := by simp (disch := omega) only [up1_2, za_wrf, za_wrc, za_wra, za_wri]
  have e19 : (wr (wr (wr C (w + 5) c (nI 4)) (w + 6) c (nI p)) (w + 7) c v) (w + 19) = C (w + 19) := by simp (disch := omega) only [up1_2, za_wrf, za_wrc, za_wra, za_wri]
  have e16 : (wr (wr (wr C (w + 5) c (nI 4)) (w + 6) c (nI p)) (w + 7) c v) (w + 16) = C (w + 16) := by simp (disch := omega) only [up1_2, za_wrf, za_wrc, za_wra, za_wri]
  have e17 : (wr (wr (wr C (w + 5) c (nI 4)) (w + 6) c (nI p)) (w + 7) c v) (w + 17) = C (w + 17) := by simp (disch := omega) only [up1_2, za_wrf, za_wrc, za_wra, za_wri]
  have e20 : (wr (wr (wr C (w + 5) c (nI 4)) (w + 6) c (nI p)) (w + 7) c v) (w + 20) = C (w + 20) := by simp (disch := omega) only [up1_2, za_wrf, za_wrc, za_wra, za_wri]
  have e21 : (wr (wr (wr C (w + 5) c (nI 4)) (w + 6) c (nI p)) (w + 7) c v) (w + 21) = C (w + 21) := by simp (disch := omega) only [up1_2, za_wrf, za_wrc, za_wra, za_wri]
  have e5 : (wr (wr (wr C (w + 5) c (nI 4)) (w + 6) c (nI p)) (w + 7) c v) (w + 5) = up1 (C (w + 5)) c (nI 4) := by simp (disch := omega) only [up1_2, za_wrf, za_wrc, za_wra, za_wri]
  have e6 : (wr (wr (wr C (w + 5) c (nI 4)) (w + 6) c (nI p)) (w + 7) c v) (w + 6) = up1 (C (w + 6)) c (nI p) := by simp (disch := omega) only [up1_2, za_wrf, za_wrc, za_wra, za_wri]
  refine ⟨?_, ?_, ?_, ?_, ?_, ?_, ?_, ?_, ?_, ?_, ?_, ?_, ?_, ?_⟩
  · intro f i hf hi
    have h0 := hA f i hf hi
    have ho2 := ra_own hA hc
    simp only [rc_hold hc hf hi, rc_own hc hf hi, rj_end hf hi, rr_hold hc hf hi, rk_end hc hf hi]
    by_cases e : f = 1 ∧ i = c
    · obtain ⟨rfl, rfl⟩ := e
      rw [if_pos (c := 1 = 1 ∧ i = i) ⟨rfl, rfl⟩, if_neg (c := 1 = 0 ∧ i = i) (by omega), h0]
      show C (w + 6) (0 + i) = _
      rw [Nat.zero_add]; exact ho
    · rw [if_neg e, h0]
  · exact WN_cg hN (by first | rfl | simp (disch := omega) only [za_wra, za_wri, za_wrc]) (by first | rfl | simp (disch := omega) only [za_wra, za_wri, za_wrc])
  · intro c' hc'
    by_cases e : c' = c
    · subst e
      have h0 := hS c' hc'
      simp (disch := omega) only [za_wrs, za_wra, za_wri]
      obtain ⟨⟨k, i1, i2, i3, i4, i5, i6, i7, i8, i9, i10⟩, h2⟩ := h0
      have hk3 : k ≠ 3 := fun q => hnf (Or.inl (by rw [i1, q]))
      have hk5 : k ≠ 5 := fun q => hnf (Or.inr (by rw [i1, q]))
      exact ⟨⟨4, rfl, by omega, by omega, fun h => absurd h (by omega), fun _ => ⟨p, hp, rfl⟩, fun h => absurd rfl h, fun h => absurd h (by omega), fun _ _ => i8 hk3 hk5, fun h => absurd h (by omega), fun h => absurd h (by omega)⟩, h2⟩
    · have h0 := hS c' hc'
      simp (disch := omega) only [za_wrs, za_wra, za_wri]
      exact h0
  · have hcn : ∀ q : Nat, q < n → cn 96 (farP (up1 (C (w + 5)) c (nI 4)) (up1 (C (w + 6)) c (nI p)) (nI q)) = cn 96 (farP (C (w + 5)) (C (w + 6)) (nI q)) := fun q _ => cn_con _ _ _ (fun k hk => by
      by_cases e : k = c
      · subst e; rw [far_s, far_f (Or.inl hnf)]; exact decide_eq_false (fun h => absurd h.1 (by decide +kernel))
      · rw [far_o e])
    intro q hq
    obtain ⟨s, h1, h2, h7⟩ := hP q hq
    rw [e18, e19, e16, e17, e5, e6, hcn q hq]
    exact ⟨s, h1, h2, h7⟩
  · have hcn : ∀ q : Nat, q < n → cn 96 (farP (up1 (C (w + 5)) c (nI 4)) (up1 (C (w + 6)) c (nI p)) (nI q)) = cn 96 (farP (C (w + 5)) (C (w + 6)) (nI q)) := fun q _ => cn_con _ _ _ (fun k hk => by
      by_cases e : k = c
      · subst e; rw [far_s, far_f (Or.inl hnf)]; exact decide_eq_false (fun h => absurd h.1 (by decide +kernel))
      · rw [far_o e])
    intro q hq
    obtain ⟨h1, h2⟩ := hH q hq
    rw [e18, e19, e20, e21, e5, e6, hcn q hq]
    exact ⟨h1, h2⟩
  · exact WO_cg hO (by first | rfl | simp (disch := omega) only [za_wra, za_wri, za_wrc]) (by first | rfl | simp (disch := omega) only [za_wra, za_wri, za_wrc]) (by first | rfl | simp (disch := omega) only [za_wra, za_wri, za_wrc]) (by first | rfl | simp (disch := omega) only [za_wra, za_wri, za_wrc])
  · obtain ⟨h1, h2⟩ := hC
    refine ⟨?_, ?_⟩
    · rw [e18]; refine Eq.trans ?_ h1
      first | rfl | simp (disch := omega) only [za_wra, za_wri, za_wrc]
    · rw [e5]; refine Eq.trans ?_ (h2.trans (congrArg nI (cn_con 96 _ _ (fun k hk => ?_))))
      · first | rfl | simp (disch := omega) only [za_wra, za_wri, za_wrc]
      · by_cases e : k = c
        · subst e; rw [frm_s, frm_f hnf]; decide +kernel
        · rw [frm_o e]
  · exact WZ_cg hZ (fun k h1 h2 => by first | rfl | simp (disch := omega) only [za_wra, za_wri, za_wrc])
  · exact WQ_cg hQ (by first | rfl | simp (disch := omega) only [za_wra, za_wri, za_wrc]) (fun k h1 h2 => by first | rfl | simp (disch := omega) only [za_wra, za_wri, za_wrc])
  · exact WB_cg hB (by first | rfl | simp (disch := omega) only [za_wra, za_wri, za_wrc]) (fun k h1 h2 => by first | rfl | simp (disch := omega) only [za_wra, za_wri, za_wrc])
  · exact WL_cg hL (by first | rfl | simp (disch := omega) only [za_wra, za_wri, za_wrc]) (by first | rfl | simp (disch := omega) only [za_wra, za_wri, za_wrc]) (by first | rfl | simp (disch := omega) only [za_wra, za_wri, za_wrc])
  · intro c' hc'
    have h0 := hE c' hc'
    by_cases e : c' = c
    · subst e
      simp (disch := omega) only [za_wrs, za_wra, za_wri]
      exact ⟨fun _ => rfl, fun q => absurd q (by decide +kernel)⟩
    · simp (disch := omega) only [za_wrs, za_wra, za_wri]
      exact h0
  · exact RQ_cg hq (by first | rfl | simp (disch := omega) only [za_wra, za_wri, za_wrc]) (by first | rfl | simp (disch := omega) only [za_wra, za_wri, za_wrc]) (fun p0 hp0 i0 hi0 => by first | rfl | simp (disch := omega) only [za_wra, za_wri, za_wrc])
  · exact RY_cg hl (by first | rfl | simp (disch := omega) only [za_wra, za_wri, za_wrc]) (by first | rfl | simp (disch := omega) only [za_wra, za_wri, za_wrc]) (by first | rfl | simp (disch := omega) only [za_wra, za_wri, za_wrc]) (fun l0 hl0 => ⟨by first | rfl | simp (disch := omega) only [za_wra, za_wri, za_wrc], by first | rfl | simp (disch := omega) only [za_wra, za_wri, za_wrc]⟩)

theorem op_stk {w n t x a y : Nat} {C R : Mc} {c k : Nat} (hc : c < 96) (hk : k ≤ 1000) (h : RW w n t x a y C R) : RW w n t x a y (wr C (w + 8) c (nI k)) (wr R 128 (8 * c + 3) (nI k)) := by
  obtain ⟨hA, hN, hS, hP, hH, hO, hC, hZ, hQ, hB, hL, hE, hq, hl⟩ := h
  refine ⟨?_, ?_, ?_, ?_, ?_, ?_, ?_, ?_, ?_, ?_, ?_, ?_, ?_, ?_⟩
  · intro f i hf hi
    have h0 := hA f i hf hi
    simp only [rc_stk hc hf hi, rr_stk hc hf hi]
    grind
  · exact WN_cg hN (by first | rfl | simp (disch := omega) only [za_wra, za_wri, za_wrc]) (by first | rfl | simp (disch := omega) only [za_wra, za_wri, za_wrc])
  · intro c' hc'
    by_cases e : c' = c
    · subst e
      have h0 := hS c' hc'
      simp (disch := omega) only [za_wrs, za_wra, za_wri]
      exact ⟨h0.1, h0.2.1, ⟨k, hk, rfl⟩, h0.2.2.2⟩
    · have h0 := hS c' hc'
      simp (disch := omega) only [za_wrs, za_wra, za_wri]
      exact h0
  · exact WP_cg hP (by first | rfl | simp (disch := omega) only [za_wra, za_wri, za_wrc]) (by first | rfl | simp (disch := omega) only [za_wra, za_wri, za_wrc]) (fun k h1 h2 => by first | rfl | simp (disch := omega) only [za_wra, za_wri, za_wrc])
  · exact WH_cg hH (by first | rfl | simp (disch := omega) only [za_wra, za_wri, za_wrc]) (by first | rfl | simp (disch := omega) only [za_wra, za_wri, za_wrc]) (fun k h1 h2 => by first | rfl | simp (disch := omega) only [za_wra, za_wri, za_wrc])
  · exact WO_cg hO (by first | rfl | simp (disch := omega) only [za_wra, za_wri, za_wrc]) (by first | rfl | simp (disch := omega) only [za_wra, za_wri, za_wrc]) (by first | rfl | simp (disch := omega) only [za_wra, za_wri, za_wrc]) (by first | rfl | simp (disch := omega) only [za_wra, za_wri, za_wrc])
  · exact WC_cg hC (by first | rfl | simp (disch := omega) only [za_wra, za_wri, za_wrc]) (by first | rfl | simp (disch := omega) only [za_wra, za_wri, za_wrc]) (by first | rfl | simp (disch := omega) only [za_wra, za_wri, za_wrc]) (by first | rfl | simp (disch := omega) only [za_wra, za_wri, za_wrc])
  · exact WZ_cg hZ (fun k h1 h2 => by first | rfl | simp (disch := omega) only [za_wra, za_wri, za_wrc])
  · exact WQ_cg hQ (by first | rfl | simp (disch := omega) only [za_wra, za_wri, za_wrc]) (fun k h1 h2 => by first | rfl | simp (disch := omega) only [za_wra, za_wri, za_wrc])
  · exact WB_cg hB (by first | rfl | simp (disch := omega) only [za_wra, za_wri, za_wrc]) (fun k h1 h2 => by first | rfl | simp (disch := omega) only [za_wra, za_wri, za_wrc])
  · exact WL_cg hL (by first | rfl | simp (disch := omega) only [za_wra, za_wri, za_wrc]) (by first | rfl | simp (disch := omega) only [za_wra, za_wri, za_wrc]) (by first | rfl | simp (disch := omega) only [za_wra, za_wri, za_wrc])
  · intro c' hc'
    have h0 := hE c' hc'
    by_cases e : c' = c
    · subst e
      simp (disch := omega) only [za_wrs, za_wra, za_wri]
      exact h0
    · simp (disch := omega) only [za_wrs, za_wra, za_wri]
      exact h0
  · exact RQ_cg hq (by first | rfl | simp (disch := omega) only [za_wra, za_wri, za_wrc]) (by first | rfl | simp (disch := omega) only [za_wra, za_wri, za_wrc]) (fun p0 hp0 i0 hi0 => by first | rfl | simp (disch := omega) only [za_wra, za_wri, za_wrc])
  · exact RY_cg hl (by first | rfl | simp (disch := omega) only [za_wra, za_wri, za_wrc]) (by first | rfl | simp (disch := omega) only [za_wra, za_wri, za_wrc]) (by first | rfl | simp (disch := omega) only [za_wra, za_wri, za_wrc]) (fun l0 hl0 => ⟨by first | rfl | simp (disch := omega) only [za_wra, za_wri, za_wrc], by first | rfl | simp (disch := omega) only [za_wra, za_wri, za_wrc]⟩)

theorem op_fen {w n t x a y : Nat} {C R : Mc} {c : Nat} (v : Int32) (hc : c < 96) (hv : isZ v) (h : RW w n t x a y C R) : RW w n t x a y (wr C (w + 9) c v) (wr R 128 (8 * c + 4) v) := by
  obtain ⟨hA, hN, hS, hP, hH, hO, hC, hZ, hQ, hB, hL, hE, hq, hl⟩ := h
  refine ⟨?_, ?_, ?_, ?_, ?_, ?_, ?_, ?_, ?_, ?_, ?_, ?_, ?_, ?_⟩
  · intro f i hf hi
    have h0 := hA f i hf hi
    simp only [rc_fen hc hf hi, rr_fen hc hf hi]
    grind
  · exact WN_cg hN (by first | rfl | simp (disch := omega) only [za_wra, za_wri, za_wrc]) (by first | rfl | simp (disch := omega) only [za_wra, za_wri, za_wrc])
  · intro c' hc'
    by_cases e : c' = c
    · subst e
      have h0 := hS c' hc'
      simp (disch := omega) only [za_wrs, za_wra, za_wri]
      exact ⟨h0.1, hv, h0.2.2⟩
    · have h0 := hS c' hc'
      simp (disch := omega) only [za_wrs, za_wra, za_wri]
      exact h0
  · exact WP_cg hP (by first | rfl | simp (disch := omega) only [za_wra, za_wri, za_wrc]) (by first | rfl | simp (disch := omega) only [za_wra, za_wri, za_wrc]) (fun k h1 h2 => by first | rfl | simp (disch := omega) only [za_wra, za_wri, za_wrc])
  · exact WH_cg hH (by first | rfl | simp (disch := omega) only [za_wra, za_wri, za_wrc]) (by first | rfl | simp (disch := omega) only [za_wra, za_wri, za_wrc]) (fun k h1 h2 => by first | rfl | simp (disch := omega) only [za_wra, za_wri, za_wrc])
  · exact WO_cg hO (by first | rfl | simp (disch := omega) only [za_wra, za_wri, za_wrc]) (by first | rfl | simp (disch := omega) only [za_wra, za_wri, za_wrc]) (by first | rfl | simp (disch := omega) only [za_wra, za_wri, za_wrc]) (by first | rfl | simp (disch := omega) only [za_wra, za_wri, za_wrc])
  · exact WC_cg hC (by first | rfl | simp (disch := omega) only [za_wra, za_wri, za_wrc]) (by first | rfl | simp (disch := omega) only [za_wra, za_wri, za_wrc]) (by first | rfl | simp (disch := omega) only [za_wra, za_wri, za_wrc]) (by first | rfl | simp (disch := omega) only [za_wra, za_wri, za_wrc])
  · exact WZ_cg hZ (fun k h1 h2 => by first | rfl | simp (disch := omega) only [za_wra, za_wri, za_wrc])
  · exact WQ_cg hQ (by first | rfl | simp (disch := omega) only [za_wra, za_wri, za_wrc]) (fun k h1 h2 => by first | rfl | simp (disch := omega) only [za_wra, za_wri, za_wrc])
  · exact WB_cg hB (by first | rfl | simp (disch := omega) only [za_wra, za_wri, za_wrc]) (fun k h1 h2 => by first | rfl | simp (disch := omega) only [za_wra, za_wri, za_wrc])
  · exact WL_cg hL (by first | rfl | simp (disch := omega) only [za_wra, za_wri, za_wrc]) (by first | rfl | simp (disch := omega) only [za_wra, za_wri, za_wrc]) (by first | rfl | simp (disch := omega) only [za_wra, za_wri, za_wrc])
  · intro c' hc'
    have h0 := hE c' hc'
    by_cases e : c' = c
    · subst e
      simp (disch := omega) only [za_wrs, za_wra, za_wri]
      exact h0
    · simp (disch := omega) only [za_wrs, za_wra, za_wri]
      exact h0
  · exact RQ_cg hq (by first | rfl | simp (disch := omega) only [za_wra, za_wri, za_wrc]) (by first | rfl | simp (disch := omega) only [za_wra, za_wri, za_wrc]) (fun p0 hp0 i0 hi0 => by first | rfl | simp (disch := omega) only [za_wra, za_wri, za_wrc])
  · exact RY_cg hl (by first | rfl | simp (disch := omega) only [za_wra, za_wri, za_wrc]) (by first | rfl | simp (disch := omega) only [za_wra, za_wri, za_wrc]) (by first | rfl | simp (disch := omega) only [za_wra, za_wri, za_wrc]) (fun l0 hl0 => ⟨by first | rfl | simp (disch := omega) only [za_wra, za_wri, za_wrc], by first | rfl | simp (disch := omega) only [za_wra, za_wri, za_wrc]⟩)

theorem op_land {w n t x a y : Nat} {C R : Mc} {c s k : Nat} (v : Int32) (hc : c < 96) (hs : s ≤ 9) (hv : isZ v) (h0c : C (w + 5) c = 0) (hk : 1 ≤ k ∧ k ≤ 12) (hm : milI (nI s) v = nI k) (h : RW w n t x a y C R) : RW w n t x a y (wr (wr C (w + 2) c (nI s)) (w + 4) c (nI k)) (wr (wr (wr R 130 c (nI s)) 131 c v) 128 (8 * c + 7) 0) := by
  obtain ⟨hA, hN, hS, hP, hH, hO, hC, hZ, hQ, hB, hL, hE, hq, hl⟩ := h
  refine ⟨?_, ?_, ?_, ?_, ?_, ?_, ?_, ?_, ?_, ?_, ?_, ?_, ?_, ?_⟩
  · intro f i hf hi
    have h0 := hA f i hf hi
    simp only [rc_soil hc hf hi, rj_wan hf hi, rr_soil hc hf hi, rk_wet hf hi, rk_done hc hf hi]
    grind
  · exact WN_cg hN (by first | rfl | simp (disch := omega) only [za_wra, za_wri, za_wrc]) (by first | rfl | simp (disch := omega) only [za_wra, za_wri, za_wrc])
  · intro c' hc'
    by_cases e : c' = c
    · subst e
      have h0 := hS c' hc'
      simp (disch := omega) only [za_wrs, za_wra, za_wri]
      obtain ⟨⟨k', i1, i2, i3, i4, i5, i6, i7, i8, i9, i10⟩, h2, h3, h4, h5⟩ := h0
      exact ⟨⟨k', i1, i2, i3, i4, i5, i6, i7, i8, i9, fun _ => ⟨k, hk.1, hk.2, rfl⟩⟩, h2, h3, ⟨s, hs, rfl⟩, Or.inl rfl⟩
    · have h0 := hS c' hc'
      simp (disch := omega) only [za_wrs, za_wra, za_wri]
      exact h0
  · exact WP_cg hP (by first | rfl | simp (disch := omega) only [za_wra, za_wri, za_wrc]) (by first | rfl | simp (disch := omega) only [za_wra, za_wri, za_wrc]) (fun k h1 h2 => by first | rfl | simp (disch := omega) only [za_wra, za_wri, za_wrc])
  · exact WH_cg hH (by first | rfl | simp (disch := omega) only [za_wra, za_wri, za_wrc]) (by first | rfl | simp (disch := omega) only [za_wra, za_wri, za_wrc]) (fun k h1 h2 => by first | rfl | simp (disch := omega) only [za_wra, za_wri, za_wrc])
  · exact WO_cg hO (by first | rfl | simp (disch := omega) only [za_wra, za_wri, za_wrc]) (by first | rfl | simp (disch := omega) only [za_wra, za_wri, za_wrc]) (by first | rfl | simp (disch := omega) only [za_wra, za_wri, za_wrc]) (by first | rfl | simp (disch := omega) only [za_wra, za_wri, za_wrc])
  · exact WC_cg hC (by first | rfl | simp (disch := omega) only [za_wra, za_wri, za_wrc]) (by first | rfl | simp (disch := omega) only [za_wra, za_wri, za_wrc]) (by first | rfl | simp (disch := omega) only [za_wra, za_wri, za_wrc]) (by first | rfl | simp (disch := omega) only [za_wra, za_wri, za_wrc])
  · exact WZ_cg hZ (fun k h1 h2 => by first | rfl | simp (disch := omega) only [za_wra, za_wri, za_wrc])
  · exact WQ_cg hQ (by first | rfl | simp (disch := omega) only [za_wra, za_wri, za_wrc]) (fun k h1 h2 => by first | rfl | simp (disch := omega) only [za_wra, za_wri, za_wrc])
  · exact WB_cg hB (by first | rfl | simp (disch := omega) only [za_wra, za_wri, za_wrc]) (fun k h1 h2 => by first | rfl | simp (disch := omega) only [za_wra, za_wri, za_wrc])
  · exact WL_cg hL (by first | rfl | simp (disch := omega) only [za_wra, za_wri, za_wrc]) (by first | rfl | simp (disch := omega) only [za_wra, za_wri, za_wrc]) (by first | rfl | simp (disch := omega) only [za_wra, za_wri, za_wrc])
  · intro c' hc'
    have h0 := hE c' hc'
    by_cases e : c' = c
    · subst e
      simp (disch := omega) only [za_wrs, za_wra, za_wri]
      refine ⟨fun q => absurd (h0c.symm.trans q) (by decide +kernel), fun _ => ?_⟩
      rw [hm]; exact Int32.add_zero _
    · simp (disch := omega) only [za_wrs, za_wra, za_wri]
      exact h0
  · exact RQ_cg hq (by first | rfl | simp (disch := omega) only [za_wra, za_wri, za_wrc]) (by first | rfl | simp (disch := omega) only [za_wra, za_wri, za_wrc]) (fun p0 hp0 i0 hi0 => by first | rfl | simp (disch := omega) only [za_wra, za_wri, za_wrc])
  · exact RY_cg hl (by first | rfl | simp (disch := omega) only [za_wra, za_wri, za_wrc]) (by first | rfl | simp (disch := omega) only [za_wra, za_wri, za_wrc]) (by first | rfl | simp (disch := omega) only [za_wra, za_wri, za_wrc]) (fun l0 hl0 => ⟨by first | rfl | simp (disch := omega) only [za_wra, za_wri, za_wrc], by first | rfl | simp (disch := omega) only [za_wra, za_wri, za_wrc]⟩)

theorem op_dig {w n t x a y : Nat} {C R : Mc} {c k : Nat} (u : Int32) (hc : c < 96) (hk : 1 ≤ k ∧ k ≤ 12) (hm : nI k + u = milI (C (w + 2) c) (R 131 c)) (h : RW w n t x a y C R) : RW w n t x a y (wr C (w + 4) c (nI k)) (wr R 128 (8 * c + 7) u) := by
  obtain ⟨hA, hN, hS, hP, hH, hO, hC, hZ, hQ, hB, hL, hE, hq, hl⟩ := h
  refine ⟨?_, ?_, ?_, ?_, ?_, ?_, ?_, ?_, ?_, ?_, ?_, ?_, ?_, ?_⟩
  · intro f i hf hi
    have h0 := hA f i hf hi
    simp only [rj_wan hf hi, rk_done hc hf hi]
    grind
  · exact WN_cg hN (by first | rfl | simp (disch := omega) only [za_wra, za_wri, za_wrc]) (by first | rfl | simp (disch := omega) only [za_wra, za_wri, za_wrc])
  · intro c' hc'
    by_cases e : c' = c
    · subst e
      have h0 := hS c' hc'
      simp (disch := omega) only [za_wrs, za_wra, za_wri]
      obtain ⟨⟨k', i1, i2, i3, i4, i5, i6, i7, i8, i9, i10⟩, h2⟩ := h0
      exact ⟨⟨k', i1, i2, i3, i4, i5, i6, i7, i8, i9, fun _ => ⟨k, hk.1, hk.2, rfl⟩⟩, h2⟩
    · have h0 := hS c' hc'
      simp (disch := omega) only [za_wrs, za_wra, za_wri]
      exact h0
  · exact WP_cg hP (by first | rfl | simp (disch := omega) only [za_wra, za_wri, za_wrc]) (by first | rfl | simp (disch := omega) only [za_wra, za_wri, za_wrc]) (fun k h1 h2 => by first | rfl | simp (disch := omega) only [za_wra, za_wri, za_wrc])
  · exact WH_cg hH (by first | rfl | simp (disch := omega) only [za_wra, za_wri, za_wrc]) (by first | rfl | simp (disch := omega) only [za_wra, za_wri, za_wrc]) (fun k h1 h2 => by first | rfl | simp (disch := omega) only [za_wra, za_wri, za_wrc])
  · exact WO_cg hO (by first | rfl | simp (disch := omega) only [za_wra, za_wri, za_wrc]) (by first | rfl | simp (disch := omega) only [za_wra, za_wri, za_wrc]) (by first | rfl | simp (disch := omega) only [za_wra, za_wri, za_wrc]) (by first | rfl | simp (disch := omega) only [za_wra, za_wri, za_wrc])
  · exact WC_cg hC (by first | rfl | simp (disch := omega) only [za_wra, za_wri, za_wrc]) (by first | rfl | simp (disch := omega) only [za_wra, za_wri, za_wrc]) (by first | rfl | simp (disch := omega) only [za_wra, za_wri, za_wrc]) (by first | rfl | simp (disch := omega) only [za_wra, za_wri, za_wrc])
  · exact WZ_cg hZ (fun k h1 h2 => by first | rfl | simp (disch := omega) only [za_wra, za_wri, za_wrc])
  · exact WQ_cg hQ (by first | rfl | simp (disch := omega) only [za_wra, za_wri, za_wrc]) (fun k h1 h2 => by first | rfl | simp (disch := omega) only [za_wra, za_wri, za_wrc])
  · exact WB_cg hB (by first | rfl | simp (disch := omega) only [za_wra, za_wri, za_wrc]) (fun k h1 h2 => by first | rfl | simp (disch := omega) only [za_wra, za_wri, za_wrc])
  · exact WL_cg hL (by first | rfl | simp (disch := omega) only [za_wra, za_wri, za_wrc]) (by first | rfl | simp (disch := omega) only [za_wra, za_wri, za_wrc]) (by first | rfl | simp (disch := omega) only [za_wra, za_wri, za_wrc])
  · intro c' hc'
    have h0 := hE c' hc'
    by_cases e : c' = c
    · subst e
      simp (disch := omega) only [za_wrs, za_wra, za_wri]
      exact ⟨h0.1, fun _ => hm⟩
    · simp (disch := omega) only [za_wrs, za_wra, za_wri]
      exact h0
  · exact RQ_cg hq (by first | rfl | simp (disch := omega) only [za_wra, za_wri, za_wrc]) (by first | rfl | simp (disch := omega) only [za_wra, za_wri, za_wrc]) (fun p0 hp0 i0 hi0 => by first | rfl | simp (disch := omega) only [za_wra, za_wri, za_wrc])
  · exact RY_cg hl (by first | rfl | simp (disch := omega) only [za_wra, za_wri, za_wrc]) (by first | rfl | simp (disch := omega) only [za_wra, za_wri, za_wrc]) (by first | rfl | simp (disch := omega) only [za_wra, za_wri, za_wrc]) (fun l0 hl0 => ⟨by first | rfl | simp (disch := omega) only [za_wra, za_wri, za_wrc], by first | rfl | simp (disch := omega) only [za_wra, za_wri, za_wrc]⟩)

