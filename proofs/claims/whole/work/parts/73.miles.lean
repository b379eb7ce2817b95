/-! ===== parties: miles ===== -/
theorem op_at {w n t x a y : Nat} {C R : Mc} {p k : Nat} (hp4 : p < 4) (hk : k < 96) (hpm : ∀ m, m ≤ 4 → C (w + 27) 0 = nI m → p < m) (h : RW w n t x a y C R) : RW w n t x a y (wr C (w + 29) p (nI k)) (wr R 128 (1720 + 15 * p + 1) (nI k)) := by
  obtain ⟨hA, hN, hS, hP, hH, hO, hC, hZ, hQ, hB, hL, hE, hq, hl⟩ := h
  refine ⟨?_, ?_, ?_, ?_, ?_, ?_, ?_, ?_, ?_, ?_, ?_, ?_, ?_, ?_⟩
  · intro f i hf hi
    have h0 := hA f i hf hi
    simp only [rc_at hp4 hf hi, rr_at hp4 hf hi]
    grind
  · exact WN_cg hN (by first | rfl | simp (disch := omega) only [za_wra, za_wri, za_wrc]) (by first | rfl | simp (disch := omega) only [za_wra, za_wri, za_wrc])
  · exact WS_cg hS (fun k h1 h2 => by first | rfl | simp (disch := omega) only [za_wra, za_wri, za_wrc])
  · exact WP_cg hP (by first | rfl | simp (disch := omega) only [za_wra, za_wri, za_wrc]) (by first | rfl | simp (disch := omega) only [za_wra, za_wri, za_wrc]) (fun k h1 h2 => by first | rfl | simp (disch := omega) only [za_wra, za_wri, za_wrc])
  · exact WH_cg hH (by first | rfl | simp (disch := omega) only [za_wra, za_wri, za_wrc]) (by first | rfl | simp (disch := omega) only [za_wra, za_wri, za_wrc]) (fun k h1 h2 => by first | rfl | simp (disch := omega) only [za_wra, za_wri, za_wrc])
  · exact WO_cg hO (by first | rfl | simp (disch := omega) only [za_wra, za_wri, za_wrc]) (by first | rfl | simp (disch := omega) only [za_wra, za_wri, za_wrc]) (by first | rfl | simp (disch := omega) only [za_wra, za_wri, za_wrc]) (by first | rfl | simp (disch := omega) only [za_wra, za_wri, za_wrc])
  · exact WC_cg hC (by first | rfl | simp (disch := omega) only [za_wra, za_wri, za_wrc]) (by first | rfl | simp (disch := omega) only [za_wra, za_wri, za_wrc]) (by first | rfl | simp (disch := omega) only [za_wra, za_wri, za_wrc]) (by first | rfl | simp (disch := omega) only [za_wra, za_wri, za_wrc])
  · exact WZ_cg hZ (fun k h1 h2 => by first | rfl | simp (disch := omega) only [za_wra, za_wri, za_wrc])
  · obtain ⟨m', m1, m2, m3⟩ := hQ
    refine ⟨m', m1, by rw [za_wra (by omega)]; exact m2, fun p' hp' => ?_⟩
    obtain ⟨g1, g2, g3, g4⟩ := m3 p' hp'
    rw [za_wrc (a := w + 28) (by omega), za_wrc (a := w + 30) (by omega), za_wrc (a := w + 31) (by omega)]
    by_cases e : p' = p
    · subst e
      exact ⟨g1, fun hm => absurd (hpm m' m1 m2) (by omega), ⟨k, hk, za_wrs _ _ _ _⟩, g4⟩
    · rw [za_wri e]; exact ⟨g1, g2, g3, g4⟩
  · exact WB_cg hB (by first | rfl | simp (disch := omega) only [za_wra, za_wri, za_wrc]) (fun k h1 h2 => by first | rfl | simp (disch := omega) only [za_wra, za_wri, za_wrc])
  · exact WL_cg hL (by first | rfl | simp (disch := omega) only [za_wra, za_wri, za_wrc]) (by first | rfl | simp (disch := omega) only [za_wra, za_wri, za_wrc]) (by first | rfl | simp (disch := omega) only [za_wra, za_wri, za_wrc])
  · exact RE_cg hE (fun k h1 h2 => by first | rfl | simp (disch := omega) only [za_wra, za_wri, za_wrc]) (fun c0 hc0 => ⟨by first | rfl | simp (disch := omega) only [za_wra, za_wri, za_wrc], by first | rfl | simp (disch := omega) only [za_wra, za_wri, za_wrc], by first | rfl | simp (disch := omega) only [za_wra, za_wri, za_wrc]⟩)
  · exact RQ_cg hq (by first | rfl | simp (disch := omega) only [za_wra, za_wri, za_wrc]) (by first | rfl | simp (disch := omega) only [za_wra, za_wri, za_wrc]) (fun p0 hp0 i0 hi0 => by first | rfl | simp (disch := omega) only [za_wra, za_wri, za_wrc])
  · exact RY_cg hl (by first | rfl | simp (disch := omega) only [za_wra, za_wri, za_wrc]) (by first | rfl | simp (disch := omega) only [za_wra, za_wri, za_wrc]) (by first | rfl | simp (disch := omega) only [za_wra, za_wri, za_wrc]) (fun l0 hl0 => ⟨by first | rfl | simp (disch := omega) only [za_wra, za_wri, za_wrc], by first | rfl | simp (disch := omega) only [za_wra, za_wri, za_wrc]⟩)

section PB
variable {w n t x a y m p q : Nat} {C R : Mc}
theorem lq_first {k c : Nat} {g : Nat} (hp : p < 4) (hk : C (w + 30) p = nI (k + 1)) (hk2 : k ≤ 11) (hc : C (w + 31) (p * 12 + 0) = nI c) : fX5_first C (w + 27) (nI p) = some (nI c) := by
  unfold fX5_first
  rw [za_inY hp (by omega), za_bnd, if_neg za_n10, za_chk _ hp (by omega), nI_clamp (by omega), show C (w + 27 + 3) p = nI (k + 1) from hk, if_neg (nI_nle (by omega) (by omega)), za_mul, za_chk _ (by omega) (by omega), nI_clamp (by omega)]
  exact congrArg some hc
/-- those of a queue that are not wild any more are out of it, on both sides -/
theorem drop_L (hp : p < 4) : ∀ k fu fr i C R, k + i ≤ 12 → k < fu → k < fr → RV w n t n a y m C R → C (w + 30) p = nI k → ∃ C' R' q, fX5_dropDone_L11 (w + 27) (w + 1) fu C (nI p) (nI i) = some C' ∧ fX12_passes_L0 fr R (nI (1720 + 15 * p)) = some R' ∧ RV w n t n a y m C' R' ∧ FC w C C' ∧ FD R R' ∧ (∀ j, C' w j = C w j) ∧ (∀ b, b ≠ 30 → b ≠ 31 → C' (w + b) = C (w + b)) ∧ q ≤ k ∧ C' (w + 30) p = nI q ∧ (0 < q → ∃ c, c < 96 ∧ C' (w + 31) (p * 12) = nI c ∧ C' (w + 5) c = 0)
  | k, 0, _, _, _, _, _, hf, _, _, _ => by omega
  | k, _, 0, _, _, _, _, _, hf, _, _ => by omega
  | 0, fu + 1, fr + 1, i, C, R, hi, _, _, h, hk => by
    have h0R : R 128 (1720 + 15 * p + 2) = nI 0 := (ra_wait h.1.1 hp).trans hk
    have hC : fX5_dropDone_L11 (w + 27) (w + 1) (fu + 1) C (nI p) (nI i) = some C := by
      rw [fX5_dropDone_L11]
      by_cases h12 : nI 12 ≤ nI i
      · rw [if_pos h12]
      · rw [if_neg h12, za_chk _ hp (by omega), nI_clamp (by omega), show C (w + 27 + 3) p = nI 0 from hk, if_pos (by decide +kernel)]
    refine ⟨C, R, 0, hC, ?_, h, FC.rf, FD.rf, fun _ => rfl, fun _ _ _ => rfl, by omega, hk, fun h => by omega⟩
    rw [fX12_passes_L0, nI_add, za_chk _ (by omega) (by omega), nI_clamp (by omega), h0R, if_pos (by decide +kernel)]
  | k + 1, fu + 1, fr + 1, i, C, R, hi, hf, hfr, h, hk => by
    have hw := h.w17
    have h0R : R 128 (1720 + 15 * p + 2) = nI (k + 1) := (ra_wait h.1.1 hp).trans hk
    obtain ⟨_, k', _, _, k1, k2, k3⟩ := rw_q h.1 hp
    obtain rfl : k' = k + 1 := za_inj (by omega) (by omega) (k2.symm.trans hk)
    obtain ⟨c, c1, c2⟩ := k3 0 (by omega)
    have c2R : R 128 (1720 + 15 * p + 3) = nI c := (h.1.2.2.2.2.2.2.2.2.2.2.2.2.1 p hp (k + 1) 0 hk (by omega) (by omega)).trans c2
    rw [fX5_dropDone_L11, fX12_passes_L0, if_neg (nI_ge (by omega) (by omega)), za_chk (n := p) _ hp (by omega), nI_clamp (n := p) (by omega), show C (w + 27 + 3) p = nI (k + 1) from hk, if_neg (nI_nle (by omega) (by omega)), lq_first (g := 0) hp hk (by omega) c2, za_bnd, lg_wild c1, za_bnd, nI_add, nI_add, nI_add, za_chk (n := 1720 + 15 * p + 2) _ (by omega) (by omega), nI_clamp (n := 1720 + 15 * p + 2) (by omega), h0R, if_neg (nI_nle (by omega) (by omega)), za_chk (n := 1720 + 15 * p + 3) _ (by omega) (by omega), nI_clamp (n := 1720 + 15 * p + 3) (by omega), c2R, rf_sec0 c1, za_bnd, ra_hold h.1.1 c1]
    by_cases h0 : C (w + 5) c = 0
    · rw [if_pos (show C (w + 1 + 4) c = 0 from h0), if_neg za_n10, if_pos h0]
      exact ⟨C, R, k + 1, rfl, rfl, h, FC.rf, FD.rf, fun _ => rfl, fun _ _ _ => rfl, by omega, hk, fun _ => ⟨c, c1, c2, h0⟩⟩
    · rw [if_neg (show ¬ C (w + 1 + 4) c = 0 from h0), if_pos rfl, if_neg h0]
      obtain ⟨R1, d1, d2, d3⟩ := deq_L (at' := 1720 + 15 * p) (q := k) (by omega) (by omega) k FU 0 (wr R 128 (1720 + 15 * p + 2) (nI k)) (by omega) (by rw [za_FU]; omega) (za_wrs _ _ _ _)
      have hdq : fX12_dequeues R (nI (1720 + 15 * p)) = some R1 := by
        unfold fX12_dequeues
        rw [nI_add, za_chk _ (by omega) (by omega), za_chk _ (by omega) (by omega), za_lt, nI_clamp (by omega), h0R, nis rfl, za_0]
        exact d1
      have hcp : ∀ f : Mc → Option Mc, cpy C (w + 27 + 4) 48 ((nI p * nI 12) + nI 1) (w + 27 + 4) 48 (nI p * nI 12) (nI 11) f = f (up C (w + 31) (va_cpy (C (w + 31)) (C (w + 31)) (p * 12 + 1) (p * 12) 11)) := by
        intro f
        unfold cpy
        rw [za_mul, nI_add, nI_clamp (by omega), nI_clamp (by omega), nI_clamp (by omega), if_neg]
        rintro (z | z | z | z | z)
        · exact nI_pos (by omega) z
        · exact nI_pos (by omega) z
        · exact nI_pos (by omega) z
        · omega
        · omega
      rw [hcp, hdq, za_bnd, za_chk _ hp (by omega), za_chk _ hp (by omega), za_lt, up_o (by omega), show C (w + 27 + 3) p = nI (k + 1) from hk, nis rfl]
      have hd2' : ∀ j, j < k → R1 128 (1720 + 15 * p + 3 + j) = R 128 (1720 + 15 * p + 3 + j + 1) := fun j hj => by
        rw [d2 j (by omega) hj, za_wri (by omega)]
      have hR := op_drop hp (by omega) hk hd2' (fun b j hh => d3 b j (by omega)) h.1
      have fc : FC w C (wr (up C (w + 31) (va_cpy (C (w + 31)) (C (w + 31)) (p * 12 + 1) (p * 12) 11)) (w + 30) p (nI k)) := fc_wr ⟨fun b hb => up_o (by omega), fun k hk => up_o (by omega), by rw [up_o (by omega)]⟩ (by omega)
      have fd : FD R R1 := ⟨fun b h1 h2 => by funext j; rw [d3 b j (Or.inl h1), za_wra h1], fun j hj => by unfold pz at hj; rw [d3 128 j (by omega), za_wri (by omega)]⟩
      have ew : ∀ j, wr (up C (w + 31) (va_cpy (C (w + 31)) (C (w + 31)) (p * 12 + 1) (p * 12) 11)) (w + 30) p (nI k) w j = C w j := fun j => by rw [za_wra (by omega), up_o (by omega)]
      have eb : ∀ b, b ≠ 30 → b ≠ 31 → wr (up C (w + 31) (va_cpy (C (w + 31)) (C (w + 31)) (p * 12 + 1) (p * 12) 11)) (w + 30) p (nI k) (w + b) = C (w + b) := fun b h1 h2 => by rw [za_wrc (by omega), up_o (by omega)]
      obtain ⟨C', R', q', j1, j2, j3, j4, j5, j6, j7, j8, j9, j10⟩ := drop_L hp k fu fr (i + 1) _ _ (by omega) (by omega) (by omega) (h.step hR fc fd (congrFun (eb 37 (by omega) (by omega)) _) (ew _) (ew _) (ew _)) (za_wrs _ _ _ _)
      exact ⟨C', R', q', j1, j2, j3, fc.tr j4, fd.tr j5, fun j => (j6 j).trans (ew j), fun b h1 h2 => (j7 b h1 h2).trans (eb b h1 h2), by omega, j9, j10⟩
theorem drop_sim (hp : p < 4) (h : RV w n t n a y m C R) : ∃ C' R' q, fX5_dropDone C (w + 27) (w + 1) (nI p) = some C' ∧ fX12_passes R (nI (1720 + 15 * p)) = some R' ∧ RV w n t n a y m C' R' ∧ FC w C C' ∧ FD R R' ∧ (∀ j, C' w j = C w j) ∧ (∀ b, b ≠ 30 → b ≠ 31 → C' (w + b) = C (w + b)) ∧ q ≤ 12 ∧ C' (w + 30) p = nI q ∧ (0 < q → ∃ c, c < 96 ∧ C' (w + 31) (p * 12) = nI c ∧ C' (w + 5) c = 0) := by
  obtain ⟨_, k, _, _, k1, k2, _⟩ := rw_q h.1 hp
  obtain ⟨C', R', q', j1, j2, j3, j4, j5, j6, j7, j8, j9, j10⟩ := drop_L hp k FU FU 0 C R (by omega) (by rw [za_FU]; omega) (by rw [za_FU]; omega) h k2
  unfold fX5_dropDone fX12_passes
  rw [za_inY hp (by omega), za_bnd, if_neg za_n10, za_0, j1, j2]
  exact ⟨C', R', q', rfl, rfl, j3, j4, j5, j6, j7, by omega, j9, j10⟩
/-- the reference's mile, up to where it goes on -/
def mileR (R : Mc) (X2 : Int32) (f : Mc → Option Mc) : Option Mc := chk (X2 + (nI 3)) (2132) (lt (R (128) (X2 + (nI 3)).toNatClampNeg) fun v5 => chk (X2 + (nI 1)) (2132) ((if (R (128) (X2 + (nI 1)).toNatClampNeg) = v5 then chk (((nI 8) * v5) + (nI 7)) (2132) (chk (((nI 8) * v5) + (nI 7)) 2132 (lt (wr R (128) (((nI 8) * v5) + (nI 7)).toNatClampNeg ((R (128) (((nI 8) * v5) + (nI 7)).toNatClampNeg) + (nI 1))) fun M6 => bnd (fX12_sec M6 v5 (nI 7)) fun v8 => bnd (fX12_miles M6 v5) fun v10 => (if v8 = v10 then bnd (fX12_holds M6 v5 (nI 1) (-1)) fun M12 => f M12 else f M6))) else chk (X2 + (nI 1)) (2132) (bnd (fX12_nearer (R (128) (X2 + (nI 1)).toNatClampNeg) v5) fun v14 => chk (X2 + (nI 1)) 2132 (lt (wr R (128) (X2 + (nI 1)).toNatClampNeg v14) fun M15 => f M15)))))
theorem near_ok {aa c : Nat} (ha : aa < 96) (hc : c < 96) (hne : aa ≠ c) : ∃ r, r < 96 ∧ fX12_nearer (nI aa) (nI c) = some (nI r) ∧ (if aa % 12 = c % 12 then (if c ≤ aa then nI aa + (-12) else nI aa + nI 12) else (if c % 12 ≤ aa % 12 then nI aa + (-1) else nI aa + nI 1)) = nI r := by
  unfold fX12_nearer
  rw [za_irm (by omega) (by omega) (by omega), za_irm (by omega) (by omega) (by omega), za_lt, za_lt]
  have e12 : ∀ v : Nat, 12 ≤ v → nI v + (-12) = nI (v - 12) := fun v hv => by rw [show (-12 : Int32) = -nI 12 by decide +kernel, ← Int32.sub_eq_add_neg, za_sub hv]
  have e1 : ∀ v : Nat, 1 ≤ v → nI v + (-1) = nI (v - 1) := fun v hv => by rw [show (-1 : Int32) = -nI 1 by decide +kernel, ← Int32.sub_eq_add_neg, za_sub hv]
  rcases Nat.lt_trichotomy (aa % 12) (c % 12) with h | h | h
  · refine ⟨aa + 1, by omega, ?_, ?_⟩
    · rw [if_neg (nI_ge h (by omega)), nI_add]
    · rw [if_neg (by omega), if_neg (by omega), nI_add]
  · by_cases h2 : c ≤ aa
    · refine ⟨aa - 12, by omega, ?_, ?_⟩
      · rw [if_pos (nI_le (by omega) (by omega)), if_pos (nI_le (by omega) (by omega)), if_pos (nI_le h2 (by omega)), za_sub (by omega)]
      · rw [if_pos h, if_pos h2, e12 _ (by omega)]
    · refine ⟨aa + 12, by omega, ?_, ?_⟩
      · rw [if_pos (nI_le (by omega) (by omega)), if_pos (nI_le (by omega) (by omega)), if_neg (nI_ge (by omega) (by omega)), nI_add]
      · rw [if_pos h, if_neg h2, nI_add]
  · refine ⟨aa - 1, by omega, ?_, ?_⟩
    · rw [if_pos (nI_le (by omega) (by omega)), if_neg (nI_ge h (by omega)), za_sub (by omega)]
    · rw [if_neg (by omega), if_pos (by omega), e1 _ (by omega)]
theorem miles_r {c : Nat} (h : RW w n t x a y C R) (hc : c < 96) (R1 : Mc) (e1 : R1 130 = R 130) (e2 : R1 131 = R 131) : fX12_miles R1 (nI c) = some (milI (C (w + 2) c) (R 131 c)) := by
  unfold fX12_miles fX12_miles_J16
  rw [za_chk _ hc (by omega), nI_clamp (by omega), e1, e2, ra_soil h.1 hc, za_chk _ hc (by omega), za_chk _ hc (by omega)]
  unfold milI
  split <;> rfl
theorem mile_sim {k c : Nat} (hp : p < 4) (hpm : ∀ m, m ≤ 4 → C (w + 27) 0 = nI m → p < m) (h : RV w n t n a y m C R) (hk : C (w + 30) p = nI (k + 1)) (hk2 : k ≤ 11) (hc : c < 96) (hcq : C (w + 31) (p * 12) = nI c) (h0 : C (w + 5) c = 0) :
    ∃ C' R', fX5_goMile C (w + 27) (w + 1) (nI p) = some C' ∧ (∀ f, mileR R (nI (1720 + 15 * p)) f = f R') ∧ RV w n t n a y m C' R' ∧ FC w C C' ∧ FD R R' ∧ (∀ j, C' w j = C w j) ∧ C' (w + 27) 0 = C (w + 27) 0 := by
  have hw := h.w17
  obtain ⟨aa, _, a1, a2, _, _, _⟩ := rw_q h.1 hp
  have eA : R 128 (1720 + 15 * p + 1) = nI aa := (ra_at h.1.1 hp).trans a2
  have eF : R 128 (1720 + 15 * p + 3) = nI c := (h.1.2.2.2.2.2.2.2.2.2.2.2.2.1 p hp (k + 1) 0 hk (by omega) (by omega)).trans hcq
  unfold fX5_goMile mileR
  rw [za_inY hp (by omega), za_bnd, if_neg za_n10, lq_first (g := 0) hp hk hk2 hcq, za_bnd]
  simp only [za_chk _ hp (show 4 < 2 ^ 31 by omega), nI_clamp (show p < 2 ^ 31 by omega), nI_add]
  rw [show C (w + 27 + 2) p = nI aa from a2]
  simp only [za_chk (n := 1720 + 15 * p + 3) _ (show _ < 2132 by omega) (by omega), za_chk (n := 1720 + 15 * p + 1) _ (show _ < 2132 by omega) (by omega), za_lt, nI_clamp (n := 1720 + 15 * p + 3) (by omega), nI_clamp (n := 1720 + 15 * p + 1) (by omega), eF, eA]
  by_cases hac : aa = c
  · subst hac
    simp only [if_true]
    obtain ⟨⟨kk, i1, i2, _, _, _, _, _, _, _, i10⟩, _⟩ := h.1.2.2.1 aa hc
    have hkk : kk = 0 := (za_eq0 (by omega)).mp (i1.symm.trans h0)
    obtain ⟨wn, w1, w2, w3⟩ := i10 hkk
    have hE := (h.1.2.2.2.2.2.2.2.2.2.2.2.1 aa hc).2 h0
    have hdig : fX4_dig C (w + 1) (nI aa) = (if 0 < nI (wn - 1) then some (wr C (w + 4) aa (nI (wn - 1))) else some (moOpen (wr C (w + 4) aa (nI (wn - 1))) (w + 1) aa)) := by
      unfold fX4_dig
      rw [lg_wild hc, za_bnd, if_pos (show C (w + 1 + 4) aa = 0 from h0), if_neg za_n10]
      simp only [za_chk _ hc (show 96 < 2 ^ 31 by omega), nI_clamp (show aa < 2 ^ 31 by omega), za_lt]
      rw [show C (w + 1 + 3) aa = nI wn from w3, za_sub w1, za_wrs]
      rw [lg_openN hc (by rw [za_wra (by omega), show C (w + 1 + 4) aa = 0 from h0]; decide +kernel), za_bnd]
    rw [hdig]
    simp only [za_mul, nI_add]
    simp only [za_chk (n := 8 * aa + 7) _ (show _ < 2132 by omega) (by omega), nI_clamp (n := 8 * aa + 7) (by omega)]
    have hm : ∀ v, fX12_miles (wr R 128 (8 * aa + 7) v) (nI aa) = some (milI (C (w + 2) aa) (R 131 aa)) := fun v => miles_r h.1 hc _ (za_wrc (by omega)) (za_wrc (by omega))
    simp only [rf_sec hc (show 7 < 8 by omega), za_bnd, za_wrs, hm]
    have hsum : nI (wn - 1) + (R 128 (8 * aa + 7) + nI 1) = milI (C (w + 2) aa) (R 131 aa) := by
      rw [← hE, w3, ← nis (show wn = wn - 1 + 1 by omega)]; grind
    by_cases hz : wn = 1
    · subst hz
      have hmil : R 128 (8 * aa + 7) + nI 1 = milI (C (w + 2) aa) (R 131 aa) := by
        rw [← hsum, show nI (1 - 1) = 0 from nI_0, Int32.zero_add]
      rw [if_neg (by decide +kernel)]
      simp only [if_pos hmil, rf_holds hc, za_bnd]
      have hL := op_lot (nI (1 - 1)) (R 128 (8 * aa + 7) + nI 1) hc (show ¬ (C (w + 5) aa = nI 3 ∨ C (w + 5) aa = nI 5) by rw [h0]; decide +kernel) h.1
      have ec : ∀ b, b ≠ 4 → (b < 5 ∨ 11 < b) → moOpen (wr C (w + 4) aa (nI (1 - 1))) (w + 1) aa (w + b) = C (w + b) := fun b b1 b2 => by
        unfold moOpen; simp (disch := omega) only [za_wrc]
      have ew : ∀ j, moOpen (wr C (w + 4) aa (nI (1 - 1))) (w + 1) aa w j = C w j := fun j => by rw [open_w, za_wra (by omega)]
      exact ⟨_, _, rfl, fun f => rfl, h.step hL (FC.tr (fc_wr FC.rf (by omega)) fc_open) (FD.tr (fd_wr FD.rf (by omega)) (fd_holds (by omega))) (congrFun (ec 37 (by omega) (by omega)) _) (ew _) (ew _) (ew _), FC.tr (fc_wr FC.rf (by omega)) fc_open, FD.tr (fd_wr FD.rf (by omega)) (fd_holds (by omega)), ew, congrFun (ec 27 (by omega) (by omega)) _⟩
    · have hnm : ¬ R 128 (8 * aa + 7) + nI 1 = milI (C (w + 2) aa) (R 131 aa) := by
        intro e
        rw [← hsum] at e
        have : nI (wn - 1) = 0 := by grind
        exact hz (by have := (za_eq0 (by omega)).mp this; omega)
      rw [if_pos ((za_0lt (by omega)).mpr (by omega))]
      simp only [if_neg hnm]
      exact ⟨_, _, rfl, fun f => rfl, h.step (op_dig _ hc ⟨by omega, by omega⟩ hsum h.1) (fc_wr FC.rf (by omega)) (fd_wr FD.rf (by omega)) (za_wra (by omega)) (za_wra (by omega)) (za_wra (by omega)) (za_wra (by omega)), fc_wr FC.rf (by omega), fd_wr FD.rf (by omega), fun j => za_wra (by omega), za_wra (by omega)⟩
  · have hne : ¬ nI aa = nI c := fun z => hac (za_inj (by omega) (by omega) z)
    obtain ⟨r, r1, r2, r3⟩ := near_ok a1 hc hac
    simp only [if_neg hne, r2, za_bnd]
    have hR := op_at (k := r) hp r1 hpm h.1
    refine ⟨_, _, ?_, fun f => rfl, h.step hR (fc_wr FC.rf (by omega)) (fd_wr FD.rf (by omega)) (za_wra (by omega)) (za_wra (by omega)) (za_wra (by omega)) (za_wra (by omega)), fc_wr FC.rf (by omega), fd_wr FD.rf (by omega), fun j => za_wra (by omega), za_wra (by omega)⟩
    rw [← r3, za_irm (by omega) (by omega) (by omega), za_irm (by omega) (by omega) (by omega)]
    unfold fX5_goMile_J106 fX5_goMile_J77
    simp only [za_chk _ hp (show 4 < 2 ^ 31 by omega), nI_clamp (show p < 2 ^ 31 by omega), za_lt]
    by_cases h1 : aa % 12 = c % 12
    · rw [if_pos (show nI (aa % 12) = nI (c % 12) by rw [h1]), if_pos h1]
      by_cases h2 : c ≤ aa
      · rw [if_pos (nI_le h2 (by omega)), if_pos h2]
      · rw [if_neg (nI_ge (by omega) (by omega)), if_neg h2]
    · rw [if_neg (fun z => h1 (za_inj (by omega) (by omega) z)), if_neg h1]
      by_cases h2 : c % 12 ≤ aa % 12
      · rw [if_pos (nI_le h2 (by omega)), if_pos h2]
      · rw [if_neg (nI_ge (by omega) (by omega)), if_neg h2]
end PB
