section SU
variable {w n t x a y m p : Nat} {C R : Mc}
theorem rv_stk {c k : Nat} (h : RV w n t x a y m C R) (hc : c < 96) (hk : k ≤ 1000) : RV w n t x a y m (wr C (w + 8) c (nI k)) (wr R 128 (8 * c + 3) (nI k)) :=
  h.step (op_stk hc hk h.1) (fc_wr FC.rf (by omega)) (fd_wr FD.rf (by omega)) (za_wra (by omega)) (za_wra (by omega)) (za_wra (by omega)) (za_wra (by omega))
theorem rw_sec {c : Nat} (h : RW w n t x a y C R) (hc : c < 96) : ∃ k, C (w + 5) c = nI k ∧ k ≤ 6 ∧ k ≠ 2 ∧ (k ≤ 1 → C (w + 6) c = -1) ∧ (1 < k → ∃ p, p < n ∧ C (w + 6) c = nI p) := by
  obtain ⟨⟨k, i1, i2, i3, i4, i5, _⟩, _⟩ := h.2.2.1 c hc
  exact ⟨k, i1, i2, i3, i4, i5⟩
theorem rw_stk {c : Nat} (h : RW w n t x a y C R) (hc : c < 96) : ∃ k, k ≤ 1000 ∧ C (w + 8) c = nI k := (h.2.2.1 c hc).2.2.1
theorem rw_fen {c : Nat} (h : RW w n t x a y C R) (hc : c < 96) : isZ (C (w + 9) c) := (h.2.2.1 c hc).2.1
theorem rw_own {c k : Nat} (h : RW w n t x a y C R) (hc : c < 96) (hk : C (w + 5) c = nI k) (h1 : 1 < k) (h6 : k ≤ 6) : ∃ p, p < n ∧ C (w + 6) c = nI p := by
  obtain ⟨k', i1, i2, _, _, i5⟩ := rw_sec h hc
  obtain rfl : k' = k := za_inj (by omega) (by omega) (i1.symm.trans hk)
  exact i5 h1
theorem rw_ownF {c : Nat} (h : RW w n t x a y C R) (hc : c < 96) (hf : C (w + 5) c = nI 3 ∨ C (w + 5) c = nI 5) : ∃ p, p < n ∧ C (w + 6) c = nI p ∧ C (w + 18) p = nI 4 := by
  obtain ⟨p, hp, ho⟩ : ∃ p, p < n ∧ C (w + 6) c = nI p := by
    rcases hf with hf | hf
    · exact rw_own h hc hf (by omega) (by omega)
    · exact rw_own h hc hf (by omega) (by omega)
  obtain ⟨s, i1, i2, i3⟩ := h.2.2.2.1 p hp
  exact ⟨p, hp, ho, by rw [i1, i3.mpr ((cn_pos _ _).mpr ⟨c, hc, far_t hf ho⟩)]⟩
theorem rw_ownP {c : Nat} (h : RW w n t x a y C R) (hc : c < 96) (hf : C (w + 5) c = nI 4 ∨ C (w + 5) c = nI 6) : ∃ p, p < n ∧ C (w + 6) c = nI p := by
  rcases hf with hf | hf
  · exact rw_own h hc hf (by omega) (by omega)
  · exact rw_own h hc hf (by omega) (by omega)
/-- one section's stock, this week -/
theorem stray_sim {c : Nat} (h : RV w n t n a y m C R) (hc : c < 96) :
    ∃ C' R', (∀ f : Mc → Option Mc, (bnd (fX4_isStraying C (w + 1) (nI c)) fun v23 => (if v23 = 0 then f C else bnd (fX10_stray C w (nI c)) fun M25 => f M25)) = f C') ∧ fX12_strays R (nI c) = some R' ∧ RV w n t n a y m C' R' ∧ FC w C C' ∧ FD R R' := by
  have hw := h.w17
  have hn := rw_n100 h.1
  have hn0 : C (w + 15) 0 = nI n := h.1.2.1.1
  unfold fX4_isStraying fX12_strays
  rw [lg_past hc, za_bnd, za_chk _ hc (by omega), za_chk _ hc (by omega), nI_clamp (n := c) (by omega), rf_sec0 hc, za_bnd, rf_isPast, za_bnd, ra_hold h.1.1 hc, rf_sec hc (by omega), za_bnd, ra_stk h.1.1 hc, rf_sec hc (by omega), za_bnd, ra_fen h.1.1 hc, rf_sec hc (by omega), za_bnd, ra_own h.1.1 hc]
  change ∃ C' R', (∀ f : Mc → Option Mc, (bnd (if (if C (w + 5) c = nI 4 ∨ C (w + 5) c = nI 6 then nI 1 else 0) = 0 then some 0 else (if C (w + 8) c < nI 8 then some 0 else (if C (w + 9) c = 0 then some (nI 1) else some 0))) _) = _) ∧ _
  by_cases hp : C (w + 5) c = nI 4 ∨ C (w + 5) c = nI 6
  · simp only [if_pos hp, if_neg za_n10]
    obtain ⟨k, k1, k2⟩ := rw_stk h.1 hc
    obtain ⟨p, p1, p2⟩ := rw_ownP h.1 hc hp
    by_cases h8 : C (w + 8) c < nI 8
    · simp only [if_pos h8]
      exact ⟨C, R, fun f => by rw [za_bnd, if_pos rfl], rfl, h, FC.rf, FD.rf⟩
    · simp only [if_neg h8]
      rcases rw_fen h.1 hc with hfe | hfe
      · rw [hfe]
        simp only [if_true, if_neg (show ¬ (0 : Int32) = nI 1 by decide +kernel), za_bnd, if_neg za_n10]
        obtain ⟨r, r1, r2⟩ := sfb_c (w := w) (C := C) hc
        rw [k2, nI_ltI (by omega) (by omega)] at h8
        have hr := sfb_r (X2 := nI (k / 8)) h.1 hc r r2 4 (FU - 1) 0 (by omega) (by rw [za_FU]; omega) (fun k' hk' => by omega)
        rw [show FU - 1 + 1 = FU from rfl, ← za_0] at hr
        unfold fX10_stray
        rw [lg_stock hc, za_bnd, show C (w + 1 + 7) c = nI k from k2, za_div (by omega) (by omega) (by omega), za_lt, r1, za_bnd, za_lt, hr]
        unfold fX12_strays_J115
        rcases r2 with ⟨rfl, _⟩ | ⟨kk, d, kk1, kk2, kk3, rfl, _⟩
        · rw [if_pos rfl, if_neg (show ¬ (0 : Int32) ≤ -1 by decide), za_mul, nI_add, za_chk _ (by omega) (by omega), za_chk _ (by omega) (by omega), za_lt, nI_clamp (by omega), ra_stk h.1.1 hc, k2]
          have e8 : nI k - nI (k / 8) = nI (k - k / 8) := za_sub (by omega)
          have e8' : nI k + -nI (k / 8) = nI (k - k / 8) := by rw [← Int32.sub_eq_add_neg]; exact e8
          rw [e8]
          refine ⟨_, _, fun f => ?_, rfl, rv_stk h hc (k := k - k / 8) (by omega), fc_wr FC.rf (by omega), fd_wr FD.rf (by omega)⟩
          unfold fX4_addStock fX4_addStock_J19
          rw [za_inY hc (by omega), za_bnd, if_neg za_n10, za_chk _ hc (by omega), za_chk _ hc (by omega), za_lt, nI_clamp (by omega), show C (w + 1 + 7) c = nI k from k2, e8', lg_stock hc, za_bnd, za_bn2, za_bnd]
        · have hd := (nb_lt hc kk2).1
          obtain ⟨p', q1, q2, q3⟩ := rw_ownF h.1 hd kk3.1
          have hpp : p' ≠ p := fun e => kk3.2 (by rw [q2, p2, e])
          obtain ⟨_, cp, _, _, cp1, cp2⟩ := rw_per h.1 p1
          obtain ⟨_, cq, _, _, cq1, cq2⟩ := rw_per h.1 q1
          obtain ⟨v, C1, i1, i2, i3, _, _, i6⟩ := mean_c (k := 4) 0 h (by omega)
          obtain ⟨R1, j1, j2⟩ := mean_r h (by omega) i6 i3
          have h1 : RV w n t n a y m C1 R1 := h.junk i2 j2
          have hm : fX12_meaning R (nI 4) 0 = some (nI v, R1) := by rw [mr_k (by omega) (by omega) (by omega)]; exact j1
          have hmc : fX10_meaning C w (nI 4) 0 = some (nI v, C1) := by unfold fX10_meaning; rw [i1, za_bn2]
          have hvk : v * (k / 8) ≤ 125000 := Nat.le_trans (Nat.mul_le_mul i3 (show k / 8 ≤ 125 by omega)) (by omega)
          rw [if_neg (za_nm1 (by omega)), lg_own hc, za_bnd, show C (w + 1 + 5) c = nI p from p2, lf_coins hn0 hn p1, za_bnd, hmc, za_bn2, za_lt, if_pos (nI_pos' (by omega)), hm, za_bn2, za_mul, za_mul, za_lt, rf_per (by omega) (by omega), za_bnd, ra_coin h1.1.1 (by omega), i2 _ (by omega) (by omega), show C (w + 15 + 2) p = nI cp from cp1, Nat.mul_comm (k / 8) v]
          -- the fine
          have fin : ∃ s, s ≤ cp ∧ xmin (nI cp) (nI (v * (k / 8))) = nI s ∧ (if nI cp ≤ nI (v * (k / 8)) then bnd (some (nI cp)) fun v29 => fX12_strays_J168 R1 (nI p) (nI d) v29 else fX12_strays_J168 R1 (nI p) (nI d) (nI (v * (k / 8)))) = fX12_strays_J168 R1 (nI p) (nI d) (nI s) := by
            unfold xmin
            by_cases hle : cp ≤ v * (k / 8)
            · refine ⟨cp, Nat.le_refl _, by rw [if_neg (nI_nlt hle (by omega))], ?_⟩
              rw [if_pos (nI_le hle (by omega)), za_bnd]
            · exact ⟨v * (k / 8), by omega, by rw [if_pos (nI_lt (by omega) (by omega))], by rw [if_neg (nI_ge (by omega) (by omega))]⟩
          obtain ⟨s, s1, s2, s3⟩ := fin
          rw [s2, s3]
          have hn1 : C1 (w + 15) 0 = nI n := by rw [i2 _ (by omega) (by omega)]; exact hn0
          have ecp : C1 (w + 17) p = nI cp := by rw [i2 _ (by omega) (by omega)]; exact cp1
          have ecq : C1 (w + 17) p' = nI cq := by rw [i2 _ (by omega) (by omega)]; exact cq1
          have h2 : RV w n t n a y m (wr C1 (w + 17) p (nI (cp - s))) (wr R1 128 (768 + 8 * p + 1) (nI (cp - s))) := rv_coin p1 (by omega) h1
          have h3 := rv_coin (k := min 1000000 (cq + s)) q1 (by omega) h2
          rw [lf_spend (q := w + 15) hn1 hn p1, za_bnd, show C1 (w + 15 + 2) p = nI cp from ecp, za_sub s1, show w + 15 + 2 = w + 17 from rfl, lg_own hd, za_bnd]
          rw [show wr C1 (w + 17) p (nI (cp - s)) (w + 1 + 5) d = nI p' by rw [show w + 1 + 5 = w + 6 from rfl, za_wra (by omega), i2 _ (by omega) (by omega)]; exact q2]
          rw [lf_earn (q := w + 15) (by rw [za_wra (by omega)]; exact hn1) hn q1, za_bnd]
          rw [show wr C1 (w + 17) p (nI (cp - s)) (w + 15 + 2) p' = nI cq by rw [show w + 15 + 2 = w + 17 from rfl, za_wri hpp]; exact ecq, min_add (by omega) cq2]
          unfold fX12_strays_J168
          rw [rf_pays (by omega), za_bnd, ra_coin h1.1.1 (by omega), ecp, cap_neg s1 cp2, rf_sec hd (by omega), za_bnd, ra_own h2.1.1 hd, za_wra (by omega), i2 _ (by omega) (by omega), q2, rf_pays (by omega), za_bnd, ra_coin h2.1.1 (by omega), za_wri hpp, ecq, capm_xmin, min_add (by omega) cq2]
          exact ⟨_, _, fun f => by rw [za_bnd], rfl, h3, fc_wr (fc_wr (fc_of i2) (by omega)) (by omega), fd_wr (fd_wr (fd_of j2) (by omega)) (by omega)⟩
      · have hfe1 : C (w + 9) c = nI 1 := hfe
        rw [hfe1]
        simp only [if_neg za_n10, if_true]
        exact ⟨C, R, fun f => by rw [za_bnd, if_pos rfl], rfl, h, FC.rf, FD.rf⟩
  · simp only [if_neg hp, if_true]
    exact ⟨C, R, fun f => by rw [za_bnd, if_pos rfl], rfl, h, FC.rf, FD.rf⟩
/-- the end of the class's loop of strays -/
def strE (w : Nat) (C : Mc) : Option Mc := bnd (fX4_endRuns C (w + 1) (C w 6)) fun M19 => (if (irm (M19 w 6) (nI 52)) = (nI 51) then bnd (fX10_endYear M19 w) fun M21 => (fX10_goOn_J147 w M21) else (fX10_goOn_J147 w M19))
theorem stray_L : ∀ k fu i C R, i + k = 96 → k < fu → RV w n t n a y m C R → ∃ C' R', fX10_goOn_L92 w fu C (nI i) = strE w C' ∧ fX12_goes_L86 fu R (nI i) = fX12_goes_L105 FU R' 0 ∧ RV w n t n a y m C' R' ∧ FC w C C' ∧ FD R R'
  | k, 0, _, _, _, _, hf, _ => by omega
  | 0, fu + 1, i, C, R, hi, _, h => by
    obtain rfl : i = 96 := by omega
    rw [fX10_goOn_L92, fX12_goes_L86, if_pos (nI_le (Nat.le_refl _) (by omega)), if_pos (nI_le (Nat.le_refl _) (by omega))]
    exact ⟨C, R, rfl, rfl, h, FC.rf, FD.rf⟩
  | k + 1, fu + 1, i, C, R, hi, hf, h => by
    obtain ⟨C1, R1, i1, i2, i3, i4, i5⟩ := stray_sim (c := i) h (by omega)
    obtain ⟨C', R', j1, j2, j3, j4, j5⟩ := stray_L k fu (i + 1) C1 R1 (by omega) (by omega) i3
    rw [fX10_goOn_L92, fX12_goes_L86, if_neg (nI_ge (by omega) (by omega)), if_neg (nI_ge (by omega) (by omega)), i2, za_bnd, nI_add]
    unfold fX10_goOn_J114
    simp only [nI_add]
    exact ⟨C', R', (i1 (fun M => fX10_goOn_L92 w fu M (nI (i + 1)))).trans j1, j2, j3, i4.tr j4, i5.tr j5⟩
end SU
