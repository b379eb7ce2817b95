section AU
variable {w n t x a y m p : Nat} {C R : Mc}
theorem pr_ok {c : Nat} (h : RV w n t x a y m C R) (hla : LA w n C) (hb : C w 14 = nI c) (hc : c < 96) : ∃ v, 1 ≤ v ∧ v ≤ 1000 ∧ C w 15 = nI v ∧ ∃ R2, fX12_meaning R 0 (C (w + 2) c) = some (nI v, R2) ∧ ∀ b, b ≠ 140 → R2 b = R b := by
  obtain ⟨_, ⟨so, l2, l3⟩, l4, _⟩ := hla
  obtain ⟨k, k1, k2⟩ := h.2.2.2.2.1.1
  unfold fX12_meaning fX12_meaning_J16
  rw [if_pos rfl, rw_tp h]
  by_cases h0 : C w 10 = 0
  · obtain ⟨v, v1, v2, v3, v4⟩ := l3 h0
    have hso : so = C (w + 2) c := by
      rcases l2 with ⟨q, _⟩ | ⟨c', c1, c2, c3⟩
      · rw [hb] at q; exact absurd q (za_nm1 (by omega))
      · rw [hb] at c2
        obtain rfl : c = c' := za_inj (by omega) (by omega) c2
        exact c3
    subst hso
    obtain ⟨R2, r1, r2⟩ := mean_r h (by omega) v4 v2
    rw [← za_0] at r1
    exact ⟨v, v1, v2, v3, R2, by rw [h0, if_pos (by decide +kernel), if_neg (by decide +kernel)]; exact r1, r2⟩
  · have hk0 : k ≠ 0 := fun q => h0 (by rw [k2, q]; rfl)
    refine ⟨k, by omega, k1, (l4 h0).trans k2, R, ?_, fun _ _ => rfl⟩
    rw [k2, if_neg (nI_nle (by omega) (by omega))]
theorem buy_sim {s : Nat} (h : RV w n t n a y m C R) (hy : y ≤ 20) (hla : LA w n C) (h13 : C w 13 = 0) (hp : p < n) (hs : C (w + 18) p = nI s) (hs2 : 2 ≤ s) (hs4 : s ≤ 4) :
    ∃ C' R', fX10_act_J35 w C (nI p) = fX10_act_J91 w C' (nI p) ∧ fX12_lives_J64 R (nI p) = fX12_lives_J113 R' (nI p) ∧ RV w n t n a y m C' R' ∧ (C' w 13 = 0 → LA w n C') ∧ (C' (w + 18) p = nI 2 → C' w 13 = 0) ∧ FC w C C' ∧ FD R R' ∧ C' (w + 15) 1 = C (w + 15) 1 := by
  have hw := h.w17
  have hn := rw_n100 h.1
  have hn0 : C (w + 15) 0 = nI n := h.1.2.1.1
  obtain ⟨_, k, _, _, k1, k2⟩ := rw_per h.1 hp
  obtain ⟨g1, g2⟩ := best_r (GR_of h.1 hy) hla.1
  unfold fX10_act_J35 fX12_lives_J64
  rw [lf_state hn0 hn hp, za_bnd, show C (w + 15 + 3) p = nI s from hs, rf_per (by omega) (by omega), za_bnd, ra_st h.1.1 (by omega), hs]
  by_cases h4 : nI s = nI 4
  · rw [if_pos h4, if_pos h4]
    exact ⟨C, R, rfl, rfl, h, fun _ => hla, fun _ => h13, FC.rf, FD.rf, rfl⟩
  · rw [if_neg h4, if_neg h4, g1, za_bnd]
    rcases g2 with gb | ⟨c, c1, gb, c3⟩
    · rw [gb, if_pos rfl, if_pos za_m1lt0]
      exact ⟨C, R, rfl, rfl, h, fun _ => hla, fun _ => h13, FC.rf, FD.rf, rfl⟩
    · obtain ⟨v, v1, v2, v3, R2, r1, r2⟩ := pr_ok h hla gb c1
      have h2 : RV w n t n a y m C R2 := h.junk (fun _ _ _ => rfl) r2
      rw [gb, if_neg (za_nm1 (by omega)), if_neg (nI_pos (by omega)), lf_pay hn0 hn hp, za_bnd, v3, nI_add, za_chk _ c1 (by omega), nI_clamp (by omega), ra_soil h.1.1 c1, r1, za_bn2, nI_add, rf_per (by omega) (by omega), za_bnd, ra_coin h2.1.1 (by omega), show C (w + 15 + 2) p = nI k from k1]
      by_cases hk : nI k < nI (v + 10)
      · rw [if_pos hk, if_pos rfl, if_pos hk]
        exact ⟨C, R2, rfl, rfl, h2, fun _ => hla, fun _ => h13, FC.rf, fd_of r2, rfl⟩
      · rw [if_neg hk, if_neg za_n10, if_neg hk]
        rw [nI_ltI (by omega) (by omega)] at hk
        obtain ⟨v', w1, w2, w3, R3, q1, q2⟩ := pr_ok h2 hla gb c1
        obtain rfl : v' = v := za_inj (by omega) (by omega) (w3.symm.trans v3)
        obtain ⟨C', R', i1, i2, i3, i4, i5, i6, i7, _⟩ := sell_sim h2 hp c1 c3 v2 k1 k2 (by omega) hs hs2 hs4 ⟨R3, q1, q2⟩
        rw [i1, za_bnd, za_lt, i2, za_bn2]
        refine ⟨_, R', rfl, rfl, rv_wj _ (by omega) i3, fun q => absurd ((za_wrs _ _ _ _).symm.trans q) za_n10, fun q => ?_, fc_wr i4 (by omega), FD.tr (fd_of r2) i5, by rw [za_wra (by omega)]; exact i6⟩
        rw [za_wra (by omega), i7] at q
        exact absurd (za_inj (by omega) (by omega) q) (by decide)
theorem work_sim {s : Nat} (h : RV w n t n a y m C R) (hla : C w 13 = 0 → LA w n C) (hp : p < n) (hs : C (w + 18) p = nI 2 → C w 13 = 0) :
    ∃ C' R', fX10_act_J91 w C (nI p) = some C' ∧ fX12_lives_J113 R (nI p) = some R' ∧ RV w n t n a y m C' R' ∧ (C' w 13 = 0 → LA w n C') ∧ FC w C C' ∧ FD R R' ∧ C' (w + 15) 1 = C (w + 15) 1 := by
  have hn := rw_n100 h.1
  have hn0 : C (w + 15) 0 = nI n := h.1.2.1.1
  unfold fX10_act_J91 fX12_lives_J113
  rw [lf_state hn0 hn hp, za_bnd, rf_per (by omega) (by omega), za_bnd, ra_st h.1.1 (by omega)]
  by_cases h2 : C (w + 18) p = nI 2
  · rw [if_pos h2, if_pos h2]
    obtain ⟨C1, R1, i1, i2, i3, i4, i5, i6, i7, i8⟩ := seek_sim h (hla (hs h2)) (hs h2) hp h2
    obtain ⟨C2, R2, j1, j2, j3, j4, j5, j6, j7⟩ := eat_sim i3 (fun _ => i4) hp
    rw [i1, za_bnd]
    refine ⟨C2, R2, j1, ?_, j3, j4, i6.tr j5, i7.tr j6, j7.trans i8⟩
    exact (i2 (fun M => fX12_lives_J134 M (nI p))).trans j2
  · rw [if_neg h2, if_neg h2]
    exact eat_sim h hla hp
/-- one who is here lives a week -/
theorem act_sim (h : RV w n t n a y m C R) (hy : y ≤ 20) (hla : C w 13 = 0 → LA w n C) (hp : p < n) (hh : ¬ C (w + 18) p < nI 2) :
    ∃ C' R', fX10_act C w (nI p) = some C' ∧ fX12_lives R (nI p) = some R' ∧ RV w n t n a y m C' R' ∧ (C' w 13 = 0 → LA w n C') ∧ FC w C C' ∧ FD R R' ∧ C' (w + 15) 1 = C (w + 15) 1 := by
  have hw := h.w17
  have hn := rw_n100 h.1
  have key : ∀ C0, RV w n t n a y m C0 R → C0 w 13 = 0 → LA w n C0 → ¬ C0 (w + 18) p < nI 2 → ∃ C' R', fX10_act_J11 w C0 (nI p) = some C' ∧ fX12_lives R (nI p) = some R' ∧ RV w n t n a y m C' R' ∧ (C' w 13 = 0 → LA w n C') ∧ FC w C0 C' ∧ FD R R' ∧ C' (w + 15) 1 = C0 (w + 15) 1 := by
    intro C0 h0 h13 hl hh0
    have hn0 : C0 (w + 15) 0 = nI n := h0.1.2.1.1
    obtain ⟨s, _, s1, s2, _, _⟩ := rw_per h0.1 hp
    have hs2 : 2 ≤ s := by rw [s1, nI_ltI (by omega) (by omega)] at hh0; omega
    obtain ⟨v, v1, v2, v3⟩ := hl.2.2.2.1
    obtain ⟨R1, r1, r2⟩ := mean_r h0 (by omega) v3 v1
    have h1 : RV w n t n a y m C0 R1 := h0.junk (fun _ _ _ => rfl) r2
    unfold fX10_act_J11 fX12_lives
    rw [mr_k (by omega) (by omega) (by omega), r1, za_bn2, lf_state hn0 hn hp, za_bnd, rf_per (by omega) (by omega), za_bnd, ra_st h1.1.1 (by omega)]
    have fr : FD R R1 := fd_of r2
    by_cases h3 : C0 (w + 18) p = nI 3
    · rw [if_pos h3, if_pos h3]
      obtain ⟨C1, R2, i1, i2, i3, i4, i5, i6, i7, e15, s', i8, i9⟩ := pay_sim h1 hl hp h3
      rw [i1, za_bnd]
      have i2' := i2 (fun M => fX12_lives_J64 M (nI p))
      rw [v2] at i2'
      unfold payR at i2'
      rw [i2']
      obtain ⟨C2, R3, j1, j2, j3, j4, j5, j6, j7, j8⟩ := buy_sim (s := s') i3 hy i4 (by rw [i5]; exact h13) hp i8 (by omega) (by omega)
      obtain ⟨C3, R4, k1, k2, k3, k4, k5, k6, k7⟩ := work_sim (s := 0) j3 j4 hp j5
      exact ⟨C3, R4, by rw [j1]; exact k1, by rw [j2]; exact k2, k3, k4, i6.tr (j6.tr k5), fr.tr (i7.tr (j7.tr k6)), k7.trans (j8.trans e15)⟩
    · rw [if_neg h3, if_neg h3]
      obtain ⟨C2, R3, j1, j2, j3, j4, j5, j6, j7, j8⟩ := buy_sim (s := s) h1 hy hl h13 hp s1 hs2 s2
      obtain ⟨C3, R4, k1, k2, k3, k4, k5, k6, k7⟩ := work_sim (s := 0) j3 j4 hp j5
      exact ⟨C3, R4, by rw [j1]; exact k1, by rw [j2]; exact k2, k3, k4, j6.tr k5, fr.tr (j7.tr k6), k7.trans j8⟩
  unfold fX10_act
  by_cases h13 : C w 13 = 0
  · rw [if_pos h13]; exact key C h h13 (hla h13) hh
  · rw [if_neg h13]
    obtain ⟨C1, i1, i2, i3, i4, i5, i6, i7⟩ := look_sim h hy
    rw [i1, za_bnd]
    obtain ⟨C', R', j1, j2, j3, j4, j5, j6, j7⟩ := key C1 i2 i3 i4 (by rw [i6 18 (by omega) (by omega)]; exact hh)
    exact ⟨C', R', j1, j2, j3, j4, i5.tr j5, j6, j7.trans (congrFun (i6 15 (by omega) (by omega)) _)⟩
end AU
