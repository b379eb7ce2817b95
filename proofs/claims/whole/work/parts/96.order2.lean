section AO
variable {n t m p c : Nat} {C R C' R' C1 R2 : Mc} {N L N' L' : Md} {e : Nat → Int32}
theorem take_c {no v k : Nat} (h0 : C (17 + 15) 0 = nI n) (hn : n ≤ 100) (hp : p < n) (hno : C (17 + 15) 3 = nI no) (hk : C (17 + 17) p = nI k) (hv : v ≤ k) : fX3_takeOrder (wr C 0 11 (C 0 11 + nI v)) (17 + 15) (nI p) (nI v) = some (nI no, ordC C p no v k) := by
  unfold fX3_takeOrder
  simp only [za_lt]
  rw [lf_one (by rw [za_wra (by omega)]; exact h0) hn hp, za_bnd, if_neg za_n10]
  simp only [za_chk _ (show p < 100 by omega) (show 100 < 2 ^ 31 by omega), nI_clamp (show p < 2 ^ 31 by omega)]
  rw [show wr C 0 11 (C 0 11 + nI v) (17 + 15 + 2) p = nI k by rw [za_wra (by omega)]; exact hk, za_sub hv]
  rw [show wr (wr C 0 11 (C 0 11 + nI v)) (17 + 15 + 2) p (nI (k - v)) (17 + 15) 3 = nI no by rw [za_wra (by omega), za_wra (by omega)]; exact hno]
  rw [show wr (wr (wr (wr C 0 11 (C 0 11 + nI v)) (17 + 15 + 2) p (nI (k - v))) (17 + 15 + 7) p (nI no)) (17 + 15 + 8) p (nI v) (17 + 15) 3 = nI no by rw [za_wra (by omega), za_wra (by omega), za_wra (by omega), za_wra (by omega)]; exact hno, nI_add]
  rfl
theorem c_order (h : IV n t m C R N L) (p0 : Int32) : OM eB C R N L (fX11_order C p0) (fX12_order R p0) := by
  unfold fX11_order fX12_order fX12_order_J19
  have ih := iv_thr (v := 0) h
  have hn := rw_n100 h.1.1
  simp only [za_lt]
  rcases pers h p0 with ⟨h1, h2⟩ | ⟨p, hp, rfl, h1, h2⟩
  · exact om_t (k := 1) (v := nI 1) h (by rw [h1, za_bnxl]) (by rw [h2 _ t128, za_bnd, if_pos rfl, bad_1, za_bn2, if_neg za_n10]) rfl za_n10
  rw [h1, za_bnx, h2 _ t128, za_bnd, if_neg za_n10, bad_0, za_bn2, if_pos rfl, wf_home h.1 hp, rx_st ih.1 hp, za_bnd, za_bnd, ite01]
  by_cases q0 : C (17 + 18) p = 0
  · simp only [if_pos q0]
    rw [wf_order h.1 hp, rx_ord ih.1 hp, za_bnd, za_bnd]
    obtain ⟨no, i1, i2, i3, i4⟩ := h.2.2.2.2.1
    have hno : no ≤ n := by rw [i2]; exact cn_le _ _
    rcases i3 p hp with ⟨z1, z2⟩ | ⟨k', k1, k2, _⟩
    · rw [show C (17 + 22) p = -1 from z1, if_pos rfl, if_pos (by decide)]
      obtain ⟨v, C1, R2, v0, v1, j1, j2, j3, j4⟩ := homeP ih
      have hJ := iv_junk ih j3 j4
      have hC1 : ∀ b, b < 45 → C1 (17 + b) = C (17 + b) := fun b hb => j3 _ (by omega) (by omega)
      obtain ⟨s, k, s1, s2, k1, k2⟩ := rw_per h.1.1 hp
      have k1' : C1 (17 + 17) p = nI k := by rw [hC1 17 (by omega)]; exact k1
      have hno' : C1 (17 + 15) 3 = nI no := by rw [hC1 15 (by omega)]; exact i1
      rw [j1, za_bn2, j2, za_bn2, wf_pay hJ.1 hp, k1', za_bnd, ite10, za_chk (n := 2128) _ (by omega) (by omega), nI_clamp (n := 2128) (by omega), show R2 128 2128 = nI no from (ra_orders hJ.1.1.1).trans hno', rx_coin hJ.1 hp, k1', za_bnd]
      have gr : GR2 R R2 := (gr_wr GR2.rf (by omega)).tr (fun a h1 => j4 a (by omega))
      have h127 : R2 127 0 = 0 := by rw [j4 127 (by omega), za_wrs]
      by_cases q1 : v ≤ k
      · rw [if_neg (nI_nlt q1 (by omega)), if_pos (nI_le q1 (by omega)), rx_pays hJ.1 hp k1' k2 q1, za_bnd, take_c hJ.1.1.2.1.1 hn hp hno' k1' q1, za_bn2]
        refine om_v (b := nI no) (iv_order hJ hp (by rw [show C1 39 = C 39 from hC1 22 (by omega)]; exact z1) (by rw [show C1 41 = C 41 from hC1 24 (by omega)]; exact z2) hno' (by omega) v1 k1' k2 q1) rfl ?_ ?_ ?_ ?_
        · have hn2 : no < 101 := by omega
          simp only [za_mul, nI_add, ni0]
          simp (disch := omega) only [za_chk, nI_clamp]
          rw [rf_setPer (by omega) (by omega), za_bnd]
          simp (disch := omega) only [za_chk, nI_clamp, za_wri]
          rw [show R2 128 2128 = nI no from (ra_orders hJ.1.1.1).trans hno', nI_add]
          rfl
        · intro a h1 h2
          unfold ordC
          rw [za_wrc (by omega), za_wrc (by omega), za_wrc (by omega), za_wrc (by omega), za_wrc (by omega)]; exact j3 a (by omega) (by omega)
        · refine gr.tr (fun a h1 => ?_)
          unfold ordR
          simp (disch := omega) only [za_wrc]
        · unfold ordR
          simp (disch := omega) only [za_wra]; exact h127
      · rw [if_pos (nI_lt (by omega) (by omega)), if_neg (fun z => q1 (by rw [nI_leI (by omega) (by omega)] at z; exact z))]
        exact om_v (b := -3) hJ rfl rfl (gc_junk j3) gr h127
    · rw [show C (17 + 22) p = nI k' from k2, if_neg (za_nm1 (by omega)), if_neg (nI_pos (by omega))]
      exact om_r (b := -2) h rfl rfl
  · simp only [if_neg q0]
    exact om_r (b := -1) h rfl rfl
end AO
