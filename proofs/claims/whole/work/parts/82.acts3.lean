section AE
variable {n t m p c : Nat} {C R : Mc} {N L : Md} {e : Nat → Int32}
theorem w17_0 {C C1 : Mc} (h : ∀ b, b < 45 → C1 (17 + b) = C (17 + b)) : ∀ j, C1 17 j = C 17 j := fun j => by
  have := h 0 (by omega)
  exact congrFun this j
/-- paying for a run, and the lease -/
theorem run_J {v s k : Nat} {C1 R1 : Mc} (h : IV n t m C R N L) (h1 : RV 17 n t n (ab t) (t / 52) m C1 R1) (fc1 : FC 17 C C1) (fd1 : FD (wr R 127 0 0) R1) (hz1 : ∀ j, C1 17 j = C 17 j) (hp : p < n) (hc : c < 96) (k1 : C1 (17 + 17) p = nI k) (k2 : k ≤ 1000000) (hm : ∃ Cx, fX10_meaning C 17 (nI 3) 0 = some (nI v, Cx) ∧ Cx = C1) (hv : v ≤ 1000)
    (hcase : (C1 (17 + 5) c = nI 1 ∧ s = 0) ∨ (C1 (17 + 5) c ≠ nI 1 ∧ (C1 (17 + 5) c = nI 4 ∨ C1 (17 + 5) c = nI 6) ∧ C1 (17 + 6) c = nI p ∧ s = 1)) :
    OM e C R N L (fX11_run_J57 C (nI p) (nI c)) (fX12_run_J73 R1 (nI p) (nI c) (nI v) (nI s)) := by
  obtain ⟨Cx, m1, rfl⟩ := hm
  unfold fX11_run_J57 fX12_run_J73
  have hn := rw_n100 h.1.1
  have ht := iv_t h
  rw [m1, za_bn2, wf_pay h1 hp, rx_coin h1 hp, za_bnd, za_bnd, k1, ite10]
  by_cases q1 : v ≤ k
  · rw [if_neg (nI_nlt q1 (by omega)), if_pos (nI_le q1 (by omega)), wf_spend h1 hp, za_bnd, k1, za_sub q1, za_lt, rx_pays h1 hp k1 k2 q1, za_bnd, za_chk _ (by omega) (by omega), za_chk _ (by omega) (by omega), za_lt, nI_clamp (by omega)]
    have h2 : RV 17 n t n (ab t) (t / 52) m (wr Cx (17 + 17) p (nI (k - v))) (wr R1 128 (768 + 8 * p + 1) (nI (k - v))) := rv_coin hp (by omega) h1
    have e8 : wr R1 128 (768 + 8 * p + 1) (nI (k - v)) 128 2118 = wr Cx (17 + 17) p (nI (k - v)) 17 8 := ra_tre h2.1.1
    rw [e8]
    have h3 := rv_tre (wr Cx (17 + 17) p (nI (k - v)) 17 8 + nI v) h2
    obtain ⟨T, hT⟩ : ∃ T, wr Cx (17 + 17) p (nI (k - v)) 17 8 + nI v = T := ⟨_, rfl⟩
    rw [hT] at h3 ⊢
    have fc3 : FC 17 Cx (wr (wr Cx (17 + 17) p (nI (k - v))) 17 8 T) := fc_wr (fc_wr FC.rf (by omega)) (by omega)
    have fd3 : FD R1 (wr (wr R1 128 (768 + 8 * p + 1) (nI (k - v))) 128 2118 T) := fd_wr (fd_wr FD.rf (by omega)) (by omega)
    have e5 : wr (wr Cx (17 + 17) p (nI (k - v))) 17 8 T (17 + 5) c = Cx (17 + 5) c := by rw [za_wra (by omega), za_wra (by omega)]
    have e6 : wr (wr Cx (17 + 17) p (nI (k - v))) 17 8 T (17 + 6) c = Cx (17 + 6) c := by rw [za_wra (by omega), za_wra (by omega)]
    have e37 : wr (wr Cx (17 + 17) p (nI (k - v))) 17 8 T (17 + 37) 1 = Cx (17 + 37) 1 := by rw [za_wra (by omega), za_wra (by omega)]
    have ewk : wr (wr Cx (17 + 17) p (nI (k - v))) 17 8 T 17 6 = nI t := h3.1.2.1.2.2.1
    have ewz : ∀ j, 10 ≤ j → j ≤ 12 → wr (wr Cx (17 + 17) p (nI (k - v))) 17 8 T 17 j = C 17 j := fun j j1 j2 => by rw [za_wri (by omega), za_wra (by omega)]; exact hz1 j
    obtain ⟨C3, hC3⟩ : ∃ C3, wr (wr Cx (17 + 17) p (nI (k - v))) 17 8 T = C3 := ⟨_, rfl⟩
    obtain ⟨R3, hR3⟩ : ∃ R3, wr (wr R1 128 (768 + 8 * p + 1) (nI (k - v))) 128 2118 T = R3 := ⟨_, rfl⟩
    rw [hC3] at h3 fc3 e5 e6 ewk ewz ⊢
    rw [hR3] at h3 fd3 ⊢
    have et : R3 128 2116 = nI t := rw_t h3.1
    unfold fX4_lease fX4_lease_J24 fX12_run_J120
    rw [za_inY hc (by omega), za_bnd, if_neg za_n10, wf_pof hc, za_bnd, ite01, e5, e6, ewk, nI_add]
    have jC : ∀ M : Mc, (chk (nI c) 96 (lt (wr M (17 + 1 + 4) (nI c).toNatClampNeg (nI 4)) fun M7 => chk (nI c) 96 (lt (wr M7 (17 + 1 + 5) (nI c).toNatClampNeg (nI p)) fun M8 => chk (nI c) 96 (lt (wr M8 (17 + 1 + 6) (nI c).toNatClampNeg (nI (t + 52))) fun M9 => some M9)))) = some (wr (wr (wr M (17 + 5) c (nI 4)) (17 + 6) c (nI p)) (17 + 7) c (nI (t + 52))) := fun M => by
      rw [za_chk _ hc (by omega), za_lt, za_chk _ hc (by omega), za_lt, za_chk _ hc (by omega), za_lt, nI_clamp (by omega)]
    have jR : ∀ M : Mc, M 128 2116 = nI t → (chk (nI 8 * nI c + 0) 2132 (lt (wr M 128 (nI 8 * nI c + 0).toNatClampNeg (nI 4)) fun M22 => chk (nI 2116) 2132 (chk (nI 8 * nI c + nI 2) 2132 (lt (wr M22 128 (nI 8 * nI c + nI 2).toNatClampNeg (M22 128 (nI 2116).toNatClampNeg + nI 52)) fun M23 => some (nI v, M23))))) = some (nI v, wr (wr M 128 (8 * c) (nI 4)) 128 (8 * c + 2) (nI (t + 52))) := fun M hM => by
      rw [za_mul, show nI (8 * c) + 0 = nI (8 * c) by rw [za_0, nI_add]; rfl, nI_add, za_chk _ (by omega) (by omega), za_lt, za_chk _ (by omega) (by omega), za_chk _ (by omega) (by omega), za_lt, nI_clamp (n := 8 * c) (by omega), nI_clamp (n := 8 * c + 2) (by omega), nI_clamp (n := 2116) (by omega), za_wri (by omega), hM, nI_add]
    rcases hcase with ⟨hl, rfl⟩ | ⟨hnl, hpa, hown, rfl⟩
    · rw [if_neg (fun z => by rw [hl] at z; exact absurd z.1 (by decide +kernel)), if_pos nI_0, lg_openN hc (lotN (w := 17) (e5.trans hl)), za_bnd, jC, za_bnd, rf_holds hc, za_bnd]
      have hst := op_run (nI (t + 52)) hc hp (lotN (w := 17) (e5.trans hl)) h3.1
      have fcq : FC 17 C3 (wr (wr (wr (moOpen C3 (17 + 1) c) (17 + 5) c (nI 4)) (17 + 6) c (nI p)) (17 + 7) c (nI (t + 52))) := fc_wr (fc_wr (fc_wr fc_open (by omega)) (by omega)) (by omega)
      have fdq : FD R3 (wr (wr (moHolds R3 c (nI 4) (nI p)) 128 (8 * c) (nI 4)) 128 (8 * c + 2) (nI (t + 52))) := fd_wr (fd_wr (fd_holds hc) (by omega)) (by omega)
      have ew : ∀ j, wr (wr (wr (moOpen C3 (17 + 1) c) (17 + 5) c (nI 4)) (17 + 6) c (nI p)) (17 + 7) c (nI (t + 52)) 17 j = C3 17 j := fun j => by rw [za_wra (by omega), za_wra (by omega), za_wra (by omega)]; exact open_w
      rw [jR _ (by unfold moHolds; simp (disch := omega) only [za_wri]; exact et)]
      exact om_fd h rfl rfl (h3.step hst fcq fdq (by rw [za_wra (by omega), za_wra (by omega), za_wra (by omega)]; unfold moOpen; simp (disch := omega) only [za_wra]) (ew _) (ew _) (ew _)) (fc1.tr (fc3.tr fcq)) (fd1.tr (fd3.tr fdq)) (fun j j1 j2 => (ew j).trans (ewz j j1 j2))
    · rw [if_pos ⟨hpa, hown⟩, if_neg za_n10, jC, za_bnd, jR _ et]
      have hnf : ¬ (C3 (17 + 5) c = nI 3 ∨ C3 (17 + 5) c = nI 5) := by
        rw [e5]; rcases hpa with z | z <;> rw [z] <;> decide +kernel
      have hst := op_rerun (nI (t + 52)) hc hp hnf (e6.trans hown) h3.1
      have fcq : FC 17 C3 (wr (wr (wr C3 (17 + 5) c (nI 4)) (17 + 6) c (nI p)) (17 + 7) c (nI (t + 52))) := fc_wr (fc_wr (fc_wr FC.rf (by omega)) (by omega)) (by omega)
      have fdq : FD R3 (wr (wr R3 128 (8 * c) (nI 4)) 128 (8 * c + 2) (nI (t + 52))) := fd_wr (fd_wr FD.rf (by omega)) (by omega)
      have ew : ∀ j, wr (wr (wr C3 (17 + 5) c (nI 4)) (17 + 6) c (nI p)) (17 + 7) c (nI (t + 52)) 17 j = C3 17 j := fun j => by rw [za_wra (by omega), za_wra (by omega), za_wra (by omega)]
      exact om_fd h rfl rfl (h3.step hst fcq fdq (by rw [za_wra (by omega), za_wra (by omega), za_wra (by omega)]) (ew _) (ew _) (ew _)) (fc1.tr (fc3.tr fcq)) (fd1.tr (fd3.tr fdq)) (fun j j1 j2 => (ew j).trans (ewz j j1 j2))
  · exact om_fd (C' := Cx) (R' := R1) (b := -3) h (if_pos (nI_lt (by omega) (by omega))) (if_neg (fun z => q1 (by rw [nI_leI (by omega) (by omega)] at z; exact z))) h1 fc1 fd1 (fun j _ _ => hz1 j)
theorem c_run (h : IV n t m C R N L) (p0 p1 : Int32) : OM eB C R N L (fX11_run C p0 p1) (fX12_run R p0 p1) := by
  unfold fX11_run fX12_run
  rcases asked h p0 p1 with ⟨a1, a2⟩ | ⟨p, c, hp, hc, rfl, rfl, a1, a2⟩
  · exact om_t (k := 1) (v := nI 1) h (a1 _) (by rw [a2, za_bn2, if_pos rfl]) rfl za_n10
  · have ih := iv_thr (v := 0) h
    rw [a1, a2, za_bn2, if_neg za_n10, wf_here h.1 hp, rx_here ih.1 hp, za_bnd, za_bnd, ite10, ite10]
    by_cases q : C (17 + 18) p < nI 2
    · exact om_r (b := -1) h (if_pos q) (if_pos q)
    · simp only [if_neg q]
      obtain ⟨v, C1, R2, v1, v2, i1, i2, i3, i4⟩ := mean_p (k := 3) 0 ih (by omega)
      have h1 : RV 17 n t n (ab t) (t / 52) m C1 R2 := ih.1.junk i3 i4
      have h0 : RV 17 n t n (ab t) (t / 52) m C R2 := ih.1.junk (fun _ _ _ => rfl) i4
      have hC1 : ∀ b, b < 45 → C1 (17 + b) = C (17 + b) := fun b hb => i3 _ (by omega) (by omega)
      obtain ⟨s, k, s1, s2, k1, k2⟩ := rw_per h.1.1 hp
      have k1' : C1 (17 + 17) p = nI k := by rw [hC1 17 (by omega)]; exact k1
      rw [wf_lot hc, rx_hold ih.1 hc, za_bnd, za_bnd, ite01, i2, za_bn2, rf_isPast, za_bnd, ite01, wf_pof hc, za_bnd, ite01, rx_own h0 hc, za_bnd]
      unfold fX12_run_J57 fX12_run_J58
      by_cases q1 : C (17 + 5) c = nI 1
      · rw [if_pos q1, if_neg (fun z => by rw [q1] at z; revert z; decide +kernel), if_pos q1]
        exact run_J h h1 (fc_of i3) (fd_of i4) (w17_0 hC1) hp hc k1' k2 ⟨C1, i1, rfl⟩ v1 (Or.inl ⟨by rw [hC1 5 (by omega)]; exact q1, rfl⟩)
      · simp only [if_neg q1]
        by_cases q2 : C (17 + 5) c = nI 4 ∨ C (17 + 5) c = nI 6
        · rw [if_pos q2]
          by_cases q3 : C (17 + 6) c = nI p
          · rw [if_pos q3, if_pos ⟨q2, q3⟩, if_neg za_n10]
            exact run_J h h1 (fc_of i3) (fd_of i4) (w17_0 hC1) hp hc k1' k2 ⟨C1, i1, rfl⟩ v1 (Or.inr ⟨by rw [hC1 5 (by omega)]; exact q1, by rw [hC1 5 (by omega)]; exact q2, by rw [hC1 6 (by omega)]; exact q3, rfl⟩)
          · rw [if_neg q3, if_neg (fun z => q3 z.2)]
            exact om_fd (C' := C) (R' := R2) (b := -2) h rfl (if_pos trivial) h0 FC.rf (fd_of i4) (fun _ _ _ => rfl)
        · rw [if_neg q2, if_neg (fun z => q2 z.1)]
          exact om_fd (C' := C) (R' := R2) (b := -2) h rfl (if_pos trivial) h0 FC.rf (fd_of i4) (fun _ _ _ => rfl)
end AE
