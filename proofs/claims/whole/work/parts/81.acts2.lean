section AD
variable {n t m p c : Nat} {C R : Mc} {N L : Md} {e : Nat → Int32}
theorem lotN {w : Nat} (q1 : C (w + 5) c = nI 1) : ¬ (C (w + 5) c = nI 3 ∨ C (w + 5) c = nI 5) := by rw [q1]; decide +kernel
theorem c_squat (h : IV n t m C R N L) (p0 p1 : Int32) : OM eB C R N L (fX11_squat C p0 p1) (fX12_squat R p0 p1) := by
  unfold fX11_squat fX12_squat
  rcases asked h p0 p1 with ⟨a1, a2⟩ | ⟨p, c, hp, hc, rfl, rfl, a1, a2⟩
  · exact om_t (k := 1) (v := nI 1) h (a1 _) (by rw [a2, za_bn2, if_pos rfl]) rfl za_n10
  · have ih := iv_thr (v := 0) h
    rw [a1, a2, za_bn2, if_neg za_n10, wf_here h.1 hp, rx_here ih.1 hp, za_bnd, za_bnd, ite10, ite10]
    by_cases q : C (17 + 18) p < nI 2
    · exact om_r (b := -1) h (if_pos q) (if_pos q)
    · simp only [if_neg q]
      rw [wf_lot hc, rx_hold ih.1 hc, za_bnd, za_bnd, ite01]
      by_cases q1 : C (17 + 5) c = nI 1
      · simp only [if_pos q1]
        obtain ⟨v, C1, R2, v1, v2, i1, i2, i3, i4⟩ := mean_p (k := 7) 0 ih (by omega)
        have h1 : RV 17 n t n (ab t) (t / 52) m C1 R2 := ih.1.junk i3 i4
        have hC1 : ∀ b, b < 45 → C1 (17 + b) = C (17 + b) := fun b hb => i3 _ (by omega) (by omega)
        rw [i1, za_bn2, i2, za_bn2]
        by_cases q3 : nI v = 0
        · exact om_fd (C' := C1) (R' := R2) (b := -3) h (if_pos q3) (if_pos q3) h1 (fc_of i3) (fd_of i4) (fun j _ _ => by rw [show (17 : Nat) = 17 + 0 from rfl, hC1 0 (by omega)])
        · have q1' : C1 (17 + 5) c = nI 1 := by rw [hC1 5 (by omega)]; exact q1
          have hst := op_squat hc hp (lotN q1') h1.1
          have fc : FC 17 C1 (wr (wr (moOpen C1 (17 + 1) c) (17 + 5) c (nI 6)) (17 + 6) c (nI p)) := fc_wr (fc_wr fc_open (by omega)) (by omega)
          have ew : ∀ j, wr (wr (moOpen C1 (17 + 1) c) (17 + 5) c (nI 6)) (17 + 6) c (nI p) 17 j = C1 17 j := fun j => by rw [za_wra (by omega), za_wra (by omega)]; exact open_w
          refine om_fd (C' := wr (wr (moOpen C1 (17 + 1) c) (17 + 5) c (nI 6)) (17 + 6) c (nI p)) (R' := moHolds R2 c (nI 6) (nI p)) (b := nI 1) h ?_ ?_ (h1.step hst fc (fd_holds hc) ?_ (ew _) (ew _) (ew _)) ((fc_of i3).tr fc) ((fd_of i4).tr (fd_holds hc)) (fun j _ _ => (ew j).trans (by rw [show (17 : Nat) = 17 + 0 from rfl, hC1 0 (by omega)]))
          · rw [if_neg q3]
            unfold fX4_giveSquat
            rw [za_inY hc (by omega), za_bnd, if_neg za_n10, lg_openN hc (lotN (w := 17) q1'), za_bnd, za_chk _ hc (by omega), za_lt, za_chk _ hc (by omega), za_lt, za_bnd, nI_clamp (by omega)]
          · rw [if_neg q3, rf_holds hc, za_bnd]
          · rw [za_wra (by omega), za_wra (by omega)]; unfold moOpen; simp (disch := omega) only [za_wra]
      · exact om_r (b := -2) h (if_neg q1) (if_neg q1)
theorem neg2 (j : Nat) : (-2 : Int32) * nI j = -nI (2 * j) := by
  rw [← za_mul, show (-2 : Int32) = -nI 2 by decide +kernel]; grind
theorem c_stock (h : IV n t m C R N L) (p0 p1 p2 : Int32) : OM eB C R N L (fX11_stock C p0 p1 p2) (fX12_stock R p0 p1 p2) := by
  unfold fX11_stock fX12_stock fX11_stock_J24 fX11_stock_J25 fX12_stock_J21 fX12_stock_J26
  rcases asked h p0 p1 with ⟨a1, a2⟩ | ⟨p, c, hp, hc, rfl, rfl, a1, a2⟩
  · exact om_t (k := 1) (v := nI 1) h (a1 _) (by rw [a2, za_bn2, if_pos rfl]) rfl za_n10
  · have ih := iv_thr (v := 0) h
    rw [a1, a2, za_bn2, if_neg za_n10]
    rcases rng 1000 (by omega) p2 with g | ⟨g0, g⟩ | ⟨j, j1, rfl⟩
    · exact om_t (k := 2) (v := nI 2) h (by rw [if_pos g, need_0, za_bnxl]) (by rw [if_pos g, bad_1, za_bn2, if_neg za_n10]) rfl (by decide +kernel)
    · exact om_t (k := 2) (v := nI 2) h (by rw [if_neg g0, if_pos g, need_0, za_bnxl]) (by rw [if_neg g0, if_neg (by grind), bad_1, za_bn2, if_neg za_n10]) rfl (by decide +kernel)
    · rw [if_neg (nI_pos (by omega)), if_neg (nI_nlt j1 (by omega)), need_1, za_bnx, if_neg (nI_pos (by omega)), if_pos (nI_le j1 (by omega)), bad_0, za_bn2, if_pos rfl, wf_pof hc, rx_pof ih.1 hc, za_bnd, za_bnd, ite01, ite01]
      by_cases q : (C (17 + 5) c = nI 4 ∨ C (17 + 5) c = nI 6) ∧ C (17 + 6) c = nI p
      · simp only [if_pos q]
        obtain ⟨s, k, s1, s2, k1, k2⟩ := rw_per h.1.1 hp
        obtain ⟨b, b1, b2⟩ := rw_stk h.1.1 hc
        rw [wf_pay h.1 hp, rx_coin ih.1 hp, za_bnd, za_bnd, k1, ite10, za_mul]
        by_cases q1 : 2 * j ≤ k
        · rw [if_neg (nI_nlt q1 (by omega)), if_pos (nI_le q1 (by omega)), rx_stk ih.1 hc, za_bnd, b2]
          unfold fX4_hasRoomFor
          rw [wf_stock hc, za_bnd, b2, nI_add]
          by_cases q2 : b + j ≤ 1000
          · rw [if_neg (nI_nlt q2 (by omega)), za_bnd, if_neg za_n10, if_pos (nI_le q2 (by omega)), wf_spend h.1 hp, za_bnd, k1, za_sub q1, neg2, rx_pays ih.1 hp k1 k2 q1, za_bnd]
            have h1 : RV 17 n t n (ab t) (t / 52) m (wr C (17 + 17) p (nI (k - 2 * j))) (wr (wr R 127 0 0) 128 (768 + 8 * p + 1) (nI (k - 2 * j))) := rv_coin hp (by omega) ih.1
            have h2 := rv_stk (k := b + j) h1 hc q2
            have hn := rw_n100 h.1.1
            refine om_fd (C' := wr (wr C (17 + 17) p (nI (k - 2 * j))) (17 + 8) c (nI (b + j))) (R' := wr (wr (wr R 127 0 0) 128 (768 + 8 * p + 1) (nI (k - 2 * j))) 128 (8 * c + 3) (nI (b + j))) (b := nI (b + j)) h ?_ ?_ h2 (fc_wr (fc_wr FC.rf (by omega)) (by omega)) (fd_wr (fd_wr FD.rf (by omega)) (by omega)) (fun j _ _ => by rw [za_wra (by omega), za_wra (by omega)])
            · unfold fX4_addStock fX4_addStock_J19
              rw [za_inY hc (by omega), za_bnd, if_neg za_n10, za_chk _ hc (by omega), za_chk _ hc (by omega), za_lt, nI_clamp (n := c) (by omega), show wr C (17 + 17) p (nI (k - 2 * j)) (17 + 1 + 7) c = nI b by rw [za_wra (by omega)]; exact b2, nI_add]
              rw [show fX4_stockOf (wr (wr C (17 + 17) p (nI (k - 2 * j))) (17 + 1 + 7) c (nI (b + j))) (17 + 1) (nI c) = some (nI (b + j)) from (lg_stock hc).trans (congrArg some (za_wrs _ _ _ _)), za_bnd, za_bn2]
            · rw [za_mul, nI_add, za_chk _ (by omega) (by omega), za_chk _ (by omega) (by omega), za_lt, nI_clamp (by omega), show wr (wr R 127 0 0) 128 (768 + 8 * p + 1) (nI (k - 2 * j)) 128 (8 * c + 3) = nI b by rw [za_wri (by omega), t128, ra_stk h.1.1.1 hc, b2], nI_add, rx_stk h2 hc, za_bnd, za_wrs]
          · exact om_r (b := -3) h (by rw [if_pos (nI_lt (by omega) (by omega)), za_bnd, if_pos rfl]) (by rw [if_neg (fun z => q2 (by rw [nI_leI (by omega) (by omega)] at z; exact z))])
        · exact om_r (b := -2) h (if_pos (nI_lt (by omega) (by omega))) (if_neg (fun z => q1 (by rw [nI_leI (by omega) (by omega)] at z; exact z)))
      · exact om_r (b := -1) h (if_neg q) (if_neg q)
theorem rv_fen {w x a y : Nat} {v : Int32} (h : RV w n t x a y m C R) (hc : c < 96) (hv : isZ v) : RV w n t x a y m (wr C (w + 9) c v) (wr R 128 (8 * c + 4) v) :=
  h.step (op_fen v hc hv h.1) (fc_wr FC.rf (by omega)) (fd_wr FD.rf (by omega)) (za_wra (by omega)) (za_wra (by omega)) (za_wra (by omega)) (za_wra (by omega))
theorem fence_J {v : Nat} (h : IV n t m C R N L) (hp : p < n) (hc : c < 96) (hv : v ≤ 15) : OM e C R N L (fX11_fence_J64 C (nI p) (nI c) (nI v)) (fX12_fence_J51 (wr R 127 0 0) (nI p) (nI c) (nI v)) := by
  have ih := iv_thr (v := 0) h
  unfold fX11_fence_J64 fX12_fence_J51
  obtain ⟨s, k, s1, s2, k1, k2⟩ := rw_per h.1.1 hp
  have hn := rw_n100 h.1.1
  rw [wf_pay h.1 hp, rx_coin ih.1 hp, za_bnd, za_bnd, k1, ite10]
  by_cases q1 : v ≤ k
  · rw [if_neg (nI_nlt q1 (by omega)), if_pos (nI_le q1 (by omega)), wf_spend h.1 hp, za_bnd, k1, za_sub q1, rx_pays ih.1 hp k1 k2 q1, za_bnd]
    have h1 : RV 17 n t n (ab t) (t / 52) m (wr C (17 + 17) p (nI (k - v))) (wr (wr R 127 0 0) 128 (768 + 8 * p + 1) (nI (k - v))) := rv_coin hp (by omega) ih.1
    refine om_fd (C' := wr (wr C (17 + 17) p (nI (k - v))) (17 + 9) c (nI 1)) (R' := wr (wr (wr R 127 0 0) 128 (768 + 8 * p + 1) (nI (k - v))) 128 (8 * c + 4) (nI 1)) (b := nI 1) h ?_ ?_ (rv_fen h1 hc isz1) (fc_wr (fc_wr FC.rf (by omega)) (by omega)) (fd_wr (fd_wr FD.rf (by omega)) (by omega)) (fun j _ _ => by rw [za_wra (by omega), za_wra (by omega)])
    · unfold fX4_putFence
      rw [za_inY hc (by omega), za_bnd, if_neg za_n10, za_chk _ hc (by omega), za_lt, nar1, za_bnd, nI_clamp (by omega)]
    · rw [za_mul, nI_add, za_chk _ (by omega) (by omega), za_lt, nI_clamp (by omega)]
  · exact om_r (b := -3) h (if_pos (nI_lt (by omega) (by omega))) (if_neg (fun z => q1 (by rw [nI_leI (by omega) (by omega)] at z; exact z)))
theorem c_fence (h : IV n t m C R N L) (p0 p1 : Int32) : OM eB C R N L (fX11_fence C p0 p1) (fX12_fence R p0 p1) := by
  unfold fX11_fence fX12_fence
  rcases asked h p0 p1 with ⟨a1, a2⟩ | ⟨p, c, hp, hc, rfl, rfl, a1, a2⟩
  · exact om_t (k := 1) (v := nI 1) h (a1 _) (by rw [a2, za_bn2, if_pos rfl]) rfl za_n10
  · have ih := iv_thr (v := 0) h
    rw [a1, a2, za_bn2, if_neg za_n10, wf_pof hc, rx_pof ih.1 hc, za_bnd, za_bnd, ite01, ite01]
    by_cases q : (C (17 + 5) c = nI 4 ∨ C (17 + 5) c = nI 6) ∧ C (17 + 6) c = nI p
    · simp only [if_pos q]
      rw [wf_fen hc, rx_fen ih.1 hc, za_bnd, za_bnd, ite10]
      rcases rw_fen h.1.1 hc with z | z
      · rw [z, if_pos rfl, if_neg (by decide +kernel), wf_trade h.1 hp, rx_trade ih.1 hp, za_bnd, za_bnd]
        by_cases q3 : C (17 + 16) p = nI 2
        · simp only [if_pos q3]; exact fence_J h hp hc (by omega)
        · simp only [if_neg q3]; exact fence_J h hp hc (by omega)
      · exact om_r (b := -2) h (by rw [z, if_neg (by decide)]) (by rw [z]; exact if_pos rfl)
    · exact om_r (b := -1) h (if_neg q) (if_neg q)
end AD
