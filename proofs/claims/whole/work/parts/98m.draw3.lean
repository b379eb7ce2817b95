section BB
variable {n t m p c : Nat} {C R C' R' C1 R2 : Mc} {N L N' L' : Md} {e : Nat → Int32}
theorem fact_R0 {k : Nat} {p0 : Int32} (hk : k ≤ 12) : fX12_draw_L19 FU R p0 (nI k) (nI 1) (nI 2) = (if p0 < 0 then fX12_draw_J46 R p0 (nI k) (nI (fac k)) else if p0 < nI (fac k) then fX12_draw_J51 R p0 (nI k) (nI (fac k)) 0 else fX12_draw_J46 R p0 (nI k) (nI (fac k))) := by
  by_cases h : 1 ≤ k
  · exact fact_R hk (k - 1) FU 1 (by omega) (by omega) (by rw [za_FU]; omega)
  · obtain rfl : k = 0 := by omega
    rw [za_FU, fX12_draw_L19, if_pos (by decide +kernel)]; rfl
theorem c_draw (h : IV n t m C R N L) (p0 : Int32) : OM eA C R N L (fX11_draw C p0) (fX12_draw R p0) := by
  have ih := iv_thr (v := 0) h
  obtain ⟨dr, wt, i0, i1, i2, i3, i4, i5, i6, i7⟩ := ih.2.2.2.2.2.1
  obtain ⟨f1, f2⟩ := fac_le wt (by omega)
  unfold fX11_draw fX12_draw fX11_draw_J19 fX11_draw_J20 fX9_waysToDraw
  rw [i3, fact_c (by omega), za_bnd, za_bnd, za_lt, za_chk _ (by omega) (by omega), za_lt, nI_clamp (by omega), i4, fact_R0 (by omega)]
  unfold fX12_draw_J46 fX12_draw_J51
  by_cases g : p0 < 0
  · exact om_t (k := 2) (v := nI 1) h (by rw [if_pos g, need_0, za_bnxl]) (by rw [if_pos g, bad_1, za_bn2, if_neg za_n10]) rfl za_n10
  · by_cases g2 : nI (fac wt) ≤ p0
    · exact om_t (k := 2) (v := nI 1) h (by rw [if_neg g, if_pos g2, need_0, za_bnxl]) (by rw [if_neg g, if_neg (by grind), bad_1, za_bn2, if_neg za_n10]) rfl za_n10
    · obtain ⟨x, x1, rfl⟩ := za_ofl (x := p0) (N := fac wt) (by omega) g g2
      obtain ⟨C', R', j1, j2, j3, j4, j5, j6⟩ := both_L (w0 := wt) (by omega) wt FU FU dr 0 x C (wr R 127 0 0) (by omega) (by rw [za_FU]; omega) (by rw [za_FU]; omega) ⟨i0, i1, i3, i2, i5, i6, i7⟩ x1
      rw [nI_0] at j1
      obtain ⟨k0, k1, k2, k3, k4, k5, k6⟩ := j3
      rw [if_neg g, if_neg g2, need_1, za_bnx, if_neg g, if_pos (nI_lt x1 (by omega)), bad_0, za_bn2, if_pos rfl]
      refine om_v (b := nI wt) (iv_town (R' := wr R' 128 2130 0) ih j4 (fun b hb => by rw [za_wrc hb]; exact j5 b hb) (fun j hj => by rw [za_wri (by omega)]; exact j6 j (by omega)) ⟨dr + wt, 0, by omega, k1, ?_, k2, za_wrs _ _ _ _, fun k hk => ?_, fun k k1' k2' => ?_, fun k hk => by omega⟩) ?_ j2 (fun a h1 h2 => j4 a (by omega) (by omega) (by omega)) ((gr_wr GR2.rf (by omega)).tr (fun a h1 => (za_wrc (show a ≠ 128 by omega)).trans (j5 a (by omega)))) (by rw [za_wra (by omega), j5 127 (by omega), za_wrs])
      · rw [za_wri (by omega)]; exact k3
      · rw [za_wri (by omega)]; exact k4 k hk
      · rw [za_wri (by omega)]; exact k5 k k1' k2'
      · unfold fX9_drawBy
        rw [za_lt, i3, j1, za_bn2]
end BB
