section AG
variable {n t m p c : Nat} {C R : Mc} {N L : Md} {e : Nat → Int32}
/-- what stays of IV when the world changes, with the parts that a call may change given -/
theorem iv_fg {n' t' m' : Nat} {C' R' : Mc} (h : IV n t m C R N L) (h2 : RV 17 n' t' n' (ab t') (t' / 52) m' C' R') (ec : ∀ b, b < 9 ∨ 63 < b → C' b = C b) (er : ∀ b, b = 127 ∨ b = 132 ∨ b = 133 ∨ b = 134 ∨ 142 ≤ b → R' b = R b) (ep : ∀ j, (2080 ≤ j ∧ j < 2104) ∨ j = 2120 ∨ j = 2121 ∨ 2129 ≤ j → R' 128 j = R 128 j) (hr : IR t' m' C' R') (ho : IO n' C' R') (hw : IW m' C' R') (hz : IZ C') : IV n' t' m' C' R' N L := by
  obtain ⟨a1, a2, a3, a4, a5, a6, a7, a8, a9, a10, a11, a12⟩ := h
  refine ⟨h2, ?_, ?_, hr, ho, ?_, ?_, ?_, hw, ?_, ?_, hz⟩
  · intro z hz; have := a2 z hz; rw [er 133 (by omega), er 132 (by omega), ec 7 (by omega), ec (3 + z) (by omega)]; exact this
  · unfold IH at *; rw [ep 2120 (by omega), ep 2121 (by omega), ep 2129 (by omega), ec 0 (by omega)]; exact a3
  · obtain ⟨dr, wt, i0, i1, i2, i3, i4, i5, i6, i7⟩ := a6
    exact ⟨dr, wt, i0, by rw [ec 111 (by omega)]; exact i1, by rw [ep _ (by omega)]; exact i2, by rw [ec 111 (by omega)]; exact i3, by rw [ep _ (by omega)]; exact i4, fun k hk => by rw [ep _ (by omega), ec 112 (by omega)]; exact i5 k hk, fun k h1 h2 => by rw [ep _ (by omega)]; exact i6 k h1 h2, fun k hk => by rw [ep _ (by omega), ec 113 (by omega)]; exact i7 k hk⟩
  · unfold IP at *; rw [er 127 (by omega), er 134 (by omega), ec 0 (by omega), ec 123 (by omega)]; exact a7
  · rw [er 127 (by omega), ec 0 (by omega)]; exact a8
  · unfold IC at *; rw [er 127 (by omega), er 142 (by omega), er 143 (by omega), ec 0 (by omega), ec 124 (by omega), ec 125 (by omega)]; exact a10
  · unfold II at *; rw [er 127 (by omega), er 144 (by omega), ec 121 (by omega), ec 122 (by omega)]; exact a11
theorem IO_cg {C' R' : Mc} (h : IO n C R) (hn : n ≤ 100) (e0 : C' 32 3 = C 32 3) (e1 : C' 39 = C 39) (e2 : C' 40 = C 40) (e3 : C' 41 = C 41) (er : ∀ j, 1780 ≤ j → j < 2080 → R' 128 j = R 128 j) : IO n C' R' := by
  obtain ⟨no, i1, i2, i3, i4⟩ := h
  have hno : no ≤ n := by rw [i2]; exact cn_le _ _
  refine ⟨no, by rw [e0]; exact i1, by rw [e1]; exact i2, fun p hp => ?_, fun k hk => ?_⟩
  · rw [e1, e2, e3]
    rcases i3 p hp with q | ⟨k, k1, k2, k3, k4, k5, k6⟩
    · exact Or.inl q
    · exact Or.inr ⟨k, k1, k2, by rw [er _ (by omega) (by omega)]; exact k3, by rw [er _ (by omega) (by omega)]; exact k4, by rw [er _ (by omega) (by omega)]; exact k5, k6⟩
  · obtain ⟨p, p1, p2, p3⟩ := i4 k hk
    exact ⟨p, p1, by rw [e1]; exact p2, by rw [er _ (by omega) (by omega)]; exact p3⟩
theorem IW_cg {C' R' : Mc} (h : IW m C R) (e1 : C' 59 = C 59) (e2 : C' 60 = C 60) (e3 : C' 61 = C 61) (e4 : R' 139 = R 139) (er : ∀ l k, l < 12 → (k = 1 ∨ k = 2 ∨ k = 4) → R' 128 (1568 + 6 * l + k) = R 128 (1568 + 6 * l + k)) : IW m C' R' := by
  obtain ⟨q1, q2, q3⟩ := h
  unfold IW
  rw [e1, e2, e3, e4]
  exact ⟨fun l hl => ⟨by rw [er l 1 hl (by omega)]; exact (q1 l hl).1, by rw [er l 2 hl (by omega)]; exact (q1 l hl).2⟩, q2, fun l h1 h2 => by rw [er l 4 h2 (by omega)]; exact q3 l h1 h2⟩
theorem IR_cg {C' R' : Mc} (h : IR t m C R) (e : ∀ b, 9 ≤ b → b ≤ 15 → C' b = C b) (er : R' 141 = R 141) : IR t m C' R' := fun r hr => by
  have := h r hr
  refine ⟨fun k hk => ?_, ?_⟩
  · rw [er, e _ (by omega) (by omega)]; exact this.1 k hk
  · rw [e 15 (by omega) (by omega)]; exact this.2
theorem c_party (h : IV n t m C R N L) (p0 : Int32) : OM eA C R N L (fX11_party C p0) (fX12_party R p0) := by
  unfold fX11_party fX12_party fX11_party_J15 fX11_party_J16 fX12_party_J17 fX12_party_J22 fX5_add
  have ih := iv_thr (v := 0) h
  rcases rng1 9 (by omega) p0 with g | ⟨g0, g⟩ | ⟨j, j0, j1, rfl⟩
  · exact om_t (k := 2) (v := nI 1) h (by rw [if_pos g, need_0, za_bnxl]) (by rw [za_lt, if_pos g, bad_1, za_bn2, if_neg za_n10]) rfl za_n10
  · exact om_t (k := 2) (v := nI 1) h (by rw [if_neg g0, if_pos g, need_0, za_bnxl]) (by rw [za_lt, if_neg g0, if_neg (by grind), bad_1, za_bn2, if_neg za_n10]) rfl za_n10
  · obtain ⟨b, i1, i2, i3⟩ := h.1.1.2.2.2.2.2.2.2.2.1
    have eb : R 128 2127 = nI b := (ra_pn h.1.1.1).trans i2
    rw [if_neg (nI_nlt (by omega) (by omega)), if_neg (nI_nlt j1 (by omega)), need_1, za_bnx, i2]
    simp only [za_lt]
    rw [if_neg (nI_nlt (by omega) (by omega)), if_pos (nI_le j1 (by omega)), bad_0, za_bn2, if_pos rfl, za_chk (n := 2127) _ (by omega) (by omega), nI_clamp (n := 2127) (by omega), t128, eb]
    by_cases q : b = 4
    · subst q
      rw [za_in (by omega) (by omega), if_neg (by omega), za_bnd, if_pos rfl, za_bn2, if_pos rfl]
      exact om_r (b := -1) h rfl rfl
    · have hb : b < 4 := by omega
      have hop := op_party (p := b) (k := j) hb ⟨j0, j1⟩ i2 ih.1.1
      have fc1 : FC 17 C (wr (wr C (17 + 28) b (nI j)) (17 + 27) 0 (nI (b + 1))) := fc_wr (fc_wr FC.rf (by omega)) (by omega)
      have fd1 : FD (wr R 127 0 0) (wr (wr (wr R 127 0 0) 128 (1720 + 15 * b) (nI j)) 128 2127 (nI (b + 1))) := fd_wr (fd_wr FD.rf (by omega)) (by omega)
      have ew : ∀ j', wr (wr C (17 + 28) b (nI j)) (17 + 27) 0 (nI (b + 1)) 17 j' = C 17 j' := fun j' => by rw [za_wra (by omega), za_wra (by omega)]
      refine om_fd (b := nI b) h ?_ ?_ (ih.1.step hop fc1 fd1 (by rw [za_wra (by omega), za_wra (by omega)]) (ew _) (ew _) (ew _)) fc1 fd1 (fun j' _ _ => ew j')
      · rw [za_inY hb (by omega), za_bnd, if_neg za_n10, za_chk _ hb (by omega), nI_clamp (n := b) (by omega)]
        rw [show wr C (17 + 27 + 1) b (nI j) (17 + 27) 0 = nI b by rw [za_wra (by omega)]; exact i2, nI_add, za_bn2]
      · rw [if_neg (fun z => q (za_inj (by omega) (by omega) z))]
        simp only [za_mul, nI_add, za_lt, ni0]
        simp (disch := omega) only [za_chk, nI_clamp, za_wri, za_wrs, eb, nI_add]
        rw [nis rfl]
theorem c_queue (h : IV n t m C R N L) (p0 p1 : Int32) : OM eB C R N L (fX11_queue C p0 p1) (fX12_queue R p0 p1) := by
  unfold fX11_queue fX12_queue fX12_queue_J22 fX12_queue_J27
  have ih := iv_thr (v := 0) h
  simp only [za_lt]
  rcases parts h p0 with ⟨h1, h2⟩ | ⟨mq, p, m1, m2, hp, rfl, h1, h2⟩
  · exact om_t (k := 1) (v := nI 1) h (by rw [h1, za_bnxl]) (by rw [h2 _ t128, za_bnd, if_pos rfl, bad_1, za_bn2, if_neg za_n10]) rfl za_n10
  · rcases secs p1 with ⟨g1, g2⟩ | ⟨c, hc, rfl, g1, g2⟩
    · exact om_t (k := 1) (v := nI 1) h (by rw [h1, za_bnx, g1, za_bnxl]) (by rw [h2 _ t128, za_bnd, if_neg za_n10, g2, za_bnd, if_pos rfl, bad_1, za_bn2, if_neg za_n10]) rfl za_n10
    · have hp4 : p < 4 := by omega
      obtain ⟨aa, k, a1, a2, k1, k2, k3⟩ := rw_q h.1.1 hp4
      have ek : R 128 (1720 + 15 * p + 2) = nI k := (ra_wait h.1.1.1 hp4).trans k2
      rw [h1, za_bnx, g1, za_bnx, h2 _ t128, za_bnd, if_neg za_n10, g2, za_bnd, if_neg za_n10, bad_0, za_bn2, if_pos rfl, rx_hold ih.1 hc, za_bnd, wf_wild hc, za_bnd, ite01]
      have hq : fX5_queued C (17 + 27) (nI p) = some (nI k) := by
        unfold fX5_queued
        rw [za_inY hp4 (by omega), za_bnd, if_neg za_n10, za_chk _ hp4 (by omega), nI_clamp (by omega)]
        exact congrArg some k2
      rw [hq, za_bnd]
      simp only [za_mul, nI_add]
      rw [za_chk (n := 1720 + 15 * p + 2) _ (by omega) (by omega), nI_clamp (n := 1720 + 15 * p + 2) (by omega), t128, ek]
      by_cases q : k = 12
      · subst q
        exact om_r (b := -1) h (by rw [if_neg (nI_nlt (by omega) (by omega))]) (if_pos rfl)
      · rw [if_pos (nI_lt (by omega) (by omega)), if_neg (fun z => q (za_inj (by omega) (by omega) z))]
        by_cases q1 : C (17 + 5) c = 0
        · simp only [if_pos q1]
          have hop := op_queue (k := k) hp4 (by omega) k2 hc (fun mm hm1 hm2 => by have := za_inj (by omega) (by omega) (hm2.symm.trans m2); omega) ih.1.1
          have fc1 : FC 17 C (wr (wr C (17 + 31) (p * 12 + k) (nI c)) (17 + 30) p (nI (k + 1))) := fc_wr (fc_wr FC.rf (by omega)) (by omega)
          have fd1 : FD (wr R 127 0 0) (wr (wr (wr R 127 0 0) 128 (1720 + 15 * p + 3 + k) (nI c)) 128 (1720 + 15 * p + 2) (nI (k + 1))) := fd_wr (fd_wr FD.rf (by omega)) (by omega)
          have ew : ∀ j', wr (wr C (17 + 31) (p * 12 + k) (nI c)) (17 + 30) p (nI (k + 1)) 17 j' = C 17 j' := fun j' => by rw [za_wra (by omega), za_wra (by omega)]
          refine om_fd (b := nI (k + 1)) h ?_ ?_ (ih.1.step hop fc1 fd1 (by rw [za_wra (by omega), za_wra (by omega)]) (ew _) (ew _) (ew _)) fc1 fd1 (fun j' _ _ => ew j')
          · unfold fX5_send
            rw [za_inY hp4 (by omega), za_bnd, if_neg za_n10]
            simp only [za_lt, za_chk _ hp4 (show 4 < 2 ^ 31 by omega), nI_clamp (show p < 2 ^ 31 by omega)]
            rw [show C (17 + 27 + 3) p = nI k from k2, za_inY (show k < 12 by omega) (by omega), za_bnd, if_neg za_n10, za_mul, nI_add, za_chk (n := p * 12 + k) _ (by omega) (by omega), nI_clamp (n := p * 12 + k) (by omega), show wr C (17 + 27 + 4) (p * 12 + k) (nI c) (17 + 27 + 3) p = nI k by rw [za_wra (by omega)]; exact k2, nI_add, za_wrs, za_bn2]
          · simp (disch := omega) only [za_chk, nI_clamp, za_wri, za_wrs, t128, ek, nI_add, za_lt]
        · simp only [if_neg q1]
          exact om_r (b := -2) h rfl rfl
end AG
