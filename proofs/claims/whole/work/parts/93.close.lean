section AM
variable {n t m p c l : Nat} {C R C' R' C1 R1 : Mc} {N L N' L' : Md} {e : Nat → Int32}
theorem law_lt {mq : Nat} (h : IV n t m C R N L) (m1 : mq ≤ 12) (m2 : C (17 + 37) 1 = nI mq) : mq = m := za_inj (by omega) (by have := h.1.2.2.1; omega) (m2.symm.trans h.1.2.1)
theorem close_0 (h : IV n t m C R N L) (h1 : RV 17 n t n (ab t) (t / 52) m C1 R1) (fc1 : FC 17 C C1) (fd1 : FD (wr R 127 0 0) R1) (hz1 : ∀ j, C1 17 j = C 17 j) (hl12 : l < 12) (hlm : l < m) (h0 : C1 (17 + 38) l = 0) : OM e C R N L (bn2 (fX2_settle_J41 (17 + 37) C1 (nI l) (nI t) 0) fun v11 M12 => some (.inr (v11, M12))) (fX12_close_J71 R1 (nI l) 0) := by
  unfold fX2_settle_J41 fX2_settle_J58 fX12_close_J71 fX12_close_J95
  have et : R1 128 2116 = nI t := rw_t h1.1
  have hop := op_close1 (nI t) hl12 (fun mm hm1 hm2 => by have := za_inj (by omega) (by have := h1.2.2.1; omega) (hm2.symm.trans h1.2.1); omega) h0 h1.1
  have fc2 : FC 17 C1 (wr (wr C1 (17 + 38) l (nI 1)) (17 + 39) l (nI t)) := fc_wr (fc_wr FC.rf (by omega)) (by omega)
  have fd2 : FD R1 (wr (wr R1 128 (1568 + 6 * l) (nI 1)) 128 (1568 + 6 * l + 3) (nI t)) := fd_wr (fd_wr FD.rf (by omega)) (by omega)
  have ew : ∀ j, wr (wr C1 (17 + 38) l (nI 1)) (17 + 39) l (nI t) 17 j = C1 17 j := fun j => by rw [za_wra (by omega), za_wra (by omega)]
  refine om_fd (b := nI 1) h ?_ ?_ (h1.step hop fc2 fd2 (by rw [za_wra (by omega), za_wra (by omega)]) (ew _) (ew _) (ew _)) (fc1.tr fc2) (fd1.tr fd2) (fun j _ _ => (ew j).trans (hz1 j))
  · rw [if_pos rfl]
    simp only [za_lt, za_chk _ hl12 (show 12 < 2 ^ 31 by omega), nI_clamp (show l < 2 ^ 31 by omega)]
    rw [if_pos trivial, za_bn2, show wr (wr C1 (17 + 37 + 1) l (nI 1)) (17 + 37 + 2) l (nI t) (17 + 37 + 1) l = nI 1 by rw [za_wra (by omega), za_wrs]]
  · rw [if_pos rfl]
    simp only [za_lt, za_mul, nI_add, ni0]
    simp (disch := omega) only [za_chk, nI_clamp, za_wri, et]
    exact if_pos trivial
theorem close_1 (h : IV n t m C R N L) (h1 : RV 17 n t n (ab t) (t / 52) m C1 R1) (fc1 : FC 17 C C1) (fd1 : FD (wr R 127 0 0) R1) (hz1 : ∀ j, C1 17 j = C 17 j) (hl12 : l < 12) (hlm : l < m) (h0 : C1 (17 + 38) l = 0) : OM e C R N L (bn2 (fX2_settle_J41 (17 + 37) C1 (nI l) (nI t) (nI 1)) fun v11 M12 => some (.inr (v11, M12))) (fX12_close_J71 R1 (nI l) (nI 1)) := by
  unfold fX2_settle_J41 fX2_settle_J58 fX12_close_J71 fX12_close_J95
  have et : R1 128 2116 = nI t := rw_t h1.1
  have hop := op_close2 (nI t) hl12 (fun mm hm1 hm2 => by have := za_inj (by omega) (by have := h1.2.2.1; omega) (hm2.symm.trans h1.2.1); omega) h0 h1.1
  have fc2 : FC 17 C1 (wr (wr (wr C1 (17 + 38) l (nI 2)) (17 + 39) l (nI t)) (17 + 37) 2 (C1 (17 + 37) 2 ||| ((nI 1) <<< (nI l &&& 31)))) := fc_wr (fc_wr (fc_wr FC.rf (by omega)) (by omega)) (by omega)
  have fd2 : FD R1 (wr (wr R1 128 (1568 + 6 * l) (nI 2)) 128 (1568 + 6 * l + 3) (nI t)) := fd_wr (fd_wr FD.rf (by omega)) (by omega)
  have ew : ∀ j, wr (wr (wr C1 (17 + 38) l (nI 2)) (17 + 39) l (nI t)) (17 + 37) 2 (C1 (17 + 37) 2 ||| ((nI 1) <<< (nI l &&& 31))) 17 j = C1 17 j := fun j => by rw [za_wra (by omega), za_wra (by omega), za_wra (by omega)]
  refine om_fd (b := nI 2) h ?_ ?_ (h1.step hop fc2 fd2 (by rw [za_wri (by omega), za_wra (by omega), za_wra (by omega)]) (ew _) (ew _) (ew _)) (fc1.tr fc2) (fd1.tr fd2) (fun j _ _ => (ew j).trans (hz1 j))
  · rw [if_neg za_n10]
    simp only [za_lt, za_chk _ hl12 (show 12 < 2 ^ 31 by omega), nI_clamp (show l < 2 ^ 31 by omega)]
    rw [if_neg za_n10, show wr (wr C1 (17 + 37 + 1) l (nI 2)) (17 + 37 + 2) l (nI t) (17 + 37) 2 = C1 (17 + 37) 2 by rw [za_wra (by omega), za_wra (by omega)]]
    rw [show ∀ u, wr (wr (wr C1 (17 + 37 + 1) l (nI 2)) (17 + 37 + 2) l (nI t)) (17 + 37) 2 u (17 + 37 + 1) l = nI 2 from fun u => by rw [za_wra (by omega), za_wra (by omega), za_wrs], za_bn2]
  · rw [if_neg za_n10]
    simp only [za_lt, za_mul, nI_add, ni0]
    simp (disch := omega) only [za_chk, nI_clamp, za_wri, et, if_neg za_n10]
theorem c_close (h : IV n t m C R N L) (p0 : Int32) : OM eB C R N L (fX11_close C p0) (fX12_close R p0) := by
  unfold fX11_close fX12_close fX12_close_J19 fX12_close_J70
  have ih := iv_thr (v := 0) h
  simp only [za_lt]
  rcases laws h p0 with ⟨h1, h2⟩ | ⟨mq, l, m1, m2, hl, rfl, h1, h2⟩
  · exact om_t (k := 1) (v := nI 1) h (by rw [h1, za_bnxl]) (by rw [h2 _ t128, za_bnd, if_pos rfl, bad_1, za_bn2, if_neg za_n10]) rfl za_n10
  obtain rfl := law_lt h m1 m2
  have hl12 : l < 12 := by omega
  obtain ⟨w1, w2, w3⟩ := h.2.2.2.2.2.2.2.2.1
  have ey : R 128 (1568 + 6 * l + 1) = C 59 l := (w1 l hl12).1
  have en : R 128 (1568 + 6 * l + 2) = C 60 l := (w1 l hl12).2
  have hst : fX2_stateOf C (17 + 37) (nI l) = some (C (17 + 38) l) := by
    unfold fX2_stateOf
    rw [za_inY hl12 (by omega), za_bnd, if_neg za_n10, za_chk _ hl12 (by omega), nI_clamp (by omega)]
  rw [h1, za_bnx, h2 _ t128, za_bnd, if_neg za_n10, bad_0, za_bn2, if_pos rfl, rf_ofLaw0 hl12, rf_ofLaw hl12 (by omega), rf_ofLaw hl12 (by omega), za_bnd, za_bnd, za_bnd, t128, ra_lst h.1.1.1 hl12, ey, en, hst, za_bnd]
  by_cases q0 : C (17 + 38) l = 0
  · simp only [if_pos q0]
    obtain ⟨v, C1, R2, v1, v2, i1, i2, i3, i4⟩ := mean_p (k := 5) 0 ih (by omega)
    have hC1 : ∀ b, b < 45 → C1 (17 + b) = C (17 + b) := fun b hb => i3 _ (by omega) (by omega)
    have hw0 := w17_0 hC1
    have q0' : C1 (17 + 38) l = 0 := by rw [hC1 38 (by omega)]; exact q0
    rw [i1, za_bn2, i2, za_bn2]
    unfold fX2_settle fX2_settle_J40
    rw [za_inY hl12 (by omega), za_bnd, if_neg za_n10, za_chk _ hl12 (by omega), za_chk _ hl12 (by omega), za_chk _ hl12 (by omega), nI_clamp (by omega), show C1 (17 + 37 + 5) l = C 59 l from congrFun (hC1 42 (by omega)) l, show C1 (17 + 37 + 6) l = C 60 l from congrFun (hC1 43 (by omega)) l, hw0 6, iv_tc h]
    by_cases q1 : C 59 l ≤ C 60 l
    · simp only [if_pos q1]
      exact close_0 h (ih.1.junk i3 (fun _ _ => rfl)) (fc_of i3) FD.rf hw0 hl12 hl q0'
    · simp only [if_neg q1]
      by_cases q2 : C 59 l < nI v
      · simp only [if_pos q2]
        exact close_0 h (ih.1.junk i3 i4) (fc_of i3) (fd_of i4) hw0 hl12 hl q0'
      · simp only [if_neg q2]
        exact close_1 h (ih.1.junk i3 i4) (fc_of i3) (fd_of i4) hw0 hl12 hl q0'
  · simp only [if_neg q0]
    exact om_r (b := -1) h rfl rfl
theorem answer_J {d : Nat} {s sa : Int32} (h : IV n t m C R N L) (hl12 : l < 12) (hlm : l < m) (hd : d < 2 ^ 31) (hs : (sa = nI 1 ∧ s = nI 1) ∨ (sa = nI 2 ∧ s = 0)) : IV n t m (wr (wr C (17 + 41) l s) (17 + 40) l (nI d)) (wr (wr R 128 (1568 + 6 * l + 4) sa) 128 (1568 + 6 * l + 5) (nI d)) N L := by
  have hop := op_answer hl12 hd hs h.1.1
  have ec : ∀ b, b ≠ 57 → b ≠ 58 → wr (wr C (17 + 41) l s) (17 + 40) l (nI d) b = C b := fun b b1 b2 => by rw [za_wrc (by omega), za_wrc (by omega)]
  have er : ∀ b, b ≠ 128 → wr (wr R 128 (1568 + 6 * l + 4) sa) 128 (1568 + 6 * l + 5) (nI d) b = R b := fun b b1 => by rw [za_wrc b1, za_wrc b1]
  have ep : ∀ i, i ≠ 1568 + 6 * l + 4 → i ≠ 1568 + 6 * l + 5 → wr (wr R 128 (1568 + 6 * l + 4) sa) 128 (1568 + 6 * l + 5) (nI d) 128 i = R 128 i := fun i h1 h2 => by rw [za_wri h2, za_wri h1]
  have h2 := rv_mk h.1 hop (fun b hb => ec b (by omega) (by omega)) (fun b b1 b2 => er b (by omega)) (by rw [ec _ (by omega) (by omega)]) (fun j _ _ => by rw [ec 17 (by omega) (by omega)])
  refine iv_fg h h2 (fun b hb => ec b (by omega) (by omega)) (fun b hb => er b (by omega)) (fun i hi => ep i (by omega) (by omega)) (IR_cg h.2.2.2.1 (fun b _ _ => ec b (by omega) (by omega)) (er _ (by omega))) (IO_cg h.2.2.2.2.1 (rw_n100 h.1.1) (by rw [ec 32 (by omega) (by omega)]) (ec 39 (by omega) (by omega)) (ec 40 (by omega) (by omega)) (ec 41 (by omega) (by omega)) (fun i _ _ => ep i (by omega) (by omega))) ?_ (by have := h.2.2.2.2.2.2.2.2.2.2.2; unfold IZ at *; rw [ec 17 (by omega) (by omega)]; exact this)
  obtain ⟨q1, q2, q3⟩ := h.2.2.2.2.2.2.2.2.1
  refine ⟨fun l' hl' => ?_, fun j' hj' => ?_, fun l' h1 h2 => by rw [ep _ (by omega) (by omega)]; exact q3 l' h1 h2⟩
  · rw [ec 59 (by omega) (by omega), ec 60 (by omega) (by omega), ep _ (by omega) (by omega), ep _ (by omega) (by omega)]; exact q1 l' hl'
  · rw [ec 61 (by omega) (by omega), er 139 (by omega)]; exact q2 j' hj'
theorem c_assent (h : IV n t m C R N L) (p0 p1 : Int32) : OM eB C R N L (fX11_assent C p0 p1) (fX12_assent R p0 p1) := by
  unfold fX11_assent fX12_assent fX12_assent_J19 fX12_assent_J98
  have ih := iv_thr (v := 0) h
  have ht := iv_t h
  simp only [za_lt]
  rcases laws h p0 with ⟨h1, h2⟩ | ⟨mq, l, m1, m2, hl, rfl, h1, h2⟩
  · exact om_t (k := 1) (v := nI 1) h (by rw [h1, za_bnxl]) (by rw [h2 _ t128, za_bnd, if_pos rfl, bad_1, za_bn2, if_neg za_n10]) rfl za_n10
  obtain rfl := law_lt h m1 m2
  have hl12 : l < 12 := by omega
  have hst : fX2_stateOf C (17 + 37) (nI l) = some (C (17 + 38) l) := by
    unfold fX2_stateOf
    rw [za_inY hl12 (by omega), za_bnd, if_neg za_n10, za_chk _ hl12 (by omega), nI_clamp (by omega)]
  have et : R 128 2116 = nI t := rw_t h.1.1
  have hY := h.1.1.2.2.2.2.2.2.2.2.2.2.2.2.2 mq l m2 m1 hl
  rw [h1, za_bnx, h2 _ t128, za_bnd, if_neg za_n10, bad_0, za_bn2, if_pos rfl, rf_ofLaw0 hl12, rf_ofLaw hl12 (by omega), rf_ofLaw hl12 (by omega), za_bnd, za_bnd, za_bnd, t128, ra_lst h.1.1.1 hl12, ra_lsin h.1.1.1 hl12, hst, za_bnd, za_chk (n := 2116) _ (by omega) (by omega), nI_clamp (n := 2116) (by omega), et]
  by_cases q0 : C (17 + 38) l = nI 2
  · simp only [if_pos q0]
    unfold fX2_isReadAtHome fX2_isAnswered
    rw [za_inY hl12 (by omega), za_bnd, if_neg za_n10, za_bnd, if_neg za_n10, za_chk _ hl12 (by omega), za_chk _ hl12 (by omega), nI_clamp (by omega), iv_tc h]
    by_cases q1 : C (17 + 39) l + nI 34 ≤ nI t
    · rw [if_neg (show ¬ nI t < C (17 + 37 + 2) l + nI 34 from fun z => by have z' : nI t < C (17 + 39) l + nI 34 := z
                                                                           grind), za_bnd, if_neg za_n10, if_pos q1]
      rcases hY with ⟨y1, y2⟩ | ⟨d, d1, y1, y2, y3⟩
      · rw [if_pos (show C (17 + 37 + 3) l = -1 from y1), za_bnd, if_pos rfl, y2, if_pos (by decide)]
        unfold fX2_answer fX2_answer_J25
        simp only [za_lt]
        rw [za_inY hl12 (by omega), za_bnd, if_neg za_n10]
        simp only [za_chk _ hl12 (show 12 < 2 ^ 31 by omega), nI_clamp (show l < 2 ^ 31 by omega), nI_add, za_mul]
        by_cases q3 : p1 = 0
        · simp only [if_pos q3]
          rw [za_bn2]
          refine om_v (b := nI (t + 34)) (answer_J (d := t + 34) (s := 0) (sa := nI 2) ih hl12 hl (by omega) (Or.inr ⟨rfl, rfl⟩)) rfl ?_ (gc_wr (gc_wr GC.rf (by omega)) (by omega)) (gr_wr (gr_wr (gr_wr GR2.rf (by omega)) (by omega)) (by omega)) (by simp (disch := omega) only [za_wra, za_wrs])
          simp (disch := omega) only [za_chk, nI_clamp, za_wri, et, nI_add]
        · simp only [if_neg q3]
          rw [za_bn2]
          refine om_v (b := nI (t + 34)) (answer_J (d := t + 34) (s := nI 1) (sa := nI 1) ih hl12 hl (by omega) (Or.inl ⟨rfl, rfl⟩)) rfl ?_ (gc_wr (gc_wr GC.rf (by omega)) (by omega)) (gr_wr (gr_wr (gr_wr GR2.rf (by omega)) (by omega)) (by omega)) (by simp (disch := omega) only [za_wra, za_wrs])
          simp (disch := omega) only [za_chk, nI_clamp, za_wri, et, nI_add]
      · rw [if_neg (show ¬ C (17 + 37 + 3) l = -1 from fun z => za_nm1 d1 (y1.symm.trans z)), za_bnd, if_neg za_n10, if_neg (by rcases y3 with ⟨z, _⟩ | ⟨z, _⟩ <;> rw [z] <;> decide +kernel)]
        exact om_r (b := -3) h rfl rfl
    · rw [if_pos (show nI t < C (17 + 37 + 2) l + nI 34 from by
        have z' : nI t < C (17 + 39) l + nI 34 := by grind
        exact z'), za_bnd, if_pos rfl, if_neg q1]
      exact om_r (b := -2) h rfl rfl
  · simp only [if_neg q0]
    exact om_r (b := -1) h rfl rfl
end AM
