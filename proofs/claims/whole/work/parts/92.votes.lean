/-! ===== votes, closing, answers ===== -/
section AL
variable {n t m p c : Nat} {C R C' R' : Mc} {N L N' L' : Md} {e : Nat → Int32}
theorem rv_mk {w x a y n' t' x' a' y' : Nat} (h : RV w n t x a y m C R) (h2 : RW w n' t' x' a' y' C' R') (hc : ∀ b, b = 16 ∨ 146 ≤ b → C' b = C b) (hr : ∀ b, 135 ≤ b → b ≤ 138 → R' b = R b) (e1 : C' (w + 37) 1 = C (w + 37) 1) (ew : ∀ j, 10 ≤ j → j ≤ 12 → C' w j = C w j) : RV w n' t' x' a' y' m C' R' := by
  obtain ⟨_, g1, g2, g3, g4, g5⟩ := h
  refine ⟨h2, e1.trans g1, g2, BK_cg g3 hc hr, ?_, g5⟩
  unfold WT at *; rw [ew 10 (by omega) (by omega), ew 11 (by omega) (by omega), ew 12 (by omega) (by omega)]; exact g4
theorem hasC_L {dr wt : Nat} {v : Int32} (hd : dr + wt ≤ 12) (h1 : C 111 2 = nI dr) (h2 : R 128 2131 = nI dr) (h3 : ∀ k, k < dr → R 128 (2080 + k) = C 112 k) : ∀ k fu fr i, i + k = dr → k < fu → k < fr → ∃ r, fX9_has_L2 fu C v (nI i) = some r ∧ fX12_hasAcre_L2 fr R v (nI i) = some r
  | k, 0, _, _, _, hf, _ => by omega
  | k, _, 0, _, _, _, hf => by omega
  | 0, fu + 1, fr + 1, i, hi, _, _ => by
    obtain rfl : i = dr := by omega
    rw [fX9_has_L2, fX12_hasAcre_L2, h1, if_pos (nI_le (Nat.le_refl _) (by omega)), za_chk _ (by omega) (by omega), nI_clamp (by omega), h2, if_pos (nI_le (Nat.le_refl _) (by omega))]
    exact ⟨0, rfl, rfl⟩
  | k + 1, fu + 1, fr + 1, i, hi, hf, hfr => by
    rw [fX9_has_L2, fX12_hasAcre_L2, h1, if_neg (nI_ge (by omega) (by omega)), if_neg (nI_ge (by omega) (by omega)), za_chk (n := i) _ (by omega) (by omega), nI_clamp (n := i) (by omega), za_chk (n := 2131) _ (by omega) (by omega), nI_clamp (n := 2131) (by omega), h2, if_neg (nI_ge (by omega) (by omega)), nI_add, nI_add, za_chk (n := 2080 + i) _ (by omega) (by omega), nI_clamp (n := 2080 + i) (by omega), h3 i (by omega)]
    by_cases q : C 112 i = v
    · rw [if_pos q, if_pos q]; exact ⟨nI 1, rfl, rfl⟩
    · rw [if_neg q, if_neg q]
      exact hasC_L hd h1 h2 h3 k fu fr (i + 1) (by omega) (by omega) (by omega)
theorem has_eq (v : Int32) (h : IV n t m C R N L) : ∃ r, fX9_has C v = some r ∧ ∀ R', R' 128 = R 128 → fX12_hasAcre R' v = some r := by
  obtain ⟨dr, wt, i0, i1, i2, i3, i4, i5, i6, i7⟩ := h.2.2.2.2.2.1
  unfold fX9_has fX12_hasAcre
  obtain ⟨r, r1, r2⟩ := hasC_L (R := R) (v := v) i0 i1 i2 i5 dr FU FU 0 (by omega) (by rw [za_FU]; omega) (by rw [za_FU]; omega)
  rw [nI_0] at r1 r2
  refine ⟨r, r1, fun R' e => ?_⟩
  obtain ⟨r', q1, q2⟩ := hasC_L (R := R') (v := v) i0 i1 (by rw [e]; exact i2) (by rw [e]; exact i5) dr FU FU 0 (by omega) (by rw [za_FU]; omega) (by rw [za_FU]; omega)
  rw [nI_0] at q1 q2
  rw [r1] at q1
  rw [q2, q1]
theorem iv_votey {l j : Nat} {v : Int32} (h : IV n t m C R N L) (hl : l < 12) (hj : j < 1200) : IV n t m (wr (wr C (17 + 44) j (nI 1)) (17 + 42) l v) (wr (wr R 139 j (nI 1)) 128 (1568 + 6 * l + 1) v) N L := by
  have hop := op_votey (j := j) (nI 1) v hl h.1.1
  have ec : ∀ b, b ≠ 61 → b ≠ 59 → wr (wr C (17 + 44) j (nI 1)) (17 + 42) l v b = C b := fun b b1 b2 => by rw [za_wrc (by omega), za_wrc (by omega)]
  have er : ∀ b, b ≠ 139 → b ≠ 128 → wr (wr R 139 j (nI 1)) 128 (1568 + 6 * l + 1) v b = R b := fun b b1 b2 => by rw [za_wrc (by omega), za_wrc (by omega)]
  have ep : ∀ i, i ≠ 1568 + 6 * l + 1 → wr (wr R 139 j (nI 1)) 128 (1568 + 6 * l + 1) v 128 i = R 128 i := fun i hi => by rw [za_wri hi, za_wra (by omega)]
  have h2 := rv_mk h.1 hop (fun b hb => ec b (by omega) (by omega)) (fun b b1 b2 => er b (by omega) (by omega)) (by rw [ec _ (by omega) (by omega)]) (fun j _ _ => by rw [ec 17 (by omega) (by omega)])
  refine iv_fg h h2 (fun b hb => ec b (by omega) (by omega)) (fun b hb => er b (by omega) (by omega)) (fun i hi => ep i (by omega)) (IR_cg h.2.2.2.1 (fun b _ _ => ec b (by omega) (by omega)) (er _ (by omega) (by omega))) (IO_cg h.2.2.2.2.1 (rw_n100 h.1.1) (by rw [ec 32 (by omega) (by omega)]) (ec 39 (by omega) (by omega)) (ec 40 (by omega) (by omega)) (ec 41 (by omega) (by omega)) (fun i _ _ => ep i (by omega))) ?_ (by have := h.2.2.2.2.2.2.2.2.2.2.2; unfold IZ at *; rw [ec 17 (by omega) (by omega)]; exact this)
  obtain ⟨q1, q2, q3⟩ := h.2.2.2.2.2.2.2.2.1
  refine ⟨fun l' hl' => ?_, fun j' hj' => ?_, fun l' h1 h2 => by rw [ep _ (by omega)]; exact q3 l' h1 h2⟩
  · rw [ec 60 (by omega) (by omega), ep (1568 + 6 * l' + 2) (by omega)]
    by_cases e : l' = l
    · subst e
      rw [za_wrs, show wr (wr C (17 + 44) j (nI 1)) (17 + 42) l' v 59 l' = v from za_wrs _ _ _ _]
      exact ⟨rfl, (q1 l' hl').2⟩
    · rw [ep _ (by omega), show wr (wr C (17 + 44) j (nI 1)) (17 + 42) l v 59 l' = C 59 l' by rw [za_wri e, za_wra (by omega)]]
      exact q1 l' hl'
  · have eR : wr (wr R 139 j (nI 1)) 128 (1568 + 6 * l + 1) v 139 j' = wr R 139 j (nI 1) 139 j' := za_wra (by omega)
    have eC : wr (wr C (17 + 44) j (nI 1)) (17 + 42) l v 61 j' = wr C 61 j (nI 1) 61 j' := za_wra (by omega)
    rw [eR, eC]
    by_cases e : j' = j
    · subst e
      rw [za_wrs, za_wrs]
      exact ⟨rfl, isz1⟩
    · rw [za_wri e, za_wri e]; exact q2 j' hj' 
theorem iv_voten {l j : Nat} {v : Int32} (h : IV n t m C R N L) (hl : l < 12) (hj : j < 1200) : IV n t m (wr (wr C (17 + 44) j (nI 1)) (17 + 43) l v) (wr (wr R 139 j (nI 1)) 128 (1568 + 6 * l + 2) v) N L := by
  have hop := op_voten (j := j) (nI 1) v hl h.1.1
  have ec : ∀ b, b ≠ 61 → b ≠ 60 → wr (wr C (17 + 44) j (nI 1)) (17 + 43) l v b = C b := fun b b1 b2 => by rw [za_wrc (by omega), za_wrc (by omega)]
  have er : ∀ b, b ≠ 139 → b ≠ 128 → wr (wr R 139 j (nI 1)) 128 (1568 + 6 * l + 2) v b = R b := fun b b1 b2 => by rw [za_wrc (by omega), za_wrc (by omega)]
  have ep : ∀ i, i ≠ 1568 + 6 * l + 2 → wr (wr R 139 j (nI 1)) 128 (1568 + 6 * l + 2) v 128 i = R 128 i := fun i hi => by rw [za_wri hi, za_wra (by omega)]
  have h2 := rv_mk h.1 hop (fun b hb => ec b (by omega) (by omega)) (fun b b1 b2 => er b (by omega) (by omega)) (by rw [ec _ (by omega) (by omega)]) (fun j _ _ => by rw [ec 17 (by omega) (by omega)])
  refine iv_fg h h2 (fun b hb => ec b (by omega) (by omega)) (fun b hb => er b (by omega) (by omega)) (fun i hi => ep i (by omega)) (IR_cg h.2.2.2.1 (fun b _ _ => ec b (by omega) (by omega)) (er _ (by omega) (by omega))) (IO_cg h.2.2.2.2.1 (rw_n100 h.1.1) (by rw [ec 32 (by omega) (by omega)]) (ec 39 (by omega) (by omega)) (ec 40 (by omega) (by omega)) (ec 41 (by omega) (by omega)) (fun i _ _ => ep i (by omega))) ?_ (by have := h.2.2.2.2.2.2.2.2.2.2.2; unfold IZ at *; rw [ec 17 (by omega) (by omega)]; exact this)
  obtain ⟨q1, q2, q3⟩ := h.2.2.2.2.2.2.2.2.1
  refine ⟨fun l' hl' => ?_, fun j' hj' => ?_, fun l' h1 h2 => by rw [ep _ (by omega)]; exact q3 l' h1 h2⟩
  · rw [ec 59 (by omega) (by omega), ep (1568 + 6 * l' + 1) (by omega)]
    by_cases e : l' = l
    · subst e
      rw [za_wrs, show wr (wr C (17 + 44) j (nI 1)) (17 + 43) l' v 60 l' = v from za_wrs _ _ _ _]
      exact ⟨(q1 l' hl').1, rfl⟩
    · rw [ep _ (by omega), show wr (wr C (17 + 44) j (nI 1)) (17 + 43) l v 60 l' = C 60 l' by rw [za_wri e, za_wra (by omega)]]
      exact q1 l' hl'
  · have eR : wr (wr R 139 j (nI 1)) 128 (1568 + 6 * l + 2) v 139 j' = wr R 139 j (nI 1) 139 j' := za_wra (by omega)
    have eC : wr (wr C (17 + 44) j (nI 1)) (17 + 43) l v 61 j' = wr C 61 j (nI 1) 61 j' := za_wra (by omega)
    rw [eR, eC]
    by_cases e : j' = j
    · subst e
      rw [za_wrs, za_wrs]
      exact ⟨rfl, isz1⟩
    · rw [za_wri e, za_wri e]; exact q2 j' hj' 
theorem c_vote (h : IV n t m C R N L) (p0 p1 p2 : Int32) : OM eB C R N L (fX11_vote C p0 p1 p2) (fX12_vote R p0 p1 p2) := by
  unfold fX11_vote fX12_vote fX12_vote_J22 fX12_vote_J27 fX12_vote_J74 fX12_vote_J120
  have ih := iv_thr (v := 0) h
  simp only [za_lt]
  rcases laws h p0 with ⟨h1, h2⟩ | ⟨mq, l, m1, m2, hl, rfl, h1, h2⟩
  · exact om_t (k := 1) (v := nI 1) h (by rw [h1, za_bnxl]) (by rw [h2 _ t128, za_bnd, if_pos rfl, bad_1, za_bn2, if_neg za_n10]) rfl za_n10
  rcases pers h p1 with ⟨g1, g2⟩ | ⟨p, hp, rfl, g1, g2⟩
  · exact om_t (k := 1) (v := nI 1) h (by rw [h1, za_bnx, g1, za_bnxl]) (by rw [h2 _ t128, za_bnd, if_neg za_n10, g2 _ t128, za_bnd, if_pos rfl, bad_1, za_bn2, if_neg za_n10]) rfl za_n10
  have hl12 : l < 12 := by omega
  have hn := rw_n100 h.1.1
  rw [h1, za_bnx, g1, za_bnx, h2 _ t128, za_bnd, if_neg za_n10, g2 _ t128, za_bnd, if_neg za_n10, bad_0, za_bn2, if_pos rfl, rf_ofLaw0 hl12, za_bnd, t128, ra_lst h.1.1.1 hl12]
  have hst : fX2_stateOf C (17 + 37) (nI l) = some (C (17 + 38) l) := by
    unfold fX2_stateOf
    rw [za_inY hl12 (by omega), za_bnd, if_neg za_n10, za_chk _ hl12 (by omega), nI_clamp (by omega)]
  rw [hst, za_bnd]
  by_cases q0 : C (17 + 38) l = 0
  · simp only [if_pos q0]
    unfold fX11_mayVote
    rw [wf_here h.1 hp, za_bnd, ite10, rx_here ih.1 hp, za_bnd, ite10]
    by_cases q1 : C (17 + 18) p < nI 2
    · exact om_r (b := -2) h (by rw [if_pos q1, za_bnd, if_pos rfl]) (if_pos q1)
    · simp only [if_neg q1]
      have hfar : fX3_farmsOf C (17 + 15) (nI p) = some (C (17 + 21) p) := lf_farms h.1.1.2.1.1 hn hp
      have hH := (h.1.1.2.2.2.2.1 p hp).2
      have hc96 := cn_le 96 (farP (C (17 + 5)) (C (17 + 6)) (nI p))
      obtain ⟨r, r1, r2⟩ := has_eq (nI p) h
      rw [hfar, za_bnd, r1, za_bnd, rw_farmsOf ih.1.1 hp, za_bnd, r2 _ t128, za_bnd]
      have hcl : ∀ x : Option (Nat ⊕ (Int32 × Mc)), (bnd (if 0 < C (17 + 21) p then some (nI 1) else if r = 0 then some 0 else some (nI 1)) fun v12 => if v12 = 0 then some (.inr (-2, C)) else x) = if C (17 + 21) p = 0 ∧ r = 0 then some (.inr (-2, C)) else x := fun x => by
        by_cases z : C (17 + 21) p = 0
        · rw [if_neg (by rw [z]; decide)]
          by_cases z2 : r = 0
          · rw [if_pos z2, za_bnd, if_pos rfl, if_pos ⟨z, z2⟩]
          · rw [if_neg z2, za_bnd, if_neg za_n10, if_neg (fun w => z2 w.2)]
        · rw [if_pos (by rw [hH, za_0lt (by omega)]; exact Nat.pos_of_ne_zero (fun w => z (by rw [hH, w]; rfl))), za_bnd, if_neg za_n10, if_neg (fun w => z w.1)]
      have hrl : ∀ y : Option (Int32 × Mc), (if C (17 + 21) p = 0 then (if r = 0 then some (-2, wr R 127 0 0) else y) else y) = if C (17 + 21) p = 0 ∧ r = 0 then some (-2, wr R 127 0 0) else y := fun y => by
        by_cases z : C (17 + 21) p = 0
        · rw [if_pos z]
          by_cases z2 : r = 0
          · rw [if_pos z2, if_pos ⟨z, z2⟩]
          · rw [if_neg z2, if_neg (fun w => z2 w.2)]
        · rw [if_neg z, if_neg (fun w => z w.1)]
      rw [hcl, hrl]
      by_cases q2 : C (17 + 21) p = 0 ∧ r = 0
      · exact om_r (b := -2) h (if_pos q2) (if_pos q2)
      · rw [if_neg q2, if_neg q2]
        obtain ⟨w1, w2, w3⟩ := h.2.2.2.2.2.2.2.2.1
        have hj : l * 100 + p < 1200 := by omega
        obtain ⟨w4, w5⟩ := w2 (l * 100 + p) hj
        unfold fX2_hasVoted
        simp only [za_lt, za_mul, nI_add]
        rw [za_inY hj (by omega), za_bnd, if_neg za_n10, za_chk (n := l * 100 + p) _ hj (by omega), nI_clamp (n := l * 100 + p) (by omega), show 100 * l + p = l * 100 + p by omega, za_chk (n := l * 100 + p) _ hj (by omega), nI_clamp (n := l * 100 + p) (by omega), show wr R 127 0 0 139 (l * 100 + p) = C 61 (l * 100 + p) by rw [za_wra (by omega)]; exact w4]
        by_cases q3 : C 61 (l * 100 + p) = 0
        · rw [if_pos (show C (17 + 37 + 7) (l * 100 + p) = 0 from q3), za_bnd, if_pos rfl, if_pos q3]
          unfold fX2_hearVote fX2_hearVote_J67
          simp only [za_lt, za_mul, nI_add, nar1]
          rw [za_inY hl12 (by omega), za_bnd, if_neg za_n10, za_inY hj (by omega), za_bnd, if_neg za_n10]
          simp (disch := omega) only [za_chk, nI_clamp, za_wra, za_wri, za_wrs]
          have ey : R 128 (1568 + 6 * l + 1) = C 59 l := (w1 l hl12).1
          have en : R 128 (1568 + 6 * l + 2) = C 60 l := (w1 l hl12).2
          rw [ey, en]
          by_cases q4 : p2 = 0
          · simp only [if_pos q4]
            rw [za_bn2]
            exact om_v (b := C 60 l + nI 1) (iv_voten (v := C 60 l + nI 1) ih hl12 hj) rfl rfl (gc_wr (gc_wr GC.rf (by omega)) (by omega)) (gr_wr (gr_wr (gr_wr GR2.rf (by omega)) (by omega)) (by omega)) (by simp (disch := omega) only [za_wra, za_wrs])
          · simp only [if_neg q4]
            rw [za_bn2]
            exact om_v (b := C 59 l + nI 1) (iv_votey (v := C 59 l + nI 1) ih hl12 hj) rfl rfl (gc_wr (gc_wr GC.rf (by omega)) (by omega)) (gr_wr (gr_wr (gr_wr GR2.rf (by omega)) (by omega)) (by omega)) (by simp (disch := omega) only [za_wra, za_wrs])
        · rw [if_neg (show ¬ C (17 + 37 + 7) (l * 100 + p) = 0 from q3), za_bnd, if_neg za_n10, if_neg q3]
          exact om_r (b := -3) h rfl rfl
  · simp only [if_neg q0]
    exact om_r (b := -1) h rfl rfl
end AL
