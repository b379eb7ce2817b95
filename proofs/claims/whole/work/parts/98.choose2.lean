section AQ
variable {n t m p c : Nat} {C R C' R' C1 R2 : Mc} {N L N' L' : Md} {e : Nat → Int32}
/-- p has chosen -/
theorem iv_chosen {k : Nat} (h : IV n t m C R N L) (hp : p < n) (hk : C 39 p = nI k) (hk1 : k < 100) : IV n t m (wr C (17 + 24) p (nI 1)) (wr R 128 (1780 + 3 * k + 2) (nI 1)) N L := by
  have hn := rw_n100 h.1.1
  have hop := ok_free (i := 1780 + 3 * k + 2) (nI 1) (by omega) (oj_cho (nI 1) hp h.1.1)
  have ec : ∀ b, b ≠ 41 → wr C (17 + 24) p (nI 1) b = C b := fun b b1 => za_wrc (by omega)
  have er : ∀ b, b ≠ 128 → wr R 128 (1780 + 3 * k + 2) (nI 1) b = R b := fun b b1 => za_wrc b1
  have ep : ∀ i, i ≠ 1780 + 3 * k + 2 → wr R 128 (1780 + 3 * k + 2) (nI 1) 128 i = R 128 i := fun i h1 => za_wri h1
  have h2 := rv_mk h.1 hop (fun b hb => ec b (by omega)) (fun b b1 b2 => er b (by omega)) (by rw [ec _ (by omega)]) (fun j _ _ => by rw [ec 17 (by omega)])
  refine iv_fg h h2 (fun b hb => ec b (by omega)) (fun b hb => er b (by omega)) (fun i hi => ep i (by omega)) (IR_cg h.2.2.2.1 (fun b _ _ => ec b (by omega)) (er _ (by omega))) ?_ (IW_cg h.2.2.2.2.2.2.2.2.1 (ec 59 (by omega)) (ec 60 (by omega)) (ec 61 (by omega)) (er 139 (by omega)) (fun l k' _ _ => ep _ (by omega))) (by have := h.2.2.2.2.2.2.2.2.2.2.2; unfold IZ at *; rw [ec 17 (by omega)]; exact this)
  obtain ⟨no, i1, i2, i3, i4⟩ := h.2.2.2.2.1
  have hno : no ≤ n := by rw [i2]; exact cn_le _ _
  refine ⟨no, by rw [ec 32 (by omega)]; exact i1, by rw [ec 39 (by omega)]; exact i2, fun q hq => ?_, fun k' hk' => ?_⟩
  · rw [ec 39 (by omega), ec 40 (by omega)]
    by_cases e : q = p
    · subst e
      right
      rcases i3 q hq with ⟨z, _⟩ | ⟨k', k1, k2, k3, k4, k5, k6, k7⟩
      · rw [hk] at z; exact absurd z (za_nm1 (by omega))
      · obtain rfl : k' = k := za_inj (by omega) (by omega) (k2.symm.trans hk)
        have e1 : wr C (17 + 24) q (nI 1) 41 q = nI 1 := za_wrs _ _ _ _
        rw [e1]
        exact ⟨k', k1, k2, by rw [ep _ (by omega)]; exact k3, by rw [ep _ (by omega)]; exact k4, za_wrs _ _ _ _, isz1, k7⟩
    · have e1 : wr C (17 + 24) p (nI 1) 41 q = C 41 q := za_wri e
      rw [e1]
      rcases i3 q hq with z | ⟨k', k1, k2, k3, k4, k5, k6⟩
      · exact Or.inl z
      · have hkk : k' ≠ k := fun z => by
          obtain ⟨q', z1, z2, z3⟩ := i4 k' k1
          rcases i3 p hp with ⟨w, _⟩ | ⟨k'', w1, w2, w3, _⟩
          · rw [hk] at w; exact absurd w (za_nm1 (by omega))
          · obtain rfl : k'' = k := za_inj (by omega) (by omega) (w2.symm.trans hk)
            rw [z] at k3
            exact e (za_inj (by omega) (by omega) (k3.symm.trans w3))
        exact Or.inr ⟨k', k1, k2, by rw [ep _ (by omega)]; exact k3, by rw [ep _ (by omega)]; exact k4, by rw [ep _ (by omega)]; exact k5, k6⟩
  · obtain ⟨q, q1, q2, q3⟩ := i4 k' hk'
    exact ⟨q, q1, by rw [ec 39 (by omega)]; exact q2, by rw [ep _ (by omega)]; exact q3⟩
theorem farmR_eq {k v : Nat} (hc : c < 96) (hp : p < 100) (hk : k < 100) : farmR (wr R 128 (1780 + 3 * k + 2) (nI 1)) c p 5 v (-1) = wr (wr (wr (wr (moHolds R c (nI 5) (nI p)) 128 (8 * c + 5) (nI v)) 128 (1780 + 3 * k + 2) (nI 1)) 128 (768 + 8 * p + 2) (nI 4)) 128 (768 + 8 * p + 3) (-1) := by
  have h1 : wr (wr (moHolds R c (nI 5) (nI p)) 128 (8 * c + 5) (nI v)) 128 (1780 + 3 * k + 2) (nI 1) = wr (moHolds (wr R 128 (1780 + 3 * k + 2) (nI 1)) c (nI 5) (nI p)) 128 (8 * c + 5) (nI v) := by
    unfold moHolds
    rw [wr_cm (i := 8 * c + 5) (j := 1780 + 3 * k + 2) (by omega), wr_cm (i := 8 * c + 6) (j := 1780 + 3 * k + 2) (by omega), wr_cm (i := 8 * c + 5) (j := 1780 + 3 * k + 2) (by omega), wr_cm (i := 8 * c + 4) (j := 1780 + 3 * k + 2) (by omega), wr_cm (i := 8 * c + 3) (j := 1780 + 3 * k + 2) (by omega), wr_cm (i := 8 * c + 2) (j := 1780 + 3 * k + 2) (by omega), wr_cm (i := 8 * c + 1) (j := 1780 + 3 * k + 2) (by omega), wr_cm (i := 8 * c) (j := 1780 + 3 * k + 2) (by omega)]
  rw [h1]
  unfold farmR
  rw [wr_same (M := wr (moHolds (wr R 128 (1780 + 3 * k + 2) (nI 1)) c (nI 5) (nI p)) 128 (8 * c + 5) (nI v)) (a := 128) (i := 8 * c + 6) (v := -1) (by unfold moHolds; rw [za_wri (by omega), za_wrs])]
theorem c_choose (h : IV n t m C R N L) (p0 p1 : Int32) : OM eB C R N L (fX11_choose C p0 p1) (fX12_choose R p0 p1) := by
  unfold fX11_choose fX12_choose
  rcases asked h p0 p1 with ⟨a1, a2⟩ | ⟨p, c, hp, hc, rfl, rfl, a1, a2⟩
  · exact om_t (k := 1) (v := nI 1) h (a1 _) (by rw [a2, za_bn2, if_pos rfl]) rfl za_n10
  have ih := iv_thr (v := 0) h
  have hn := rw_n100 h.1.1
  rw [a1, a2, za_bn2, if_neg za_n10, may_c h.1.1.2.1.1 hn hp, za_bnd, ite01, rx_ord ih.1 hp, za_bnd]
  obtain ⟨no, i1, i2, i3, i4⟩ := h.2.2.2.2.1
  have hno : no ≤ n := by rw [i2]; exact cn_le _ _
  rcases i3 p hp with ⟨z1, z2⟩ | ⟨k, k1, k2, k3, k4, k5, k6, v', v1', v2'⟩
  · rw [if_neg (fun z => z.1 z1), show C (17 + 22) p = -1 from z1, if_pos (by decide)]
    exact om_r (b := -1) h rfl rfl
  rw [show C (17 + 22) p = nI k from k2, if_neg (nI_pos (by omega))]
  simp only [za_mul, nI_add]
  rw [za_chk (n := 1780 + 3 * k + 2) _ (by omega) (by omega), nI_clamp (n := 1780 + 3 * k + 2) (by omega), show wr R 127 0 0 128 (1780 + 3 * k + 2) = C 41 p by rw [t128]; exact k5]
  rcases k6 with z0 | z0
  · rw [if_pos ⟨za_nm1 (by omega), z0⟩, z0, if_neg (by decide), wf_here h.1 hp, rx_here ih.1 hp, za_bnd, za_bnd, ite10, ite10]
    by_cases q : C (17 + 18) p < nI 2
    · exact om_r (b := -2) h (if_pos q) (if_pos q)
    simp only [if_neg q]
    rw [wf_lot hc, rx_hold ih.1 hc, za_bnd, za_bnd, ite01]
    by_cases q1 : C (17 + 5) c = nI 1
    · simp only [if_pos q1]
      unfold fX12_isTurn fX3_mustWait
      obtain ⟨v, C1, R2, v1, v2, j1, j2, j3, j4⟩ := mean_p (k := 6) 0 ih (by omega)
      have hJ := iv_junk ih j3 j4
      have hC1 : ∀ b, b < 45 → C1 (17 + b) = C (17 + b) := fun b hb => j3 _ (by omega) (by omega)
      have e39 : C1 39 p = nI k := by rw [show C1 39 = C 39 from hC1 22 (by omega)]; exact k2
      have gr : GR2 R R2 := (gr_wr GR2.rf (by omega)).tr (fun a h1 => j4 a (by omega))
      have h127 : R2 127 0 = 0 := by rw [j4 127 (by omega), za_wrs]
      have hw := wait_L (C := C1) (t := t) (v := v) hJ.1.1.2.1.1 hn hp n FU 0 (by omega) (by rw [za_FU]; omega)
      have hT := turn_L (v := v) (kp := k) hJ.1 hJ.2.2.2.2.1 (by rw [show C1 32 = C 32 from hC1 15 (by omega)]; exact i1) (by omega) (by omega) k FU 0 (by omega) (by rw [za_FU]; omega)
      rw [nI_0] at hw hT
      rw [j1, za_bn2, j2, za_bn2, iv_tc h]
      rcases turn_eq (v := v) hJ.1 hJ.2.2.2.2.1 hp e39 (by omega) with ⟨⟨q', t1, t2⟩, ⟨q'', t3, t4⟩⟩ | ⟨t1, t2⟩
      · rw [hw.1 ⟨q', by omega, t1, t2⟩, za_bnd, if_neg za_n10, hT.1 ⟨q'', by omega, t3, t4⟩, za_bn2, if_pos rfl]
        exact om_v (b := -4) hJ rfl rfl (gc_junk j3) gr h127
      · rw [hw.2 (fun q' _ w2 => t1 q' w2), za_bnd, if_pos rfl, hT.2 (fun q' _ w2 => t2 q' w2), za_bn2, if_neg za_n10]
        have hX := iv_chosen hJ hp e39 (by omega)
        obtain ⟨s, kk, s1, s2, _, _⟩ := rw_per h.1.1 hp
        have hs2 : 2 ≤ s := by rw [s1, nI_ltI (by omega) (by omega)] at q; omega
        obtain ⟨C2, C3, f1, f2, f3, f4, f5, f6, f7, f8⟩ := farm_sim (w := 17) (c := c) (p := p) (s := s) (kd := 5) (mm := v') (te := -1) hX.1 hp hc (by rw [za_wra (by omega), hC1 5 (by omega)]; exact q1) (Or.inr rfl) v1' (fun w => by omega) (by rw [za_wra (by omega), hC1 18 (by omega)]; exact s1) hs2 s2
        have hU : fX3_useOrder C1 (17 + 15) (nI p) = some (nI v', wr C1 (17 + 24) p (nI 1)) := by
          unfold fX3_useOrder
          simp only [za_lt]
          rw [lf_one hJ.1.1.2.1.1 hn hp, za_bnd, if_neg za_n10, za_chk _ (by omega) (by omega), za_chk _ (by omega) (by omega), nI_clamp (by omega), nar1, show wr C1 (17 + 15 + 9) p (nI 1) (17 + 15 + 8) p = nI v' by rw [za_wra (by omega), show C1 (17 + 15 + 8) = C (17 + 15 + 8) from hC1 23 (by omega)]; exact v2']
        rw [hU, za_bn2, f1, za_bnd, f2, za_bnd]
        rw [rf_holds hc, za_bnd]
        have hk3 : ∀ j, 1780 ≤ j → j < 2104 → moHolds R2 c (nI 5) (nI p) 128 j = R2 128 j := fun j j1 j2 => by unfold moHolds; simp (disch := omega) only [za_wri]
        rw [farmR_eq hc (by omega) (by omega)] at f3 f5
        refine om_v (b := nI 1) (iv_fd hX f3 f4 f5 (fun j _ _ => f7 j)) rfl ?_ ?_ ?_ ?_
        · simp (disch := omega) only [za_chk, nI_clamp, za_lt, hk3]
          rw [rf_owns (by omega), za_bnd, show R2 128 (1780 + 3 * k + 1) = nI v' by
            rw [j4 128 (by omega), t128, k4]; exact v2']
        · intro a h1 h2
          rw [f4.1 a (by omega), za_wrc (by omega)]; exact j3 a (by omega) (by omega)
        · refine gr.tr (fun a h1 => ?_)
          unfold moHolds
          simp (disch := omega) only [za_wrc]
        · unfold moHolds
          simp (disch := omega) only [za_wra]; exact h127
    · simp only [if_neg q1]
      exact om_r (b := -3) h rfl rfl
  · rw [if_neg (fun z => absurd (z0.symm.trans z.2) za_n10), z0]
    exact om_r (b := -1) h rfl (if_pos (show (1 : Int32) = nI 1 from rfl))
end AQ
