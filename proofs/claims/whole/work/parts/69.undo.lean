section UN
variable {w n t x a y m p : Nat} {C R : Mc} {u u' : Int32}
/-- a farm is lost: the class's cells -/
def loseC (C : Mc) (w c p k : Nat) : Mc := wr (wr (wr (wr (wr (wr (wr (wr (wr (wr C (w + 1) 9 (C (w + 1) 9 - nI 1)) (w + 5) c (nI 1)) (w + 6) c (-1)) (w + 7) c (-1)) (w + 8) c 0) (w + 9) c 0) (w + 10) c (-1)) (w + 11) c (-1)) (w + 17) p (nI k)) (w + 21) p (C (w + 21) p - nI 1)
theorem loseC8 {c k : Nat} : loseC (wr C w 8 u) w c p k = wr (loseC C w c p k) w 8 u := by
  unfold loseC
  rw [za_wra (by omega), za_wra (by omega)]
  simp (disch := omega) only [wr8]
theorem loseC_cells {c k j : Nat} (hj : 12 ≤ j) (h1 : j ≠ 17) (h2 : j ≠ 21) : loseC C w c p k (w + j) = C (w + j) := by
  unfold loseC; simp (disch := omega) only [za_wrc]
theorem loseC_w {c k j : Nat} : loseC C w c p k w j = C w j := by
  unfold loseC; simp (disch := omega) only [za_wra]
theorem loseC_fc {c k : Nat} : FC w C (loseC C w c p k) := by
  unfold loseC
  exact fc_wr (fc_wr (fc_wr (fc_wr (fc_wr (fc_wr (fc_wr (fc_wr (fc_wr (fc_wr FC.rf (by omega)) (by omega)) (by omega)) (by omega)) (by omega)) (by omega)) (by omega)) (by omega)) (by omega)) (by omega)
/-- what comes back to one whose farm is taken back: class and reference -/
theorem take_sim {c : Nat} (h : RV w n t n a y m C R) (hc : c < 96) (h3 : C (w + 5) c = nI 3) :
    ∃ C' R', fX10_takeBack C w (nI c) = some C' ∧ (∀ f : Mc → Option Mc, (bnd (fX12_sec R (nI c) (nI 1)) fun v7 => bnd (fX12_sec R (nI c) (nI 5)) fun v9 => chk (nI 2118) (2132) (chk (nI 2118) 2132 (lt (wr R (128) (nI 2118).toNatClampNeg ((R (128) (nI 2118).toNatClampNeg) - v9)) fun M10 => bnd (fX12_pays M10 v7 v9) fun M12 => bnd (fX12_holds M12 (nI c) (nI 1) (-1)) fun M14 => bnd (fX12_loses M14 v7) fun M16 => f M16))) = f R') ∧ RV w n t n a y m C' R' ∧ FC w C C' ∧ FD R R' ∧ (∀ j, j ≠ 8 → C' w j = C w j) ∧ (∀ j, 22 ≤ j → C' (w + j) = C (w + j)) := by
  have hw := h.w17
  have hn := rw_n100 h.1
  have hn0 : C (w + 15) 0 = nI n := h.1.2.1.1
  obtain ⟨p, p1, p2, p3⟩ := rw_ownF h.1 hc (Or.inl h3)
  obtain ⟨_, k, _, _, k1, k2⟩ := rw_per h.1 p1
  obtain ⟨v, v1, v2⟩ : ∃ v, v ≤ 1000 ∧ C (w + 10) c = nI v := by
    obtain ⟨⟨k', i1, _, _, _, _, _, i7, _⟩, _⟩ := h.1.2.2.1 c hc
    exact i7 (Or.inl (za_inj (by obtain ⟨k'', j1, j2, _⟩ := rw_sec h.1 hc; have : k' = k'' := by
                                  by_cases hk : k' < 2 ^ 31
                                  · exact za_inj hk (by omega) (i1.symm.trans j1)
                                  · omega
                                 omega) (by omega) (i1.symm.trans h3)))
  have hm := (h.1.2.2.2.2.1 p p1).2
  have hm96 := cn_le 96 (farP (C (w + 5)) (C (w + 6)) (nI p))
  have hmp : 0 < cn 96 (farP (C (w + 5)) (C (w + 6)) (nI p)) := (cn_pos _ _).mpr ⟨c, hc, far_t (Or.inl h3) p2⟩
  have h1 := rv_tre (C w 8 - nI v) h
  have e8 : ∀ k', k' ≠ 0 → wr C w 8 (C w 8 - nI v) (w + k') = C (w + k') := fun k' hk => za_wrc (by omega)
  -- the class's run, up to the farm that is lost
  have cOpen : fX4_open C (w + 1) (nI c) = some (moOpen (wr C (w + 1) 9 (C (w + 1) 9 - nI 1)) (w + 1) c) := lg_openF hc (Or.inl h3)
  have cEarn : fX3_earn (moOpen (wr C (w + 1) 9 (C (w + 1) 9 - nI 1)) (w + 1) c) (w + 15) (nI p) (nI v) = some (wr (moOpen (wr C (w + 1) 9 (C (w + 1) 9 - nI 1)) (w + 1) c) (w + 17) p (nI (min 1000000 (k + v)))) := by
    rw [lf_earn (q := w + 15) (by unfold moOpen; simp (disch := omega) only [za_wra]; exact hn0) hn p1]
    rw [show moOpen (wr C (w + 1) 9 (C (w + 1) 9 - nI 1)) (w + 1) c (w + 15 + 2) p = nI k by unfold moOpen; simp (disch := omega) only [za_wra]; exact k1, min_add (by omega) k2]
  have cLose : ∀ M1 : Mc, M1 = loseC C w c p (min 1000000 (k + v)) → fX3_loseFarm (wr (moOpen (wr C (w + 1) 9 (C (w + 1) 9 - nI 1)) (w + 1) c) (w + 17) p (nI (min 1000000 (k + v)))) (w + 15) (nI p) = (if C (w + 21) p - nI 1 ≤ 0 then fX3_loseFarm_L38 (w + 15) FU (wr M1 (w + 18) p (nI 2)) (nI p) 0 else some M1) := by
    intro M1 hM1
    have e21 : wr (moOpen (wr C (w + 1) 9 (C (w + 1) 9 - nI 1)) (w + 1) c) (w + 17) p (nI (min 1000000 (k + v))) (w + 15 + 6) p = C (w + 21) p := by
      unfold moOpen; simp (disch := omega) only [za_wra]
    unfold fX3_loseFarm
    rw [lf_one (q := w + 15) (by unfold moOpen; simp (disch := omega) only [za_wra]; exact hn0) hn p1, za_bnd, if_neg za_n10, za_chk _ (by omega) (by omega), za_chk _ (by omega) (by omega), za_lt, za_chk _ (by omega) (by omega), nI_clamp (by omega), e21, za_wrs, za_chk _ (by omega) (by omega), za_lt, hM1]
    rfl
  -- the reference's
  have hR1 : ∀ f : Mc → Option Mc, (bnd (fX12_sec R (nI c) (nI 1)) fun v7 => bnd (fX12_sec R (nI c) (nI 5)) fun v9 => chk (nI 2118) (2132) (chk (nI 2118) 2132 (lt (wr R (128) (nI 2118).toNatClampNeg ((R (128) (nI 2118).toNatClampNeg) - v9)) fun M10 => bnd (fX12_pays M10 v7 v9) fun M12 => bnd (fX12_holds M12 (nI c) (nI 1) (-1)) fun M14 => bnd (fX12_loses M14 v7) fun M16 => f M16))) = bnd (fX12_loses (moHolds (wr (wr R 128 2118 (C w 8 - nI v)) 128 (768 + 8 * p + 1) (nI (min 1000000 (k + v)))) c (nI 1) (-1)) (nI p)) f := by
    intro f
    rw [rf_sec hc (by omega), za_bnd, ra_own h.1.1 hc, p2, rf_sec hc (by omega), za_bnd, ra_paid h.1.1 hc, v2, za_chk _ (by omega) (by omega), za_chk _ (by omega) (by omega), za_lt, nI_clamp (by omega), ra_tre h.1.1, rf_pays (by omega), za_bnd, ra_coin h1.1.1 (by omega), za_wra (by omega), k1, capm_xmin, min_add (by omega) k2, rf_holds hc, za_bnd]
  have hLoses : ∀ R0 : Mc, R0 128 (768 + 8 * p + 2) = nI 4 → (∀ q, fX12_farmsOf R0 (nI p) = some (nI q) → q ≤ 96 → fX12_loses R0 (nI p) = (if q = 0 then fX12_loses_L28 FU (wr R0 128 (768 + 8 * p + 2) (nI 2)) (nI p) 0 else some R0)) := by
    intro R0 h4 q hq hq96
    unfold fX12_loses
    rw [rf_per (by omega) (by omega), za_bnd, h4, if_pos rfl, hq, za_bnd, rf_setPer (by omega) (by omega), za_bnd]
    by_cases e : q = 0
    · rw [if_pos e, if_pos ((za_le0 (by omega)).mpr e)]
    · rw [if_neg e, if_neg (fun z => e ((za_le0 (by omega)).mp z))]
  have h4R : moHolds (wr (wr R 128 2118 (C w 8 - nI v)) 128 (768 + 8 * p + 1) (nI (min 1000000 (k + v)))) c (nI 1) (-1) 128 (768 + 8 * p + 2) = nI 4 := by
    unfold moHolds
    simp (disch := omega) only [za_wri]
    rw [ra_st h.1.1 (by omega)]; exact p3
  have fdM : FD R (moHolds (wr (wr R 128 2118 (C w 8 - nI v)) 128 (768 + 8 * p + 1) (nI (min 1000000 (k + v)))) c (nI 1) (-1)) := FD.tr (fd_wr (fd_wr FD.rf (by first | omega | (have := rw_n100 h.1; omega))) (by first | omega | (have := rw_n100 h.1; omega))) (fd_holds (by omega))
  have kMin : min 1000000 (k + v) ≤ 1000000 := Nat.min_le_left _ _
  unfold fX10_takeBack
  simp only [hR1]
  rw [lg_own hc, za_bnd, show C (w + 1 + 5) c = nI p from p2, lg_paid hc, za_bnd, show C (w + 1 + 9) c = nI v from v2, cOpen, za_bnd, cEarn, za_bnd, cLose _ rfl]
  have hRQ : ∀ R0, RW w n t n a y (loseC (wr C w 8 (C w 8 - nI v)) w c p (min 1000000 (k + v))) R0 → ∀ q, cn 96 (farP (C (w + 5)) (C (w + 6)) (nI p)) = q + 1 → fX12_farmsOf R0 (nI p) = some (nI q) := by
    intro R0 hh q hq
    rw [rw_farmsOf hh p1]
    rw [show loseC (wr C w 8 (C w 8 - nI v)) w c p (min 1000000 (k + v)) (w + 21) p = C (w + 21) p - nI 1 by
      unfold loseC; rw [za_wrs, za_wra (by omega)], hm]
    exact congrArg some (nis hq)
  by_cases hm1 : cn 96 (farP (C (w + 5)) (C (w + 6)) (nI p)) = 1
  · -- the last one
    have hL : RW w n t p a y (wr (loseC (wr C w 8 (C w 8 - nI v)) w c p (min 1000000 (k + v))) (w + 18) p (nI 2)) (wr (moHolds (wr (wr R 128 2118 (C w 8 - nI v)) 128 (768 + 8 * p + 1) (nI (min 1000000 (k + v)))) c (nI 1) (-1)) 128 (768 + 8 * p + 2) (nI 2)) :=
      op_lose0 (x := n) (m := 1) hc p1 hn (Or.inl (by rw [e8 5 (by omega)]; exact h3)) (by rw [e8 6 (by omega)]; exact p2) kMin (by rw [e8 21 (by omega), hm, hm1]) rfl (by omega) h1.1
    have eL : wr (loseC (wr C w 8 (C w 8 - nI v)) w c p (min 1000000 (k + v))) (w + 18) p (nI 2) = wr (wr (loseC C w c p (min 1000000 (k + v))) (w + 18) p (nI 2)) w 8 (C w 8 - nI v) := by
      rw [loseC8, wr8 (by omega)]
    rw [eL] at hL
    have hV : RV w n t p a y m (wr (wr (loseC C w c p (min 1000000 (k + v))) (w + 18) p (nI 2)) w 8 (C w 8 - nI v)) (wr (moHolds (wr (wr R 128 2118 (C w 8 - nI v)) 128 (768 + 8 * p + 1) (nI (min 1000000 (k + v)))) c (nI 1) (-1)) 128 (768 + 8 * p + 2) (nI 2)) := by
      refine h.step hL (fc_wr (fc_wr loseC_fc (by omega)) (by omega)) (fd_wr fdM (by first | omega | (have := rw_n100 h.1; omega))) ?_ ?_ ?_ ?_
      · rw [za_wra (by omega), za_wra (by omega), loseC_cells (by omega) (by omega) (by omega)]
      · rw [za_wri (by omega), za_wra (by omega), loseC_w]
      · rw [za_wri (by omega), za_wra (by omega), loseC_w]
      · rw [za_wri (by omega), za_wra (by omega), loseC_w]
    have st2 : wr (loseC C w c p (min 1000000 (k + v))) (w + 18) p (nI 2) (w + 18) p ≠ nI 3 := by rw [za_wrs]; decide +kernel
    obtain ⟨C', R', j1, j2, j3, j4, j5, j6, j7, j8⟩ := lose_L p1 n FU 0 _ _ (by omega) (by rw [za_FU]; omega) hV (fun q hq => by omega) st2
    have hdone : RV w n t n a y m (wr C' w 8 (C w 8 - nI v)) R' := ⟨rw_done (fun q hq h3 => by rw [za_wra (by omega)] at h3 ⊢; exact fun e => j4 q hq ⟨h3, e⟩) j3.1, j3.2⟩
    have hle : C (w + 21) p - nI 1 ≤ 0 := by rw [hm, hm1]; decide +kernel
    have j1' := j1 (wr (loseC C w c p (min 1000000 (k + v))) (w + 18) p (nI 2) w 8)
    rw [za_wrid, ← za_0] at j1'
    rw [if_pos hle, j1', za_bnd, za_lt]
    have eC8 : wr (wr C' w 8 (wr (loseC C w c p (min 1000000 (k + v))) (w + 18) p (nI 2) w 8)) w 8 ((wr C' w 8 (wr (loseC C w c p (min 1000000 (k + v))) (w + 18) p (nI 2) w 8)) w 8 - nI v) = wr C' w 8 (C w 8 - nI v) := by
      rw [za_wrs, za_wra (by omega), loseC_w]
      funext b j; simp only [za_wr]; split <;> rfl
    rw [eC8]
    rw [← za_0] at j2
    refine ⟨_, R', rfl, fun f => ?_, hdone, ?_, ?_, fun j hj => ?_, fun j hj => ?_⟩
    · rw [hLoses _ h4R 0 (by
        have hx : fX12_farmsOf (wr (moHolds (wr (wr R 128 2118 (C w 8 - nI v)) 128 (768 + 8 * p + 1) (nI (min 1000000 (k + v)))) c (nI 1) (-1)) 128 (768 + 8 * p + 2) (nI 2)) (nI p) = some (nI 0) := by
          rw [rw_farmsOf hV.1 p1, za_wra (by omega), za_wra (by omega)]
          unfold loseC; rw [za_wrs, hm, hm1]; exact congrArg some (by decide +kernel)
        rw [rf_farmsOf] at hx ⊢
        rw [← hx]
        refine congrArg some (congrArg nI (cn_con _ _ _ (fun q hq => ?_)))
        unfold farP
        simp only [za_wri (show 8 * q ≠ 768 + 8 * p + 2 by omega), za_wri (show 8 * q + 1 ≠ 768 + 8 * p + 2 by omega)]) (by omega), if_pos rfl, j2, za_bnd]
    · exact fc_wr (FC.tr (fc_wr loseC_fc (by omega)) j5) (by omega)
    · exact FD.tr (fd_wr fdM (by first | omega | (have := rw_n100 h.1; omega))) j6
    · rw [za_wri hj, j7, za_wra (by omega), loseC_w]
    · rw [za_wrc (by omega), j8 j (by omega) (by omega) (by omega), za_wrc (by omega), loseC_cells (by omega) (by omega) (by omega)]
  · obtain ⟨q, hq⟩ : ∃ q, cn 96 (farP (C (w + 5)) (C (w + 6)) (nI p)) = q + 1 := ⟨cn 96 (farP (C (w + 5)) (C (w + 6)) (nI p)) - 1, by omega⟩
    have hL : RW w n t n a y (loseC (wr C w 8 (C w 8 - nI v)) w c p (min 1000000 (k + v))) (moHolds (wr (wr R 128 2118 (C w 8 - nI v)) 128 (768 + 8 * p + 1) (nI (min 1000000 (k + v)))) c (nI 1) (-1)) :=
      op_lose1 (m := q + 1) hc p1 hn (Or.inl (by rw [e8 5 (by omega)]; exact h3)) (by rw [e8 6 (by omega)]; exact p2) kMin (by rw [e8 21 (by omega), hm, hq]) (by omega) (by omega) h1.1
    have hfo := hRQ _ hL q hq
    have hnl : ¬ C (w + 21) p - nI 1 ≤ 0 := by rw [hm, hq, nis rfl]; exact nI_nle (by omega) (by omega)
    rw [loseC8] at hL
    rw [if_neg hnl, za_bnd, za_lt]
    rw [show loseC C w c p (min 1000000 (k + v)) w 8 = C w 8 from loseC_w]
    refine ⟨_, _, rfl, fun f => ?_, h.step hL (fc_wr loseC_fc (by omega)) fdM ?_ ?_ ?_ ?_, fc_wr loseC_fc (by omega), fdM, fun j hj => ?_, fun j hj => ?_⟩
    · rw [hLoses _ h4R q hfo (by omega), if_neg (by omega), za_bnd]
    · rw [za_wra (by omega), loseC_cells (by omega) (by omega) (by omega)]
    · rw [za_wri (by omega), loseC_w]
    · rw [za_wri (by omega), loseC_w]
    · rw [za_wri (by omega), loseC_w]
    · rw [za_wri hj, loseC_w]
    · rw [za_wrc (by omega), loseC_cells (by omega) (by omega) (by omega)]
end UN
