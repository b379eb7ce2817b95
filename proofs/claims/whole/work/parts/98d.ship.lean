section AS
theorem i64_n {c : Nat} (h : c < 2 ^ 31) : (nI c).toInt64.toInt = (c : Int) := by
  rw [Int32.toInt_toInt64]
  have h1 := nI_ltI (a := c) (b := c + 0) h h
  unfold nI
  rw [Int32.toInt_ofNat_of_lt (by omega)]
theorem i64_s {a b c d : Nat} (ha : a < 2 ^ 31) (hb : b < 2 ^ 31) (hc : c < 2 ^ 31) (hd : d < 2 ^ 31) : ((((nI a).toInt64 + (nI b).toInt64) + (nI c).toInt64) + (nI d).toInt64).toInt = ((a + b + c + d : Nat) : Int) := by
  rw [Int64.toInt_add, Int64.toInt_add, Int64.toInt_add, i64_n ha, i64_n hb, i64_n hc, i64_n hd]
  have e1 : ((a : Int) + (b : Int)).bmod (2 ^ 64) = (a : Int) + (b : Int) := Int.bmod_eq_of_le (by omega) (by omega)
  have e2 : ((a : Int) + (b : Int) + (c : Int)).bmod (2 ^ 64) = (a : Int) + (b : Int) + (c : Int) := Int.bmod_eq_of_le (by omega) (by omega)
  have e3 : ((a : Int) + (b : Int) + (c : Int) + (d : Int)).bmod (2 ^ 64) = (a : Int) + (b : Int) + (c : Int) + (d : Int) := Int.bmod_eq_of_le (by omega) (by omega)
  rw [e1, e2, e3]
  omega
theorem i64_eq {a b c d : Nat} (ha : a < 2 ^ 31) (hb : b < 2 ^ 31) (hc : c < 2 ^ 31) (hd : d < 2 ^ 31) (h : a + b + c + d ≤ 100) : (((nI a).toInt64 + (nI b).toInt64) + (nI c).toInt64) + (nI d).toInt64 = (nI (a + b + c + d)).toInt64 := by
  refine Int64.toInt_inj.mp ?_
  rw [i64_s ha hb hc hd, i64_n (by omega)]
theorem i64_10 : ∀ s, s < 101 → ((10 : Int64) * (nI s).toInt64).toInt32 = nI (10 * s) ∧ nI 10 * ((nI s).toInt64).toInt32 = nI (10 * s) := by decide +kernel
variable {n t m p c : Nat} {C R C' R' C1 R2 : Mc} {N L N' L' : Md} {e : Nat → Int32}
/-- home's coins and ships change alone -/
theorem iv_home (h : IV n t m C R N L) (hc : ∀ b, b ≠ 0 → C' b = C b) (h0 : ∀ j, j < 10 ∨ 12 < j → C' 0 j = C 0 j) (hr : ∀ b, b ≠ 128 → R' b = R b) (hj : ∀ j, j ≠ 2120 → j ≠ 2121 → j ≠ 2129 → R' 128 j = R 128 j) (hi : IH C' R') : IV n t m C' R' N L := by
  obtain ⟨a1, a2, a3, a4, a5, a6, a7, a8, a9, a10, a11, a12⟩ := h
  have hR : RV 17 n t n (ab t) (t / 52) m C R' := rv_mk a1 (rw_free a1.1 hr (fun j hj' => hj j (fun z => hj' (by unfold fr; omega)) (fun z => hj' (by unfold fr; omega)) (fun z => hj' (by unfold fr; omega)))) (fun _ _ => rfl) (fun b b1 b2 => hr b (by omega)) rfl (fun _ _ _ => rfl)
  refine ⟨rv_ot hR (fun b hb => hc b (by omega)) (fun _ _ => rfl) (fun _ _ => rfl), AL_c a2 (fun b _ _ => hc b (by omega)) (hr _ (by omega)) (hr _ (by omega)), hi, IR_cg a4 (fun b _ _ => hc b (by omega)) (hr _ (by omega)), IO_cg a5 (rw_n100 a1.1) (by rw [hc 32 (by omega)]) (hc 39 (by omega)) (hc 40 (by omega)) (hc 41 (by omega)) (fun j _ _ => hj j (by omega) (by omega) (by omega)), ?_, IP_c a7 (h0 8 (by omega)) (hc 123 (by omega)) (by rw [hr 127 (by omega)]) (hr _ (by omega)), by rw [h0 9 (by omega), hr 127 (by omega)]; exact a8, IW_cg a9 (hc 59 (by omega)) (hc 60 (by omega)) (hc 61 (by omega)) (hr _ (by omega)) (fun l k _ _ => hj _ (by omega) (by omega) (by omega)), IC_c a10 (h0 14 (by omega)) (h0 16 (by omega)) (hc 124 (by omega)) (hc 125 (by omega)) (by rw [hr 127 (by omega)]) (by rw [hr 127 (by omega)]) (hr _ (by omega)) (hr _ (by omega)), II_c a11 (by rw [hc 121 (by omega)]) (hc 122 (by omega)) (by rw [hr 127 (by omega)]) (hr _ (by omega)), ?_⟩
  · obtain ⟨dr, wt, i0, i1, i2, i3, i4, i5, i6, i7⟩ := a6
    exact ⟨dr, wt, i0, by rw [hc 111 (by omega)]; exact i1, by rw [hj _ (by omega) (by omega) (by omega)]; exact i2, by rw [hc 111 (by omega)]; exact i3, by rw [hj _ (by omega) (by omega) (by omega)]; exact i4, fun k hk => by rw [hj _ (by omega) (by omega) (by omega), hc 112 (by omega)]; exact i5 k hk, fun k h1 h2 => by rw [hj _ (by omega) (by omega) (by omega)]; exact i6 k h1 h2, fun k hk => by rw [hj _ (by omega) (by omega) (by omega), hc 113 (by omega)]; exact i7 k hk⟩
  · unfold IZ at *; rw [hc 17 (by omega)]; exact a12
/-- those with orders sail -/
theorem sail_L {d : Nat} {X1 X2 X3 : Int32} {X5 : Int64} (hd : d < 2 ^ 31) : ∀ k fu fr i C R, i + k = n → k < fu → k < fr → IV n t m C R N L → ∃ C' R', fX3_sailOrders_L2 (17 + 15) fu C (nI d) (nI i) = some C' ∧ fX12_ship_L136 fr R X1 X2 X3 X5 (nI n) (nI d) (nI i) = fX12_ship_L193 FU R' X1 X2 X3 X5 (nI d) 0 ∧ IV n t m C' R' N L ∧ FC 17 C C' ∧ FD R R'
  | k, 0, _, _, _, _, _, hf, _, _ => by omega
  | k, _, 0, _, _, _, _, _, hf, _ => by omega
  | 0, fu + 1, fr + 1, i, C, R, hi, _, _, h => by
    obtain rfl : i = n := by omega
    have hn := rw_n100 h.1.1
    rw [fX3_sailOrders_L2, fX12_ship_L136, h.1.1.2.1.1, if_pos (nI_le (Nat.le_refl _) (by omega)), if_pos (nI_le (Nat.le_refl _) (by omega))]
    exact ⟨C, R, rfl, rfl, h, FC.rf, FD.rf⟩
  | k + 1, fu + 1, fr + 1, i, C, R, hi, hf, hfr, h => by
    have hn := rw_n100 h.1.1
    have hin : i < n := by omega
    rw [fX3_sailOrders_L2, fX12_ship_L136, h.1.1.2.1.1, if_neg (nI_ge hin (by omega)), if_neg (nI_ge hin (by omega)), if_neg (nI_ge (by omega) (by omega)), rx_st h.1 hin, za_bnd, rx_ord h.1 hin, za_bnd]
    unfold fX3_sailOrders_J49 fX12_ship_J184
    simp only [za_chk _ (show i < 100 by omega) (show 100 < 2 ^ 31 by omega), nI_clamp (show i < 2 ^ 31 by omega), nI_add, za_lt]
    have go : ∀ C2 R2, IV n t m C2 R2 N L → FC 17 C C2 → FD R R2 → ∃ C' R', fX3_sailOrders_L2 (17 + 15) fu C2 (nI d) (nI (i + 1)) = some C' ∧ fX12_ship_L136 fr R2 X1 X2 X3 X5 (nI n) (nI d) (nI (i + 1)) = fX12_ship_L193 FU R' X1 X2 X3 X5 (nI d) 0 ∧ IV n t m C' R' N L ∧ FC 17 C C' ∧ FD R R' := fun C2 R2 h2 f1 f2 => by
      obtain ⟨C', R', j1, j2, j3, j4, j5⟩ := sail_L hd k fu fr (i + 1) C2 R2 (by omega) (by omega) (by omega) h2
      exact ⟨C', R', j1, j2, j3, f1.tr j4, f2.tr j5⟩
    by_cases q0 : C (17 + 18) i = 0
    · rw [if_pos (show C (17 + 15 + 3) i = 0 from q0), if_pos q0]
      obtain ⟨no, i1, i2, i3, i4⟩ := h.2.2.2.2.1
      have hno : no ≤ n := by rw [i2]; exact cn_le _ _
      rcases i3 i hin with ⟨z1, z2⟩ | ⟨k', k1, k2, _⟩
      · rw [if_pos (show C (17 + 15 + 7) i = -1 from z1), show C (17 + 22) i = -1 from z1, if_neg (by decide)]
        exact go C R h FC.rf FD.rf
      · rw [if_neg (show ¬ C (17 + 15 + 7) i = -1 from fun z => za_nm1 (by omega) (k2.symm.trans z)), show C (17 + 22) i = nI k' from k2, if_pos (nI_pos' (by omega)), rf_setPer (by omega) (by omega), za_bnd, rf_setPer (by omega) (by omega), za_bnd]
        have hop := op_sail (nI d) hin hn q0 h.1.1
        have f1 : FC 17 C (wr (wr C (17 + 18) i (nI 1)) (17 + 26) i (nI d)) := fc_wr (fc_wr FC.rf (by omega)) (by omega)
        have f2 : FD R (wr (wr R 128 (768 + 8 * i + 2) (nI 1)) 128 (768 + 8 * i + 5) (nI d)) := fd_wr (fd_wr FD.rf (by omega)) (by omega)
        have ew : ∀ j, wr (wr C (17 + 18) i (nI 1)) (17 + 26) i (nI d) 17 j = C 17 j := fun j => by rw [za_wra (by omega), za_wra (by omega)]
        exact go _ _ (iv_fd h (h.1.step hop f1 f2 (by rw [za_wra (by omega), za_wra (by omega)]) (ew _) (ew _) (ew _)) f1 f2 (fun j _ _ => ew j)) f1 f2
    · rw [if_neg (show ¬ C (17 + 15 + 3) i = 0 from q0), if_neg q0]
      exact go C R h FC.rf FD.rf
/-- one more person on board, in the reference -/
theorem board_r {d j c0 c1 c2 s tr f : Nat} (h : R 128 2124 = nI n) (hn : n < 100) (hj : j < s) (hs : s ≤ 100) (h0 : c0 + c1 + c2 ≤ 100) (htr : tr = if c0 ≤ j then (if c0 + c1 ≤ j then (if c0 + c1 + c2 ≤ j then 3 else 2) else 1) else 0) : fX12_ship_L193 (f + 1) R (nI c0) (nI c1) (nI c2) (nI s).toInt64 (nI d) (nI j) = fX12_ship_L193 f (addR R n tr 5 1 (nI d)) (nI c0) (nI c1) (nI c2) (nI s).toInt64 (nI d) (nI (j + 1)) := by
  rw [fX12_ship_L193, if_neg (by rw [lg_cmp_ge, Int64.le_iff_toInt_le, i64_n (by omega), i64_n (by omega)]; omega)]
  unfold fX12_ship_J240
  simp only [nI_add]
  have hA : ∀ tr, fX12_adds R (nI tr) (nI 5) (nI 1) (nI d) = some (addR R n tr 5 1 (nI d)) := fun tr => adds_r h hn
  subst htr
  by_cases q0 : c0 ≤ j
  · rw [if_pos (nI_le q0 (by omega)), if_pos q0]
    by_cases q1 : c0 + c1 ≤ j
    · rw [if_pos (nI_le q1 (by omega)), if_pos q1]
      by_cases q2 : c0 + c1 + c2 ≤ j
      · rw [if_pos (nI_le q2 (by omega)), if_pos q2, hA, za_bnd]
      · rw [if_neg (nI_ge (by omega) (by omega)), if_neg q2, hA, za_bnd]
    · rw [if_neg (nI_ge (by omega) (by omega)), if_neg q1, hA, za_bnd]
  · rw [if_neg (nI_ge (by omega) (by omega)), if_neg q0, za_0, hA, za_bnd]
/-- all of one trade go on board -/
theorem board_L {d c0 c1 c2 s tr cnt a : Nat} (hd : d < 2 ^ 31) (hs : s ≤ 100) (h0 : c0 + c1 + c2 ≤ 100) (htr3 : tr ≤ 3) (ha : a + cnt ≤ s) (htr : ∀ j, a ≤ j → j < a + cnt → tr = if c0 ≤ j then (if c0 + c1 ≤ j then (if c0 + c1 + c2 ≤ j then 3 else 2) else 1) else 0) : ∀ k fu f i n C R, i + k = cnt → k < fu → n + k ≤ 100 → IV n t m C R N L → ∃ C' R', fX3_add_L3 (17 + 15) fu C (nI cnt) (nI tr) (nI 5) (nI d) (nI i) = some C' ∧ fX12_ship_L193 (f + k) R (nI c0) (nI c1) (nI c2) (nI s).toInt64 (nI d) (nI (a + i)) = fX12_ship_L193 f R' (nI c0) (nI c1) (nI c2) (nI s).toInt64 (nI d) (nI (a + cnt)) ∧ IV (n + k) t m C' R' N L ∧ GC C C' ∧ GR2 R R' ∧ R' 127 0 = R 127 0 ∧ C' 0 = C 0
  | k, 0, _, _, _, _, _, _, hf, _, _ => by omega
  | 0, fu + 1, f, i, n, C, R, hi, _, ht, h => by
    obtain rfl : i = cnt := by omega
    rw [fX3_add_L3, if_pos (nI_le (Nat.le_refl _) (by omega))]
    exact ⟨C, R, rfl, rfl, h, GC.rf, GR2.rf, rfl, rfl⟩
  | k + 1, fu + 1, f, i, n, C, R, hi, hf, ht, h => by
    have hn : n < 100 := by omega
    rw [adds_c (st := 1) (i := i) (cnt := cnt) h.1.1.2.1.1 hn (by omega) (by omega) (Or.inr ⟨za_nm1 hd, rfl⟩), show f + (k + 1) = (f + k) + 1 by omega, board_r (n := n) (j := a + i) (tr := tr) (rw_n h.1.1) hn (by omega) hs h0 (htr (a + i) (by omega) (by omega))]
    obtain ⟨C', R', j1, j2, j3, j4, j5, j6, j7⟩ := board_L hd hs h0 htr3 ha htr k fu f (i + 1) (n + 1) _ _ (by omega) (by omega) (by omega) (iv_add (st := 1) (co := 5) (nI d) h hn htr3 (by omega) (by omega))
    rw [show n + 1 + k = n + (k + 1) by omega] at j3
    exact ⟨C', R', j1, j2, j3, add_gc.tr j4, add_gr.tr j5, j6.trans add_0, j7.trans (by unfold addC; simp (disch := omega) only [za_wrc])⟩
end AS
