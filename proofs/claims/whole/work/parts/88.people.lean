/-! ===== people ===== -/
def addC (C : Mc) (n tr co st : Nat) (la : Int32) : Mc := wr (wr (wr (wr (wr (wr (wr C (17 + 16) n (nI tr)) (17 + 17) n (nI co)) (17 + 18) n (nI st)) (17 + 19) n (-1)) (17 + 22) n (-1)) (17 + 26) n la) (17 + 15) 0 (nI (n + 1))
def addR (R : Mc) (n tr co st : Nat) (la : Int32) : Mc := wr (wr (wr (wr (wr (wr (wr (wr R 128 (768 + 8 * n) (nI tr)) 128 (768 + 8 * n + 1) (nI co)) 128 (768 + 8 * n + 2) (nI st)) 128 (768 + 8 * n + 3) (-1)) 128 (768 + 8 * n + 4) 0) 128 (768 + 8 * n + 5) la) 128 (768 + 8 * n + 6) (-1)) 128 2124 (nI (n + 1))
section AI
variable {n t m p c : Nat} {C R : Mc} {N L : Md} {e : Nat → Int32}
theorem iv_add {tr co st : Nat} (la : Int32) (h : IV n t m C R N L) (hn : n < 100) (htr : tr ≤ 3) (hco : co ≤ 1000000) (hst : st ≤ 1) : IV (n + 1) t m (addC C n tr co st la) (addR R n tr co st la) N L := by
  have hop := op_adds (x := 0) la hn htr hco hst h.1.1
  obtain ⟨_, g1, g2, g3, g4, g5⟩ := h.1
  have ec : ∀ k, k ≠ 32 → k ≠ 33 → k ≠ 34 → k ≠ 35 → k ≠ 36 → k ≠ 39 → k ≠ 43 → addC C n tr co st la k = C k := fun k k1 k2 k3 k4 k5 k6 k7 => by
    unfold addC
    rw [za_wrc (by omega), za_wrc (by omega), za_wrc (by omega), za_wrc (by omega), za_wrc (by omega), za_wrc (by omega), za_wrc (by omega)]
  have er : ∀ k, k ≠ 128 → addR R n tr co st la k = R k := fun k k1 => by
    unfold addR
    rw [za_wrc k1, za_wrc k1, za_wrc k1, za_wrc k1, za_wrc k1, za_wrc k1, za_wrc k1, za_wrc k1]
  have ep : ∀ j, 1568 ≤ j → j ≠ 2124 → addR R n tr co st la 128 j = R 128 j := fun j j1 j2 => by
    unfold addR
    rw [za_wri j2, za_wri (by omega), za_wri (by omega), za_wri (by omega), za_wri (by omega), za_wri (by omega), za_wri (by omega), za_wri (by omega)]
  have e17 : addC C n tr co st la 17 = C 17 := ec 17 (by omega) (by omega) (by omega) (by omega) (by omega) (by omega) (by omega)
  have e39 : ∀ q, addC C n tr co st la 39 q = if q = n then -1 else C 39 q := fun q => by
    unfold addC
    rw [za_wra (by omega), za_wra (by omega)]
    by_cases e : q = n
    · rw [if_pos e, e, za_wrs]
    · rw [if_neg e, za_wri e, za_wra (by omega), za_wra (by omega), za_wra (by omega), za_wra (by omega)]
  have h2 : RV 17 (n + 1) t (n + 1) (ab t) (t / 52) m (addC C n tr co st la) (addR R n tr co st la) :=
    ⟨hop, (congrFun (ec _ (by omega) (by omega) (by omega) (by omega) (by omega) (by omega) (by omega)) _).trans g1, g2, BK_cg g3 (fun b hb => ec _ (by omega) (by omega) (by omega) (by omega) (by omega) (by omega) (by omega)) (fun b b1 b2 => er _ (by omega)), by unfold WT at *; rw [e17]; exact g4, g5⟩
  refine iv_fg h h2 (fun b hb => ec b (by omega) (by omega) (by omega) (by omega) (by omega) (by omega) (by omega)) (fun b hb => er b (by omega)) (fun j hj => ep j (by omega) (by omega)) (IR_cg h.2.2.2.1 (fun b _ _ => ec b (by omega) (by omega) (by omega) (by omega) (by omega) (by omega) (by omega)) (er 141 (by omega))) ?_ (IW_cg h.2.2.2.2.2.2.2.2.1 (ec 59 (by omega) (by omega) (by omega) (by omega) (by omega) (by omega) (by omega)) (ec 60 (by omega) (by omega) (by omega) (by omega) (by omega) (by omega) (by omega)) (ec 61 (by omega) (by omega) (by omega) (by omega) (by omega) (by omega) (by omega)) (er 139 (by omega)) (fun l k hl hk => ep _ (by omega) (by omega))) (by obtain ⟨z1, z2, z3⟩ := h.2.2.2.2.2.2.2.2.2.2.2; unfold IZ; rw [e17]; exact ⟨z1, z2, z3⟩)
  obtain ⟨no, i1, i2, i3, i4⟩ := h.2.2.2.2.1
  have hno : no ≤ n := by rw [i2]; exact cn_le _ _
  refine ⟨no, ?_, ?_, fun q hq => ?_, fun k hk => ?_⟩
  · unfold addC; simp (disch := omega) only [za_wra, za_wri]; exact i1
  · rw [cn_succ, e39, if_pos rfl, i2, decide_eq_false (fun z => z rfl)]
    exact cn_con n _ _ (fun k hk => by rw [e39, if_neg (by omega)])
  · rw [ec 40 (by omega) (by omega) (by omega) (by omega) (by omega) (by omega) (by omega), ec 41 (by omega) (by omega) (by omega) (by omega) (by omega) (by omega) (by omega)]
    by_cases e : q = n
    · left; rw [e39, if_pos e, e]
      exact ⟨rfl, (h.1.1.2.2.2.2.2.1 n (Nat.le_refl _) hn).2.2.2⟩
    · rw [e39, if_neg e]
      rcases i3 q (by omega) with z | ⟨k, k1, k2, k3, k4, k5, k6⟩
      · exact Or.inl z
      · exact Or.inr ⟨k, k1, k2, by rw [ep _ (by omega) (by omega)]; exact k3, by rw [ep _ (by omega) (by omega)]; exact k4, by rw [ep _ (by omega) (by omega)]; exact k5, k6⟩
  · obtain ⟨q, p1, p2, p3⟩ := i4 k hk
    exact ⟨q, by omega, by rw [e39, if_neg (by omega)]; exact p2, by rw [ep _ (by omega) (by omega)]; exact p3⟩
theorem add_gc {tr co st : Nat} {la : Int32} : GC C (addC C n tr co st la) := by
  unfold addC
  exact gc_wr (gc_wr (gc_wr (gc_wr (gc_wr (gc_wr (gc_wr GC.rf (by omega)) (by omega)) (by omega)) (by omega)) (by omega)) (by omega)) (by omega)
theorem add_gr {tr co st : Nat} {la : Int32} : GR2 R (addR R n tr co st la) := by
  unfold addR
  exact gr_wr (gr_wr (gr_wr (gr_wr (gr_wr (gr_wr (gr_wr (gr_wr GR2.rf (by omega)) (by omega)) (by omega)) (by omega)) (by omega)) (by omega)) (by omega)) (by omega)
theorem add_0 {tr co st : Nat} {la : Int32} : addR R n tr co st la 127 0 = R 127 0 := by
  unfold addR
  simp (disch := omega) only [za_wra]
theorem adds_r {tr co st : Nat} {la : Int32} (h : R 128 2124 = nI n) (hn : n < 100) : fX12_adds R (nI tr) (nI co) (nI st) la = some (addR R n tr co st la) := by
  unfold fX12_adds
  rw [za_chk _ (by omega) (by omega), za_lt, nI_clamp (by omega), h, rf_setPer0 hn, za_bnd, rf_setPer hn (by omega), za_bnd, rf_setPer hn (by omega), za_bnd, rf_setPer hn (by omega), za_bnd, rf_setPer hn (by omega), za_bnd, rf_setPer hn (by omega), za_bnd, rf_setPer hn (by omega), za_bnd, za_chk _ (by omega) (by omega), za_chk _ (by omega) (by omega), za_lt]
  simp (disch := omega) only [za_wri]
  rw [h, nI_add]
  rfl
theorem adds_c {tr co st : Nat} {la : Int32} {fu cnt i : Nat} (h : C (17 + 15) 0 = nI n) (hn : n < 100) (hi : i < cnt) (hcnt : cnt < 2 ^ 31) (hst : (la = -1 ∧ st = 0) ∨ (la ≠ -1 ∧ st = 1)) : fX3_add_L3 (17 + 15) (fu + 1) C (nI cnt) (nI tr) (nI co) la (nI i) = fX3_add_L3 (17 + 15) fu (addC C n tr co st la) (nI cnt) (nI tr) (nI co) la (nI (i + 1)) := by
  rw [fX3_add_L3, if_neg (nI_ge hi hcnt), h, za_inY hn (by omega), za_bnd, if_neg za_n10]
  have key : ∀ M : Mc, M (17 + 15) 0 = nI n → ∀ s : Nat, fX3_add_J60 (17 + 15) (fun M X0 X1 X2 X3 X4 => fX3_add_L3 (17 + 15) fu M X0 X1 X2 X3 X4) M (nI cnt) (nI tr) (nI co) la (nI i) (nI s) (nI n) = fX3_add_L3 (17 + 15) fu (wr (wr (wr (wr (wr M (17 + 18) n (nI s)) (17 + 19) n (-1)) (17 + 22) n (-1)) (17 + 26) n la) (17 + 15) 0 (nI (n + 1))) (nI cnt) (nI tr) (nI co) la (nI (i + 1)) := by
    intro M hM s
    unfold fX3_add_J60
    simp (disch := omega) only [za_chk, za_lt, za_wra, hM, nI_clamp, nI_add]
  simp (disch := omega) only [za_chk, za_lt, za_wra, h, nI_clamp]
  rcases hst with ⟨rfl, rfl⟩ | ⟨hla, rfl⟩
  · rw [if_pos rfl, za_0]
    exact key _ (by rw [za_wra (by omega), za_wra (by omega)]; exact h) 0
  · rw [if_neg hla]
    exact key _ (by rw [za_wra (by omega), za_wra (by omega)]; exact h) 1
theorem people_L {cnt tr co : Nat} {v : Int32} (hcnt : cnt ≤ 100) (htr : tr ≤ 3) (hco : co ≤ 1000000) : ∀ k fu fr i n C R, i + k = cnt → k < fu → k < fr → n + k ≤ 100 → IV n t m C R N L → ∃ C' R', fX3_add_L3 (17 + 15) fu C (nI cnt) (nI tr) (nI co) (-1) (nI i) = some C' ∧ fX12_people_L76 fr R (nI cnt) (nI tr) (nI co) v (nI i) = some (v, R') ∧ IV (n + k) t m C' R' N L ∧ GC C C' ∧ GR2 R R' ∧ R' 127 0 = R 127 0
  | k, 0, _, _, _, _, _, _, hf, _, _, _ => by omega
  | k, _, 0, _, _, _, _, _, _, hf, _, _ => by omega
  | 0, fu + 1, fr + 1, i, n, C, R, hi, _, _, ht, h => by
    obtain rfl : i = cnt := by omega
    rw [fX3_add_L3, fX12_people_L76, if_pos (nI_le (Nat.le_refl _) (by omega)), if_pos (nI_le (Nat.le_refl _) (by omega))]
    exact ⟨C, R, rfl, rfl, h, GC.rf, GR2.rf, rfl⟩
  | k + 1, fu + 1, fr + 1, i, n, C, R, hi, hf, hfr, ht, h => by
    have hn : n < 100 := by omega
    rw [adds_c (st := 0) (i := i) (cnt := cnt) h.1.1.2.1.1 hn (by omega) (by omega) (Or.inl ⟨rfl, rfl⟩), fX12_people_L76, if_neg (nI_ge (by omega) (by omega)), za_0, adds_r (st := 0) (rw_n h.1.1) hn, za_bnd, nI_add]
    obtain ⟨C', R', j1, j2, j3, j4, j5, j6⟩ := people_L (v := v) hcnt htr hco k fu fr (i + 1) (n + 1) _ _ (by omega) (by omega) (by omega) (by omega) (iv_add (st := 0) (-1) h hn htr hco (by omega))
    rw [show n + 1 + k = n + (k + 1) by omega] at j3
    exact ⟨C', R', j1, j2, j3, add_gc.tr j4, add_gr.tr j5, j6.trans add_0⟩
theorem c_people (h : IV n t m C R N L) (p0 p1 p2 : Int32) : OM eA C R N L (fX11_people C p0 p1 p2) (fX12_people R p0 p1 p2) := by
  unfold fX11_people fX12_people fX11_people_J23 fX11_people_J24 fX12_people_J25 fX12_people_J30
  simp only [za_lt]
  have ih := iv_thr (v := 0) h
  have hn := rw_n100 h.1.1
  rcases rng 3 (by omega) p1 with g | ⟨g0, g⟩ | ⟨tr, j1, rfl⟩
  · exact om_t (k := 2) (v := nI 1) h (by rw [if_pos g, need_0, za_bnxl]) (by rw [if_pos g, bad_1, za_bn2, if_neg za_n10]) rfl za_n10
  · exact om_t (k := 2) (v := nI 1) h (by rw [if_neg g0, if_pos g, need_0, za_bnxl]) (by rw [if_neg g0, if_pos g, bad_1, za_bn2, if_neg za_n10]) rfl za_n10
  · rw [if_neg (nI_pos (by omega)), if_neg (nI_nlt j1 (by omega)), if_neg (nI_pos (by omega)), if_neg (nI_nlt j1 (by omega))]
    rcases rng 1000000 (by omega) p2 with g | ⟨g0, g⟩ | ⟨co, j2, rfl⟩
    · exact om_t (k := 2) (v := nI 1) h (by rw [if_pos g, need_0, za_bnxl]) (by rw [if_pos g, bad_1, za_bn2, if_neg za_n10]) rfl za_n10
    · exact om_t (k := 2) (v := nI 1) h (by rw [if_neg g0, if_pos g, need_0, za_bnxl]) (by rw [if_neg g0, if_neg (by grind), bad_1, za_bn2, if_neg za_n10]) rfl za_n10
    · rw [if_neg (nI_pos (by omega)), if_neg (nI_nlt j2 (by omega)), need_1, za_bnx, h.1.1.2.1.1, za_sub hn, if_neg (nI_pos (by omega)), if_pos (nI_le j2 (by omega)), bad_0, za_bn2, if_pos rfl, za_chk _ (by omega) (by omega), nI_clamp (by omega), rw_n ih.1.1, za_sub hn]
      by_cases q : p0 ≤ nI (100 - n)
      · simp only [if_pos q]
        by_cases q0 : 0 ≤ p0
        · simp only [if_pos q0]
          obtain ⟨cnt, c1, rfl⟩ := za_ofle (x := p0) (N := 100 - n) (by omega) (by grind) q
          obtain ⟨C', R', j1', j2', j3, j4, j5, j6⟩ := people_L (v := nI n) (cnt := cnt) (by omega) j1 j2 cnt FU FU 0 n C (wr R 127 0 0) (by omega) (by rw [za_FU]; omega) (by rw [za_FU]; omega) (by omega) ih
          rw [nI_0] at j1' j2'
          refine om_v (b := nI n) j3 ?_ ?_ j4 ((gr_wr GR2.rf (by omega)).tr j5) (by rw [j6, za_wrs])
          · unfold fX3_add; rw [j1', za_bnd]
          · rw [za_chk _ (by omega) (by omega)]; exact j2'
        · simp only [if_neg q0]
          exact om_r (b := -2) h rfl rfl
      · simp only [if_neg q]
        exact om_r (b := -1) h rfl rfl
end AI
