/-! ===== calls that only look, third part ===== -/
section RT
variable {n t m : Nat} {C R : Mc} {N L : Md}
theorem subI : ∀ t, t < 35 → ∀ k, k < 35 → t < k → nI t - nI k < 0 := by decide +kernel
theorem sub_le {j t k : Nat} (hj : j < 2 ^ 31) (ht : t ≤ 1000) (hk : k < 35) : (nI j ≤ nI t - nI k) ↔ j + k ≤ t := by
  by_cases h : k ≤ t
  · rw [za_sub h, nI_leI hj (by omega)]; omega
  · have h1 := subI t (by omega) k hk (by omega)
    have h2 : (0 : Int32) ≤ nI j := nI_pos' hj
    exact ⟨fun q => absurd q (by grind), fun q => by omega⟩
theorem sub_ge {t k : Nat} (ht : t ≤ 1000) (hk : k < 35) : (0 ≤ nI t - nI k) ↔ k ≤ t := by
  rw [za_0, sub_le (by omega) ht hk]; omega
theorem iv_t (h : IV n t m C R N L) : t ≤ 1000 := h.1.1.2.1.2.2.2
theorem iv_tc (h : IV n t m C R N L) : C 17 6 = nI t := h.1.1.2.1.2.2.1
theorem c_acre (h : IV n t m C R N L) (p0 : Int32) : OR eB n t m C R N L (fX11_acre C p0) (fX12_acre R p0) := by
  unfold fX11_acre fX12_acre fX12_acre_J16 fX12_acre_J21 fX9_ownerOf
  obtain ⟨dr, wt, i0, i1, i2, i3, i4, i5, i6, i7⟩ := h.2.2.2.2.2.1
  rcases fin_c (K := 12) (by omega) p0 with ⟨e, h1⟩ | ⟨c, hc, rfl, e⟩
  · refine or_t (k := 1) (v := nI 1) h ?_ ?_ rfl za_n10
    · rw [e, za_bnd, if_pos rfl]
    · rcases h1 with h1 | h1
      · rw [za_lt, if_pos h1, bad_1, za_bn2, if_neg za_n10]
      · rw [za_lt, if_neg (fun q => by have : (0 : Int32) ≤ nI 12 := by decide +kernel
                                       grind), if_neg (by grind), bad_1, za_bn2, if_neg za_n10]
  · rw [e, za_bnd, if_neg za_n10, za_lt, if_neg (nI_pos (by omega)), if_pos (nI_lt hc (by omega)), bad_0, za_bn2, if_pos rfl, nI_add, za_chk (n := 2080 + c) _ (by omega) (by omega), nI_clamp (n := 2080 + c) (by omega), t128, i1, za_in (by omega) (by omega), za_bnd]
    by_cases q : c < dr
    · refine or_v (b := C 112 c) h ?_ (by rw [i5 c q])
      rw [if_pos q, if_neg za_n10, za_bnd, if_neg za_n10, za_chk _ hc (by omega), nI_clamp (by omega), za_bnd]
    · refine or_v (b := -1) h ?_ (by rw [i6 c (by omega) hc])
      rw [if_neg q, if_pos rfl, za_bnd]
theorem c_billed (h : IV n t m C R N L) (p0 : Int32) : OR eB n t m C R N L (fX11_billed C p0) (fX12_billed R p0) := by
  unfold fX11_billed fX12_billed fX12_billed_J19 fX1_stateOf
  rcases bils h p0 with ⟨h1, h2⟩ | ⟨mq, c, m1, m2, hc, rfl, h1, h2⟩
  · refine or_t (k := 1) (v := nI 1) h ?_ ?_ rfl za_n10
    · rw [h1, za_bnxl]
    · rw [za_lt, h2 _ t128, za_bnd, if_pos rfl, bad_1, za_bn2, if_neg za_n10]
  · refine or_v (b := C (17 + 35) c) h ?_ ?_
    · rw [h1, za_bnx, za_inY (show c < 20 by omega) (by omega), za_bnd, if_neg za_n10, za_chk _ (by omega) (by omega), nI_clamp (by omega), za_bnd]
    · rw [za_lt, h2 _ t128, za_bnd, if_neg za_n10, bad_0, za_bn2, if_pos rfl, za_mul, nI_add, nI_add, za_chk _ (by omega) (by omega), nI_clamp (by omega), t128, ra_bst h.1.1.1 (by omega)]
theorem c_force (h : IV n t m C R N L) (p0 : Int32) : OR eB n t m C R N L (fX11_force C p0) (fX12_force R p0) := by
  unfold fX11_force fX12_force fX12_force_J19 fX2_stateOf
  rcases laws h p0 with ⟨h1, h2⟩ | ⟨mq, c, m1, m2, hc, rfl, h1, h2⟩
  · refine or_t (k := 1) (v := nI 1) h ?_ ?_ rfl za_n10
    · rw [h1, za_bnxl]
    · rw [za_lt, h2 _ t128, za_bnd, if_pos rfl, bad_1, za_bn2, if_neg za_n10]
  · refine or_v (b := C (17 + 38) c) h ?_ ?_
    · rw [h1, za_bnx, za_inY (show c < 12 by omega) (by omega), za_bnd, if_neg za_n10, za_chk _ (by omega) (by omega), nI_clamp (by omega), za_bnd]
    · rw [za_lt, h2 _ t128, za_bnd, if_neg za_n10, bad_0, za_bn2, if_pos rfl, rf_ofLaw0 (by omega), za_bnd, t128, ra_lst h.1.1.1 (by omega)]
theorem c_why (h : IV n t m C R N L) (p0 : Int32) : OR eA n t m C R N L (fX11_why C p0) (fX12_why R p0) := by
  unfold fX11_why fX12_why fX12_why_J16 fX12_why_J21
  rcases fin_c (K := 8) (by omega) p0 with ⟨e, h1⟩ | ⟨c, hc, rfl, e⟩
  · refine or_t (k := 2) (v := nI 1) h ?_ ?_ rfl za_n10
    · rw [e, za_bnd, need_0, za_bnxl]
    · rcases h1 with h1 | h1
      · rw [za_lt, if_pos h1, bad_1, za_bn2, if_neg za_n10]
      · rw [za_lt, if_neg (fun q => by have : (0 : Int32) ≤ nI 8 := by decide +kernel
                                       grind), if_neg (by grind), bad_1, za_bn2, if_neg za_n10]
  · obtain ⟨tl, t1, t2, _⟩ := tell_w (k := c) (iv_thr (v := 0) h).1 hc
    refine or_v (b := tl) h ?_ ?_
    · rw [e, za_bnd, need_1, za_bnx, t1, za_bnd]
    · have hf := rv_forces (iv_thr (v := 0) h).1
      rw [hf, za_bnd] at t2
      rw [za_lt, if_neg (nI_pos (by omega)), if_pos (nI_lt hc (by omega)), bad_0, za_bn2, if_pos rfl, hf, za_bnd, t2, za_bnd]
theorem row_c {r k : Nat} (h : IV n t m C R N L) (hr : r < t) (hk : k < 7) : fX0_rowOf C (nI r) (nI k) = some (C (9 + k) r) ∧ ∀ R', R' 141 = R 141 → fX12_row R' (nI r) (nI k) = some (C (9 + k) r) := by
  have ht := iv_t h
  unfold fX0_rowOf fX12_row
  refine ⟨?_, fun R' e => ?_⟩
  · rw [za_inY hk (by omega), za_bnd, if_neg za_n10, za_inY (show r < 1000 by omega) (by omega), za_bnd, if_neg za_n10, za_chk _ hk (by omega), za_chk _ (by omega) (by omega), nI_clamp (n := k) (by omega), nI_clamp (by omega)]
  · rw [za_mul, nI_add, za_chk _ (by omega) (by omega), nI_clamp (by omega), e, (h.2.2.2.1 r hr).1 k hk]
theorem c_as (h : IV n t m C R N L) (p0 p1 p2 : Int32) : OR eA n t m C R N L (fX11_as C p0 p1 p2) (fX12_as R p0 p1 p2) := by
  have ht := iv_t h
  have hT : (∃ g : Bool, (g = true → OR eA n t m C R N L (fX11_as C p0 p1 p2) (fX12_as R p0 p1 p2))) := ⟨false, fun q => by cases q⟩
  have bad : fX11_as C p0 p1 p2 = fX11_as_J22 C p0 p1 p2 ∨ fX11_as C p0 p1 p2 = fX11_as_J9 C p0 p1 p2 ∧ fX11_as_J9 C p0 p1 p2 = fX11_as_J22 C p0 p1 p2 → fX12_as R p0 p1 p2 = fX12_as_J24 (wr R 127 0 0) p0 p1 p2 → OR eA n t m C R N L (fX11_as C p0 p1 p2) (fX12_as R p0 p1 p2) := by
    intro q1 q2
    refine or_t (k := 2) (v := nI 1) h ?_ ?_ rfl za_n10
    · have : fX11_as C p0 p1 p2 = fX11_as_J22 C p0 p1 p2 := by
        rcases q1 with q | ⟨q, q'⟩
        · exact q
        · exact q.trans q'
      rw [this]; unfold fX11_as_J22 fX11_as_J23; rw [need_0, za_bnxl]
    · rw [q2]; unfold fX12_as_J24 fX12_as_J29; rw [bad_1, za_bn2, if_neg za_n10]
  have j22 : p2 < 0 ∨ (¬ p2 < 0 ∧ nI 5 < p2) → fX11_as_J9 C p0 p1 p2 = fX11_as_J22 C p0 p1 p2 := by
    intro q; unfold fX11_as_J9
    rcases q with q | ⟨q0, q⟩
    · rw [if_pos q]
    · rw [if_neg q0, if_pos q]
  rcases rng 1 (by omega) p1 with g | ⟨g0, g⟩ | ⟨j, j1, rfl⟩
  · refine bad (Or.inl ?_) ?_
    · unfold fX11_as; rw [if_neg (fun q => by rw [q] at g; exact absurd g (by decide)), if_neg (fun q => by rw [q] at g; exact absurd g (by decide +kernel))]
    · unfold fX12_as; rw [za_lt, if_pos g]
  · refine bad (Or.inl ?_) ?_
    · unfold fX11_as; rw [if_neg (fun q => by rw [q] at g; exact absurd g (by decide +kernel)), if_neg (fun q => by rw [q] at g; exact absurd g (by decide +kernel))]
    · unfold fX12_as; rw [za_lt, if_neg g0, if_pos g]
  · have e9 : fX11_as C p0 (nI j) p2 = fX11_as_J9 C p0 (nI j) p2 := by
      unfold fX11_as
      rcases (show j = 0 ∨ j = 1 by omega) with rfl | rfl
      · rw [if_pos nI_0]
      · rw [if_neg za_n10, if_pos rfl]
    rcases rng 5 (by omega) p2 with g | ⟨g0, g⟩ | ⟨k, k1, rfl⟩
    · refine bad (Or.inr ⟨e9, j22 (Or.inl g)⟩) ?_
      unfold fX12_as; rw [za_lt, if_neg (nI_pos (by omega)), if_neg (nI_nlt j1 (by omega)), if_pos g]
    · refine bad (Or.inr ⟨e9, j22 (Or.inr ⟨g0, g⟩)⟩) ?_
      unfold fX12_as; rw [za_lt, if_neg (nI_pos (by omega)), if_neg (nI_nlt j1 (by omega)), if_neg g0, if_neg (by grind)]
    · have eR : fX12_as R p0 (nI j) (nI k) = fX12_as_J29 (wr R 127 0 0) p0 (nI j) (nI k) 0 := by
        unfold fX12_as; rw [za_lt, if_neg (nI_pos (by omega)), if_neg (nI_nlt j1 (by omega)), if_neg (nI_pos (by omega)), if_pos (nI_le k1 (by omega))]
      have eC : fX11_as C p0 (nI j) (nI k) = if j = 0 then fX11_as_J52 C p0 (nI k) (nI t - nI 1) else fX11_as_J52 C p0 (nI k) (nI t - nI 34) := by
        rw [e9]; unfold fX11_as_J9 fX11_as_J23
        rw [if_neg (nI_pos (by omega)), if_neg (nI_nlt k1 (by omega)), need_1, za_bnx, iv_tc h]
        rcases (show j = 0 ∨ j = 1 by omega) with rfl | rfl
        · rw [if_pos nI_0, if_pos rfl]
        · rw [if_neg za_n10, if_neg (by omega)]
      rw [eC, eR]
      unfold fX12_as_J29 fX12_isKnown fX12_as_J70 fX11_as_J52
      have e16 : (wr R 127 0 0) 128 2116 = nI t := by rw [t128]; exact rw_t h.1.1
      rw [bad_0, za_bn2, if_pos rfl]
      simp only [za_chk _ (show 2116 < 2132 by omega) (show 2132 < 2 ^ 31 by omega), nI_clamp (show 2116 < 2 ^ 31 by omega), e16]
      by_cases g : p0 < 0
      · refine or_v (b := -2000000000) h ?_ ?_
        · rw [if_pos g, if_pos g]; split <;> rfl
        · rw [if_pos g, za_bnd, if_pos rfl]
      · obtain ⟨r, r1, rfl⟩ := nI_of (x := p0) g
        rw [if_neg g, if_neg g, if_neg g]
        by_cases ht0 : r < t
        · have hrow := row_c h ht0 (show k < 7 by omega)
          have hrr := hrow.2 (wr R 127 0 0) (za_wrc (by omega))
          rw [if_neg (nI_ge ht0 (by omega)), za_bnd, if_neg za_n10, hrr, hrow.1, za_bnd, za_bnd]
          rcases (show j = 0 ∨ j = 1 by omega) with rfl | rfl
          · rw [if_pos rfl, if_pos ((sub_le r1 ht (by omega)).mpr (by omega)), if_neg (nk 0 1 (by omega) (by omega) (by omega))]
            exact or_v h rfl rfl
          · rw [if_neg (by omega), if_pos rfl]
            by_cases q : r + 34 ≤ t
            · rw [if_pos ((sub_le r1 ht (by omega)).mpr q), if_pos ((sub_le r1 ht (by omega)).mpr q)]
              exact or_v h rfl rfl
            · rw [if_neg (fun z => q ((sub_le r1 ht (by omega)).mp z)), if_neg (fun z => q ((sub_le r1 ht (by omega)).mp z))]
              exact or_v h rfl rfl
        · rw [if_pos (nI_le (by omega) r1), za_bnd, if_pos rfl]
          refine or_v (b := -2000000000) h ?_ rfl
          rcases (show j = 0 ∨ j = 1 by omega) with rfl | rfl
          · rw [if_pos rfl, if_neg (fun z => ht0 (by have := (sub_le r1 ht (by omega)).mp z; omega))]
          · rw [if_neg (by omega), if_neg (fun z => ht0 (by have := (sub_le r1 ht (by omega)).mp z; omega))]

theorem home_c (h : IV n t m C R N L) : ∃ v, fX11_passagesAtHome C = some v ∧ ∀ R', R' 141 = R 141 → R' 128 = R 128 → fX12_homePassages R' = some v := by
  have ht := iv_t h
  obtain ⟨i1, i2, _⟩ := h.2.2.1
  unfold fX11_passagesAtHome fX12_homePassages fX11_passagesAtHome_J28 fX12_homePassages_J26
  by_cases q : 34 ≤ t
  · have hrow := row_c h (show t - 34 < t by omega) (show 5 < 7 by omega)
    refine ⟨C (9 + 5) (t - 34) + C 0 11 - C 0 12, ?_, fun R' e1 e2 => ?_⟩
    · rw [iv_tc h, za_lt, if_pos ((sub_ge ht (by omega)).mpr q), za_sub q, hrow.1, za_bnd]
    · rw [za_chk _ (by omega) (by omega), nI_clamp (n := 2116) (by omega), e2, rw_t h.1.1, za_lt, if_pos ((sub_ge ht (by omega)).mpr q), za_sub q, hrow.2 R' e1, za_bnd, za_chk _ (by omega) (by omega), za_chk _ (by omega) (by omega), nI_clamp (by omega), nI_clamp (by omega), i1, i2]
  · refine ⟨0 + C 0 11 - C 0 12, ?_, fun R' e1 e2 => ?_⟩
    · rw [iv_tc h, za_lt, if_neg (fun z => q ((sub_ge ht (by omega)).mp z))]
    · rw [za_chk _ (by omega) (by omega), nI_clamp (n := 2116) (by omega), e2, rw_t h.1.1, za_lt, if_neg (fun z => q ((sub_ge ht (by omega)).mp z)), za_chk _ (by omega) (by omega), za_chk _ (by omega) (by omega), nI_clamp (by omega), nI_clamp (by omega), i1, i2]
def oV {α : Type} (x : Option α) : Option (Nat ⊕ α) := bnd x fun v => some (.inr v)
theorem c_passages (h : IV n t m C R N L) : OR eB n t m C R N L (oV (fX11_passages C)) (fX12_passages R) := by
  unfold fX11_passages fX12_passages
  obtain ⟨v, i1, i2⟩ := home_c h
  refine or_v (b := v) h ?_ ?_
  · rw [i1, za_bnd]; rfl
  · rw [za_lt, i2 _ (za_wrc (by omega)) t128, za_bnd]
theorem c_fault (h : IV n t m C R N L) : OR eB n t m C R N L (oV (fX11_fault C)) (fX12_fault R) := by
  unfold fX11_fault fX12_fault
  refine or_v (b := C 0 9) h rfl ?_
  rw [za_lt, za_wri (by omega), h.2.2.2.2.2.2.2.1]
theorem c_number (h : IV n t m C R N L) (p0 : Int32) : OR eB n t m C R N L (oV (fX11_number C p0)) (fX12_number R p0) := by
  unfold fX11_number fX12_number fX6_at
  obtain ⟨k, i1, i2, i3, i4, _⟩ := h.2.2.2.2.2.2.2.2.2.2.1
  rw [i2, za_lt, za_wri (by omega), i3]
  rcases fin_c (K := k) (by omega) p0 with ⟨e, h1⟩ | ⟨c, hc, rfl, e⟩
  · refine or_v (b := -1) h ?_ ?_
    · rw [e, za_bnd, if_pos rfl, za_bnd]; rfl
    · rcases h1 with h1 | h1
      · rw [if_pos h1]
      · by_cases z : p0 < 0
        · rw [if_pos z]
        · rw [if_neg z, if_pos h1]
  · refine or_v (b := C 122 c) h ?_ ?_
    · rw [e, za_bnd, if_neg za_n10, za_inY (show c < 196 by omega) (by omega), za_bnd, if_neg za_n10, za_chk _ (by omega) (by omega), nI_clamp (by omega), za_bnd]; rfl
    · rw [if_neg (nI_pos (by omega)), if_neg (nI_ge hc (by omega)), za_chk _ (by omega) (by omega), nI_clamp (by omega), za_wra (by omega), i4 c hc]
theorem c_count (h : IV n t m C R N L) (p0 : Int32) : OR eB n t m C R N L (oV (fX11_count C p0)) (fX12_count R p0) := by
  unfold fX11_count fX12_count
  have h0 := (iv_thr (v := 0) h).1.1
  obtain ⟨_, _, k, _, k1, k2⟩ := h.2.2.1
  have i8 : R 128 2129 = C 0 10 := k2.trans k1.symm
  obtain ⟨dr, wt, _, d1, d2, _⟩ := h.2.2.2.2.2.1
  have i14 : R 128 2131 = C 111 2 := d2.trans d1.symm
  obtain ⟨k, _, t1, t2, _⟩ := h.2.2.2.2.2.2.1
  have i13 : R 127 9 = C 0 8 := t2.trans t1.symm
  rw [za_lt]
  by_cases q0 : p0 = 0
  · rw [if_pos q0, if_pos q0]
    exact or_v (b := C 17 6) h rfl (by rw [za_chk _ (by omega) (by omega), nI_clamp (by omega), t128, (ra_week h.1.1.1)])
  rw [if_neg q0, if_neg q0]
  by_cases q1 : p0 = nI 1
  · rw [if_pos q1, if_pos q1]
    exact or_v (b := C (17 + 15) 0) h rfl (by rw [za_chk _ (by omega) (by omega), nI_clamp (by omega), t128, (ra_n h.1.1.1)])
  rw [if_neg q1, if_neg q1]
  by_cases q2 : p0 = nI 2
  · rw [if_pos q2, if_pos q2]
    exact or_v (b := C (17 + 15) 1) h rfl (by rw [rw_here h0, za_bnd])
  rw [if_neg q2, if_neg q2]
  by_cases q3 : p0 = nI 3
  · rw [if_pos q3, if_pos q3]
    exact or_v (b := C (17 + 1) 9) h rfl (by rw [rw_farms h0, za_bnd])
  rw [if_neg q3, if_neg q3]
  by_cases q4 : p0 = nI 4
  · rw [if_pos q4, if_pos q4]
    exact or_v (b := C 17 7) h rfl (by rw [za_chk _ (by omega) (by omega), nI_clamp (by omega), t128, (ra_store h.1.1.1)])
  rw [if_neg q4, if_neg q4]
  by_cases q5 : p0 = nI 5
  · rw [if_pos q5, if_pos q5]
    exact or_v (b := C 17 8) h rfl (by rw [za_chk _ (by omega) (by omega), nI_clamp (by omega), t128, (ra_tre h.1.1.1)])
  rw [if_neg q5, if_neg q5]
  by_cases q6 : p0 = nI 6
  · rw [if_pos q6, if_pos q6]
    exact or_v (b := C (17 + 15) 2) h rfl (by rw [za_chk _ (by omega) (by omega), nI_clamp (by omega), t128, (ra_hungry h.1.1.1)])
  rw [if_neg q6, if_neg q6]
  by_cases q7 : p0 = nI 7
  · rw [if_pos q7, if_pos q7]
    exact or_v (b := C (17 + 37) 1) h rfl (by rw [za_chk _ (by omega) (by omega), nI_clamp (by omega), t128, (ra_ln h.1.1.1)])
  rw [if_neg q7, if_neg q7]
  by_cases q8 : p0 = nI 8
  · rw [if_pos q8, if_pos q8]
    exact or_v (b := C 0 10) h rfl (by rw [za_chk _ (by omega) (by omega), nI_clamp (by omega), t128, i8])
  rw [if_neg q8, if_neg q8]
  by_cases q9 : p0 = nI 9
  · rw [if_pos q9, if_pos q9]
    exact or_v (b := C (17 + 32) 0) h rfl (by rw [za_chk _ (by omega) (by omega), nI_clamp (by omega), t128, (ra_bn h.1.1.1)])
  rw [if_neg q9, if_neg q9]
  by_cases q10 : p0 = nI 10
  · rw [if_pos q10, if_pos q10]
    exact or_v (b := C (17 + 27) 0) h rfl (by rw [za_chk _ (by omega) (by omega), nI_clamp (by omega), t128, (ra_pn h.1.1.1)])
  rw [if_neg q10, if_neg q10]
  by_cases q11 : p0 = nI 11
  · rw [if_pos q11, if_pos q11]
    exact or_v (b := C (17 + 15) 3) h rfl (by rw [za_chk _ (by omega) (by omega), nI_clamp (by omega), t128, (ra_orders h.1.1.1)])
  rw [if_neg q11, if_neg q11]
  by_cases q12 : p0 = nI 12
  · rw [if_pos q12, if_pos q12]
    exact or_v (b := C (17 + 32) 1) h rfl (by rw [za_chk _ (by omega) (by omega), nI_clamp (by omega), t128, (ra_fund h.1.1.1)])
  rw [if_neg q12, if_neg q12]
  by_cases q13 : p0 = nI 13
  · rw [if_pos q13, if_pos q13]
    exact or_v (b := C 0 8) h rfl (by rw [za_wri (by omega), i13])
  rw [if_neg q13, if_neg q13]
  by_cases q14 : p0 = nI 14
  · rw [if_pos q14, if_pos q14]
    exact or_v (b := C 111 2) h rfl (by rw [za_chk _ (by omega) (by omega), nI_clamp (by omega), t128, i14])
  rw [if_neg q14, if_neg q14]
  exact or_v (b := -1) h rfl rfl
theorem mean_p {k : Nat} (so : Int32) (h : IV n t m C R N L) (hk : k < 8) : ∃ v C' R', v ≤ 1000 ∧ (k = 0 → 1 ≤ v) ∧ fX10_meaning C 17 (nI k) so = some (nI v, C') ∧ fX12_meaning R (nI k) so = some (nI v, R') ∧ (∀ b, b ≠ 17 + 45 → b ≠ 17 + 46 → C' b = C b) ∧ (∀ b, b ≠ 140 → R' b = R b) := by
  obtain ⟨v, C', i1, i2, i3, i4, i5, i6⟩ := mean_c so h.1 hk
  obtain ⟨R', j1, j2⟩ := mean_r h.1 hk i6 i3
  refine ⟨v, C', R', i3, i4, ?_, ?_, i2, j2⟩
  · unfold fX10_meaning; rw [i1, za_bn2]
  · obtain ⟨z1, z2, _⟩ := h.2.2.2.2.2.2.2.2.2.2.2
    have e1 : R 127 23 = 0 := (ra_tp h.1.1.1).trans z1
    have e2 : R 127 24 = -1 := (ra_ts h.1.1.1).trans z2
    unfold fX12_meaning fX12_meaning_J16
    rw [e1, e2, if_pos (show (0 : Int32) ≤ 0 by decide), if_pos (show (-1 : Int32) < 0 by decide), j1, ite_self, ite_self]
theorem gc_junk {C' : Mc} (hc : ∀ b, b ≠ 17 + 45 → b ≠ 17 + 46 → C' b = C b) : GC C C' := fun a h1 h2 => hc a (by omega) (by omega)
theorem gr_junk {R' R0 : Mc} (h : GR2 R R0) (hc : ∀ b, b ≠ 140 → R' b = R0 b) : GR2 R R' := h.tr (fun a h1 => hc a (by omega))
theorem c_means (h : IV n t m C R N L) (p0 p1 : Int32) : OM eB C R N L (fX11_means C p0 p1) (fX12_means R p0 p1) := by
  unfold fX11_means fX12_means
  have ih := iv_thr (v := 0) h
  have key : ∀ so, (∀ M : Mc, M 130 = R 130 → (if 0 ≤ p1 then chk p1 96 (fX12_means_J72 M (M 130 p1.toNatClampNeg) p0) else fX12_means_J72 M 0 p0) = fX12_means_J72 M so p0) → (∀ k, (bnd (fX11_inside p0 (nI 8)) fun v6 => bnx (fX11_needThat v6) fun _ => (if p1 = (-1) then (fX11_means_J43 C 0 p0) else bnd (fX4_soilOf C (17 + 1) p1) fun v12 => (fX11_means_J43 C v12 p0))) = k → OM eB C R N L k (fX12_means_J24 (wr R 127 0 0) p0 p1 0)) ∨ ¬ (p1 = -1 ∧ so = 0 ∨ p1 ≠ -1 ∧ fX4_soilOf C (17 + 1) p1 = some so) := by
    intro so hso
    by_cases hq : p1 = -1 ∧ so = 0 ∨ p1 ≠ -1 ∧ fX4_soilOf C (17 + 1) p1 = some so
    · left
      rintro k rfl
      unfold fX12_means_J24 fX12_means_J42 fX12_means_J47
      rw [bad_0, za_bn2, if_pos rfl]
      rcases fin_c (K := 8) (by omega) p0 with ⟨e, h1⟩ | ⟨c, hc, rfl, e⟩
      · refine om_t (k := 2) (v := nI 2) h (by rw [e, za_bnd, need_0, za_bnxl]) ?_ rfl (by decide +kernel)
        rcases h1 with h1 | h1
        · rw [if_pos h1, bad_1, za_bn2, if_neg za_n10]
        · rw [if_neg (fun q => by have : (0 : Int32) ≤ nI 8 := by decide +kernel
                                  grind), if_neg (by grind), bad_1, za_bn2, if_neg za_n10]
      · obtain ⟨v, C', R', v1, _, i1, i2, i3, i4⟩ := mean_p (k := c) so ih hc
        refine om_v (b := nI v) (iv_junk ih i3 i4) ?_ ?_ (gc_junk i3) (gr_junk (gr_wr GR2.rf (by omega)) i4) (by rw [i4 127 (by omega), za_wrs])
        · rw [e, za_bnd, need_1, za_bnx]
          unfold fX11_means_J43
          rcases hq with ⟨q1, q2⟩ | ⟨q1, q2⟩
          · rw [if_pos q1, ← q2, i1, za_bn2]
          · rw [if_neg q1, q2, za_bnd, i1, za_bn2]
        · rw [if_neg (nI_pos (by omega)), if_pos (nI_lt hc (by omega)), bad_0, za_bn2, if_pos rfl, hso _ (za_wrc (by omega))]
          unfold fX12_means_J72
          rw [i2, za_bn2]
    · exact Or.inr hq
  by_cases q : p1 = -1
  · rw [if_pos q, za_lt, if_pos q]
    unfold fX12_means_J23 fX11_means_J9
    rcases key 0 (fun M _ => by rw [if_neg (by rw [q]; decide)]) with g | g
    · exact g _ rfl
    · exact absurd (Or.inl ⟨q, rfl⟩) g
  · rw [if_neg q, za_lt, if_neg q]
    rcases secs p1 with ⟨h1, h2⟩ | ⟨c, hc, rfl, h1, h2⟩
    · refine om_t (k := 1) (v := nI 1) h (by rw [h1, za_bnxl]) ?_ rfl za_n10
      rw [h2, za_bnd, if_pos rfl]
      unfold fX12_means_J24
      rw [bad_1, za_bn2, if_neg za_n10]
    · rw [h1, za_bnx, h2, za_bnd, if_neg za_n10]
      unfold fX12_means_J23 fX11_means_J9
      rcases key (C (17 + 2) c) (fun M e => by rw [if_pos (nI_pos' (by omega)), za_chk _ hc (by omega), nI_clamp (by omega), e, ra_soil h.1.1.1 hc]) with g | g
      · exact g _ rfl
      · exact absurd (Or.inr ⟨q, lg_soil hc⟩) g
theorem oM {x : Option (Int32 × Mc)} {b : Int32} {C' : Mc} (h : x = some (b, C')) : oV x = some (.inr (b, C')) := by rw [h]; rfl
theorem homeP (h : IV n t m C R N L) : ∃ v C' R', 1 ≤ v ∧ v ≤ 1000 ∧ fX11_priceAtHome C = some (nI v, C') ∧ fX12_homePrice R = some (nI v, R') ∧ (∀ b, b ≠ 17 + 45 → b ≠ 17 + 46 → C' b = C b) ∧ (∀ b, b ≠ 140 → R' b = R b) := by
  have ht := iv_t h
  unfold fX11_priceAtHome fX12_homePrice
  rw [iv_tc h, za_lt, za_chk _ (by omega) (by omega), nI_clamp (by omega), rw_t h.1.1, za_lt]
  by_cases q : 34 ≤ t
  · have r6 := row_c h (show t - 34 < t by omega) (show 6 < 7 by omega)
    have r1 := row_c h (show t - 34 < t by omega) (show 1 < 7 by omega)
    have r0 := row_c h (show t - 34 < t by omega) (show 0 < 7 by omega)
    rw [nI_0] at r0
    rw [if_pos ((sub_ge ht (by omega)).mpr q), if_pos ((sub_ge ht (by omega)).mpr q), za_sub q, r6.1, r1.1, r0.1, r6.2 R rfl, r1.2 R rfl, r0.2 R rfl]
    simp only [za_bnd]
    obtain ⟨v, C', R', i1, i2, i3, i4, i5, i6, tl, j1, j2, j3⟩ := mean_eq (co := 17 + 37) (k := 0) (X := C (9 + 6) (t - 34)) (wk := nI (t - 34)) (sd := C (9 + 1) (t - 34)) (pe := C (9 + 0) (t - 34)) (so := 0) h.1.2.2.2.1 (by omega) (h.2.2.2.1 (t - 34) (by omega)).2 (by omega)
    rw [nI_0] at i1 j2 j3
    refine ⟨v, C', R', i5 rfl, i4, by rw [i1, za_bn2], ?_, fun b b1 b2 => i2 b b1 b2, i3⟩
    rw [j2, za_bnd]
    rcases j3 with ⟨rfl, rfl, rfl⟩ | ⟨l, v0, hl, hl12, rfl, g1, g2⟩
    · rw [if_neg (by decide)]; rfl
    · rw [if_pos (nI_pos' (by omega)), g1, za_bn2, g2, za_bnd]
  · refine ⟨20, C, R, by omega, by omega, ?_, ?_, fun _ _ _ => rfl, fun _ _ => rfl⟩
    · rw [if_neg (fun z => q ((sub_ge ht (by omega)).mp z)), za_0, za_chk _ (by omega) (by omega), ← za_0]; rfl
    · rw [if_neg (fun z => q ((sub_ge ht (by omega)).mp z))]
theorem c_quoted (h : IV n t m C R N L) : OM eB C R N L (oV (fX11_quoted C)) (fX12_quoted R) := by
  have ih := iv_thr (v := 0) h
  obtain ⟨v, C', R', _, _, i1, i2, i3, i4⟩ := homeP ih
  unfold fX11_quoted fX12_quoted
  refine om_v (b := nI v) (iv_junk ih i3 i4) (oM (by rw [i1, za_bn2])) (by rw [za_lt, i2, za_bn2]) (gc_junk i3) (gr_junk (gr_wr GR2.rf (by omega)) i4) (by rw [i4 127 (by omega), za_wrs])
end RT
