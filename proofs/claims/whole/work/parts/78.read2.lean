/-! ===== calls that only look, on ===== -/
def OM (e : Nat → Int32) (C R : Mc) (N L : Md) (x : Option (Nat ⊕ (Int32 × Mc))) (y : Option (Int32 × Mc)) : Prop := ∃ b C' R' n' t' m', y = some (b, R') ∧ IV n' t' m' C' R' N L ∧ GC C C' ∧ GR2 R R' ∧ ((∃ k, x = some (.inl k) ∧ C' = C ∧ R' 127 0 = e k ∧ e k ≠ 0) ∨ (x = some (.inr (b, C')) ∧ R' 127 0 = 0))
theorem isz_ite {P : Prop} [Decidable P] : isZ (if P then nI 1 else 0) := by split; exact isz1; exact isz0
section RP
variable {n t m : Nat} {C R : Mc} {N L : Md} {e : Nat → Int32} {x : Option (Nat ⊕ Int32)} {y : Option (Int32 × Mc)}
theorem om_t {x : Option (Nat ⊕ (Int32 × Mc))} {k : Nat} {v : Int32} (h : IV n t m C R N L) (hx : x = some (.inl k)) (hy : y = some (0, wr (wr R 127 0 0) 127 0 v)) (hv : v = e k) (h0 : e k ≠ 0) : OM e C R N L x y :=
  ⟨0, C, _, n, t, m, hy, iv_thr (iv_thr h), GC.rf, gr_wr (gr_wr GR2.rf (by omega)) (by omega), Or.inl ⟨k, hx, rfl, by rw [za_wrs]; exact hv, h0⟩⟩
theorem om_v {x : Option (Nat ⊕ (Int32 × Mc))} {b : Int32} {C' R' : Mc} {n' t' m' : Nat} (h : IV n' t' m' C' R' N L) (hx : x = some (.inr (b, C'))) (hy : y = some (b, R')) (gc : GC C C') (gr : GR2 R R') (h0 : R' 127 0 = 0) : OM e C R N L x y :=
  ⟨b, C', R', n', t', m', hy, h, gc, gr, Or.inr ⟨hx, h0⟩⟩
theorem fin_c {K : Nat} (hK : K < 2 ^ 31) (p0 : Int32) : (fX11_inside p0 (nI K) = some 0 ∧ (p0 < 0 ∨ nI K ≤ p0)) ∨ ∃ c, c < K ∧ p0 = nI c ∧ fX11_inside p0 (nI K) = some (nI 1) := by
  unfold fX11_inside
  rcases pk_ix p0 hK with h | h | ⟨c, c1, rfl⟩
  · left; rw [if_pos h]; exact ⟨rfl, Or.inl h⟩
  · left; by_cases h0 : p0 < 0
    · rw [if_pos h0]; exact ⟨rfl, Or.inl h0⟩
    · rw [if_neg h0, if_pos h]; exact ⟨rfl, Or.inr h⟩
  · right; exact ⟨c, c1, rfl, by rw [if_neg (nI_pos (by omega)), if_neg (nI_ge c1 (by omega))]⟩
theorem isX {K : Nat} (p0 : Int32) (h : p0 < 0 ∨ nI K ≤ p0) {α : Type} (a b c : α) : (if p0 < 0 then a else if nI K ≤ p0 then b else c) = if p0 < 0 then a else b := by
  rcases h with h | h
  · rw [if_pos h, if_pos h]
  · rw [if_pos h]

theorem parts (h : IV n t m C R N L) (p0 : Int32) : (fX11_needParty C p0 = some (.inl 1) ∧ ∀ R', R' 128 = R 128 → fX12_isParty R' p0 = some 0) ∨ ∃ mq c, mq ≤ 4 ∧ C (17 + 27) 0 = nI mq ∧ c < mq ∧ p0 = nI c ∧ fX11_needParty C p0 = some (.inr ()) ∧ ∀ R', R' 128 = R 128 → fX12_isParty R' p0 = some (nI 1) := by
  obtain ⟨mq, m1, m2, _⟩ := h.1.1.2.2.2.2.2.2.2.2.1
  have hR : ∀ R', R' 128 = R 128 → fX12_isParty R' p0 = fX11_inside p0 (nI mq) := fun R' e => by
    unfold fX12_isParty fX11_inside
    rw [za_chk _ (by omega) (by omega), nI_clamp (by omega), e, ra_pn h.1.1.1, m2]
  unfold fX11_needParty
  rw [m2]
  rcases fin_c (K := mq) (by omega) p0 with ⟨e, _⟩ | ⟨c, c1, c2, e⟩
  · left; rw [e, za_bnd, if_pos rfl]; exact ⟨rfl, fun R' e' => (hR R' e').trans e⟩
  · right; rw [e, za_bnd, if_neg za_n10]; exact ⟨mq, c, m1, rfl, c1, c2, rfl, fun R' e' => (hR R' e').trans e⟩
theorem bils (h : IV n t m C R N L) (p0 : Int32) : (fX11_needBill C p0 = some (.inl 1) ∧ ∀ R', R' 128 = R 128 → fX12_isBill R' p0 = some 0) ∨ ∃ mq c, mq ≤ 20 ∧ C (17 + 32) 0 = nI mq ∧ c < mq ∧ p0 = nI c ∧ fX11_needBill C p0 = some (.inr ()) ∧ ∀ R', R' 128 = R 128 → fX12_isBill R' p0 = some (nI 1) := by
  obtain ⟨mq, m1, m2, _⟩ := h.1.1.2.2.2.2.2.2.2.2.2.1
  have hR : ∀ R', R' 128 = R 128 → fX12_isBill R' p0 = fX11_inside p0 (nI mq) := fun R' e => by
    unfold fX12_isBill fX11_inside
    rw [za_chk _ (by omega) (by omega), nI_clamp (by omega), e, ra_bn h.1.1.1, m2]
  unfold fX11_needBill
  rw [m2]
  rcases fin_c (K := mq) (by omega) p0 with ⟨e, _⟩ | ⟨c, c1, c2, e⟩
  · left; rw [e, za_bnd, if_pos rfl]; exact ⟨rfl, fun R' e' => (hR R' e').trans e⟩
  · right; rw [e, za_bnd, if_neg za_n10]; exact ⟨mq, c, m1, rfl, c1, c2, rfl, fun R' e' => (hR R' e').trans e⟩
theorem laws (h : IV n t m C R N L) (p0 : Int32) : (fX11_needLaw C p0 = some (.inl 1) ∧ ∀ R', R' 128 = R 128 → fX12_isLaw R' p0 = some 0) ∨ ∃ mq c, mq ≤ 12 ∧ C (17 + 37) 1 = nI mq ∧ c < mq ∧ p0 = nI c ∧ fX11_needLaw C p0 = some (.inr ()) ∧ ∀ R', R' 128 = R 128 → fX12_isLaw R' p0 = some (nI 1) := by
  obtain ⟨mq, m1, m2, _⟩ := h.1.1.2.2.2.2.2.2.2.2.2.2.1
  have hR : ∀ R', R' 128 = R 128 → fX12_isLaw R' p0 = fX11_inside p0 (nI mq) := fun R' e => by
    unfold fX12_isLaw fX11_inside
    rw [za_chk _ (by omega) (by omega), nI_clamp (by omega), e, ra_ln h.1.1.1, m2]
  unfold fX11_needLaw
  rw [m2]
  rcases fin_c (K := mq) (by omega) p0 with ⟨e, _⟩ | ⟨c, c1, c2, e⟩
  · left; rw [e, za_bnd, if_pos rfl]; exact ⟨rfl, fun R' e' => (hR R' e').trans e⟩
  · right; rw [e, za_bnd, if_neg za_n10]; exact ⟨mq, c, m1, rfl, c1, c2, rfl, fun R' e' => (hR R' e').trans e⟩
theorem c_is (h : IV n t m C R N L) (p0 p1 : Int32) : OR eB n t m C R N L (fX11_is C p0 p1) (fX12_is R p0 p1) := by
  unfold fX11_is fX12_is fX12_is_J19 fX12_is_J36 fX12_is_J41 fX11_is_J17 fX11_is_J18
  rcases secs p0 with ⟨h1, h2⟩ | ⟨c, hc, rfl, h1, h2⟩
  · refine or_t (k := 1) (v := nI 1) h ?_ ?_ rfl za_n10
    · rw [h1, za_bnxl]
    · rw [za_lt, h2, za_bnd, if_pos rfl, bad_1, za_bn2, if_neg za_n10]
  · rw [h1, za_bnx, za_lt, h2, za_bnd, if_neg za_n10, bad_0, za_bn2, if_pos rfl]
    rcases rng 3 (by omega) p1 with g | ⟨g0, g⟩ | ⟨j, j1, rfl⟩
    · refine or_t (k := 2) (v := nI 2) h ?_ ?_ rfl (by decide +kernel)
      · rw [if_pos g, need_0, za_bnxl]
      · rw [if_pos g, bad_1, za_bn2, if_neg za_n10]
    · refine or_t (k := 2) (v := nI 2) h ?_ ?_ rfl (by decide +kernel)
      · rw [if_neg g0, if_pos g, need_0, za_bnxl]
      · rw [if_neg g0, if_neg (by grind), bad_1, za_bn2, if_neg za_n10]
    · rw [if_neg (nI_pos (by omega)), if_neg (nI_nlt j1 (by omega)), need_1, za_bnx, if_neg (nI_pos (by omega)), if_pos (nI_le j1 (by omega)), bad_0, za_bn2, if_pos rfl]
      obtain ⟨k, i1, i2, i3, _⟩ := rw_sec h.1.1 hc
      rw [rf_sec0 hc, za_bnd, t128, ra_hold h.1.1.1 hc]
      unfold fX4_isHeld
      rw [lg_wild hc, lg_farm hc, lg_past hc, za_bnd, za_bnd, za_bnd, za_bnd, za_bnd, rf_isFarm, rf_isPast, za_bnd, za_bnd, za_chp _ isz_ite, za_chp _ isz_ite, za_chp _ isz_ite, za_chp _ isz_ite]
      simp only [ite01]
      rcases (show j = 0 ∨ j = 1 ∨ j = 2 ∨ j = 3 by omega) with rfl | rfl | rfl | rfl
      · rw [if_pos nI_0, if_pos nI_0]
        by_cases q : C (17 + 5) c = 0
        · exact or_v h (if_pos q) (if_pos q)
        · exact or_v h (if_neg q) (if_neg q)
      · rw [if_neg (nk0 1 (by omega) (by omega)), if_pos rfl, if_neg (nk0 1 (by omega) (by omega)), if_pos rfl]
        exact or_v h rfl rfl
      · rw [if_neg (nk0 2 (by omega) (by omega)), if_neg (nk 2 1 (by omega) (by omega) (by omega)), if_pos rfl, if_neg (nk0 2 (by omega) (by omega)), if_neg (nk 2 1 (by omega) (by omega) (by omega)), if_pos rfl]
        exact or_v h rfl rfl
      · rw [if_neg (nk0 3 (by omega) (by omega)), if_neg (nk 3 1 (by omega) (by omega) (by omega)), if_neg (nk 3 2 (by omega) (by omega) (by omega)), if_neg (nk0 3 (by omega) (by omega)), if_neg (nk 3 1 (by omega) (by omega) (by omega)), if_neg (nk 3 2 (by omega) (by omega) (by omega))]
        by_cases q : C (17 + 5) c ≤ nI 1
        · have hk : k ≤ 1 := by rw [i1, nI_leI (by omega) (by omega)] at q; exact q
          refine or_v (b := 0) h ?_ (if_pos q)
          show bnd (if C (17 + 5) c = nI 3 ∨ C (17 + 5) c = nI 5 then some (nI 1) else if C (17 + 5) c = nI 4 ∨ C (17 + 5) c = nI 6 then some (nI 1) else some 0) _ = _
          rw [i1, if_neg (by rw [nI_eq (by omega) (by omega), nI_eq (by omega) (by omega)]; omega), if_neg (by rw [nI_eq (by omega) (by omega), nI_eq (by omega) (by omega)]; omega), za_bnd, za_chp _ isz0]
        · have hk : ¬ k ≤ 1 := fun z => q (by rw [i1]; exact nI_le z (by omega))
          refine or_v (b := nI 1) h ?_ (if_neg q)
          show bnd (if C (17 + 5) c = nI 3 ∨ C (17 + 5) c = nI 5 then some (nI 1) else if C (17 + 5) c = nI 4 ∨ C (17 + 5) c = nI 6 then some (nI 1) else some 0) _ = _
          by_cases q1 : C (17 + 5) c = nI 3 ∨ C (17 + 5) c = nI 5
          · rw [if_pos q1, za_bnd, za_chp _ isz1]
          · rw [if_neg q1, if_pos (by rw [i1, nI_eq (by omega) (by omega), nI_eq (by omega) (by omega)] at q1 ⊢; omega), za_bnd, za_chp _ isz1]
theorem c_person (h : IV n t m C R N L) (p0 p1 : Int32) : OR eB n t m C R N L (fX11_person C p0 p1) (fX12_person R p0 p1) := by
  unfold fX11_person fX12_person fX12_person_J19 fX12_person_J37 fX12_person_J42 fX11_person_J19 fX11_person_J20
  rcases pers h p0 with ⟨h1, h2⟩ | ⟨c, hc, rfl, h1, h2⟩
  · refine or_t (k := 1) (v := nI 1) h ?_ ?_ rfl za_n10
    · rw [h1, za_bnxl]
    · rw [za_lt, h2 _ t128, za_bnd, if_pos rfl, bad_1, za_bn2, if_neg za_n10]
  · rw [h1, za_bnx, za_lt, h2 _ t128, za_bnd, if_neg za_n10, bad_0, za_bn2, if_pos rfl]
    rcases rng 8 (by omega) p1 with g | ⟨g0, g⟩ | ⟨j, j1, rfl⟩
    · refine or_t (k := 2) (v := nI 2) h ?_ ?_ rfl (by decide +kernel)
      · rw [if_pos g, need_0, za_bnxl]
      · rw [if_pos g, bad_1, za_bn2, if_neg za_n10]
    · refine or_t (k := 2) (v := nI 2) h ?_ ?_ rfl (by decide +kernel)
      · rw [if_neg g0, if_pos g, need_0, za_bnxl]
      · rw [if_neg g0, if_neg (by grind), bad_1, za_bn2, if_neg za_n10]
    · rw [if_neg (nI_pos (by omega)), if_neg (nI_nlt j1 (by omega)), need_1, za_bnx, if_neg (nI_pos (by omega)), if_pos (nI_le j1 (by omega)), bad_0, za_bn2, if_pos rfl]
      have hn := rw_n100 h.1.1
      have hc1 : c < 100 := by omega
      have h0 := (iv_thr (v := 0) h).1.1
      obtain ⟨s, s1, s2, s3⟩ := h.1.1.2.2.2.1 c hc
      unfold fX3_fact
      rw [lf_one h.1.1.2.1.1 hn hc, za_bnd, if_neg za_n10, rf_per0 hc1, rf_per hc1 (show 1 < 8 by omega), rf_per hc1 (show 2 < 8 by omega), rf_per hc1 (show 3 < 8 by omega), rf_per hc1 (show 4 < 8 by omega), rf_per hc1 (show 5 < 8 by omega), rf_per hc1 (show 6 < 8 by omega), rw_hired h0 hc, rw_farmsOf h0 hc, t128, ra_trade h.1.1.1 hc1, ra_coin h.1.1.1 hc1, ra_st h.1.1.1 hc1, ra_boss h.1.1.1 hc1, ra_hun h.1.1.1 hc1, ra_land h.1.1.1 hc1, ra_ord h.1.1.1 hc1]
      simp only [za_bnd, za_chk _ hc1 (show 100 < 2 ^ 31 by omega), nI_clamp (show c < 2 ^ 31 by omega)]
      rcases (show j = 0 ∨ j = 1 ∨ j = 2 ∨ j = 3 ∨ j = 4 ∨ j = 5 ∨ j = 6 ∨ j = 7 ∨ j = 8 by omega) with rfl | rfl | rfl | rfl | rfl | rfl | rfl | rfl | rfl
      · rw [if_pos nI_0, if_pos nI_0]
        exact or_v h rfl rfl
      · rw [if_neg (nk0 1 (by omega) (by omega)), if_pos rfl, if_neg (nk0 1 (by omega) (by omega)), if_pos rfl]
        exact or_v h rfl rfl
      · rw [if_neg (nk0 2 (by omega) (by omega)), if_neg (nk 2 1 (by omega) (by omega) (by omega)), if_pos rfl, if_neg (nk0 2 (by omega) (by omega)), if_neg (nk 2 1 (by omega) (by omega) (by omega)), if_pos rfl]
        exact or_v h rfl rfl
      · rw [if_neg (nk0 3 (by omega) (by omega)), if_neg (nk 3 1 (by omega) (by omega) (by omega)), if_neg (nk 3 2 (by omega) (by omega) (by omega)), if_pos rfl, if_neg (nk0 3 (by omega) (by omega)), if_neg (nk 3 1 (by omega) (by omega) (by omega)), if_neg (nk 3 2 (by omega) (by omega) (by omega)), if_pos rfl]
        by_cases q : C (17 + 18) c = nI 3
        · exact or_v h rfl (if_pos q)
        · exact or_v (b := -1) h (congrArg (fun z => some (Sum.inr z)) (s2.2.2.2.2 (fun z => q (by rw [s1, z])))) (if_neg q)
      · rw [if_neg (nk0 4 (by omega) (by omega)), if_neg (nk 4 1 (by omega) (by omega) (by omega)), if_neg (nk 4 2 (by omega) (by omega) (by omega)), if_neg (nk 4 3 (by omega) (by omega) (by omega)), if_pos rfl, if_neg (nk0 4 (by omega) (by omega)), if_neg (nk 4 1 (by omega) (by omega) (by omega)), if_neg (nk 4 2 (by omega) (by omega) (by omega)), if_neg (nk 4 3 (by omega) (by omega) (by omega)), if_pos rfl]
        exact or_v h rfl rfl
      · rw [if_neg (nk0 5 (by omega) (by omega)), if_neg (nk 5 1 (by omega) (by omega) (by omega)), if_neg (nk 5 2 (by omega) (by omega) (by omega)), if_neg (nk 5 3 (by omega) (by omega) (by omega)), if_neg (nk 5 4 (by omega) (by omega) (by omega)), if_pos rfl, if_neg (nk0 5 (by omega) (by omega)), if_neg (nk 5 1 (by omega) (by omega) (by omega)), if_neg (nk 5 2 (by omega) (by omega) (by omega)), if_neg (nk 5 3 (by omega) (by omega) (by omega)), if_neg (nk 5 4 (by omega) (by omega) (by omega)), if_pos rfl]
        exact or_v h rfl rfl
      · rw [if_neg (nk0 6 (by omega) (by omega)), if_neg (nk 6 1 (by omega) (by omega) (by omega)), if_neg (nk 6 2 (by omega) (by omega) (by omega)), if_neg (nk 6 3 (by omega) (by omega) (by omega)), if_neg (nk 6 4 (by omega) (by omega) (by omega)), if_neg (nk 6 5 (by omega) (by omega) (by omega)), if_pos rfl, if_neg (nk0 6 (by omega) (by omega)), if_neg (nk 6 1 (by omega) (by omega) (by omega)), if_neg (nk 6 2 (by omega) (by omega) (by omega)), if_neg (nk 6 3 (by omega) (by omega) (by omega)), if_neg (nk 6 4 (by omega) (by omega) (by omega)), if_neg (nk 6 5 (by omega) (by omega) (by omega)), if_pos rfl]
        exact or_v h rfl rfl
      · rw [if_neg (nk0 7 (by omega) (by omega)), if_neg (nk 7 1 (by omega) (by omega) (by omega)), if_neg (nk 7 2 (by omega) (by omega) (by omega)), if_neg (nk 7 3 (by omega) (by omega) (by omega)), if_neg (nk 7 4 (by omega) (by omega) (by omega)), if_neg (nk 7 5 (by omega) (by omega) (by omega)), if_neg (nk 7 6 (by omega) (by omega) (by omega)), if_pos rfl, if_neg (nk0 7 (by omega) (by omega)), if_neg (nk 7 1 (by omega) (by omega) (by omega)), if_neg (nk 7 2 (by omega) (by omega) (by omega)), if_neg (nk 7 3 (by omega) (by omega) (by omega)), if_neg (nk 7 4 (by omega) (by omega) (by omega)), if_neg (nk 7 5 (by omega) (by omega) (by omega)), if_neg (nk 7 6 (by omega) (by omega) (by omega)), if_pos rfl]
        exact or_v h rfl rfl
      · rw [if_neg (nk0 8 (by omega) (by omega)), if_neg (nk 8 1 (by omega) (by omega) (by omega)), if_neg (nk 8 2 (by omega) (by omega) (by omega)), if_neg (nk 8 3 (by omega) (by omega) (by omega)), if_neg (nk 8 4 (by omega) (by omega) (by omega)), if_neg (nk 8 5 (by omega) (by omega) (by omega)), if_neg (nk 8 6 (by omega) (by omega) (by omega)), if_neg (nk 8 7 (by omega) (by omega) (by omega)), if_neg (nk0 8 (by omega) (by omega)), if_neg (nk 8 1 (by omega) (by omega) (by omega)), if_neg (nk 8 2 (by omega) (by omega) (by omega)), if_neg (nk 8 3 (by omega) (by omega) (by omega)), if_neg (nk 8 4 (by omega) (by omega) (by omega)), if_neg (nk 8 5 (by omega) (by omega) (by omega)), if_neg (nk 8 6 (by omega) (by omega) (by omega)), if_neg (nk 8 7 (by omega) (by omega) (by omega))]
        exact or_v h rfl rfl
theorem c_where (h : IV n t m C R N L) (p0 p1 : Int32) : OR eB n t m C R N L (fX11_where C p0 p1) (fX12_where R p0 p1) := by
  unfold fX11_where fX12_where fX12_where_J19 fX12_where_J36 fX12_where_J41 fX11_where_J18 fX11_where_J19
  rcases parts h p0 with ⟨h1, h2⟩ | ⟨mq, c, m1, m2, hc, rfl, h1, h2⟩
  · refine or_t (k := 1) (v := nI 1) h ?_ ?_ rfl za_n10
    · rw [h1, za_bnxl]
    · rw [za_lt, h2 _ t128, za_bnd, if_pos rfl, bad_1, za_bn2, if_neg za_n10]
  · rw [h1, za_bnx, za_lt, h2 _ t128, za_bnd, if_neg za_n10, bad_0, za_bn2, if_pos rfl]
    rcases rng 2 (by omega) p1 with g | ⟨g0, g⟩ | ⟨j, j1, rfl⟩
    · refine or_t (k := 2) (v := nI 2) h ?_ ?_ rfl (by decide +kernel)
      · rw [if_pos g, need_0, za_bnxl]
      · rw [if_pos g, bad_1, za_bn2, if_neg za_n10]
    · refine or_t (k := 2) (v := nI 2) h ?_ ?_ rfl (by decide +kernel)
      · rw [if_neg g0, if_pos g, need_0, za_bnxl]
      · rw [if_neg g0, if_neg (by grind), bad_1, za_bn2, if_neg za_n10]
    · rw [if_neg (nI_pos (by omega)), if_neg (nI_nlt j1 (by omega)), need_1, za_bnx, if_neg (nI_pos (by omega)), if_pos (nI_le j1 (by omega)), bad_0, za_bn2, if_pos rfl]
      have hc4 : c < 4 := by omega
      obtain ⟨aa, k, _, _, k1, k2, k3⟩ := rw_q h.1.1 hc4
      have hq := h.1.1.2.2.2.2.2.2.2.2.2.2.2.2.1 c hc4 k
      unfold fX5_place fX5_queued fX5_first
      simp only [za_mul, nI_add, za_lt]
      simp only [za_chk _ (show 1720 + 15 * c + 1 < 2132 by omega) (show 2132 < 2 ^ 31 by omega), za_chk _ (show 1720 + 15 * c + 2 < 2132 by omega) (show 2132 < 2 ^ 31 by omega), za_chk _ (show 1720 + 15 * c + 3 < 2132 by omega) (show 2132 < 2 ^ 31 by omega), nI_clamp (show 1720 + 15 * c + 1 < 2 ^ 31 by omega), nI_clamp (show 1720 + 15 * c + 2 < 2 ^ 31 by omega), nI_clamp (show 1720 + 15 * c + 3 < 2 ^ 31 by omega), t128, ra_at h.1.1.1 hc4, ra_wait h.1.1.1 hc4, za_inY hc4 (show 4 < 2 ^ 31 by omega), za_bnd, if_neg za_n10, za_chk _ hc4 (show 4 < 2 ^ 31 by omega), nI_clamp (show c < 2 ^ 31 by omega), za_chk _ (show c * 12 < 48 by omega) (show 48 < 2 ^ 31 by omega), nI_clamp (show c * 12 < 2 ^ 31 by omega)]
      rcases (show j = 0 ∨ j = 1 ∨ j = 2 by omega) with rfl | rfl | rfl
      · rw [if_pos nI_0, if_pos nI_0]; exact or_v h rfl rfl
      · rw [if_neg (nk0 1 (by omega) (by omega)), if_pos rfl, if_neg (nk0 1 (by omega) (by omega)), if_pos rfl]; exact or_v h rfl rfl
      · rw [if_neg (nk0 2 (by omega) (by omega)), if_neg (nk 2 1 (by omega) (by omega) (by omega)), if_neg (nk0 2 (by omega) (by omega)), if_neg (nk 2 1 (by omega) (by omega) (by omega))]
        by_cases q : k = 0
        · have e0 : C (17 + 30) c = 0 := by rw [k2, q]; rfl
          refine or_v (b := -1) h ?_ (if_pos e0)
          rw [if_pos (show C (17 + 27 + 3) c ≤ 0 by rw [show C (17 + 27 + 3) c = C (17 + 30) c from rfl, e0]; decide), za_bnd]
        · refine or_v (b := C (17 + 31) (c * 12)) h ?_ ((if_neg (by rw [k2]; exact fun z => q ((za_eq0 (by omega)).mp z))).trans ?_)
          · rw [if_neg (show ¬ C (17 + 27 + 3) c ≤ 0 by rw [show C (17 + 27 + 3) c = C (17 + 30) c from rfl, k2, za_le0 (by omega)]; exact q), za_bnd]
          · have := hq 0 k2 k1 (by omega)
            exact congrArg (fun z => some (z, wr R 127 0 0)) this
end RP
