/-! ===== calls that only look ===== -/
def eB (k : Nat) : Int32 := nI k
def eA (k : Nat) : Int32 := nI (k - 1)
def OR (e : Nat → Int32) (n t m : Nat) (C R : Mc) (N L : Md) (x : Option (Nat ⊕ Int32)) (y : Option (Int32 × Mc)) : Prop := ∃ b R', y = some (b, R') ∧ IV n t m C R' N L ∧ GR2 R R' ∧ ((∃ k, x = some (.inl k) ∧ R' 127 0 = e k ∧ e k ≠ 0) ∨ (x = some (.inr b) ∧ R' 127 0 = 0))
theorem rng (K : Nat) (hK : K < 2 ^ 31) (p : Int32) : p < 0 ∨ (¬ p < 0 ∧ nI K < p) ∨ ∃ j, j ≤ K ∧ p = nI j := by
  by_cases h : p < 0
  · exact Or.inl h
  · by_cases h2 : nI K < p
    · exact Or.inr (Or.inl ⟨h, h2⟩)
    · obtain ⟨j, j1, j2⟩ := za_ofle hK h (by grind)
      exact Or.inr (Or.inr ⟨j, j1, j2⟩)
theorem ite01 {α : Type} {P : Prop} [Decidable P] (x y : α) : (if (if P then nI 1 else 0) = 0 then x else y) = if P then y else x := by
  by_cases h : P
  · rw [if_pos h, if_neg za_n10, if_pos h]
  · rw [if_neg h, if_pos rfl, if_neg h]
theorem nk (a b : Nat) (h1 : a < 20) (h2 : b < 20) (h3 : a ≠ b) : ¬ nI a = nI b := fun q => h3 (za_inj (by omega) (by omega) q)
theorem nk0 (a : Nat) (h1 : a < 20) (h3 : a ≠ 0) : ¬ nI a = 0 := fun q => h3 ((za_eq0 (by omega)).mp q)
section RO
variable {n t m : Nat} {C R : Mc} {N L : Md} {e : Nat → Int32} {x : Option (Nat ⊕ Int32)} {y : Option (Int32 × Mc)}
theorem or_t {k : Nat} {v : Int32} (h : IV n t m C R N L) (hx : x = some (.inl k)) (hy : y = some (0, wr (wr R 127 0 0) 127 0 v)) (hv : v = e k) (h0 : e k ≠ 0) : OR e n t m C R N L x y :=
  ⟨0, _, hy, iv_thr (iv_thr h), gr_wr (gr_wr GR2.rf (by omega)) (by omega), Or.inl ⟨k, hx, by rw [za_wrs]; exact hv, h0⟩⟩
theorem or_v {b : Int32} (h : IV n t m C R N L) (hx : x = some (.inr b)) (hy : y = some (b, wr R 127 0 0)) : OR e n t m C R N L x y :=
  ⟨b, _, hy, iv_thr h, gr_wr GR2.rf (by omega), Or.inr ⟨hx, za_wrs _ _ _ _⟩⟩
theorem t128 {v : Int32} : wr R 127 0 v 128 = R 128 := za_wrc (by omega)
theorem IV.y20 (h : IV n t m C R N L) : t / 52 ≤ 20 := by have := h.1.1.2.1.2.2.2; omega
theorem c_seen (h : IV n t m C R N L) (p0 : Int32) : OR eB n t m C R N L (fX11_seen C p0) (fX12_seen R p0) := by
  unfold fX11_seen fX12_seen fX12_seen_J19
  rcases zones p0 with ⟨h1, h2⟩ | ⟨z, hz, rfl, h1, h2⟩
  · refine or_t (k := 1) (v := nI 1) h ?_ ?_ rfl za_n10
    · rw [h1, za_bnxl]
    · rw [za_lt, h2, za_bnd, if_pos rfl, bad_1, za_bn2, if_neg za_n10]
  · refine or_v (b := C (17 + 13) z) h ?_ ?_
    · rw [h1, za_bnx]
      unfold fX4_yearsSeen
      rw [za_inY hz (by omega), za_bnd, if_neg za_n10, za_chk _ hz (by omega), nI_clamp (by omega), za_bnd]
    · rw [za_lt, h2, za_bnd, if_neg za_n10, bad_0, za_bn2, if_pos rfl, nI_add, za_chk _ (by omega) (by omega), nI_clamp (by omega), t128, ra_sy h.1.1.1 hz]
theorem c_promise (h : IV n t m C R N L) (p0 : Int32) : OR eB n t m C R N L (fX11_promise C p0) (fX12_promise R p0) := by
  unfold fX11_promise fX12_promise fX12_promise_J19
  rcases secs p0 with ⟨h1, h2⟩ | ⟨c, hc, rfl, h1, h2⟩
  · refine or_t (k := 1) (v := nI 1) h ?_ ?_ rfl za_n10
    · rw [h1, za_bnxl]
    · rw [za_lt, h2, za_bnd, if_pos rfl, bad_1, za_bn2, if_neg za_n10]
  · obtain ⟨q1, q2, _⟩ := pr_c (GR_of (iv_thr (v := 0) h).1.1 h.y20) hc
    refine or_v (b := prC 17 C c) h ?_ ?_
    · rw [h1, za_bnx, q1, za_bnd]
    · rw [za_lt, h2, za_bnd, if_neg za_n10, bad_0, za_bn2, if_pos rfl, q2, za_bnd]
theorem c_fell (h : IV n t m C R N L) (p0 p1 : Int32) : OR eB n t m C R N L (fX11_fell C p0 p1) (fX12_fell R p0 p1) := by
  unfold fX11_fell fX12_fell fX12_fell_J19 fX12_fell_J38 fX12_fell_J43 fX11_fell_J19 fX11_fell_J20
  rcases zones p0 with ⟨h1, h2⟩ | ⟨z, hz, rfl, h1, h2⟩
  · refine or_t (k := 1) (v := nI 1) h ?_ ?_ rfl za_n10
    · rw [h1, za_bnxl]
    · rw [za_lt, h2, za_bnd, if_pos rfl, bad_1, za_bn2, if_neg za_n10]
  · rw [h1, za_bnx, za_lt, h2, za_bnd, if_neg za_n10, bad_0, za_bn2, if_pos rfl]
    rcases rng 1000 (by omega) p1 with g | ⟨g0, g⟩ | ⟨j, j1, rfl⟩
    · refine or_t (k := 2) (v := nI 2) h ?_ ?_ rfl (by decide +kernel)
      · rw [if_pos g, need_0, za_bnxl]
      · rw [if_pos g, bad_1, za_bn2, if_neg za_n10]
    · refine or_t (k := 2) (v := nI 2) h ?_ ?_ rfl (by decide +kernel)
      · rw [if_neg g0, if_pos g, need_0, za_bnxl]
      · rw [if_neg g0, if_neg (by grind), bad_1, za_bn2, if_neg za_n10]
    · obtain ⟨r, r1, r2, r3⟩ := rain_eq (t := j) (iv_thr (v := 0) h).2.1 hz j1
      refine or_v (b := nI r) h ?_ ?_
      · rw [if_neg (nI_pos (by omega)), if_neg (nI_nlt j1 (by omega)), need_1, za_bnx, r2, za_bnd]
      · rw [if_neg (nI_pos (by omega)), if_pos (nI_le j1 (by omega)), bad_0, za_bn2, if_pos rfl, r3, za_bnd]
        have e7 : wr R 127 0 0 127 7 = C 17 12 := by rw [za_wri (by omega)]; exact ra_tr h.1.1.1
        rw [e7, h.2.2.2.2.2.2.2.2.2.2.2.2.2]; decide
theorem c_section (h : IV n t m C R N L) (p0 p1 : Int32) : OR eB n t m C R N L (fX11_section C p0 p1) (fX12_section R p0 p1) := by
  unfold fX11_section fX12_section fX12_section_J19 fX12_section_J37 fX12_section_J42 fX11_section_J18 fX11_section_J19
  rcases secs p0 with ⟨h1, h2⟩ | ⟨c, hc, rfl, h1, h2⟩
  · refine or_t (k := 1) (v := nI 1) h ?_ ?_ rfl za_n10
    · rw [h1, za_bnxl]
    · rw [za_lt, h2, za_bnd, if_pos rfl, bad_1, za_bn2, if_neg za_n10]
  · rw [h1, za_bnx, za_lt, h2, za_bnd, if_neg za_n10, bad_0, za_bn2, if_pos rfl]
    rcases rng 6 (by omega) p1 with g | ⟨g0, g⟩ | ⟨j, j1, rfl⟩
    · refine or_t (k := 2) (v := nI 2) h ?_ ?_ rfl (by decide +kernel)
      · rw [if_pos g, need_0, za_bnxl]
      · rw [if_pos g, bad_1, za_bn2, if_neg za_n10]
    · refine or_t (k := 2) (v := nI 2) h ?_ ?_ rfl (by decide +kernel)
      · rw [if_neg g0, if_pos g, need_0, za_bnxl]
      · rw [if_neg g0, if_neg (by grind), bad_1, za_bn2, if_neg za_n10]
    · rw [if_neg (nI_pos (by omega)), if_neg (nI_nlt j1 (by omega)), need_1, za_bnx, if_neg (nI_pos (by omega)), if_pos (nI_le j1 (by omega)), bad_0, za_bn2, if_pos rfl, rf_sec0 hc, za_bnd, t128, ra_hold h.1.1.1 hc]
      have h17 := h.1.1
      obtain ⟨⟨k, i1, i2, i3, i4, i5, i6, i7, i8, i9, i10⟩, f1, f2, f3, f4⟩ := h17.2.2.1 c hc
      have hE := h17.2.2.2.2.2.2.2.2.2.2.2.1 c hc
      have e1 : (wr R 127 0 0) 128 = R 128 := t128
      have fx : ∀ j, j < 7 → fX4_fact C (17 + 1) (nI c) (nI j) = (if j = 0 then some (C (17 + 5) c) else if j = 1 then some (C (17 + 6) c) else if j = 2 then some (C (17 + 7) c) else if j = 3 then (if C (17 + 5) c = nI 4 ∨ C (17 + 5) c = nI 6 then some (C (17 + 8) c) else some (-1)) else if j = 4 then (if C (17 + 5) c = nI 4 ∨ C (17 + 5) c = nI 6 then (if C (17 + 9) c = 0 then some 0 else some (nI 1)) else some (-1)) else if j = 5 then some (C (17 + 10) c) else if C (17 + 5) c = 0 then some (C (17 + 4) c) else some 0) := by
        intro j hj
        unfold fX4_fact
        rw [za_inY hc (by omega), za_bnd, if_neg za_n10, lg_past hc, lg_wild hc, za_bnd, za_bnd, za_bnd]
        simp only [za_chk _ hc (show 96 < 2 ^ 31 by omega), nI_clamp (show c < 2 ^ 31 by omega), ite01]
        rcases (show j = 0 ∨ j = 1 ∨ j = 2 ∨ j = 3 ∨ j = 4 ∨ j = 5 ∨ j = 6 by omega) with rfl | rfl | rfl | rfl | rfl | rfl | rfl
        · rfl
        · rw [if_neg (nk0 1 (by omega) (by omega)), if_pos rfl]; rfl
        · rw [if_neg (nk0 2 (by omega) (by omega)), if_neg (nk 2 1 (by omega) (by omega) (by omega)), if_pos rfl]; rfl
        · rw [if_neg (nk0 3 (by omega) (by omega)), if_neg (nk 3 1 (by omega) (by omega) (by omega)), if_neg (nk 3 2 (by omega) (by omega) (by omega)), if_pos rfl]
          by_cases q : C (17 + 5) c = nI 4 ∨ C (17 + 5) c = nI 6
          · exact (if_pos (show C (17 + 1 + 4) c = nI 4 ∨ C (17 + 1 + 4) c = nI 6 from q)).trans (if_pos q).symm
          · exact (if_neg (show ¬ (C (17 + 1 + 4) c = nI 4 ∨ C (17 + 1 + 4) c = nI 6) from q)).trans (if_neg q).symm
        · rw [if_neg (nk0 4 (by omega) (by omega)), if_neg (nk 4 1 (by omega) (by omega) (by omega)), if_neg (nk 4 2 (by omega) (by omega) (by omega)), if_neg (nk 4 3 (by omega) (by omega) (by omega)), if_pos rfl]
          by_cases q : C (17 + 5) c = nI 4 ∨ C (17 + 5) c = nI 6
          · exact (if_pos (show C (17 + 1 + 4) c = nI 4 ∨ C (17 + 1 + 4) c = nI 6 from q)).trans (if_pos q).symm
          · exact (if_neg (show ¬ (C (17 + 1 + 4) c = nI 4 ∨ C (17 + 1 + 4) c = nI 6) from q)).trans (if_neg q).symm
        · rw [if_neg (nk0 5 (by omega) (by omega)), if_neg (nk 5 1 (by omega) (by omega) (by omega)), if_neg (nk 5 2 (by omega) (by omega) (by omega)), if_neg (nk 5 3 (by omega) (by omega) (by omega)), if_neg (nk 5 4 (by omega) (by omega) (by omega)), if_pos rfl]; rfl
        · rw [if_neg (nk0 6 (by omega) (by omega)), if_neg (nk 6 1 (by omega) (by omega) (by omega)), if_neg (nk 6 2 (by omega) (by omega) (by omega)), if_neg (nk 6 3 (by omega) (by omega) (by omega)), if_neg (nk 6 4 (by omega) (by omega) (by omega)), if_neg (nk 6 5 (by omega) (by omega) (by omega))]
          by_cases q : C (17 + 5) c = 0
          · exact (if_pos (show C (17 + 1 + 4) c = 0 from q)).trans (if_pos q).symm
          · exact (if_neg (show ¬ (C (17 + 1 + 4) c = 0) from q)).trans (if_neg q).symm
      rw [fx j (by omega), rf_sec hc (show 1 < 8 by omega), rf_sec hc (show 2 < 8 by omega), rf_sec hc (show 3 < 8 by omega), rf_sec hc (show 4 < 8 by omega), rf_sec hc (show 5 < 8 by omega), rf_sec hc (show 7 < 8 by omega), t128, ra_own h17.1 hc, ra_stk h17.1 hc, ra_fen h17.1 hc, ra_paid h17.1 hc, rf_isPast, rf_isFarm, miles_r h17 hc (wr R 127 0 0) (za_wrc (by omega)) (za_wrc (by omega))]
      simp only [za_bnd, ite01]
      rcases (show j = 0 ∨ j = 1 ∨ j = 2 ∨ j = 3 ∨ j = 4 ∨ j = 5 ∨ j = 6 by omega) with rfl | rfl | rfl | rfl | rfl | rfl | rfl
      · exact or_v h rfl rfl
      · rw [if_neg (nk0 1 (by omega) (by omega)), if_pos rfl]
        by_cases q : C (17 + 5) c ≤ nI 1
        · exact or_v (b := -1) h (congrArg (fun z => some (Sum.inr z)) (i4 (by rw [i1, nI_leI (by omega) (by omega)] at q; exact q))) (if_pos q)
        · exact or_v h rfl (if_neg q)
      · rw [if_neg (nk0 2 (by omega) (by omega)), if_neg (nk 2 1 (by omega) (by omega) (by omega)), if_pos rfl]
        by_cases q : C (17 + 5) c = nI 4
        · exact or_v h (congrArg (fun z => some (Sum.inr z)) (hE.1 q).symm) (if_pos q)
        · exact or_v (b := -1) h (congrArg (fun z => some (Sum.inr z)) (i6 (fun z => q (by rw [i1, z])))) (if_neg q)
      · rw [if_neg (nk0 3 (by omega) (by omega)), if_neg (nk 3 1 (by omega) (by omega) (by omega)), if_neg (nk 3 2 (by omega) (by omega) (by omega)), if_pos rfl]
        by_cases q : C (17 + 5) c = nI 4 ∨ C (17 + 5) c = nI 6
        · exact or_v (b := C (17 + 8) c) h (by show bnd (if _ then _ else _) _ = _; rw [if_pos q]; rfl) (if_pos q)
        · exact or_v (b := -1) h (by show bnd (if _ then _ else _) _ = _; rw [if_neg q]; rfl) (if_neg q)
      · rw [if_neg (nk0 4 (by omega) (by omega)), if_neg (nk 4 1 (by omega) (by omega) (by omega)), if_neg (nk 4 2 (by omega) (by omega) (by omega)), if_neg (nk 4 3 (by omega) (by omega) (by omega)), if_pos rfl]
        by_cases q : C (17 + 5) c = nI 4 ∨ C (17 + 5) c = nI 6
        · refine or_v (b := C (17 + 9) c) h ?_ (if_pos q)
          show bnd (if _ then _ else _) _ = _
          rw [if_pos q, if_pos q]
          rcases (show isZ (C (17 + 9) c) from f1) with z | z <;> rw [z] <;> rfl
        · exact or_v (b := -1) h (by show bnd (if _ then _ else _) _ = _; rw [if_neg q, if_neg q]; rfl) (if_neg q)
      · rw [if_neg (nk0 5 (by omega) (by omega)), if_neg (nk 5 1 (by omega) (by omega) (by omega)), if_neg (nk 5 2 (by omega) (by omega) (by omega)), if_neg (nk 5 3 (by omega) (by omega) (by omega)), if_neg (nk 5 4 (by omega) (by omega) (by omega)), if_pos rfl]
        by_cases q : C (17 + 5) c = nI 3 ∨ C (17 + 5) c = nI 5
        · exact or_v (b := C (17 + 10) c) h rfl (if_pos q)
        · exact or_v (b := -1) h (congrArg (fun z => some (Sum.inr z)) (i8 (fun z => q (Or.inl (by rw [i1, z]))) (fun z => q (Or.inr (by rw [i1, z]))))) (if_neg q)
      · rw [if_neg (nk0 6 (by omega) (by omega)), if_neg (nk 6 1 (by omega) (by omega) (by omega)), if_neg (nk 6 2 (by omega) (by omega) (by omega)), if_neg (nk 6 3 (by omega) (by omega) (by omega)), if_neg (nk 6 4 (by omega) (by omega) (by omega)), if_neg (nk 6 5 (by omega) (by omega) (by omega))]
        by_cases q : C (17 + 5) c = 0
        · refine or_v (b := C (17 + 4) c) h (by show bnd (if _ then _ else _) _ = _; rw [if_pos q]; rfl) ((if_pos q).trans ?_)
          have := hE.2 q
          exact congrArg (fun z => some (z, wr R 127 0 0)) (by grind)
        · exact or_v (b := 0) h (by show bnd (if _ then _ else _) _ = _; rw [if_neg q]; rfl) (if_neg q)
end RO
