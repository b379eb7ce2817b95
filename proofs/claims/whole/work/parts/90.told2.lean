section AK
variable {n t m p c : Nat} {C R C' R' : Mc} {N L N' L' : Md} {e : Nat → Int32}
def oP (x : Option (Nat ⊕ Mc)) : Option (Nat ⊕ (Int32 × Mc)) := bnx x fun M => some (.inr (0, M))
def oQ (y : Option Mc) : Option (Int32 × Mc) := bnd y fun M => some (0, M)
theorem price_c (p : Int32) : (fX11_isPrice p = some 0 ∧ (p < nI 1 ∨ (¬ p < nI 1 ∧ nI 1000 < p))) ∨ ∃ j, 1 ≤ j ∧ j ≤ 1000 ∧ p = nI j ∧ fX11_isPrice p = some (nI 1) := by
  unfold fX11_isPrice
  rcases rng1 1000 (by omega) p with g | ⟨g0, g⟩ | ⟨j, j0, j1, rfl⟩
  · left; rw [if_pos g]; exact ⟨rfl, Or.inl g⟩
  · left; rw [if_neg g0, if_pos g]; exact ⟨rfl, Or.inr ⟨g0, g⟩⟩
  · right; exact ⟨j, j0, j1, rfl, by rw [if_neg (nI_nlt (by omega) (by omega)), if_neg (nI_nlt j1 (by omega))]⟩
theorem rain_c (p : Int32) : (fX11_isRain p = some 0 ∧ fX12_isRain p = some 0) ∨ ∃ j, j ≤ 500 ∧ p = nI j ∧ fX11_isRain p = some (nI 1) ∧ fX12_isRain p = some (nI 1) := by
  unfold fX11_isRain fX12_isRain
  rcases rng 500 (by omega) p with g | ⟨g0, g⟩ | ⟨j, j1, rfl⟩
  · left; rw [if_pos g]; exact ⟨rfl, rfl⟩
  · left; rw [if_neg g0, if_pos g]; exact ⟨rfl, rfl⟩
  · right; exact ⟨j, j1, rfl, by rw [if_neg (nI_pos (by omega)), if_neg (nI_nlt j1 (by omega))], by rw [if_neg (nI_pos (by omega)), if_neg (nI_nlt j1 (by omega))]⟩
theorem three (M : Mc) (k0 : Nat) (a b c : Int32) : fX11_putThree M k0 a b c = some (wr (wr (wr M k0 0 a) k0 1 b) k0 2 c) := by
  unfold fX11_putThree
  rw [if_pos (nI_le (Nat.le_refl _) (by omega)), za_0, za_chk _ (by omega) (by omega), za_lt, za_chk _ (by omega) (by omega), za_lt, za_chk _ (by omega) (by omega), za_lt, nI_clamp (by omega), nI_clamp (by omega), nI_clamp (by omega)]
theorem i3 {i : Nat} (h : i < 3) : i = 0 ∨ i = 1 ∨ i = 2 := by omega
theorem c_prices (h : IV n t m C R N L) (p0 p1 p2 : Int32) : OM eA C R N L (oP (fX11_prices C p0 p1 p2)) (oQ (fX12_prices R p0 p1 p2)) := by
  unfold fX11_prices fX12_prices fX11_prices_J25 fX11_prices_J26 fX12_prices_J42 fX12_prices_J47 oP oQ
  have ih := iv_thr (v := 0) h
  simp only [za_lt, bad_0, bad_1, za_bn2, if_neg za_n10, if_pos (show (0 : Int32) = 0 from rfl), need_0, need_1, za_bnxl, za_bnx, three, za_bnd]
  have bad : ∀ {x : Option (Nat ⊕ (Int32 × Mc))} {y : Option (Int32 × Mc)}, x = some (.inl 2) → y = some (0, wr (wr R 127 0 0) 127 0 (nI 1)) → OM eA C R N L x y := fun hx hy => om_t (k := 2) (v := nI 1) h hx hy rfl za_n10
  rcases price_c p0 with ⟨a1, a2⟩ | ⟨a, a0, a1, rfl, a2⟩
  · refine bad (by rw [a1, za_bnd, if_pos rfl]; rfl) ?_
    rcases a2 with g | ⟨g0, g⟩
    · rw [if_pos g]; rfl
    · rw [if_neg g0, if_pos g]; rfl
  rw [a2, za_bnd, if_neg za_n10, if_neg (nI_nlt (by omega) (by omega)), if_neg (nI_nlt a1 (by omega))]
  rcases price_c p1 with ⟨b1, b2⟩ | ⟨b, b0, b1, rfl, b2⟩
  · refine bad (by rw [b1, za_bnd, if_pos rfl]; rfl) ?_
    rcases b2 with g | ⟨g0, g⟩
    · rw [if_pos g]; rfl
    · rw [if_neg g0, if_pos g]; rfl
  rw [b2, za_bnd, if_neg za_n10, if_neg (nI_nlt (by omega) (by omega)), if_neg (nI_nlt b1 (by omega))]
  rcases price_c p2 with ⟨c1, c2⟩ | ⟨c, c0, c1, rfl, c2⟩
  · refine bad (by rw [c1, za_bnd, if_pos rfl]; rfl) ?_
    rcases c2 with g | ⟨g0, g⟩
    · rw [if_pos g]; rfl
    · rw [if_neg g0, if_neg (by grind)]; rfl
  rw [c2, za_bnd, if_neg za_n10, if_neg (nI_nlt (by omega) (by omega)), if_pos (nI_le c1 (by omega))]
  have ec : ∀ k, k ≠ 124 → k ≠ 0 → wr (wr (wr (wr C 124 0 (nI a)) 124 1 (nI b)) 124 2 (nI c)) 0 14 (nI 1) k = C k := fun k k1 k2 => by rw [za_wrc k2, za_wrc k1, za_wrc k1, za_wrc k1]
  have e0 : ∀ j, j ≠ 14 → wr (wr (wr (wr C 124 0 (nI a)) 124 1 (nI b)) 124 2 (nI c)) 0 14 (nI 1) 0 j = C 0 j := fun j j1 => by rw [za_wri j1, za_wra (by omega), za_wra (by omega), za_wra (by omega)]
  have er : ∀ k, k ≠ 142 → k ≠ 127 → wr (wr (wr (wr (wr R 127 0 0) 127 28 (nI 1)) 142 0 (nI a)) 142 1 (nI b)) 142 2 (nI c) k = R k := fun k k1 k2 => by rw [za_wrc k1, za_wrc k1, za_wrc k1, za_wrc k2, za_wrc k2]
  have e7 : ∀ j, j ≠ 28 → j ≠ 0 → wr (wr (wr (wr (wr R 127 0 0) 127 28 (nI 1)) 142 0 (nI a)) 142 1 (nI b)) 142 2 (nI c) 127 j = R 127 j := fun j j1 j2 => by rw [za_wra (by omega), za_wra (by omega), za_wra (by omega), za_wri j1, za_wri j2]
  have hIV : IV n t m (wr (wr (wr (wr C 124 0 (nI a)) 124 1 (nI b)) 124 2 (nI c)) 0 14 (nI 1)) (wr (wr (wr (wr (wr R 127 0 0) 127 28 (nI 1)) 142 0 (nI a)) 142 1 (nI b)) 142 2 (nI c)) N L := by
    refine iv_ot h (fun b hb => ec b (by omega) (by omega)) (fun b hb => er b (by omega) (by omega)) (fun j hj => e7 j (by omega) (by omega)) (AL_c h.2.1 (fun b _ _ => ec b (by omega) (by omega)) (er _ (by omega) (by omega)) (er _ (by omega) (by omega))) (fun j _ _ => e0 j (by omega)) (IP_c h.2.2.2.2.2.2.1 (e0 8 (by omega)) (ec 123 (by omega) (by omega)) (e7 9 (by omega) (by omega)) (er 134 (by omega) (by omega))) (by rw [e0 9 (by omega), e7 13 (by omega) (by omega)]; exact h.2.2.2.2.2.2.2.1) ?_ (II_c h.2.2.2.2.2.2.2.2.2.2.1 (by rw [ec 121 (by omega) (by omega)]) (ec 122 (by omega) (by omega)) (e7 31 (by omega) (by omega)) (er 144 (by omega) (by omega)))
    obtain ⟨q1, q2, q3, q4, q5⟩ := h.2.2.2.2.2.2.2.2.2.1
    unfold IC
    rw [e0 16 (by omega), e7 29 (by omega) (by omega), ec 125 (by omega) (by omega), er 143 (by omega) (by omega), za_wrs]
    refine ⟨?_, isz1, q3, q4, fun _ i hi => ?_⟩
    · rw [za_wra (by omega), za_wra (by omega), za_wra (by omega), za_wrs]
    · rcases i3 hi with rfl | rfl | rfl
      · exact ⟨a, a0, a1, by simp (disch := omega) only [za_wra, za_wri, za_wrs], by simp (disch := omega) only [za_wra, za_wri, za_wrs]⟩
      · exact ⟨b, b0, b1, by simp (disch := omega) only [za_wra, za_wri, za_wrs], by simp (disch := omega) only [za_wra, za_wri, za_wrs]⟩
      · exact ⟨c, c0, c1, by simp (disch := omega) only [za_wra, za_wri, za_wrs], by simp (disch := omega) only [za_wra, za_wri, za_wrs]⟩
  refine om_v (b := 0) hIV rfl ?_ (gc_wr (gc_wr (gc_wr (gc_wr GC.rf (by omega)) (by omega)) (by omega)) (by omega)) (gr_wr (gr_wr (gr_wr (gr_wr (gr_wr GR2.rf (by omega)) (by omega)) (by omega)) (by omega)) (by omega)) (by simp (disch := omega) only [za_wra, za_wri, za_wrs])
  rw [za_0, za_chk _ (by omega) (by omega), za_chk _ (by omega) (by omega), za_chk _ (by omega) (by omega), nI_clamp (by omega), nI_clamp (by omega), nI_clamp (by omega)]
  rfl
theorem c_worst (h : IV n t m C R N L) (p0 p1 p2 p3 : Int32) : OM eA C R N L (oP (fX11_worst C p0 p1 p2 p3)) (oQ (fX12_worst R p0 p1 p2 p3)) := by
  unfold fX11_worst fX12_worst fX11_worst_J36 fX11_worst_J37 fX12_worst_J38 fX12_worst_J43 oP oQ
  have ih := iv_thr (v := 0) h
  simp only [za_lt, bad_0, bad_1, za_bn2, if_neg za_n10, if_pos (show (0 : Int32) = 0 from rfl), need_0, need_1, za_bnxl, za_bnx, three, za_bnd]
  have bad : ∀ {x : Option (Nat ⊕ (Int32 × Mc))} {y : Option (Int32 × Mc)}, x = some (.inl 2) → y = some (0, wr (wr R 127 0 0) 127 0 (nI 1)) → OM eA C R N L x y := fun hx hy => om_t (k := 2) (v := nI 1) h hx hy rfl za_n10
  rcases rng1 3 (by omega) p0 with g | ⟨g0, g⟩ | ⟨d, d0, d1, rfl⟩
  · exact bad (by rw [if_pos g]; rfl) (by rw [if_pos g]; rfl)
  · exact bad (by rw [if_neg g0, if_pos g]; rfl) (by rw [if_neg g0, if_pos g]; rfl)
  rw [if_neg (nI_nlt (by omega) (by omega)), if_neg (nI_nlt d1 (by omega)), if_neg (nI_nlt (by omega) (by omega)), if_neg (nI_nlt d1 (by omega))]
  rcases rain_c p1 with ⟨a1, a2⟩ | ⟨a, a1, rfl, a2, a3⟩
  · exact bad (by rw [a1, za_bnd, if_pos rfl]; rfl) (by rw [a2, za_bnd, if_pos rfl]; rfl)
  rw [a2, a3, za_bnd, za_bnd, if_neg za_n10, if_neg za_n10]
  rcases rain_c p2 with ⟨b1, b2⟩ | ⟨b, b1, rfl, b2, b3⟩
  · exact bad (by rw [b1, za_bnd, if_pos rfl]; rfl) (by rw [b2, za_bnd, if_pos rfl]; rfl)
  rw [b2, b3, za_bnd, za_bnd, if_neg za_n10, if_neg za_n10]
  rcases rain_c p3 with ⟨c1, c2⟩ | ⟨c, c1, rfl, c2, c3⟩
  · exact bad (by rw [c1, za_bnd, if_pos rfl]; rfl) (by rw [c2, za_bnd, if_pos rfl]; rfl)
  rw [c2, c3, za_bnd, za_bnd, if_neg za_n10, if_neg za_n10]
  have ec : ∀ k, k ≠ 125 → k ≠ 0 → wr (wr (wr (wr C 125 0 (nI a)) 125 1 (nI b)) 125 2 (nI c)) 0 16 (nI d) k = C k := fun k k1 k2 => by rw [za_wrc k2, za_wrc k1, za_wrc k1, za_wrc k1]
  have e0 : ∀ j, j ≠ 16 → wr (wr (wr (wr C 125 0 (nI a)) 125 1 (nI b)) 125 2 (nI c)) 0 16 (nI d) 0 j = C 0 j := fun j j1 => by rw [za_wri j1, za_wra (by omega), za_wra (by omega), za_wra (by omega)]
  have er : ∀ k, k ≠ 143 → k ≠ 127 → wr (wr (wr (wr (wr R 127 0 0) 127 29 (nI d)) 143 0 (nI a)) 143 1 (nI b)) 143 2 (nI c) k = R k := fun k k1 k2 => by rw [za_wrc k1, za_wrc k1, za_wrc k1, za_wrc k2, za_wrc k2]
  have e7 : ∀ j, j ≠ 29 → j ≠ 0 → wr (wr (wr (wr (wr R 127 0 0) 127 29 (nI d)) 143 0 (nI a)) 143 1 (nI b)) 143 2 (nI c) 127 j = R 127 j := fun j j1 j2 => by rw [za_wra (by omega), za_wra (by omega), za_wra (by omega), za_wri j1, za_wri j2]
  have hIV : IV n t m (wr (wr (wr (wr C 125 0 (nI a)) 125 1 (nI b)) 125 2 (nI c)) 0 16 (nI d)) (wr (wr (wr (wr (wr R 127 0 0) 127 29 (nI d)) 143 0 (nI a)) 143 1 (nI b)) 143 2 (nI c)) N L := by
    refine iv_ot h (fun b hb => ec b (by omega) (by omega)) (fun b hb => er b (by omega) (by omega)) (fun j hj => e7 j (by omega) (by omega)) (AL_c h.2.1 (fun b _ _ => ec b (by omega) (by omega)) (er _ (by omega) (by omega)) (er _ (by omega) (by omega))) (fun j _ _ => e0 j (by omega)) (IP_c h.2.2.2.2.2.2.1 (e0 8 (by omega)) (ec 123 (by omega) (by omega)) (e7 9 (by omega) (by omega)) (er 134 (by omega) (by omega))) (by rw [e0 9 (by omega), e7 13 (by omega) (by omega)]; exact h.2.2.2.2.2.2.2.1) ?_ (II_c h.2.2.2.2.2.2.2.2.2.2.1 (by rw [ec 121 (by omega) (by omega)]) (ec 122 (by omega) (by omega)) (e7 31 (by omega) (by omega)) (er 144 (by omega) (by omega)))
    obtain ⟨q1, q2, q3, q4, q5⟩ := h.2.2.2.2.2.2.2.2.2.1
    unfold IC
    rw [e0 14 (by omega), e7 28 (by omega) (by omega), ec 124 (by omega) (by omega), er 142 (by omega) (by omega), za_wrs]
    refine ⟨q1, q2, ?_, ⟨d, d1, rfl, fun _ i hi => ?_⟩, q5⟩
    · rw [za_wra (by omega), za_wra (by omega), za_wra (by omega), za_wrs]
    · rcases i3 hi with rfl | rfl | rfl
      · exact ⟨a, a1, by simp (disch := omega) only [za_wra, za_wri, za_wrs], by simp (disch := omega) only [za_wra, za_wri, za_wrs]⟩
      · exact ⟨b, b1, by simp (disch := omega) only [za_wra, za_wri, za_wrs], by simp (disch := omega) only [za_wra, za_wri, za_wrs]⟩
      · exact ⟨c, c1, by simp (disch := omega) only [za_wra, za_wri, za_wrs], by simp (disch := omega) only [za_wra, za_wri, za_wrs]⟩
  refine om_v (b := 0) hIV rfl ?_ (gc_wr (gc_wr (gc_wr (gc_wr GC.rf (by omega)) (by omega)) (by omega)) (by omega)) (gr_wr (gr_wr (gr_wr (gr_wr (gr_wr GR2.rf (by omega)) (by omega)) (by omega)) (by omega)) (by omega)) (by simp (disch := omega) only [za_wra, za_wri, za_wrs])
  rw [za_0, za_chk _ (by omega) (by omega), za_chk _ (by omega) (by omega), za_chk _ (by omega) (by omega), nI_clamp (by omega), nI_clamp (by omega), nI_clamp (by omega)]
  rfl
theorem c_tear (h : IV n t m C R N L) (p0 p1 : Int32) : OM eB C R N L (oV (fX11_tear C p0 p1)) (fX12_tear R p0 p1) := by
  unfold fX11_tear fX12_tear fX6_alter
  obtain ⟨k, i1, i2, i3, i4, i5⟩ := h.2.2.2.2.2.2.2.2.2.2.1
  simp only [za_lt]
  rw [i2, show wr R 127 0 0 127 31 = nI k by rw [za_wri (by omega)]; exact i3]
  rcases fin_c (K := k) (by omega) p0 with ⟨e, h1⟩ | ⟨c, hc, rfl, e⟩
  · refine om_r (b := -1) h ?_ ?_
    · rw [e, za_bnd, if_pos rfl, za_bn2]; rfl
    · rcases h1 with h1 | h1
      · rw [if_pos h1]
      · by_cases z : p0 < 0
        · rw [if_pos z]
        · rw [if_neg z, if_neg (by grind)]
  · have hIV : IV n t m (wr C 122 c (C 122 c ^^^ p1)) (wr (wr R 127 0 0) 144 c (C 122 c ^^^ p1)) N L := by
      have ec : ∀ k, k ≠ 122 → wr C 122 c (C 122 c ^^^ p1) k = C k := fun k k1 => za_wrc k1
      have er : ∀ k, k ≠ 144 → k ≠ 127 → wr (wr R 127 0 0) 144 c (C 122 c ^^^ p1) k = R k := fun k k1 k2 => by rw [za_wrc k1, za_wrc k2]
      have e7 : ∀ j, j ≠ 0 → wr (wr R 127 0 0) 144 c (C 122 c ^^^ p1) 127 j = R 127 j := fun j j1 => by rw [za_wra (by omega), za_wri j1]
      refine iv_ot h (fun b hb => ec b (by omega)) (fun b hb => er b (by omega) (by omega)) (fun j hj => e7 j (by omega)) (AL_c h.2.1 (fun b _ _ => ec b (by omega)) (er _ (by omega) (by omega)) (er _ (by omega) (by omega))) (fun j _ _ => by rw [ec 0 (by omega)]) (IP_c h.2.2.2.2.2.2.1 (by rw [ec 0 (by omega)]) (ec 123 (by omega)) (e7 9 (by omega)) (er 134 (by omega) (by omega))) (by rw [ec 0 (by omega), e7 13 (by omega)]; exact h.2.2.2.2.2.2.2.1) (IC_c h.2.2.2.2.2.2.2.2.2.1 (by rw [ec 0 (by omega)]) (by rw [ec 0 (by omega)]) (ec 124 (by omega)) (ec 125 (by omega)) (e7 28 (by omega)) (e7 29 (by omega)) (er 142 (by omega) (by omega)) (er 143 (by omega) (by omega))) ⟨k, i1, by rw [ec 121 (by omega)]; exact i2, by rw [e7 31 (by omega)]; exact i3, fun i hi => ?_, i5⟩
      by_cases ei : i = c
      · subst ei; rw [za_wrs, za_wrs]
      · rw [za_wri ei, za_wri ei, za_wra (by omega)]; exact i4 i hi
    refine om_v (b := C 122 c ^^^ p1) hIV ?_ ?_ (gc_wr GC.rf (by omega)) (gr_wr (gr_wr GR2.rf (by omega)) (by omega)) (by rw [za_wra (by omega), za_wrs])
    · rw [e, za_bnd, if_neg za_n10, za_inY (show c < 196 by omega) (by omega), za_bnd, if_neg za_n10, za_chk _ (by omega) (by omega), za_chk _ (by omega) (by omega), za_chk _ (by omega) (by omega), nI_clamp (by omega), za_wrs, za_bn2]; rfl
    · rw [if_neg (nI_pos (by omega)), if_pos (nI_lt hc (by omega)), za_chk _ (by omega) (by omega), za_chk _ (by omega) (by omega), za_chk _ (by omega) (by omega), nI_clamp (by omega), show wr R 127 0 0 144 c = C 122 c by rw [za_wra (by omega)]; exact i4 c hc, za_wrs]
end AK
