section AV
variable {n t m p c : Nat} {C R C' R' C1 R2 : Mc} {N L N' L' : Md} {e : Nat → Int32}
/-- the outcome of the image: longs change too -/
def OL (C R : Mc) (N L : Md) (x y : Option (Int32 × Mc × Md)) : Prop := ∃ b C' R' N' L' n' t' m', x = some (b, C', N') ∧ y = some (b, R', L') ∧ IV n' t' m' C' R' N' L' ∧ GC C C' ∧ GR2 R R' ∧ R' 127 0 = 0 ∧ (∀ a, a ≠ 121 → N' a = N a) ∧ ∀ a, a ≠ 127 → L' a = L a
theorem wd_s (d : Md) (k i : Nat) (v : Int64) : wrd d k i v k i = v := if_pos ⟨rfl, rfl⟩
theorem wd_i {d : Md} {k i a j : Nat} {v : Int64} (h : j ≠ i) : wrd d k i v a j = d a j := if_neg (fun q => h q.2)
theorem wd_c {d : Md} {k i a : Nat} {v : Int64} (h : a ≠ k) : wrd d k i v a = d a := funext fun _ => if_neg (fun q => h q.1)
def vS (C : Mc) (i : Nat) : Int32 := C 22 i * nI 200 + C 23 i + nI 1
def vP (C : Mc) (q : Nat) : Int32 := C 34 q * nI 8 + C 35 q
theorem img26 : ∀ j fu i C, i + j = 96 → j < fu → ∃ C', fX6_take_L26 (17 + 1) (17 + 15) fu C N (nI i) = fX6_take_L63 (17 + 1) (17 + 15) FU C' N 0 ∧ (∀ b, b ≠ 122 → C' b = C b) ∧ (∀ k, k < i → C' 122 k = C 122 k) ∧ ∀ k, i ≤ k → k < 96 → C' 122 k = vS C k
  | j, 0, _, _, _, hf => by omega
  | 0, fu + 1, i, C, hi, _ => by
    obtain rfl : i = 96 := by omega
    rw [fX6_take_L26, if_pos (nI_le (Nat.le_refl _) (by omega))]
    exact ⟨C, rfl, fun _ _ => rfl, fun _ _ => rfl, fun k h1 h2 => by omega⟩
  | j + 1, fu + 1, i, C, hi, hf => by
    have hi96 : i < 96 := by omega
    rw [fX6_take_L26, if_neg (nI_ge hi96 (by omega)), lg_hold hi96, za_bnd, lg_own hi96, za_bnd, za_chk _ (by omega) (by omega), za_lt, nI_clamp (by omega), nI_add]
    obtain ⟨C', j1, j2, j3, j4⟩ := img26 j fu (i + 1) (wr C 122 i (C (17 + 1 + 4) i * nI 200 + C (17 + 1 + 5) i + nI 1)) (by omega) (by omega)
    refine ⟨C', j1, fun b hb => (j2 b hb).trans (za_wrc hb), fun k hk => (j3 k (by omega)).trans (za_wri (by omega)), fun k h1 h2 => ?_⟩
    by_cases e : k = i
    · subst e
      rw [j3 k (by omega), za_wrs]; rfl
    · rw [j4 k (by omega) h2]; unfold vS; rw [za_wra (by omega), za_wra (by omega)]
theorem img63 (hn : n ≤ 100) : ∀ j fu i C, C 32 0 = nI n → i + j = n → j < fu → ∃ C', fX6_take_L63 (17 + 1) (17 + 15) fu C N (nI i) = fX6_take_J106 (17 + 1) (17 + 15) C' N ∧ (∀ b, b ≠ 122 → C' b = C b) ∧ (∀ k, k < 96 + i → C' 122 k = C 122 k) ∧ ∀ q, i ≤ q → q < n → C' 122 (96 + q) = vP C q
  | j, 0, _, _, _, _, hf => by omega
  | 0, fu + 1, i, C, h0, hi, _ => by
    obtain rfl : i = n := by omega
    rw [fX6_take_L63, show C (17 + 15) 0 = nI i from h0, if_pos (nI_le (Nat.le_refl _) (by omega))]
    exact ⟨C, rfl, fun _ _ => rfl, fun _ _ => rfl, fun k h1 h2 => by omega⟩
  | j + 1, fu + 1, i, C, h0, hi, hf => by
    have hin : i < n := by omega
    rw [fX6_take_L63, show C (17 + 15) 0 = nI n from h0, if_neg (nI_ge hin (by omega)), if_neg (nI_ge (by omega) (by omega)), lf_coins h0 hn hin, za_bnd, lf_state h0 hn hin, za_bnd, nI_add, nI_add, za_chk _ (by omega) (by omega), za_lt, nI_clamp (by omega)]
    obtain ⟨C', j1, j2, j3, j4⟩ := img63 hn j fu (i + 1) (wr C 122 (96 + i) (C (17 + 15 + 2) i * nI 8 + C (17 + 15 + 3) i)) (by rw [za_wra (by omega)]; exact h0) (by omega) (by omega)
    refine ⟨C', j1, fun b hb => (j2 b hb).trans (za_wrc hb), fun k hk => (j3 k (by omega)).trans (za_wri (by omega)), fun q h1 h2 => ?_⟩
    by_cases e : q = i
    · subst e
      rw [j3 _ (by omega), za_wrs]; rfl
    · rw [j4 q (by omega) h2]; unfold vP; rw [za_wra (by omega), za_wra (by omega)]
theorem img22 : ∀ j fu i R, i + j = 96 → j < fu → RV 17 n t n (ab t) (t / 52) m C R → ∃ R', fX12_image_L22 fu R L (nI i) = fX12_image_L75 FU R' L 0 ∧ (∀ b, b ≠ 144 → R' b = R b) ∧ (∀ k, k < i → R' 144 k = R 144 k) ∧ ∀ k, i ≤ k → k < 96 → R' 144 k = vS C k
  | j, 0, _, _, _, hf, _ => by omega
  | 0, fu + 1, i, R, hi, _, h => by
    obtain rfl : i = 96 := by omega
    rw [fX12_image_L22, if_pos (nI_le (Nat.le_refl _) (by omega))]
    exact ⟨R, rfl, fun _ _ => rfl, fun _ _ => rfl, fun k h1 h2 => by omega⟩
  | j + 1, fu + 1, i, R, hi, hf, h => by
    have hi96 : i < 96 := by omega
    obtain ⟨k, k1, k2, k3, k4, _⟩ := rw_sec h.1 hi96
    rw [fX12_image_L22, if_neg (nI_ge hi96 (by omega)), rx_hold h hi96, za_bnd, za_bnd, rx_own h hi96, za_bnd]
    unfold fX12_image_J65
    simp only [za_lt, za_chk _ (show i < 196 by omega) (show 196 < 2 ^ 31 by omega), nI_clamp (show i < 2 ^ 31 by omega), nI_add]
    have hv : ∃ R1, (if C (17 + 5) i ≤ nI 1 then fX12_image_L22 fu (wr R 144 i (nI 200 * C (17 + 5) i + 0)) L (nI (i + 1)) else fX12_image_L22 fu (wr R 144 i (nI 200 * C (17 + 5) i + (C (17 + 6) i + nI 1))) L (nI (i + 1))) = fX12_image_L22 fu R1 L (nI (i + 1)) ∧ R1 = wr R 144 i (vS C i) := by
      by_cases q : C (17 + 5) i ≤ nI 1
      · rw [if_pos q]
        refine ⟨_, rfl, congrArg (wr R 144 i) ?_⟩
        have h1 : C (17 + 6) i = -1 := k4 (by rw [k1, nI_leI (by omega) (by omega)] at q; exact q)
        unfold vS
        rw [show C 23 i = -1 from h1, show C 22 i = C (17 + 5) i from rfl, show nI 1 = 1 from rfl]
        grind
      · rw [if_neg q]
        refine ⟨_, rfl, congrArg (wr R 144 i) ?_⟩
        unfold vS
        rw [show C 22 i = C (17 + 5) i from rfl, show C 23 i = C (17 + 6) i from rfl]
        grind
    obtain ⟨R1, e1, rfl⟩ := hv
    rw [e1]
    obtain ⟨R', j1, j2, j3, j4⟩ := img22 j fu (i + 1) (wr R 144 i (vS C i)) (by omega) (by omega) (rv_ot h (fun _ _ => rfl) (fun b hb => za_wrc (by omega)) (fun _ _ => za_wra (by omega)))
    refine ⟨R', j1, fun b hb => (j2 b hb).trans (za_wrc hb), fun k hk => (j3 k (by omega)).trans (za_wri (by omega)), fun k h1 h2 => ?_⟩
    by_cases e : k = i
    · subst e
      rw [j3 k (by omega), za_wrs]
    · exact j4 k (by omega) h2
theorem img75 : ∀ j fu i R, i + j = n → j < fu → RV 17 n t n (ab t) (t / 52) m C R → ∃ R', fX12_image_L75 fu R L (nI i) = fX12_image_L130 FU R' (wrd (wrd L 127 32 0) 127 33 0) 0 ∧ (∀ b, b ≠ 144 → R' b = R b) ∧ (∀ k, k < 96 + i → R' 144 k = R 144 k) ∧ ∀ q, i ≤ q → q < n → R' 144 (96 + q) = vP C q
  | j, 0, _, _, _, hf, _ => by omega
  | 0, fu + 1, i, R, hi, _, h => by
    obtain rfl : i = n := by omega
    have hn := rw_n100 h.1
    rw [fX12_image_L75, za_chk (n := 2124) _ (by omega) (by omega), nI_clamp (n := 2124) (by omega), rw_n h.1, if_pos (nI_le (Nat.le_refl _) (by omega)), za_lt, za_lt]
    exact ⟨R, rfl, fun _ _ => rfl, fun _ _ => rfl, fun k h1 h2 => by omega⟩
  | j + 1, fu + 1, i, R, hi, hf, h => by
    have hin : i < n := by omega
    have hn := rw_n100 h.1
    rw [fX12_image_L75, za_chk (n := 2124) _ (by omega) (by omega), nI_clamp (n := 2124) (by omega), rw_n h.1, if_neg (nI_ge hin (by omega)), rx_coin h hin, za_bnd, rx_st h hin, za_bnd, nI_add, nI_add, za_chk (n := 96 + i) _ (by omega) (by omega), za_lt, nI_clamp (n := 96 + i) (by omega)]
    have hv : nI 8 * C (17 + 17) i + C (17 + 18) i = vP C i := by
      unfold vP
      rw [show C 34 i = C (17 + 17) i from rfl, show C 35 i = C (17 + 18) i from rfl]
      grind
    rw [hv]
    obtain ⟨R', j1, j2, j3, j4⟩ := img75 j fu (i + 1) (wr R 144 (96 + i) (vP C i)) (by omega) (by omega) (rv_ot h (fun _ _ => rfl) (fun b hb => za_wrc (by omega)) (fun _ _ => za_wra (by omega)))
    refine ⟨R', j1, fun b hb => (j2 b hb).trans (za_wrc hb), fun k hk => (j3 k (by omega)).trans (za_wri (by omega)), fun q h1 h2 => ?_⟩
    by_cases e : q = i
    · subst e
      rw [j3 _ (by omega), za_wrs]
    · exact j4 q (by omega) h2
theorem img130 {K : Nat} (hK : K ≤ 196) (h : R 127 31 = nI K) : ∀ j fu i L, i + j = K → j < fu → L 127 32 = sumF (R 144) i → L 127 33 = weiF (R 144) i → ∃ L', fX12_image_L130 fu R L (nI i) = some (nI K, R, L') ∧ L' 127 32 = sumF (R 144) K ∧ L' 127 33 = weiF (R 144) K ∧ ∀ a, a ≠ 127 → L' a = L a
  | j, 0, _, _, _, hf, _, _ => by omega
  | 0, fu + 1, i, L, hi, _, h1, h2 => by
    obtain rfl : i = K := by omega
    rw [fX12_image_L130, h, if_pos (nI_le (Nat.le_refl _) (by omega))]
    exact ⟨L, rfl, h1, h2, fun _ _ => rfl⟩
  | j + 1, fu + 1, i, L, hi, hf, h1, h2 => by
    rw [fX12_image_L130, h, if_neg (nI_ge (by omega) (by omega)), za_chk _ (by omega) (by omega), za_lt, za_chk _ (by omega) (by omega), za_lt, nI_clamp (by omega), nI_add]
    obtain ⟨L', j1, j2, j3, j4⟩ := img130 hK h j fu (i + 1) (wrd (wrd L 127 32 (L 127 32 + (R 144 i).toInt64)) 127 33 (wrd L 127 32 (L 127 32 + (R 144 i).toInt64) 127 33 + (R 144 i).toInt64 * (nI (i + 1)).toInt64)) (by omega) (by omega) (by rw [wd_i (by omega), wd_s, h1]; rfl) (by rw [wd_s, wd_i (by omega), h2]; rfl)
    exact ⟨L', j1, j2, j3, fun a ha => (j4 a ha).trans (by rw [wd_c ha, wd_c ha])⟩
theorem sums_c {K : Nat} (hK : K ≤ 196) (h : C 121 1 = nI K) : fX6_sumNow C = some (sumF (C 122) K) ∧ fX6_weighedNow C = some (weiF (C 122) K) := by
  have s1 := sum_c hK h K FU 0 (by omega) (by rw [za_FU]; omega)
  have w1 := wei_c hK h K FU 0 (by omega) (by rw [za_FU]; omega)
  rw [nI_0] at s1 w1
  rw [show sumF (C 122) 0 = 0 from rfl] at s1
  rw [show weiF (C 122) 0 = 0 from rfl] at w1
  unfold fX6_sumNow fX6_weighedNow
  rw [za_lt, za_lt]
  exact ⟨s1, w1⟩
theorem wz1 {f : Nat → Int32} (L : Md) : wrd (wrd L 127 32 0) 127 33 0 127 32 = sumF f 0 := by rw [wd_i (by omega), wd_s]; rfl
theorem wz2 {f : Nat → Int32} (L : Md) : wrd (wrd L 127 32 0) 127 33 0 127 33 = weiF f 0 := by rw [wd_s]; rfl
theorem c_image (h : IV n t m C R N L) : OL C R N L (fX11_image C N) (fX12_image R L) := by
  have ih := iv_thr (v := 0) h
  have hn := rw_n100 h.1.1
  have h0 : C (17 + 15) 0 = nI n := h.1.1.2.1.1
  unfold fX11_image fX12_image fX6_take
  rw [za_lt, za_lt, h0, nI_add, za_chk _ (by omega) (by omega), za_lt, nI_clamp (by omega), rw_n ih.1.1, nI_add]
  obtain ⟨C1, c1, c2, c3, c4⟩ := img26 (N := N) 96 FU 0 (wr C 121 1 (nI (96 + n))) (by omega) (by rw [za_FU]; omega)
  obtain ⟨C2, d1, d2, d3, d4⟩ := img63 (N := N) (n := n) hn n FU 0 C1 (by rw [c2 32 (by omega), za_wra (by omega)]; exact h0) (by omega) (by rw [za_FU]; omega)
  have hr1 : RV 17 n t n (ab t) (t / 52) m C (wr (wr R 127 0 0) 127 31 (nI (96 + n))) := rv_ot ih.1 (fun _ _ => rfl) (fun b hb => za_wrc (by omega)) (fun j hj => za_wri (by omega))
  obtain ⟨R1, f1, f2, f3, f4⟩ := img22 (L := L) 96 FU 0 _ (by omega) (by rw [za_FU]; omega) hr1
  have hr2 : RV 17 n t n (ab t) (t / 52) m C R1 := rv_ot hr1 (fun _ _ => rfl) (fun b hb => f2 b (by omega)) (fun j hj => by rw [f2 127 (by omega)])
  obtain ⟨R2, g1, g2, g3, g4⟩ := img75 (L := L) n FU 0 R1 (by omega) (by rw [za_FU]; omega) hr2
  have h31 : R2 127 31 = nI (96 + n) := by rw [g2 127 (by omega), f2 127 (by omega), za_wrs]
  obtain ⟨L', u1, u2, u3, u4⟩ := img130 (K := 96 + n) (R := R2) (by omega) h31 (96 + n) FU 0 (wrd (wrd L 127 32 0) 127 33 0) (by omega) (by rw [za_FU]; omega) (wz1 L) (wz2 L)
  rw [nI_0] at c1 d1 f1 g1 u1
  have h121 : C2 121 1 = nI (96 + n) := by rw [d2 121 (by omega), c2 121 (by omega), za_wrs]
  have s1 := sums_c (C := C2) (K := 96 + n) (by omega) h121
  have hval : ∀ i, i < 96 + n → R2 144 i = C2 122 i := fun i hi => by
    by_cases q : i < 96
    · rw [g3 i (by omega), f4 i (by omega) q, d3 i (by omega), c4 i (by omega) q]
      unfold vS; rw [za_wra (by omega), za_wra (by omega)]
    · have e1 := g4 (i - 96) (by omega) (by omega)
      have e2 := d4 (i - 96) (by omega) (by omega)
      rw [show 96 + (i - 96) = i by omega] at e1 e2
      rw [e1, e2]
      unfold vP; rw [c2 34 (by omega), c2 35 (by omega), za_wra (by omega), za_wra (by omega)]
  have eC : ∀ b, b ≠ 121 → b ≠ 122 → C2 b = C b := fun b b1 b2 => by rw [d2 b b2, c2 b b2, za_wrc b1]
  have eR : ∀ b, b ≠ 127 → b ≠ 144 → R2 b = R b := fun b b1 b2 => by rw [g2 b b2, f2 b b2, za_wrc b1, za_wrc b1]
  have e7 : ∀ j, j ≠ 0 → j ≠ 31 → R2 127 j = R 127 j := fun j j1 j2 => by rw [g2 127 (by omega), f2 127 (by omega), za_wri j2, za_wri j1]
  refine ⟨nI (96 + n), C2, R2, wrd (wrd N 121 2 (sumF (C2 122) (96 + n))) 121 3 (weiF (C2 122) (96 + n)), L', n, t, m, ?_, ?_, ?_, fun a h1 h2 => eC a (by omega) (by omega), fun a h1 => eR a (by omega) (by omega), by rw [g2 127 (by omega), f2 127 (by omega), za_wri (by omega), za_wrs], fun a ha => by rw [wd_c ha, wd_c ha], fun a ha => (u4 a ha).trans (by rw [wd_c ha, wd_c ha])⟩
  · rw [c1, d1]
    unfold fX6_take_J106
    rw [s1.1, za_bnd, za_lt, s1.2, za_bnd, za_lt, h121, za_bn3]
  · rw [f1, g1, u1]
  · exact iv_ot h (fun b hb => eC b (by omega) (by omega)) (fun b hb => eR b (by omega) (by omega)) (fun j hj => e7 j (by omega) (by omega)) (AL_c h.2.1 (fun b _ _ => eC b (by omega) (by omega)) (eR _ (by omega) (by omega)) (eR _ (by omega) (by omega))) (fun j _ _ => by rw [eC 0 (by omega) (by omega)]) (IP_c h.2.2.2.2.2.2.1 (by rw [eC 0 (by omega) (by omega)]) (eC 123 (by omega) (by omega)) (e7 9 (by omega) (by omega)) (eR 134 (by omega) (by omega))) (by rw [eC 0 (by omega) (by omega), e7 13 (by omega) (by omega)]; exact h.2.2.2.2.2.2.2.1) (IC_c h.2.2.2.2.2.2.2.2.2.1 (by rw [eC 0 (by omega) (by omega)]) (by rw [eC 0 (by omega) (by omega)]) (eC 124 (by omega) (by omega)) (eC 125 (by omega) (by omega)) (e7 28 (by omega) (by omega)) (e7 29 (by omega) (by omega)) (eR 142 (by omega) (by omega)) (eR 143 (by omega) (by omega))) ⟨96 + n, by omega, h121, h31, hval, by rw [u2, wd_i (by omega), wd_s]; exact sumF_con _ hval, by rw [u3, wd_s]; exact weiF_con _ hval⟩
end AV
