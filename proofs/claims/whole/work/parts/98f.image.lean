/-! ===== the image and its sums ===== -/
def sumF (f : Nat → Int32) : Nat → Int64
  | 0 => 0
  | k + 1 => sumF f k + (f k).toInt64
def weiF (f : Nat → Int32) : Nat → Int64
  | 0 => 0
  | k + 1 => weiF f k + (f k).toInt64 * (nI (k + 1)).toInt64
theorem sumF_con {f g : Nat → Int32} : ∀ k, (∀ i, i < k → f i = g i) → sumF f k = sumF g k
  | 0, _ => rfl
  | k + 1, h => by rw [sumF, sumF, sumF_con k (fun i hi => h i (by omega)), h k (by omega)]
theorem weiF_con {f g : Nat → Int32} : ∀ k, (∀ i, i < k → f i = g i) → weiF f k = weiF g k
  | 0, _ => rfl
  | k + 1, h => by rw [weiF, weiF, weiF_con k (fun i hi => h i (by omega)), h k (by omega)]
section AU
variable {n t m p c : Nat} {C R C' R' C1 R2 : Mc} {N L N' L' : Md} {e : Nat → Int32}
theorem sum_c {K : Nat} (hK : K ≤ 196) (h : C 121 1 = nI K) : ∀ j fu i, i + j = K → j < fu → fX6_sumNow_L4 fu C (sumF (C 122) i) (nI i) = some (sumF (C 122) K)
  | j, 0, _, _, hf => by omega
  | 0, fu + 1, i, hi, _ => by
    obtain rfl : i = K := by omega
    rw [fX6_sumNow_L4, h, if_pos (nI_le (Nat.le_refl _) (by omega))]
  | j + 1, fu + 1, i, hi, hf => by
    rw [fX6_sumNow_L4, h, if_neg (nI_ge (by omega) (by omega)), if_neg (nI_ge (by omega) (by omega)), za_chk _ (by omega) (by omega), za_lt, nI_clamp (by omega), nI_add]
    exact sum_c hK h j fu (i + 1) (by omega) (by omega)
theorem wei_c {K : Nat} (hK : K ≤ 196) (h : C 121 1 = nI K) : ∀ j fu i, i + j = K → j < fu → fX6_weighedNow_L4 fu C (weiF (C 122) i) (nI i) = some (weiF (C 122) K)
  | j, 0, _, _, hf => by omega
  | 0, fu + 1, i, hi, _ => by
    obtain rfl : i = K := by omega
    rw [fX6_weighedNow_L4, h, if_pos (nI_le (Nat.le_refl _) (by omega))]
  | j + 1, fu + 1, i, hi, hf => by
    rw [fX6_weighedNow_L4, h, if_neg (nI_ge (by omega) (by omega)), if_neg (nI_ge (by omega) (by omega)), za_chk _ (by omega) (by omega), za_lt, nI_clamp (by omega), nI_add]
    exact wei_c hK h j fu (i + 1) (by omega) (by omega)
/-- what the reference says when all numbers are taken together -/
def chkR (M : Mc) (N : Md) (X1 X3 : Int64) : Option (Int32 × Mc) := (if (lg_cmp X1 (0 : Int64)) = 0 then (if (lg_cmp X3 (0 : Int64)) = 0 then (some ((-1), M)) else (fX12_check_J77 M N X1 X3)) else (fX12_check_J77 M N X1 X3))
theorem chk_r {K : Nat} {x y : Int64} (hK : K ≤ 196) (h : R 127 31 = nI K) : ∀ j fu i, i + j = K → j < fu → fX12_check_L20 fu R L (x + sumF (R 144) i) (y + weiF (R 144) i) (nI i) = chkR R L (x + sumF (R 144) K) (y + weiF (R 144) K)
  | j, 0, _, _, hf => by omega
  | 0, fu + 1, i, hi, _ => by
    obtain rfl : i = K := by omega
    rw [fX12_check_L20, h, if_pos (nI_le (Nat.le_refl _) (by omega))]
    rfl
  | j + 1, fu + 1, i, hi, hf => by
    rw [fX12_check_L20, h, if_neg (nI_ge (by omega) (by omega)), za_chk _ (by omega) (by omega), za_lt, za_chk _ (by omega) (by omega), za_lt, nI_clamp (by omega), nI_add, Int64.add_assoc, Int64.add_assoc]
    exact chk_r hK h j fu (i + 1) (by omega) (by omega)
theorem c_check (h : IV n t m C R N L) : OR eB n t m C R N L (oV (fX11_check C N)) (fX12_check R L) := by
  obtain ⟨K, i1, i2, i3, i4, i5, i6⟩ := h.2.2.2.2.2.2.2.2.2.2.1
  have h31 : wr R 127 0 0 127 31 = nI K := by rw [za_wri (by omega)]; exact i3
  have e144 : wr R 127 0 0 144 = R 144 := za_wrc (by omega)
  have hs : sumF (R 144) K = sumF (C 122) K := sumF_con K i4
  have hw : weiF (R 144) K = weiF (C 122) K := weiF_con K i4
  unfold fX11_check fX12_check fX6_verdict fX6_sumNow fX6_weighedNow
  simp only [za_lt]
  have s1 := sum_c i1 i2 K FU 0 (by omega) (by rw [za_FU]; omega)
  have w1 := wei_c i1 i2 K FU 0 (by omega) (by rw [za_FU]; omega)
  have r1 := chk_r (R := wr R 127 0 0) (L := L) (x := -(L 127 32)) (y := -(L 127 33)) i1 h31 K FU 0 (by omega) (by rw [za_FU]; omega)
  rw [nI_0] at s1 w1 r1
  rw [e144, hs, hw, i5, i6] at r1
  rw [show sumF (C 122) 0 = 0 from rfl] at s1
  rw [show weiF (C 122) 0 = 0 from rfl] at w1
  rw [show sumF (R 144) 0 = 0 from rfl, show weiF (R 144) 0 = 0 from rfl, Int64.add_zero, Int64.add_zero] at r1
  rw [s1, w1, za_bnd, za_bnd, i5, i6, r1]
  have a1 : -N 121 2 + sumF (C 122) K = sumF (C 122) K - N 121 2 := by rw [Int64.sub_eq_add_neg, Int64.add_comm]
  have a2 : -N 121 3 + weiF (C 122) K = weiF (C 122) K - N 121 3 := by rw [Int64.sub_eq_add_neg, Int64.add_comm]
  rw [a1, a2]
  obtain ⟨X, hX⟩ : ∃ X, sumF (C 122) K - N 121 2 = X := ⟨_, rfl⟩
  obtain ⟨Y, hY⟩ : ∃ Y, weiF (C 122) K - N 121 3 = Y := ⟨_, rfl⟩
  rw [hX, hY]
  unfold chkR
  have fin : OR eB n t m C R N L (oV (bnd (fX6_verdict_J34 C N X Y) fun v2 => some v2)) (fX12_check_J77 (wr R 127 0 0) L X Y) := by
    unfold fX6_verdict_J34 fX12_check_J77
    rw [i2, h31]
    simp only [za_lt]
    by_cases q1 : lg_cmp X 0 = 0
    · rw [if_pos q1, if_pos q1]; exact or_v (b := -2) h rfl rfl
    · rw [if_neg q1, if_neg q1]
      have hX0 : X ≠ 0 := fun z => q1 (by rw [z]; decide)
      have hch : ∀ {β : Type} (x : Option β), chl X x = x := fun x => if_neg hX0
      rw [hch, hch]
      by_cases q2 : lg_cmp (lrm Y X) 0 = 0
      · rw [if_pos q2, if_pos q2, hch, hch, hch]
        by_cases q3 : lg_cmp (Y / X) 1 < 0
        · rw [if_pos q3, if_pos q3]; exact or_v (b := -2) h rfl rfl
        · rw [if_neg q3, if_neg q3, hch]
          by_cases q4 : 0 < lg_cmp (Y / X) (nI K).toInt64
          · rw [if_pos q4, if_pos q4]; exact or_v (b := -2) h rfl rfl
          · rw [if_neg q4, if_neg q4]; exact or_v h rfl rfl
      · rw [if_neg q2, if_neg q2]; exact or_v (b := -2) h rfl (by first | rfl | exact hch _)
  by_cases q1 : lg_cmp X 0 = 0
  · simp only [if_pos q1]
    by_cases q2 : lg_cmp Y 0 = 0
    · simp only [if_pos q2]; exact or_v (b := -1) h rfl rfl
    · simp only [if_neg q2]; exact fin
  · simp only [if_neg q1]; exact fin
end AU
