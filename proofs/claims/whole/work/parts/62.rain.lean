section RA2
variable {w n t x a y m p : Nat} {C R : Mc}
theorem fal_o {K : Mc → Int32 → Int32 → Int32 → Int32 → Int32 → Option Int32} {X1 X2 X3 X4 X5 : Int32} (h : X5 < 0 ∨ nI 4 ≤ X5) : fal1 K R X1 X2 X3 X4 X5 = K R X1 X2 X3 X4 (X5 + nI 2) := by
  unfold fal1 fX12_isZone fX12_fallen_J131
  by_cases h1 : X5 < 0
  · rw [if_pos h1, za_bnd, if_pos rfl]
  · rw [if_neg h1, if_pos (h.resolve_left h1), za_bnd, if_pos rfl]
theorem rain_eq {z : Nat} (h : AL C R) (hz : z < 4) (ht : t ≤ 1000) : ∃ r, r ≤ 500 ∧ fX0_rainAt C (nI z) (nI t) = some (nI r) ∧ (R 127 7 < 0 → fX12_fallen R (nI z) (nI t) = some (nI r)) := by
  obtain ⟨k, k1, k2, k3, k4⟩ := h z hz
  unfold fX0_rainAt fX12_fallen
  rw [told_c hz ht k1 k2, za_bnd, za_chk _ hz (by omega), nI_clamp (n := z) (by omega), k3]
  by_cases h1 : t < k
  · obtain ⟨e, hr⟩ := k4 t h1
    rw [if_pos h1, if_neg za_n10, if_pos (nI_lt h1 (by omega)), za_chk _ hz (by omega), za_chk _ (by omega) (by omega), nI_clamp (n := t) (by omega), show 2 + 1 + z = 3 + z by omega]
    simp only [za_mul, nI_add]
    rw [za_chk (n := 1000 * z + t) _ (by omega) (by omega), nI_clamp (n := 1000 * z + t) (by omega), ← e]
    rcases hr with hr | ⟨r, r1, r2⟩
    · rw [hr, if_pos rfl, if_pos za_m1lt0, za_lt]
      -- the low one
      have low : ∃ c s, (c = 0 ∧ s = 0 ∧ fX0_isNumber C (nI z - nI 1) (nI t) = some 0 ∨ c = 1 ∧ s ≤ 500 ∧ 1 ≤ z ∧ fX0_isNumber C (nI z - nI 1) (nI t) = some (nI 1) ∧ C (3 + (z - 1)) t = nI s) ∧ ∀ K, fal1 K R (nI z) (nI t) (nI 0) (nI 0) (nI z - nI 1) = K R (nI z) (nI t) (nI c) (nI s) (nI (z + 1)) := by
        by_cases h0 : z = 0
        · subst h0
          have e1 : nI 0 - nI 1 = -1 := by decide +kernel
          refine ⟨0, 0, Or.inl ⟨rfl, rfl, by rw [e1]; exact num_n _ (Or.inl za_m1lt0)⟩, fun K => ?_⟩
          rw [e1, fal_o (Or.inl za_m1lt0)]; rfl
        · have e1 : nI z - nI 1 = nI (z - 1) := by rw [za_sub (by omega)]
          rcases fal_n (z := z - 1) (o := z) (t := t) (c := 0) (s := 0) (K := fun _ _ _ _ _ _ => none) (by omega) (by omega) (by omega) ht h with ⟨r, q1, q2, q3, _⟩ | ⟨q1, _⟩
          · refine ⟨1, r, Or.inr ⟨rfl, q2, by omega, by rw [e1]; exact q1, q3⟩, fun K => ?_⟩
            rcases fal_n (z := z - 1) (o := z) (t := t) (c := 0) (s := 0) (K := K) (by omega) (by omega) (by omega) ht h with ⟨r', p1, p2, p3, p4⟩ | ⟨p1, _⟩
            · obtain rfl : r' = r := za_inj (by omega) (by omega) (p3.symm.trans q3)
              rw [e1, p4, show z - 1 + 2 = z + 1 by omega, show 0 + r' = r' by omega]
            · rw [q1] at p1; exact absurd (Option.some.inj p1) za_n10
          · refine ⟨0, 0, Or.inl ⟨rfl, rfl, by rw [e1]; exact q1⟩, fun K => ?_⟩
            rcases fal_n (z := z - 1) (o := z) (t := t) (c := 0) (s := 0) (K := K) (by omega) (by omega) (by omega) ht h with ⟨r', p1, p2, p3, p4⟩ | ⟨p1, p2⟩
            · rw [q1] at p1; exact absurd (Option.some.inj p1).symm za_n10
            · rw [e1, p2, show z - 1 + 2 = z + 1 by omega]
      obtain ⟨c, s, hcs, hlow⟩ := low
      have hc3 : c ≤ 1 ∧ s ≤ 500 := by rcases hcs with ⟨q1, q2, _⟩ | ⟨q1, q2, _⟩ <;> omega
      have high : ∃ c' s', (c' = c ∧ s' = s ∧ fX0_isNumber C (nI (z + 1)) (nI t) = some 0 ∨ c' = c + 1 ∧ z + 1 < 4 ∧ fX0_isNumber C (nI (z + 1)) (nI t) = some (nI 1) ∧ ∃ r, r ≤ 500 ∧ s' = s + r ∧ C (3 + (z + 1)) t = nI r) ∧ ∀ K, fal1 K R (nI z) (nI t) (nI c) (nI s) (nI (z + 1)) = K R (nI z) (nI t) (nI c') (nI s') (nI (z + 3)) := by
        by_cases h0 : z = 3
        · subst h0
          refine ⟨c, s, Or.inl ⟨rfl, rfl, num_n _ (Or.inr (by decide +kernel))⟩, fun K => ?_⟩
          rw [fal_o (Or.inr (by decide +kernel)), nI_add]
        · rcases fal_n (z := z + 1) (o := z) (t := t) (c := c) (s := s) (K := fun _ _ _ _ _ _ => none) (by omega) (by omega) (by omega) ht h with ⟨r, q1, q2, q3, _⟩ | ⟨q1, _⟩
          · refine ⟨c + 1, s + r, Or.inr ⟨rfl, by omega, q1, r, q2, rfl, q3⟩, fun K => ?_⟩
            rcases fal_n (z := z + 1) (o := z) (t := t) (c := c) (s := s) (K := K) (by omega) (by omega) (by omega) ht h with ⟨r', p1, p2, p3, p4⟩ | ⟨p1, _⟩
            · obtain rfl : r' = r := za_inj (by omega) (by omega) (p3.symm.trans q3)
              rw [p4]
            · rw [q1] at p1; exact absurd (Option.some.inj p1) za_n10
          · refine ⟨c, s, Or.inl ⟨rfl, rfl, q1⟩, fun K => ?_⟩
            rcases fal_n (z := z + 1) (o := z) (t := t) (c := c) (s := s) (K := K) (by omega) (by omega) (by omega) ht h with ⟨r', p1, p2, p3, p4⟩ | ⟨p1, p2⟩
            · rw [q1] at p1; exact absurd (Option.some.inj p1).symm za_n10
            · rw [p2]
      obtain ⟨c', s', hcs', hhigh⟩ := high
      have hc4 : c' ≤ 2 ∧ s' ≤ 1000 := by rcases hcs' with ⟨q1, q2, _⟩ | ⟨q1, _, _, r, q2, q3, _⟩ <;> omega
      have hloop : fX12_fallen_L63 FU R (nI z) (nI t) 0 0 (nI z - nI 1) = (if nI c' = 0 then (some (0)) else chz (nI c') ((some ((nI s' / nI c'))))) := by
        rw [show FU = 99997 + 1 + 1 + 1 from rfl, fal_s, za_0, hlow, fal_s, hhigh, fal_s]
        have n1 : ¬ nI z + nI 1 < nI z - nI 1 := by
          by_cases h0 : z = 0
          · subst h0; decide +kernel
          · rw [nI_add, za_sub (by omega)]; exact nI_nlt (by omega) (by omega)
        rw [if_neg n1, nI_add, if_neg (nI_nlt (Nat.le_refl _) (by omega)), if_pos (nI_lt (by omega) (by omega)), nI_0]
      rw [hloop]
      rcases hcs with ⟨rfl, rfl, hl⟩ | ⟨rfl, hs, hz1, hl, hlv⟩
      · rw [hl, za_bnd]
        rcases hcs' with ⟨rfl, rfl, hh⟩ | ⟨rfl, hz4, hh, r, r1, rfl, hhv⟩
        · rw [hh, za_bnd, if_pos rfl]
          unfold fX0_rainAt_J85
          rw [if_pos rfl, if_pos rfl, if_pos (show nI 0 = 0 from nI_0)]
          exact ⟨0, by omega, rfl, fun h7 => by rw [if_pos h7, za_chk _ hz (by omega)]; rfl⟩
        · rw [hh, za_bnd, if_pos rfl]
          unfold fX0_rainAt_J85
          rw [if_pos rfl, if_neg za_n10, nI_add, za_chk _ hz4 (by omega), za_chk _ (by omega) (by omega), nI_clamp (n := z + 1) (by omega), nI_clamp (n := t) (by omega), show 2 + 1 + (z + 1) = 3 + (z + 1) by omega, hhv]
          exact ⟨r, r1, rfl, fun h7 => by rw [if_pos h7, za_chk _ hz (by omega), if_neg (by decide +kernel), za_chz _ (by decide +kernel), za_div (by omega) (by omega) (by omega), Nat.zero_add, Nat.zero_add, Nat.div_one]⟩
      · rw [hl, za_bnd]
        have elz : nI z - nI 1 = nI (z - 1) := by rw [za_sub (by omega)]
        rcases hcs' with ⟨rfl, rfl, hh⟩ | ⟨rfl, hz4, hh, r, r1, rfl, hhv⟩
        · rw [hh, za_bnd, if_neg za_n10, if_pos rfl]
          unfold fX0_rainAt_J85
          rw [if_neg za_n10, elz, za_chk _ (by omega) (by omega), za_chk _ (by omega) (by omega), nI_clamp (n := z - 1) (by omega), nI_clamp (n := t) (by omega), show 2 + 1 + (z - 1) = 3 + (z - 1) by omega, hlv]
          exact ⟨s', hs, rfl, fun h7 => by rw [if_pos h7, za_chk _ hz (by omega), if_neg (by decide +kernel), za_chz _ (by decide +kernel), za_div (by omega) (by omega) (by omega), Nat.div_one]⟩
        · rw [hh, za_bnd, if_neg za_n10, if_neg za_n10, elz, za_chk _ (by omega) (by omega), za_chk _ (by omega) (by omega), za_chk _ hz4 (by omega), za_chk _ (by omega) (by omega), nI_clamp (n := z - 1) (by omega), nI_clamp (n := z + 1) (by omega), show 2 + 1 + (z - 1) = 3 + (z - 1) by omega, show 2 + 1 + (z + 1) = 3 + (z + 1) by omega, hlv, hhv, nI_add, za_div (by omega) (by omega) (by omega)]
          exact ⟨(s + r) / 2, by omega, rfl, fun h7 => by rw [if_pos h7, za_chk _ hz (by omega), if_neg (by decide +kernel), za_chz _ (by decide +kernel)]⟩
    · rw [r2, if_neg (za_nm1 (by omega)), if_neg (nI_pos (by omega)), za_chk (n := t) _ (by omega) (by omega)]
      exact ⟨r, r1, rfl, fun h7 => by rw [if_pos h7, za_chk _ hz (by omega), za_chk _ (by omega) (by omega)]⟩
  · rw [if_neg h1, if_pos rfl, if_neg (nI_nlt (by omega) (by omega))]
    exact ⟨10, by omega, rfl, fun h7 => by rw [if_pos h7, za_chk _ hz (by omega)]⟩
end RA2
