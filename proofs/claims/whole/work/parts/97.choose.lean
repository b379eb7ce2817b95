section AP
variable {n t m p c : Nat} {C R C' R' C1 R2 : Mc} {N L N' L' : Md} {e : Nat → Int32}
theorem wr_same {M : Mc} {a i : Nat} {v : Int32} (h : M a i = v) : wr M a i v = M := by subst h; exact za_wrid M a i
/-- one who chooses before p -/
def tP (C : Mc) (t p v q : Nat) : Prop := (C 39 q ≠ -1 ∧ C 41 q = 0) ∧ ¬ C 39 p ≤ C 39 q ∧ ¬ C (17 + 18) q < nI 2 ∧ ¬ nI v ≤ nI t - C 43 q
theorem may_c {q : Nat} (h : C (17 + 15) 0 = nI n) (hn : n ≤ 100) (hq : q < n) : fX3_mayChooseStill C (17 + 15) (nI q) = some (if C 39 q ≠ -1 ∧ C 41 q = 0 then nI 1 else 0) := by
  unfold fX3_mayChooseStill
  rw [lf_one h hn hq, za_bnd, if_neg za_n10, za_chk _ (by omega) (by omega), za_chk _ (by omega) (by omega), nI_clamp (by omega)]
  by_cases h1 : C 39 q = -1
  · rw [if_pos (show C (17 + 15 + 7) q = -1 from h1), if_neg (fun z => z.1 h1)]
  · rw [if_neg (show ¬ C (17 + 15 + 7) q = -1 from h1)]
    by_cases h2 : C 41 q = 0
    · rw [if_pos (show C (17 + 15 + 9) q = 0 from h2), if_pos ⟨h1, h2⟩]
    · rw [if_neg (show ¬ C (17 + 15 + 9) q = 0 from h2), if_neg (fun z => h2 z.2)]
theorem wait_L {v : Nat} (h : C (17 + 15) 0 = nI n) (hn : n ≤ 100) (hp : p < n) : ∀ k fu i, i + k = n → k < fu → ((∃ q, i ≤ q ∧ q < n ∧ tP C t p v q) → fX3_mustWait_L3 (17 + 15) fu C (nI p) (nI t) (nI v) (nI i) = some (nI 1)) ∧ ((∀ q, i ≤ q → q < n → ¬ tP C t p v q) → fX3_mustWait_L3 (17 + 15) fu C (nI p) (nI t) (nI v) (nI i) = some 0)
  | k, 0, _, _, hf => by omega
  | 0, fu + 1, i, hi, _ => by
    obtain rfl : i = n := by omega
    rw [fX3_mustWait_L3, h, if_pos (nI_le (Nat.le_refl _) (by omega))]
    exact ⟨fun ⟨q, q1, q2, _⟩ => by omega, fun _ => rfl⟩
  | k + 1, fu + 1, i, hi, hf => by
    obtain ⟨g1, g2⟩ := wait_L (v := v) h hn hp k fu (i + 1) (by omega) (by omega)
    have hin : i < n := by omega
    haveI hdec : Decidable (tP C t p v i) := by unfold tP; exact inferInstance
    have hstep : fX3_mustWait_L3 (17 + 15) (fu + 1) C (nI p) (nI t) (nI v) (nI i) = if tP C t p v i then some (nI 1) else fX3_mustWait_L3 (17 + 15) fu C (nI p) (nI t) (nI v) (nI (i + 1)) := by
      rw [fX3_mustWait_L3, h, if_neg (nI_ge hin (by omega)), if_neg (nI_ge (by omega) (by omega)), may_c h hn hin, za_bnd, ite01]
      unfold fX3_mustWait_J47 fX3_mustWait_J48 fX3_mustWait_J79
      simp only [nI_add]
      by_cases h1 : C 39 i ≠ -1 ∧ C 41 i = 0
      · rw [if_pos h1, za_chk _ (by omega) (by omega), nI_clamp (by omega), lf_order h hn hp, za_bnd]
        by_cases h2 : C 39 p ≤ C 39 i
        · rw [if_pos (show C (17 + 15 + 7) p ≤ C (17 + 15 + 7) i from h2), if_pos trivial, if_neg (fun z => z.2.1 h2)]
        · rw [if_neg (show ¬ C (17 + 15 + 7) p ≤ C (17 + 15 + 7) i from h2), if_neg za_n10, lf_here h hn hin, za_bnd, ite10]
          by_cases h3 : C (17 + 18) i < nI 2
          · rw [if_pos (show C (17 + 15 + 3) i < nI 2 from h3), if_neg (fun z => z.2.2.1 h3)]
          · rw [if_neg (show ¬ C (17 + 15 + 3) i < nI 2 from h3), za_chk _ (by omega) (by omega)]
            by_cases h4 : nI v ≤ nI t - C 43 i
            · rw [if_pos (show nI v ≤ nI t - C (17 + 15 + 11) i from h4), if_neg (fun z => z.2.2.2 h4)]
            · rw [if_neg (show ¬ nI v ≤ nI t - C (17 + 15 + 11) i from h4), if_pos ⟨h1, h2, h3, h4⟩]
      · rw [if_neg h1, if_pos trivial, if_neg (fun z => h1 z.1)]
    rw [hstep]
    by_cases ht : tP C t p v i
    · rw [if_pos ht]
      exact ⟨fun _ => rfl, fun z => absurd ht (z i (Nat.le_refl _) hin)⟩
    · rw [if_neg ht]
      refine ⟨fun ⟨q, q1, q2, q3⟩ => g1 ⟨q, ?_, q2, q3⟩, fun z => g2 (fun q q1 q2 => z q (by omega) q2)⟩
      by_cases e : q = i
      · subst e; exact absurd q3 ht
      · omega
/-- the same of the reference's orders -/
def rP (C R : Mc) (n t v k : Nat) : Prop := ∀ q, q < n → R 128 (1780 + 3 * k) = nI q → C 41 q = 0 ∧ ¬ C (17 + 18) q < nI 2 ∧ ¬ nI v ≤ nI t - C 43 q
theorem turn_L {v kp no : Nat} (h : RV 17 n t n (ab t) (t / 52) m C R) (ho : IO n C R) (hno : C 32 3 = nI no) (hno1 : no ≤ 100) (hkp : kp ≤ no) : ∀ k fu i, i + k = kp → k < fu → ((∃ q, i ≤ q ∧ q < kp ∧ rP C R n t v q) → fX12_isTurn_L10 fu R (nI kp) (nI v) (nI i) = some (0, R)) ∧ ((∀ q, i ≤ q → q < kp → ¬ rP C R n t v q) → fX12_isTurn_L10 fu R (nI kp) (nI v) (nI i) = some (nI 1, R))
  | k, 0, _, _, hf => by omega
  | 0, fu + 1, i, hi, _ => by
    obtain rfl : i = kp := by omega
    rw [fX12_isTurn_L10, if_pos (nI_le (Nat.le_refl _) (by omega))]
    exact ⟨fun ⟨q, q1, q2, _⟩ => by omega, fun _ => rfl⟩
  | k + 1, fu + 1, i, hi, hf => by
    obtain ⟨g1, g2⟩ := turn_L (v := v) h ho hno hno1 hkp k fu (i + 1) (by omega) (by omega)
    have hn := rw_n100 h.1
    obtain ⟨no', i1, i2, i3, i4⟩ := ho
    obtain rfl : no' = no := za_inj (by rw [i2]; have := cn_le n (fun p => decide (C 39 p ≠ -1)); omega) (by omega) (i1.symm.trans hno)
    obtain ⟨q, q1, q2, q3⟩ := i4 i (by omega)
    have q4 : R 128 (1780 + 3 * i + 2) = C 41 q ∧ isZ (C 41 q) := by
      rcases i3 q q1 with ⟨z, _⟩ | ⟨k', k1, k2, k3, k4, k5, k6, _⟩
      · rw [q2] at z; exact absurd z (za_nm1 (by omega))
      · obtain rfl : k' = i := za_inj (by omega) (by omega) (k2.symm.trans q2)
        exact ⟨k5, k6⟩
    have hP : rP C R n t v i ↔ (C 41 q = 0 ∧ ¬ C (17 + 18) q < nI 2 ∧ ¬ nI v ≤ nI t - C 43 q) := by
      refine ⟨fun z => z q q1 q3, fun z q' hq' e => ?_⟩
      obtain rfl : q = q' := za_inj (by omega) (by omega) (q3.symm.trans e)
      exact z
    have hstep : fX12_isTurn_L10 (fu + 1) R (nI kp) (nI v) (nI i) = if (C 41 q = 0 ∧ ¬ C (17 + 18) q < nI 2 ∧ ¬ nI v ≤ nI t - C 43 q) then some (0, R) else fX12_isTurn_L10 fu R (nI kp) (nI v) (nI (i + 1)) := by
      rw [fX12_isTurn_L10, if_neg (nI_ge (by omega) (by omega))]
      unfold fX12_isTurn_J79
      simp only [za_mul, nI_add, ni0, za_lt]
      rw [za_chk (n := 1780 + 3 * i) _ (by omega) (by omega), nI_clamp (n := 1780 + 3 * i) (by omega), q3, za_chk (n := 1780 + 3 * i + 2) _ (by omega) (by omega), nI_clamp (n := 1780 + 3 * i + 2) (by omega), q4.1]
      by_cases h1 : C 41 q = 0
      · rw [if_pos h1, rx_here h q1, za_bnd, ite10]
        by_cases h3 : C (17 + 18) q < nI 2
        · rw [if_pos h3, if_neg (fun z => z.2.1 h3)]
        · rw [if_neg h3, za_chk _ (by omega) (by omega), nI_clamp (by omega), rw_t h.1, rf_per (by omega) (by omega), za_bnd, ra_land h.1.1 (by omega)]
          by_cases h4 : nI v ≤ nI t - C 43 q
          · rw [if_pos (show nI v ≤ nI t - C (17 + 26) q from h4), if_neg (fun z => z.2.2 h4)]
          · rw [if_neg (show ¬ nI v ≤ nI t - C (17 + 26) q from h4), if_pos ⟨h1, h3, h4⟩]
      · rw [if_neg h1, if_neg (fun z => h1 z.1)]
    rw [hstep]
    by_cases ht : (C 41 q = 0 ∧ ¬ C (17 + 18) q < nI 2 ∧ ¬ nI v ≤ nI t - C 43 q)
    · rw [if_pos ht]
      exact ⟨fun _ => rfl, fun z => absurd (hP.mpr ht) (z i (Nat.le_refl _) (by omega))⟩
    · rw [if_neg ht]
      refine ⟨fun ⟨q', w1, w2, w3⟩ => g1 ⟨q', ?_, w2, w3⟩, fun z => g2 (fun q' w1 w2 => z q' (by omega) w2)⟩
      by_cases e : q' = i
      · subst e; exact absurd (hP.mp w3) ht
      · omega
theorem turn_eq {v kp : Nat} (h : RV 17 n t n (ab t) (t / 52) m C R) (ho : IO n C R) (hp : p < n) (hk : C 39 p = nI kp) (hkp : kp < 100) : ((∃ q, q < n ∧ tP C t p v q) ∧ ∃ q, q < kp ∧ rP C R n t v q) ∨ ((∀ q, q < n → ¬ tP C t p v q) ∧ ∀ q, q < kp → ¬ rP C R n t v q) := by
  have hn := rw_n100 h.1
  obtain ⟨no, i1, i2, i3, i4⟩ := ho
  have hno : no ≤ n := by rw [i2]; exact cn_le _ _
  have hkno : kp < no := by
    rcases i3 p hp with ⟨z, _⟩ | ⟨k', k1, k2, _⟩
    · rw [hk] at z; exact absurd z (za_nm1 (by omega))
    · have := za_inj (by omega) (by omega) (k2.symm.trans hk); omega
  by_cases ht : ∃ q, q < n ∧ tP C t p v q
  · left
    refine ⟨ht, ?_⟩
    obtain ⟨q, q1, ⟨a1, a2⟩, a3, a4, a5⟩ := ht
    rcases i3 q q1 with ⟨z, _⟩ | ⟨k', k1, k2, k3, _⟩
    · exact absurd z a1
    · refine ⟨k', ?_, fun q' hq' e => ?_⟩
      · rw [hk, k2, nI_leI (by omega) (by omega)] at a3; omega
      · obtain rfl : q = q' := za_inj (by omega) (by omega) (k3.symm.trans e)
        exact ⟨a2, a4, a5⟩
  · right
    refine ⟨fun q q1 q2 => ht ⟨q, q1, q2⟩, fun k k1 k2 => ht ?_⟩
    obtain ⟨q, q1, q2, q3⟩ := i4 k (by omega)
    obtain ⟨a1, a2, a3⟩ := k2 q q1 q3
    exact ⟨q, q1, ⟨by rw [q2]; exact za_nm1 (by omega), a1⟩, by rw [hk, q2, nI_leI (by omega) (by omega)]; omega, a2, a3⟩
end AP
