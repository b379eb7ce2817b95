/-! ===== the reference's small methods, as equations ===== -/
def hirP (st bo : Nat → Int32) (v : Int32) (q : Nat) : Bool := decide (st q = nI 3 ∧ bo q = v)
def farP (ho ow : Nat → Int32) (v : Int32) (c : Nat) : Bool := decide ((ho c = nI 3 ∨ ho c = nI 5) ∧ ow c = v)
def frmP (ho : Nat → Int32) (c : Nat) : Bool := decide (ho c = nI 3 ∨ ho c = nI 5)
def herP (st : Nat → Int32) (q : Nat) : Bool := decide (¬ st q < nI 2)
section RF
variable {M : Mc} {n p c k s : Nat} {v u : Int32}
theorem rf_sec (hc : c < 96) (hk : k < 8) : fX12_sec M (nI c) (nI k) = some (M 128 (8 * c + k)) := by
  unfold fX12_sec; rw [za_mul, nI_add, za_chk _ (by omega) (by omega), nI_clamp (by omega)]
theorem rf_sec0 (hc : c < 96) : fX12_sec M (nI c) 0 = some (M 128 (8 * c)) := by rw [za_0, rf_sec hc (by omega)]; rfl
theorem rf_per (hp : p < 100) (hk : k < 8) : fX12_per M (nI p) (nI k) = some (M 128 (768 + 8 * p + k)) := by
  unfold fX12_per; rw [za_mul, nI_add, nI_add, za_chk _ (by omega) (by omega), nI_clamp (by omega)]
theorem rf_per0 (hp : p < 100) : fX12_per M (nI p) 0 = some (M 128 (768 + 8 * p)) := by rw [za_0, rf_per hp (by omega)]; rfl
theorem rf_setPer (hp : p < 100) (hk : k < 8) : fX12_setPer M (nI p) (nI k) v = some (wr M 128 (768 + 8 * p + k) v) := by
  unfold fX12_setPer; rw [za_mul, nI_add, nI_add, za_chk _ (by omega) (by omega), nI_clamp (by omega)]; rfl
theorem rf_setPer0 (hp : p < 100) : fX12_setPer M (nI p) 0 v = some (wr M 128 (768 + 8 * p) v) := by rw [za_0, rf_setPer hp (by omega)]; rfl
theorem rf_ofLaw (hp : p < 12) (hk : k < 6) : fX12_ofLaw M (nI p) (nI k) = some (M 128 (1568 + 6 * p + k)) := by
  unfold fX12_ofLaw; rw [za_mul, nI_add, nI_add, za_chk _ (by omega) (by omega), nI_clamp (by omega)]
theorem rf_ofLaw0 (hp : p < 12) : fX12_ofLaw M (nI p) 0 = some (M 128 (1568 + 6 * p)) := by rw [za_0, rf_ofLaw hp (by omega)]; rfl
theorem rf_here (hp : p < 100) : fX12_isHere M (nI p) = some (if M 128 (768 + 8 * p + 2) < nI 2 then 0 else nI 1) := by
  unfold fX12_isHere; rw [rf_per hp (by omega), za_bnd]; split <;> rfl
theorem rf_isFarm : fX12_isFarm v = some (if v = nI 3 ∨ v = nI 5 then nI 1 else 0) := by
  unfold fX12_isFarm
  by_cases h : v = nI 3
  · rw [if_pos h, if_pos (Or.inl h)]
  · rw [if_neg h]; by_cases h5 : v = nI 5
    · rw [if_pos h5, if_pos (Or.inr h5)]
    · rw [if_neg h5, if_neg (fun q => q.elim h h5)]
theorem rf_isPast : fX12_isPasture v = some (if v = nI 4 ∨ v = nI 6 then nI 1 else 0) := by
  unfold fX12_isPasture
  by_cases h : v = nI 4
  · rw [if_pos h, if_pos (Or.inl h)]
  · rw [if_neg h]; by_cases h5 : v = nI 6
    · rw [if_pos h5, if_pos (Or.inr h5)]
    · rw [if_neg h5, if_neg (fun q => q.elim h h5)]
/-- a section's row: holding, person, nothing else -/
def moHolds (M : Mc) (c : Nat) (h p : Int32) : Mc := wr (wr (wr (wr (wr (wr (wr M 128 (8 * c) h) 128 (8 * c + 1) p) 128 (8 * c + 2) 0) 128 (8 * c + 3) 0) 128 (8 * c + 4) 0) 128 (8 * c + 5) (-1)) 128 (8 * c + 6) (-1)
theorem rf_holds {h pp : Int32} (hc : c < 96) : fX12_holds M (nI c) h pp = some (moHolds M c h pp) := by
  unfold fX12_holds
  have e : ∀ k, k < 8 → nI 8 * nI c + nI k = nI (8 * c + k) := fun k _ => by rw [za_mul, nI_add]
  rw [show nI 8 * nI c + 0 = nI (8 * c) by rw [za_0, e 0 (by omega)]; rfl, e 1 (by omega), e 2 (by omega), e 3 (by omega), e 4 (by omega), e 5 (by omega), e 6 (by omega)]
  simp (disch := omega) only [za_chk, za_lt, nI_clamp]
  rfl
theorem rf_owns (hp : p < 100) : fX12_owns M (nI p) = some (wr (wr M 128 (768 + 8 * p + 2) (nI 4)) 128 (768 + 8 * p + 3) (-1)) := by
  unfold fX12_owns; rw [rf_setPer hp (by omega), za_bnd, rf_setPer hp (by omega), za_bnd]
/-- what the reference's pays makes of a purse -/
def capm (x : Int32) : Int32 := if x ≤ nI 1000000 then x else nI 1000000
theorem rf_pays (hp : p < 100) : fX12_pays M (nI p) v = some (wr M 128 (768 + 8 * p + 1) (capm (M 128 (768 + 8 * p + 1) + v))) := by
  unfold fX12_pays capm; rw [rf_per hp (by omega), za_bnd, za_lt]
  split <;> (unfold fX12_pays_J24; rw [rf_setPer hp (by omega), za_bnd])
theorem capm_xmin (x : Int32) : capm x = xmin (nI 1000000) x := by
  unfold capm xmin
  by_cases h : x < nI 1000000
  · rw [if_pos h, if_pos (by grind)]
  · rw [if_neg h]; by_cases h2 : x ≤ nI 1000000
    · rw [if_pos h2]; exact Int32.le_antisymm h2 (by grind)
    · rw [if_neg h2]
theorem rf_hired_L (hn : M 128 2124 = nI n) (h1 : n ≤ 100) (v : Int32) : ∀ k fu i, i + k = n → k < fu →
    fX12_hiredBy_L4 fu M v (nI (cn i (hirP (fun q => M 128 (768 + 8 * q + 2)) (fun q => M 128 (768 + 8 * q + 3)) v))) (nI i) = some (nI (cn n (hirP (fun q => M 128 (768 + 8 * q + 2)) (fun q => M 128 (768 + 8 * q + 3)) v)))
  | k, 0, _, _, h => by omega
  | 0, fu + 1, i, h, _ => by
    obtain rfl : i = n := by omega
    unfold fX12_hiredBy_L4
    rw [za_chk _ (by omega) (by omega), nI_clamp (by omega), hn, if_pos (nI_le (Nat.le_refl _) (by omega))]
  | k + 1, fu + 1, i, h, hf => by
    have ih := rf_hired_L hn h1 v k fu (i + 1) (by omega) (by omega)
    rw [cn_succ] at ih
    unfold fX12_hiredBy_L4
    rw [za_chk _ (by omega) (by omega), nI_clamp (by omega), hn, if_neg (nI_ge (by omega) (by omega)), rf_per (by omega) (by omega), za_bnd]
    by_cases h3 : M 128 (768 + 8 * i + 2) = nI 3
    · rw [if_pos h3, rf_per (by omega) (by omega), za_bnd]
      by_cases h4 : M 128 (768 + 8 * i + 3) = v
      · rw [if_pos h4]; unfold fX12_hiredBy_J42
        rw [za_lt, nI_add, nI_add]
        rw [if_pos (by unfold hirP; exact decide_eq_true ⟨h3, h4⟩)] at ih
        exact ih
      · rw [if_neg h4]; unfold fX12_hiredBy_J41 fX12_hiredBy_J42
        rw [za_lt, za_0, nI_add, nI_add]
        rw [if_neg (by unfold hirP; exact fun q => h4 (of_decide_eq_true q).2)] at ih
        exact ih
    · rw [if_neg h3]; unfold fX12_hiredBy_J41 fX12_hiredBy_J42
      rw [za_lt, za_0, nI_add, nI_add]
      rw [if_neg (by unfold hirP; exact fun q => h3 (of_decide_eq_true q).1)] at ih
      exact ih
theorem rf_hired (hn : M 128 2124 = nI n) (h1 : n ≤ 100) : fX12_hiredBy M v = some (nI (cn n (hirP (fun q => M 128 (768 + 8 * q + 2)) (fun q => M 128 (768 + 8 * q + 3)) v))) := by
  unfold fX12_hiredBy
  exact rf_hired_L hn h1 v n FU 0 (by omega) (by rw [za_FU]; omega)
theorem rf_farmsOf_L (v : Int32) : ∀ k fu i, i + k = 96 → k < fu →
    fX12_farmsOf_L4 fu M v (nI (cn i (farP (fun q => M 128 (8 * q)) (fun q => M 128 (8 * q + 1)) v))) (nI i) = some (nI (cn 96 (farP (fun q => M 128 (8 * q)) (fun q => M 128 (8 * q + 1)) v)))
  | k, 0, _, _, h => by omega
  | 0, fu + 1, i, h, _ => by
    obtain rfl : i = 96 := by omega
    unfold fX12_farmsOf_L4
    rw [if_pos (nI_le (Nat.le_refl _) (by omega))]
  | k + 1, fu + 1, i, h, hf => by
    have ih := rf_farmsOf_L v k fu (i + 1) (by omega) (by omega)
    rw [cn_succ] at ih
    unfold fX12_farmsOf_L4
    rw [if_neg (nI_ge (by omega) (by omega)), rf_sec0 (by omega), za_bnd, rf_isFarm, za_bnd]
    by_cases h3 : M 128 (8 * i) = nI 3 ∨ M 128 (8 * i) = nI 5
    · rw [if_pos h3, if_neg za_n10, rf_sec (by omega) (by omega), za_bnd]
      by_cases h4 : M 128 (8 * i + 1) = v
      · rw [if_pos h4]; unfold fX12_farmsOf_J38
        rw [za_lt, nI_add, nI_add]
        rw [if_pos (by unfold farP; exact decide_eq_true ⟨h3, h4⟩)] at ih
        exact ih
      · rw [if_neg h4]; unfold fX12_farmsOf_J37 fX12_farmsOf_J38
        rw [za_lt, za_0, nI_add, nI_add]
        rw [if_neg (by unfold farP; exact fun q => h4 (of_decide_eq_true q).2)] at ih
        exact ih
    · rw [if_neg h3, if_pos rfl]; unfold fX12_farmsOf_J37 fX12_farmsOf_J38
      rw [za_lt, za_0, nI_add, nI_add]
      rw [if_neg (by unfold farP; exact fun q => h3 (of_decide_eq_true q).1)] at ih
      exact ih
theorem rf_farmsOf : fX12_farmsOf M v = some (nI (cn 96 (farP (fun q => M 128 (8 * q)) (fun q => M 128 (8 * q + 1)) v))) := by
  unfold fX12_farmsOf
  exact rf_farmsOf_L v 96 FU 0 (by omega) (by rw [za_FU]; omega)
theorem rf_farms_L : ∀ k fu i, i + k = 96 → k < fu →
    fX12_farms_L4 fu M (nI (cn i (frmP (fun q => M 128 (8 * q))))) (nI i) = some (nI (cn 96 (frmP (fun q => M 128 (8 * q)))))
  | k, 0, _, _, h => by omega
  | 0, fu + 1, i, h, _ => by
    obtain rfl : i = 96 := by omega
    unfold fX12_farms_L4
    rw [if_pos (nI_le (Nat.le_refl _) (by omega))]
  | k + 1, fu + 1, i, h, hf => by
    have ih := rf_farms_L k fu (i + 1) (by omega) (by omega)
    rw [cn_succ] at ih
    unfold fX12_farms_L4
    rw [if_neg (nI_ge (by omega) (by omega)), rf_sec0 (by omega), za_bnd, rf_isFarm, za_bnd]
    by_cases h3 : M 128 (8 * i) = nI 3 ∨ M 128 (8 * i) = nI 5
    · rw [if_pos h3, if_neg za_n10]; unfold fX12_farms_J28
      rw [za_lt, nI_add, nI_add]
      rw [if_pos (by unfold frmP; exact decide_eq_true h3)] at ih
      exact ih
    · rw [if_neg h3, if_pos rfl]; unfold fX12_farms_J28
      rw [za_lt, za_0, nI_add, nI_add]
      rw [if_neg (by unfold frmP; exact fun q => h3 (of_decide_eq_true q))] at ih
      exact ih
theorem rf_farms : fX12_farms M = some (nI (cn 96 (frmP (fun q => M 128 (8 * q))))) := by
  unfold fX12_farms
  exact rf_farms_L 96 FU 0 (by omega) (by rw [za_FU]; omega)
theorem rf_here_L (hn : M 128 2124 = nI n) (h1 : n ≤ 100) : ∀ k fu i, i + k = n → k < fu →
    fX12_here_L4 fu M (nI (cn i (herP (fun q => M 128 (768 + 8 * q + 2))))) (nI i) = some (nI (cn n (herP (fun q => M 128 (768 + 8 * q + 2)))))
  | k, 0, _, _, h => by omega
  | 0, fu + 1, i, h, _ => by
    obtain rfl : i = n := by omega
    unfold fX12_here_L4
    rw [za_chk _ (by omega) (by omega), nI_clamp (by omega), hn, if_pos (nI_le (Nat.le_refl _) (by omega))]
  | k + 1, fu + 1, i, h, hf => by
    have ih := rf_here_L hn h1 k fu (i + 1) (by omega) (by omega)
    rw [cn_succ] at ih
    unfold fX12_here_L4
    rw [za_chk _ (by omega) (by omega), nI_clamp (by omega), hn, if_neg (nI_ge (by omega) (by omega)), rf_here (by omega), za_bnd]
    by_cases h3 : M 128 (768 + 8 * i + 2) < nI 2
    · rw [if_pos h3, if_pos rfl]; unfold fX12_here_J30
      rw [za_lt, za_0, nI_add, nI_add]
      rw [if_neg (by unfold herP; exact fun q => (of_decide_eq_true q) h3)] at ih
      exact ih
    · rw [if_neg h3, if_neg za_n10]; unfold fX12_here_J30
      rw [za_lt, nI_add, nI_add]
      rw [if_pos (by unfold herP; exact decide_eq_true h3)] at ih
      exact ih
theorem rf_hereN (hn : M 128 2124 = nI n) (h1 : n ≤ 100) : fX12_here M = some (nI (cn n (herP (fun q => M 128 (768 + 8 * q + 2))))) := by
  unfold fX12_here
  exact rf_here_L hn h1 n FU 0 (by omega) (by rw [za_FU]; omega)
theorem rf_zone (hc : c < 96) : fX12_zoneOf (nI c) = some (nI (c % 12 / 3)) := by
  unfold fX12_zoneOf; rw [za_irm (by omega) (by omega) (by omega), za_div (by omega) (by omega) (by omega)]
theorem lf_zone (hc : c < 96) : fX11_zoneOf (nI c) = some (nI (c % 12 / 3)) := by
  unfold fX11_zoneOf; rw [za_irm (by omega) (by omega) (by omega), za_div (by omega) (by omega) (by omega)]
end RF
