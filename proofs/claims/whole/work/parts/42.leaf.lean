/-! ===== the class's small methods, as equations ===== -/
section LF
variable {M : Mc} {q g w n p c s : Nat} {v : Int32}
theorem lf_one (hn : M q 0 = nI n) (h1 : n ≤ 100) (hp : p < n) : fX3_isOne M q (nI p) = some (nI 1) := by
  unfold fX3_isOne; rw [hn, if_neg (nI_pos (by omega)), if_neg (nI_ge hp (by omega)), if_neg (nI_ge (by omega) (by omega))]
theorem lf_one0 : fX3_isOne M q (-1) = some 0 := by unfold fX3_isOne; rw [if_pos za_m1lt0]
theorem lf_oneN (hn : M q 0 = nI n) (h0 : p < 2 ^ 31) (hp : n ≤ p) : fX3_isOne M q (nI p) = some 0 := by
  unfold fX3_isOne; rw [hn, if_neg (nI_pos h0), if_pos (nI_le hp h0)]
theorem lf_state (hn : M q 0 = nI n) (h1 : n ≤ 100) (hp : p < n) : fX3_stateOf M q (nI p) = some (M (q + 3) p) := by
  unfold fX3_stateOf; rw [lf_one hn h1 hp, za_bnd, if_neg za_n10, za_chk _ (by omega) (by omega), nI_clamp (by omega)]
theorem lf_home (hn : M q 0 = nI n) (h1 : n ≤ 100) (hp : p < n) : fX3_isAtHome M q (nI p) = some (if M (q + 3) p = 0 then nI 1 else 0) := by
  unfold fX3_isAtHome; rw [lf_one hn h1 hp, za_bnd, if_neg za_n10, za_chk _ (by omega) (by omega), nI_clamp (by omega)]; split <;> rfl
theorem lf_here (hn : M q 0 = nI n) (h1 : n ≤ 100) (hp : p < n) : fX3_isHere M q (nI p) = some (if M (q + 3) p < nI 2 then 0 else nI 1) := by
  unfold fX3_isHere; rw [lf_one hn h1 hp, za_bnd, if_neg za_n10, za_chk _ (by omega) (by omega), nI_clamp (by omega)]; split <;> rfl
theorem lf_trade (hn : M q 0 = nI n) (h1 : n ≤ 100) (hp : p < n) : fX3_tradeOf M q (nI p) = some (M (q + 1) p) := by
  unfold fX3_tradeOf; rw [lf_one hn h1 hp, za_bnd, if_neg za_n10, za_chk _ (by omega) (by omega), nI_clamp (by omega)]
theorem lf_farms (hn : M q 0 = nI n) (h1 : n ≤ 100) (hp : p < n) : fX3_farmsOf M q (nI p) = some (M (q + 6) p) := by
  unfold fX3_farmsOf; rw [lf_one hn h1 hp, za_bnd, if_neg za_n10, za_chk _ (by omega) (by omega), nI_clamp (by omega)]
theorem lf_hands (hn : M q 0 = nI n) (h1 : n ≤ 100) (hp : p < n) : fX3_handsOf M q (nI p) = some (M (q + 5) p) := by
  unfold fX3_handsOf; rw [lf_one hn h1 hp, za_bnd, if_neg za_n10, za_chk _ (by omega) (by omega), nI_clamp (by omega)]
theorem lf_order (hn : M q 0 = nI n) (h1 : n ≤ 100) (hp : p < n) : fX3_orderOf M q (nI p) = some (M (q + 7) p) := by
  unfold fX3_orderOf; rw [lf_one hn h1 hp, za_bnd, if_neg za_n10, za_chk _ (by omega) (by omega), nI_clamp (by omega)]
theorem lf_coins (hn : M q 0 = nI n) (h1 : n ≤ 100) (hp : p < n) : fX3_coinsOf M q (nI p) = some (M (q + 2) p) := by
  unfold fX3_coinsOf; rw [lf_one hn h1 hp, za_bnd, if_neg za_n10, za_chk _ (by omega) (by omega), nI_clamp (by omega)]
theorem lf_pay (hn : M q 0 = nI n) (h1 : n ≤ 100) (hp : p < n) : fX3_canPay M q (nI p) v = some (if M (q + 2) p < v then 0 else nI 1) := by
  unfold fX3_canPay; rw [lf_one hn h1 hp, za_bnd, if_neg za_n10, za_chk _ (by omega) (by omega), nI_clamp (by omega)]; split <;> rfl
theorem lf_spend (hn : M q 0 = nI n) (h1 : n ≤ 100) (hp : p < n) : fX3_spend M q (nI p) v = some (wr M (q + 2) p (M (q + 2) p - v)) := by
  unfold fX3_spend; rw [lf_one hn h1 hp, za_bnd, if_neg za_n10, za_chk _ (by omega) (by omega), za_chk _ (by omega) (by omega), nI_clamp (by omega)]; rfl
theorem lf_earn (hn : M q 0 = nI n) (h1 : n ≤ 100) (hp : p < n) : fX3_earn M q (nI p) v = some (wr M (q + 2) p (xmin (nI 1000000) (M (q + 2) p + v))) := by
  unfold fX3_earn; rw [lf_one hn h1 hp, za_bnd, if_neg za_n10, za_chk _ (by omega) (by omega), za_chk _ (by omega) (by omega), nI_clamp (by omega)]; rfl
/-- one who is hired is free again -/
def moFree (M : Mc) (q p b : Nat) : Mc := wr (wr (wr M (q + 5) b (M (q + 5) b - nI 1)) (q + 4) p (-1)) (q + 3) p (nI 2)
theorem lf_rel {b : Nat} (hp : p < 100) (hs : M (q + 3) p = nI 3) (hb : M (q + 4) p = nI b) (hb1 : b < 100) : fX3_release M q (nI p) = some (moFree M q p b) := by
  unfold fX3_release
  rw [if_neg (nI_pos (by omega)), if_neg (nI_ge hp (by omega)), za_chk _ hp (by omega), nI_clamp (by omega), if_pos hs, za_chk _ hp (by omega), za_lt, hb, if_neg (nI_pos (by omega)), if_neg (nI_ge hb1 (by omega)), za_chk _ hb1 (by omega), za_chk _ hb1 (by omega), za_lt, nI_clamp (by omega)]
  unfold fX3_release_J48
  rw [za_chk _ hp (by omega), za_lt, za_chk _ hp (by omega), za_lt, nI_clamp (by omega)]
  rfl
theorem lf_reln (hp : p < 100) (hs : M (q + 3) p ≠ nI 3) : fX3_release M q (nI p) = some M := by
  unfold fX3_release
  rw [if_neg (nI_pos (by omega)), if_neg (nI_ge hp (by omega)), za_chk _ hp (by omega), nI_clamp (by omega), if_neg hs]
def moGain (M : Mc) (q p : Nat) : Mc := wr (wr M (q + 6) p (M (q + 6) p + nI 1)) (q + 3) p (nI 4)
theorem lf_gain {M1 : Mc} (hn : M q 0 = nI n) (h1 : n ≤ 100) (hp : p < n) (hr : fX3_release M q (nI p) = some M1) : fX3_gainFarm M q (nI p) = some (moGain M1 q p) := by
  unfold fX3_gainFarm
  rw [lf_one hn h1 hp, za_bnd, if_neg za_n10, hr, za_bnd, za_chk _ (by omega) (by omega), za_chk _ (by omega) (by omega), za_lt, za_chk _ (by omega) (by omega), za_lt, nI_clamp (by omega)]
  rfl
def moHire (M : Mc) (q p b : Nat) : Mc := wr (wr (wr M (q + 5) b (M (q + 5) b + nI 1)) (q + 4) p (nI b)) (q + 3) p (nI 3)
theorem lf_hire {b : Nat} (hn : M q 0 = nI n) (h1 : n ≤ 100) (hp : p < n) (hb : b < n) : fX3_hireBy M q (nI p) (nI b) = some (moHire M q p b) := by
  unfold fX3_hireBy
  rw [lf_one hn h1 hp, za_bnd, if_neg za_n10, lf_one hn h1 hb, za_bnd, if_neg za_n10, za_chk _ (by omega) (by omega), za_chk _ (by omega) (by omega), za_lt, za_chk _ (by omega) (by omega), za_lt, za_chk _ (by omega) (by omega), za_lt, nI_clamp (by omega), nI_clamp (by omega)]
  rfl
theorem lf_hire0 (hn : M q 0 = nI n) (h1 : n ≤ 100) (hp : p < n) : fX3_hireBy M q (nI p) (-1) = some M := by
  unfold fX3_hireBy
  rw [lf_one hn h1 hp, za_bnd, if_neg za_n10, lf_one0, za_bnd, if_pos rfl]
def moStarve (M : Mc) (q p : Nat) : Mc := wr (wr M (q + 10) p (M (q + 10) p + nI 1)) q 2 (M q 2 + nI 1)
theorem lf_starve (hn : M q 0 = nI n) (h1 : n ≤ 100) (hp : p < n) : fX3_starve M q (nI p) = some (moStarve M q p) := by
  unfold fX3_starve
  rw [lf_one hn h1 hp, za_bnd, if_neg za_n10, za_chk _ (by omega) (by omega), za_chk _ (by omega) (by omega), za_lt, nI_clamp (by omega), za_lt]
  rw [show wr M (q + 10) p (M (q + 10) p + nI 1) q 2 = M q 2 from za_wra (by omega)]
  rfl
/-! ground -/
theorem lg_wild (hc : c < 96) : fX4_isWild M g (nI c) = some (if M (g + 4) c = 0 then nI 1 else 0) := by
  unfold fX4_isWild; rw [za_inY hc (by omega), za_bnd, if_neg za_n10, za_chk _ hc (by omega), nI_clamp (by omega)]; split <;> rfl
theorem lg_lot (hc : c < 96) : fX4_isLot M g (nI c) = some (if M (g + 4) c = nI 1 then nI 1 else 0) := by
  unfold fX4_isLot; rw [za_inY hc (by omega), za_bnd, if_neg za_n10, za_chk _ hc (by omega), nI_clamp (by omega)]; split <;> rfl
theorem lg_farm (hc : c < 96) : fX4_isFarm M g (nI c) = some (if M (g + 4) c = nI 3 ∨ M (g + 4) c = nI 5 then nI 1 else 0) := by
  unfold fX4_isFarm; rw [za_inY hc (by omega), za_bnd, if_neg za_n10, za_chk _ hc (by omega), za_chk _ hc (by omega), nI_clamp (by omega)]
  by_cases h : M (g + 4) c = nI 3
  · rw [if_pos h, if_pos (Or.inl h)]
  · rw [if_neg h]; by_cases h5 : M (g + 4) c = nI 5
    · rw [if_pos h5, if_pos (Or.inr h5)]
    · rw [if_neg h5, if_neg (fun q => q.elim h h5)]
theorem lg_past (hc : c < 96) : fX4_isPasture M g (nI c) = some (if M (g + 4) c = nI 4 ∨ M (g + 4) c = nI 6 then nI 1 else 0) := by
  unfold fX4_isPasture; rw [za_inY hc (by omega), za_bnd, if_neg za_n10, za_chk _ hc (by omega), za_chk _ hc (by omega), nI_clamp (by omega)]
  by_cases h : M (g + 4) c = nI 4
  · rw [if_pos h, if_pos (Or.inl h)]
  · rw [if_neg h]; by_cases h5 : M (g + 4) c = nI 6
    · rw [if_pos h5, if_pos (Or.inr h5)]
    · rw [if_neg h5, if_neg (fun q => q.elim h h5)]
theorem lg_hold (hc : c < 96) : fX4_holdingOf M g (nI c) = some (M (g + 4) c) := by
  unfold fX4_holdingOf; rw [za_inY hc (by omega), za_bnd, if_neg za_n10, za_chk _ hc (by omega), nI_clamp (by omega)]
theorem lg_soil (hc : c < 96) : fX4_soilOf M g (nI c) = some (M (g + 1) c) := by
  unfold fX4_soilOf; rw [za_inY hc (by omega), za_bnd, if_neg za_n10, za_chk _ hc (by omega), nI_clamp (by omega)]
theorem lg_soil0 : fX4_soilOf M g (-1) = some 0 := by unfold fX4_soilOf; rw [za_inN, za_bnd, if_pos rfl]
theorem lg_own (hc : c < 96) : fX4_ownerOf M g (nI c) = some (M (g + 5) c) := by
  unfold fX4_ownerOf; rw [za_inY hc (by omega), za_bnd, if_neg za_n10, za_chk _ hc (by omega), nI_clamp (by omega)]
theorem lg_stock (hc : c < 96) : fX4_stockOf M g (nI c) = some (M (g + 7) c) := by
  unfold fX4_stockOf; rw [za_inY hc (by omega), za_bnd, if_neg za_n10, za_chk _ hc (by omega), nI_clamp (by omega)]
theorem lg_paid (hc : c < 96) : fX4_paidFor M g (nI c) = some (M (g + 9) c) := by
  unfold fX4_paidFor; rw [za_inY hc (by omega), za_bnd, if_neg za_n10, za_chk _ hc (by omega), nI_clamp (by omega)]
theorem lg_fen (hc : c < 96) : fX4_isFenced M g (nI c) = some (if M (g + 8) c = 0 then 0 else nI 1) := by
  unfold fX4_isFenced; rw [za_inY hc (by omega), za_bnd, if_neg za_n10, za_chk _ hc (by omega), nI_clamp (by omega)]; split <;> rfl
theorem lg_pof (hc : c < 96) : fX4_isPastureOf M g (nI c) v = some (if (M (g + 4) c = nI 4 ∨ M (g + 4) c = nI 6) ∧ M (g + 5) c = v then nI 1 else 0) := by
  unfold fX4_isPastureOf; rw [lg_past hc, za_bnd, lg_own hc]
  by_cases h : M (g + 4) c = nI 4 ∨ M (g + 4) c = nI 6
  · rw [if_pos h, if_neg za_n10, za_bnd]
    by_cases h2 : M (g + 5) c = v
    · rw [if_pos h2, if_pos ⟨h, h2⟩]
    · rw [if_neg h2, if_neg (fun q => h2 q.2)]
  · rw [if_neg h, if_pos rfl, if_neg (fun q => h q.1)]
theorem lg_bought (hc : c < 96) : fX4_isBoughtBy M g (nI c) v = some (if M (g + 4) c = nI 3 ∧ M (g + 10) c = v then nI 1 else 0) := by
  unfold fX4_isBoughtBy; rw [za_inY hc (by omega), za_bnd, if_neg za_n10, za_chk _ hc (by omega), za_chk _ hc (by omega), nI_clamp (by omega)]
  by_cases h : M (g + 4) c = nI 3
  · rw [if_pos h]
    by_cases h2 : M (g + 10) c = v
    · rw [if_pos h2, if_pos ⟨h, h2⟩]
    · rw [if_neg h2, if_neg (fun q => h2 q.2)]
  · rw [if_neg h, if_neg (fun q => h q.1)]
theorem nar0 : vp_nar .boolean 0 = 0 := by decide +kernel
theorem nar1 : vp_nar .boolean (nI 1) = nI 1 := by decide +kernel
theorem narz {x : Int32} (h : isZ x) : vp_nar .boolean x = x := by
  rcases h with rfl | rfl
  · exact nar0
  · exact nar1
/-- a section is a lot -/
def moOpen (M : Mc) (g c : Nat) : Mc := wr (wr (wr (wr (wr (wr (wr M (g + 4) c (nI 1)) (g + 5) c (-1)) (g + 6) c (-1)) (g + 7) c 0) (g + 8) c 0) (g + 9) c (-1)) (g + 10) c (-1)
theorem lg_open41 (hc : c < 96) : fX4_open_J41 g M (nI c) = some (moOpen M g c) := by
  unfold fX4_open_J41
  simp only [za_chk _ hc (show 96 < 2 ^ 31 by omega), za_lt, nI_clamp (show c < 2 ^ 31 by omega), nar0]
  rfl
theorem lg_openF (hc : c < 96) (h : M (g + 4) c = nI 3 ∨ M (g + 4) c = nI 5) : fX4_open M g (nI c) = some (moOpen (wr M g 9 (M g 9 - nI 1)) g c) := by
  unfold fX4_open
  rw [if_neg (nI_pos (by omega)), if_pos (nI_lt hc (by omega)), za_chk _ hc (by omega), za_chk _ hc (by omega), nI_clamp (by omega)]
  unfold fX4_open_J31
  rw [za_lt, lg_open41 hc]
  rcases h with h | h
  · rw [if_pos h]
  · rw [h, if_neg (by decide +kernel), if_pos rfl]
theorem lg_openN (hc : c < 96) (h : ¬ (M (g + 4) c = nI 3 ∨ M (g + 4) c = nI 5)) : fX4_open M g (nI c) = some (moOpen M g c) := by
  unfold fX4_open
  rw [if_neg (nI_pos (by omega)), if_pos (nI_lt hc (by omega)), za_chk _ hc (by omega), za_chk _ hc (by omega), nI_clamp (by omega), lg_open41 hc, if_neg (fun q => h (Or.inl q)), if_neg (fun q => h (Or.inr q))]
def moFarm (M : Mc) (g c : Nat) (k p pr l : Int32) : Mc := wr (wr (wr (wr (wr M (g + 4) c k) (g + 5) c p) (g + 9) c pr) (g + 10) c l) g 9 (M g 9 + nI 1)
theorem lg_give {k pp pr l : Int32} {M1 : Mc} (hc : c < 96) (ho : fX4_open M g (nI c) = some M1) : fX4_giveFarm M g (nI c) k pp pr l = some (moFarm M1 g c k pp pr l) := by
  unfold fX4_giveFarm
  rw [za_inY hc (by omega), za_bnd, if_neg za_n10, ho, za_bnd]
  simp only [za_chk _ hc (show 96 < 2 ^ 31 by omega), za_lt, nI_clamp (show c < 2 ^ 31 by omega)]
  rw [show wr (wr (wr (wr M1 (g + 4) c k) (g + 5) c pp) (g + 9) c pr) (g + 10) c l g 9 = M1 g 9 by
    rw [za_wra (by omega), za_wra (by omega), za_wra (by omega), za_wra (by omega)]]
  rfl
end LF
