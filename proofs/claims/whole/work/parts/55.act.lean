/-! ===== those who act: wages, sales, work, food ===== -/
theorem cap_neg {k v : Nat} (hv : v ≤ k) (hk : k ≤ 1000000) : capm (nI k + -nI v) = nI (k - v) := by
  rw [← Int32.sub_eq_add_neg, za_sub hv]; unfold capm; rw [if_pos (nI_le (by omega) (by omega))]
theorem min_add {k v : Nat} (hv : v ≤ 1000000) (hk : k ≤ 1000000) : xmin (nI 1000000) (nI k + nI v) = nI (min 1000000 (k + v)) := by
  rw [nI_add]; unfold xmin
  by_cases h : k + v < 1000000
  · rw [if_pos (nI_lt h (by omega))]; congr 1; omega
  · rw [if_neg (nI_nlt (by omega) (by omega))]; congr 1; omega
section AC
variable {w n t x a y m p : Nat} {C R : Mc}
theorem rv_coin {k : Nat} (hp : p < n) (hk : k ≤ 1000000) (h : RV w n t x a y m C R) : RV w n t x a y m (wr C (w + 17) p (nI k)) (wr R 128 (768 + 8 * p + 1) (nI k)) :=
  h.step (op_coin hp (rw_n100 h.1) hk h.1) (fc_wr FC.rf (by omega)) (fd_wr FD.rf (by first | omega | (have := rw_n100 h.1; omega))) (za_wra (by omega)) (za_wra (by omega)) (za_wra (by omega)) (za_wra (by omega))
theorem rw_per (h : RW w n t x a y C R) (hp : p < n) : ∃ s k, C (w + 18) p = nI s ∧ s ≤ 4 ∧ C (w + 17) p = nI k ∧ k ≤ 1000000 := by
  obtain ⟨s, h1, h2, _⟩ := h.2.2.2.1 p hp
  obtain ⟨k, k1, k2⟩ := h2.2.1
  exact ⟨s, k, h1, h2.1, k2, k1⟩
theorem mr_k {k : Nat} {so : Int32} (hk : k < 8) (h0 : k ≠ 0) (h1 : k ≠ 1) : fX12_meaning R (nI k) so = fX12_meaning_J33 R (nI k) so := by
  unfold fX12_meaning fX12_meaning_J16
  rw [if_neg (fun q => h0 ((za_eq0 (by omega)).mp q)), if_neg (fun q => h1 (za_inj (by omega) (by omega) q))]
/-- wages: the reference up to where it goes on with f -/
def payR (R : Mc) (p : Nat) (v : Int32) (f : Mc → Option Mc) : Option Mc := bnd (fX12_per R (nI p) (nI 3)) fun v7 => bnd (fX12_per R v7 (nI 1)) fun v9 => (if v9 < v then bnd (fX12_setPer R (nI p) (nI 2) (nI 2)) fun M11 => bnd (fX12_setPer M11 (nI p) (nI 3) (-1)) fun M13 => f M13 else bnd (fX12_pays R v7 (-v)) fun M15 => bnd (fX12_pays M15 (nI p) v) fun M17 => f M17)
theorem pay_sim (h : RV w n t n a y m C R) (hla : LA w n C) (hp : p < n) (h3 : C (w + 18) p = nI 3) :
    ∃ C' R', fX3_payWage C (w + 15) (nI p) (C w 16) = some C' ∧ (∀ f, payR R p (C w 16) f = f R') ∧ RV w n t n a y m C' R' ∧ LA w n C' ∧ (∀ j, C' w j = C w j) ∧ FC w C C' ∧ FD R R' ∧ C' (w + 15) 1 = C (w + 15) 1 ∧ (∃ s, C' (w + 18) p = nI s ∧ (s = 2 ∨ s = 3)) := by
  have hw := h.w17
  have hn := rw_n100 h.1
  obtain ⟨v, v1, v2, _⟩ := hla.2.2.2.1
  obtain ⟨s, s1, s2, s3⟩ := h.1.2.2.2.1 p hp
  obtain rfl : s = 3 := st_eq (by have := s2.1; omega) (by omega) s1 h3
  obtain ⟨b, b1, b2, b3⟩ := s2.2.2.2.1 rfl
  have b4 : C (w + 18) b = nI 4 := b3.elim id (fun q => by omega)
  have hbp : b ≠ p := fun q => by subst q; exact absurd (st_eq (by omega) (by omega) h3 b4) (by decide)
  obtain ⟨_, kb, _, _, kb1, kb2⟩ := rw_per h.1 b1
  obtain ⟨_, kp, _, _, kp1, kp2⟩ := rw_per h.1 hp
  have hn0 : C (w + 15) 0 = nI n := h.1.2.1.1
  have eb : fX12_per R (nI p) (nI 3) = some (nI b) := by rw [rf_per (by omega) (by omega), ra_boss h.1.1 (by omega), b2]
  have ec : fX12_per R (nI b) (nI 1) = some (nI kb) := by rw [rf_per (by omega) (by omega), ra_coin h.1.1 (by omega), kb1]
  have epay : fX3_payWage C (w + 15) (nI p) (nI v) = (if nI kb < nI v then fX3_release C (w + 15) (nI p) else bnd (fX3_spend C (w + 15) (nI b) (nI v)) fun M9 => fX3_earn M9 (w + 15) (nI p) (nI v)) := by
    unfold fX3_payWage
    rw [lf_one hn0 hn hp, za_bnd, if_neg za_n10, za_chk _ (by omega) (by omega), nI_clamp (by omega), za_lt, show C (w + 15 + 4) p = nI b from b2, lf_pay hn0 hn b1, za_bnd, show C (w + 15 + 2) b = nI kb from kb1]
    by_cases hk : nI kb < nI v
    · rw [if_pos hk, if_pos rfl, if_pos hk]
      cases fX3_release C (w + 15) (nI p) <;> rfl
    · rw [if_neg hk, if_neg za_n10, if_neg hk]
      cases fX3_spend C (w + 15) (nI b) (nI v) with
      | none => rfl
      | some M9 => rw [za_bnd, za_bnd]; cases fX3_earn M9 (w + 15) (nI p) (nI v) <;> rfl
  rw [v2, epay]
  by_cases hk : nI kb < nI v
  · rw [if_pos hk, lf_rel (q := w + 15) (b := b) (by omega) h3 b2 (by omega)]
    have hR : RW w n t n a y (moFree C (w + 15) p b) (wr (wr R 128 (768 + 8 * p + 2) (nI 2)) 128 (768 + 8 * p + 3) (-1)) := op_free hp hn b1 h3 b2 h.1
    have fc : FC w C (moFree C (w + 15) p b) := fc_wr (fc_wr (fc_wr FC.rf (by omega)) (by omega)) (by omega)
    have ew : ∀ j, moFree C (w + 15) p b w j = C w j := fun j => by unfold moFree; rw [za_wra (by omega), za_wra (by omega), za_wra (by omega)]
    have ec' : ∀ k, k ≠ 18 → k ≠ 19 → k ≠ 20 → moFree C (w + 15) p b (w + k) = C (w + k) := fun k k1 k2 k3 => by unfold moFree; rw [za_wrc (by omega), za_wrc (by omega), za_wrc (by omega)]
    refine ⟨_, _, rfl, fun f => ?_, h.step hR fc (fd_wr (fd_wr FD.rf (by first | omega | (have := rw_n100 h.1; omega))) (by first | omega | (have := rw_n100 h.1; omega))) (congrFun (ec' 37 (by omega) (by omega) (by omega)) _) (ew _) (ew _) (ew _), ?_, ew, fc, fd_wr (fd_wr FD.rf (by first | omega | (have := rw_n100 h.1; omega))) (by first | omega | (have := rw_n100 h.1; omega)), congrFun (ec' 15 (by omega) (by omega) (by omega)) _, ⟨2, ?_, Or.inl rfl⟩⟩
    · unfold payR
      rw [eb, za_bnd, ec, za_bnd, if_pos hk, rf_setPer (by omega) (by omega), za_bnd, rf_setPer (by omega) (by omega), za_bnd]
    · refine LA_cg hla (fun k k1 k2 => ec' k (by omega) (by omega) (by omega)) (fun b' hb' => fc.1 b' (by omega)) (congrFun (ec' 37 (by omega) (by omega) (by omega)) _) (ew _) (congrFun (ec' 1 (by omega) (by omega) (by omega)) _) (congrFun (ec' 15 (by omega) (by omega) (by omega)) _) (fun j _ => ew j) (fun _ hnh q hq q4 qh => ?_) (by rw [ew 17]; exact fun q => q)
      rw [ew 16, ec' 17 (by omega) (by omega) (by omega)]
      have e18 : moFree C (w + 15) p b (w + 18) q = if q = p then nI 2 else C (w + 18) q := by
        unfold moFree; rw [show w + 15 + 3 = w + 18 from rfl, za_wr]
        by_cases e : q = p
        · rw [if_pos ⟨rfl, e⟩, if_pos e]
        · rw [if_neg (fun z => e z.2), if_neg e, za_wra (by omega), za_wra (by omega)]
      rw [e18] at q4
      by_cases e : q = p
      · rw [if_pos e] at q4; exact absurd (za_inj (by omega) (by omega) q4) (by decide)
      · rw [if_neg e] at q4
        by_cases eb' : q = b
        · subst eb'; rw [kb1, v2]; exact fun z => absurd hk (by grind)
        · refine hnh q hq q4 ?_
          have e20 : moFree C (w + 15) p b (w + 20) q = C (w + 20) q := by unfold moFree; rw [za_wra (by omega), za_wra (by omega), show w + 15 + 5 = w + 20 from rfl, za_wri eb']
          rw [← e20]; exact qh
    · unfold moFree; exact za_wrs _ _ _ _
  · rw [if_neg hk, lf_spend hn0 hn b1, za_bnd]
    have hvk : v ≤ kb := by rw [nI_ltI (by omega) (by omega)] at hk; omega
    rw [show C (w + 15 + 2) b = nI kb from kb1, za_sub hvk]
    have h1 : RV w n t n a y m (wr C (w + 17) b (nI (kb - v))) (wr R 128 (768 + 8 * b + 1) (nI (kb - v))) := rv_coin b1 (by omega) h
    have hn1 : wr C (w + 17) b (nI (kb - v)) (w + 15) 0 = nI n := by rw [za_wra (by omega)]; exact hn0
    rw [show wr C (w + 15 + 2) b (nI (kb - v)) = wr C (w + 17) b (nI (kb - v)) from rfl, lf_earn hn1 hn hp]
    rw [show wr C (w + 17) b (nI (kb - v)) (w + 15 + 2) p = nI kp by rw [show w + 15 + 2 = w + 17 from rfl, za_wri (Ne.symm hbp)]; exact kp1, min_add (by omega) kp2]
    have h2 := rv_coin (k := min 1000000 (kp + v)) hp (by omega) h1
    have fc : FC w C (wr (wr C (w + 17) b (nI (kb - v))) (w + 17) p (nI (min 1000000 (kp + v)))) := fc_wr (fc_wr FC.rf (by omega)) (by omega)
    have ew : ∀ j, wr (wr C (w + 17) b (nI (kb - v))) (w + 17) p (nI (min 1000000 (kp + v))) w j = C w j := fun j => by rw [za_wra (by omega), za_wra (by omega)]
    have ec' : ∀ k, k ≠ 17 → wr (wr C (w + 17) b (nI (kb - v))) (w + 17) p (nI (min 1000000 (kp + v))) (w + k) = C (w + k) := fun k k1 => by rw [za_wrc (by omega), za_wrc (by omega)]
    refine ⟨_, _, rfl, fun f => ?_, h2, ?_, ew, fc, fd_wr (fd_wr FD.rf (by first | omega | (have := rw_n100 h.1; omega))) (by first | omega | (have := rw_n100 h.1; omega)), congrFun (ec' 15 (by omega)) _, ⟨3, ?_, Or.inr rfl⟩⟩
    · unfold payR
      rw [eb, za_bnd, ec, za_bnd, if_neg hk, rf_pays (by omega), za_bnd, ra_coin h.1.1 (by omega), kb1, cap_neg hvk kb2, rf_pays (by omega), za_bnd, ra_coin h1.1.1 (by omega), za_wri (Ne.symm hbp), kp1, capm_xmin, min_add (by omega) kp2]
    · refine LA_cg hla (fun k k1 k2 => ec' k (by omega)) (fun b' hb' => fc.1 b' (by omega)) (congrFun (ec' 37 (by omega)) _) (ew _) (congrFun (ec' 1 (by omega)) _) (congrFun (ec' 15 (by omega)) _) (fun j _ => ew j) (fun _ hnh q hq q4 qh => ?_) (by rw [ew 17]; exact fun q => q)
      rw [ew 16]
      rw [ec' 18 (by omega)] at q4
      rw [ec' 20 (by omega)] at qh
      have hqp : q ≠ p := fun e => by subst e; exact absurd (st_eq (by omega) (by omega) h3 q4) (by decide)
      rw [za_wri hqp]
      by_cases eb' : q = b
      · subst eb'; rw [za_wrs, v2]
        have := hnh q hq q4 qh
        rw [kb1, v2, nI_leI (by omega) (by omega)] at this
        omega
      · rw [za_wri eb']; exact hnh q hq q4 qh
    · rw [ec' 18 (by omega)]; exact h3
end AC
