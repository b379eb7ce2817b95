/-! ===== calls that do ===== -/
theorem ite10 {α : Type} {P : Prop} [Decidable P] (x y : α) : (if (if P then 0 else nI 1) = 0 then x else y) = if P then x else y := by
  by_cases h : P
  · rw [if_pos h, if_pos rfl, if_pos h]
  · rw [if_neg h, if_neg za_n10, if_neg h]
section WF
variable {w n t x a y m p c : Nat} {C R : Mc} {v : Int32}
theorem wf_here (h : RV w n t x a y m C R) (hp : p < n) : fX3_isHere C (w + 15) (nI p) = some (if C (w + 18) p < nI 2 then 0 else nI 1) := lf_here h.1.2.1.1 (rw_n100 h.1) hp
theorem wf_home (h : RV w n t x a y m C R) (hp : p < n) : fX3_isAtHome C (w + 15) (nI p) = some (if C (w + 18) p = 0 then nI 1 else 0) := lf_home h.1.2.1.1 (rw_n100 h.1) hp
theorem wf_trade (h : RV w n t x a y m C R) (hp : p < n) : fX3_tradeOf C (w + 15) (nI p) = some (C (w + 16) p) := lf_trade h.1.2.1.1 (rw_n100 h.1) hp
theorem wf_order (h : RV w n t x a y m C R) (hp : p < n) : fX3_orderOf C (w + 15) (nI p) = some (C (w + 22) p) := lf_order h.1.2.1.1 (rw_n100 h.1) hp
theorem wf_pay (h : RV w n t x a y m C R) (hp : p < n) : fX3_canPay C (w + 15) (nI p) v = some (if C (w + 17) p < v then 0 else nI 1) := lf_pay h.1.2.1.1 (rw_n100 h.1) hp
theorem wf_spend (h : RV w n t x a y m C R) (hp : p < n) : fX3_spend C (w + 15) (nI p) v = some (wr C (w + 17) p (C (w + 17) p - v)) := lf_spend h.1.2.1.1 (rw_n100 h.1) hp
theorem wf_lot (hc : c < 96) : fX4_isLot C (w + 1) (nI c) = some (if C (w + 5) c = nI 1 then nI 1 else 0) := lg_lot hc
theorem wf_wild (hc : c < 96) : fX4_isWild C (w + 1) (nI c) = some (if C (w + 5) c = 0 then nI 1 else 0) := lg_wild hc
theorem wf_pof (hc : c < 96) : fX4_isPastureOf C (w + 1) (nI c) v = some (if (C (w + 5) c = nI 4 ∨ C (w + 5) c = nI 6) ∧ C (w + 6) c = v then nI 1 else 0) := lg_pof hc
theorem wf_stock (hc : c < 96) : fX4_stockOf C (w + 1) (nI c) = some (C (w + 8) c) := lg_stock hc
theorem wf_fen (hc : c < 96) : fX4_isFenced C (w + 1) (nI c) = some (if C (w + 9) c = 0 then 0 else nI 1) := lg_fen hc
theorem rx_here (h : RV w n t x a y m C R) (hp : p < n) : fX12_isHere R (nI p) = some (if C (w + 18) p < nI 2 then 0 else nI 1) := by
  have := rw_n100 h.1
  rw [rf_here (by omega), ra_st h.1.1 (by omega)]
theorem rx_hold (h : RV w n t x a y m C R) (hc : c < 96) : fX12_sec R (nI c) 0 = some (C (w + 5) c) := by rw [rf_sec0 hc, ra_hold h.1.1 hc]
theorem rx_own (h : RV w n t x a y m C R) (hc : c < 96) : fX12_sec R (nI c) (nI 1) = some (C (w + 6) c) := by rw [rf_sec hc (by omega), ra_own h.1.1 hc]
theorem rx_stk (h : RV w n t x a y m C R) (hc : c < 96) : fX12_sec R (nI c) (nI 3) = some (C (w + 8) c) := by rw [rf_sec hc (by omega), ra_stk h.1.1 hc]
theorem rx_fen (h : RV w n t x a y m C R) (hc : c < 96) : fX12_sec R (nI c) (nI 4) = some (C (w + 9) c) := by rw [rf_sec hc (by omega), ra_fen h.1.1 hc]
theorem rx_trade (h : RV w n t x a y m C R) (hp : p < n) : fX12_per R (nI p) 0 = some (C (w + 16) p) := by
  have := rw_n100 h.1
  rw [rf_per0 (by omega), ra_trade h.1.1 (by omega)]
theorem rx_coin (h : RV w n t x a y m C R) (hp : p < n) : fX12_per R (nI p) (nI 1) = some (C (w + 17) p) := by
  have := rw_n100 h.1
  rw [rf_per (by omega) (by omega), ra_coin h.1.1 (by omega)]
theorem rx_st (h : RV w n t x a y m C R) (hp : p < n) : fX12_per R (nI p) (nI 2) = some (C (w + 18) p) := by
  have := rw_n100 h.1
  rw [rf_per (by omega) (by omega), ra_st h.1.1 (by omega)]
theorem rx_ord (h : RV w n t x a y m C R) (hp : p < n) : fX12_per R (nI p) (nI 6) = some (C (w + 22) p) := by
  have := rw_n100 h.1
  rw [rf_per (by omega) (by omega), ra_ord h.1.1 (by omega)]
theorem rx_pof (h : RV w n t x a y m C R) (hc : c < 96) : fX12_isOwnPasture R (nI p) (nI c) = some (if (C (w + 5) c = nI 4 ∨ C (w + 5) c = nI 6) ∧ C (w + 6) c = nI p then nI 1 else 0) := by
  unfold fX12_isOwnPasture
  rw [rx_hold h hc, za_bnd, rf_isPast, za_bnd, ite01, rx_own h hc, za_bnd]
  by_cases q : C (w + 5) c = nI 4 ∨ C (w + 5) c = nI 6
  · rw [if_pos q]
    by_cases q2 : C (w + 6) c = nI p
    · rw [if_pos q2, if_pos ⟨q, q2⟩]
    · rw [if_neg q2, if_neg (fun z => q2 z.2)]
  · rw [if_neg q, if_neg (fun z => q z.1)]
theorem rx_pays {k v : Nat} (h : RV w n t x a y m C R) (hp : p < n) (hk : C (w + 17) p = nI k) (hk6 : k ≤ 1000000) (hv : v ≤ k) : fX12_pays R (nI p) (-nI v) = some (wr R 128 (768 + 8 * p + 1) (nI (k - v))) := by
  have := rw_n100 h.1
  rw [rf_pays (by omega), ra_coin h.1.1 (by omega), hk, cap_neg hv hk6]
end WF
section AC
variable {n t m : Nat} {C R : Mc} {N L : Md} {e : Nat → Int32} {x : Option (Nat ⊕ (Int32 × Mc))} {y : Option (Int32 × Mc)}
theorem om_r {b : Int32} (h : IV n t m C R N L) (hx : x = some (.inr (b, C))) (hy : y = some (b, wr R 127 0 0)) : OM e C R N L x y :=
  om_v (iv_thr h) hx hy GC.rf (gr_wr GR2.rf (by omega)) (za_wrs _ _ _ _)
theorem om_fd {b : Int32} {C' R' : Mc} (h : IV n t m C R N L) (hx : x = some (.inr (b, C'))) (hy : y = some (b, R')) (h2 : RV 17 n t n (ab t) (t / 52) m C' R') (fc : FC 17 C C') (fd : FD (wr R 127 0 0) R') (hz : ∀ j, 10 ≤ j → j ≤ 12 → C' 17 j = C 17 j) : OM e C R N L x y :=
  om_v (iv_fd (iv_thr h) h2 fc fd hz) hx hy (fun a h1 h2 => fc.1 a (by omega)) ((gr_wr GR2.rf (by omega)).tr (fun a h1 => fd.1 a (by omega) (by omega))) (by rw [fd.1 127 (by omega) (by omega), za_wrs])
theorem asked (h : IV n t m C R N L) (p0 p1 : Int32) : ((∀ {α : Type} (K : Option (Nat ⊕ α)), (bnx (fX11_needPerson C p0) fun _ => bnx (fX11_needSection p1) fun _ => K) = some (.inl 1)) ∧ fX12_isAsked R p0 p1 = some (0, wr (wr R 127 0 0) 127 0 (nI 1))) ∨ ∃ p c, p < n ∧ c < 96 ∧ p0 = nI p ∧ p1 = nI c ∧ (∀ {α : Type} (K : Option (Nat ⊕ α)), (bnx (fX11_needPerson C p0) fun _ => bnx (fX11_needSection p1) fun _ => K) = K) ∧ fX12_isAsked R p0 p1 = some (nI 1, wr R 127 0 0) := by
  unfold fX12_isAsked fX12_isAsked_J22 fX12_isAsked_J27
  rcases pers h p0 with ⟨h1, h2⟩ | ⟨p, hp, rfl, h1, h2⟩
  · left
    refine ⟨fun K => by rw [h1, za_bnxl], ?_⟩
    rw [za_lt, h2 _ t128, za_bnd, if_pos rfl, bad_1, za_bn2, if_neg za_n10]
  · rcases secs p1 with ⟨g1, g2⟩ | ⟨c, hc, rfl, g1, g2⟩
    · left
      refine ⟨fun K => by rw [h1, za_bnx, g1, za_bnxl], ?_⟩
      rw [za_lt, h2 _ t128, za_bnd, if_neg za_n10, g2, za_bnd, if_pos rfl, bad_1, za_bn2, if_neg za_n10]
    · right
      refine ⟨p, c, hp, hc, rfl, rfl, fun K => by rw [h1, za_bnx, g1, za_bnx], ?_⟩
      rw [za_lt, h2 _ t128, za_bnd, if_neg za_n10, g2, za_bnd, if_neg za_n10, bad_0, za_bn2, if_pos rfl]
theorem c_buy (h : IV n t m C R N L) (p0 p1 : Int32) : OM eB C R N L (fX11_buy C p0 p1) (fX12_buy R p0 p1) := by
  unfold fX11_buy fX12_buy
  rcases asked h p0 p1 with ⟨a1, a2⟩ | ⟨p, c, hp, hc, rfl, rfl, a1, a2⟩
  · exact om_t (k := 1) (v := nI 1) h (a1 _) (by rw [a2, za_bn2, if_pos rfl]) rfl za_n10
  · have ih := iv_thr (v := 0) h
    rw [a1, a2, za_bn2, if_neg za_n10, wf_here h.1 hp, rx_here ih.1 hp, za_bnd, za_bnd, ite10, ite10]
    by_cases q : C (17 + 18) p < nI 2
    · exact om_r (b := -1) h (if_pos q) (if_pos q)
    · simp only [if_neg q]
      rw [wf_lot hc, rx_hold ih.1 hc, za_bnd, za_bnd, ite01]
      by_cases q1 : C (17 + 5) c = nI 1
      · simp only [if_pos q1]
        obtain ⟨s, k, s1, s2, k1, k2⟩ := rw_per h.1.1 hp
        obtain ⟨v, C1, R2, v1, v2, i1, i2, i3, i4⟩ := mean_p (k := 0) (C (17 + 2) c) ih (by omega)
        rw [nI_0] at i1 i2
        have h1 : RV 17 n t n (ab t) (t / 52) m C1 (wr R 127 0 0) := ih.1.junk i3 (fun _ _ => rfl)
        have hC1 : ∀ b, b < 45 → C1 (17 + b) = C (17 + b) := fun b hb => i3 _ (by omega) (by omega)
        unfold fX10_priceOf
        rw [show fX4_soilOf C (17 + 1) (nI c) = some (C (17 + 2) c) from lg_soil hc, za_bnd, i1, za_bn2, za_bn2, wf_pay h1 hp, hC1 17 (by omega), k1, za_bnd, ite10]
        by_cases q3 : nI k < nI v
        · refine om_fd (C' := C1) (R' := R2) (b := -3) h (if_pos q3) ?_ (ih.1.junk i3 i4) (fc_of i3) (fd_of i4) (fun j _ _ => by rw [hC1 0 (by omega)])
          have h2 : RV 17 n t n (ab t) (t / 52) m C R2 := ih.1.junk (fun _ _ _ => rfl) i4
          unfold fX12_sells
          rw [za_chk _ hc (by omega), nI_clamp (by omega), ra_soil ih.1.1.1 hc, i2, za_bn2, rx_coin h2 hp, za_bnd, k1, if_neg (by grind), za_bn2]
        · rw [if_neg q3]
          have hs2 : 2 ≤ s := by
            rw [s1, nI_ltI (by omega) (by omega)] at q; omega
          rw [nI_ltI (by omega) (by omega)] at q3
          obtain ⟨C', R', g1, g2, g3, g4, g5, g6, g7, g8⟩ := sell_sim (w := 17) (c := c) (v := v) (k := k) (s := s) h1 hp hc (by rw [hC1 5 (by omega)]; exact q1) v1 (by rw [hC1 17 (by omega)]; exact k1) k2 (by omega) (by rw [hC1 18 (by omega)]; exact s1) hs2 s2 ⟨R2, by rw [hC1 2 (by omega)]; exact i2, i4⟩
          rw [g1, za_bnd, g2, za_bn2]
          exact om_fd (C' := C') (R' := R') (b := nI v) h rfl rfl g3 ((fc_of i3).tr g4) g5 (fun j j1 j2 => (g8 j (by omega) (by omega)).trans (by rw [show (17 : Nat) = 17 + 0 from rfl, hC1 0 (by omega)]))
      · exact om_r (b := -2) h (if_neg q1) (if_neg q1)
end AC
