section AN
variable {n t m p c : Nat} {C R C' R' C1 R2 : Mc} {N L N' L' : Md} {e : Nat → Int32}
def ordC (C : Mc) (p no v k : Nat) : Mc := wr (wr (wr (wr (wr C 0 11 (C 0 11 + nI v)) (17 + 17) p (nI (k - v))) (17 + 22) p (nI no)) (17 + 23) p (nI v)) (17 + 15) 3 (nI (no + 1))
def ordR (R : Mc) (p no v k : Nat) : Mc := wr (wr (wr (wr (wr (wr (wr R 128 (768 + 8 * p + 1) (nI (k - v))) 128 2120 (R 128 2120 + nI v)) 128 (1780 + 3 * no) (nI p)) 128 (1780 + 3 * no + 1) (nI v)) 128 (1780 + 3 * no + 2) 0) 128 (768 + 8 * p + 6) (nI no)) 128 2128 (nI (no + 1))
theorem iv_order {no v k : Nat} (h : IV n t m C R N L) (hp : p < n) (h39 : C 39 p = -1) (h41 : C 41 p = 0) (hno : C 32 3 = nI no) (hno1 : no < 2 ^ 31) (hv : v ≤ 1000) (hk : C 34 p = nI k) (hk6 : k ≤ 1000000) (hvk : v ≤ k) : IV n t m (ordC C p no v k) (ordR R p no v k) N L := by
  have hn := rw_n100 h.1.1
  obtain ⟨no', i1, i2, i3, i4⟩ := h.2.2.2.2.1
  have hno2 : no' + 1 = cn n (fun q => decide ((if q = p then nI no' else C 39 q) ≠ -1)) := by
    rw [i2]
    refine (cn_inc n _ _ p hp (by rw [h39]; exact decide_eq_false (fun z => z rfl)) (by rw [if_pos rfl]; exact decide_eq_true (za_nm1 (by have := cn_le n (fun p => decide (C 39 p ≠ -1)); omega))) (fun q hq e => by rw [if_neg e])).symm
  have hnn : no' + 1 ≤ n := by rw [hno2]; exact cn_le _ _
  obtain rfl : no' = no := za_inj (by omega) hno1 (i1.symm.trans hno)
  have h0 : RV 17 n t n (ab t) (t / 52) m (wr C 0 11 (C 0 11 + nI v)) R := rv_oth h.1 (fun b hb => za_wrc (by omega))
  have hA := op_coin (k := k - v) hp hn (by omega) h0.1
  have hB := ok_free (i := 2120) (R 128 2120 + nI v) (by omega) hA
  have hC := ok_free (i := 1780 + 3 * no') (nI p) (by omega) hB
  have hD := ok_free (i := 1780 + 3 * no' + 1) (nI v) (by omega) hC
  have hE := ok_free (i := 1780 + 3 * no' + 2) 0 (by omega) hD
  have hF := op_ord (nI no') hp hn hE
  have hG := oj_opd (p := p) (nI v) hF
  have hH := op_nord (nI (no' + 1)) hG
  have ec : ∀ b, b ≠ 0 → b ≠ 32 → b ≠ 34 → b ≠ 39 → b ≠ 40 → ordC C p no' v k b = C b := fun b b1 b2 b3 b4 b5 => by
    unfold ordC; rw [za_wrc (by omega), za_wrc (by omega), za_wrc (by omega), za_wrc (by omega), za_wrc (by omega)]
  have e0 : ∀ j, j ≠ 11 → ordC C p no' v k 0 j = C 0 j := fun j j1 => by
    unfold ordC; rw [za_wra (by omega), za_wra (by omega), za_wra (by omega), za_wra (by omega), za_wri j1]
  have er : ∀ b, b ≠ 128 → ordR R p no' v k b = R b := fun b b1 => by
    unfold ordR; rw [za_wrc b1, za_wrc b1, za_wrc b1, za_wrc b1, za_wrc b1, za_wrc b1, za_wrc b1]
  have ep : ∀ j, j ≠ 2120 → j ≠ 2128 → 1568 ≤ j → (j < 1780 + 3 * no' ∨ 1780 + 3 * no' + 2 < j) → ordR R p no' v k 128 j = R 128 j := fun j j1 j2 j3 j4 => by
    unfold ordR; rw [za_wri (by omega), za_wri (by omega), za_wri (by omega), za_wri (by omega), za_wri (by omega), za_wri (by omega), za_wri (by omega)]
  have e39 : ∀ q, ordC C p no' v k 39 q = if q = p then nI no' else C 39 q := fun q => by
    unfold ordC
    rw [za_wra (by omega), za_wra (by omega)]
    by_cases e : q = p
    · rw [if_pos e, e, za_wrs]
    · rw [if_neg e, za_wri e, za_wra (by omega), za_wra (by omega)]
  have e40 : ∀ q, ordC C p no' v k 40 q = if q = p then nI v else C 40 q := fun q => by
    unfold ordC
    rw [za_wra (by omega)]
    by_cases e : q = p
    · rw [if_pos e, e, za_wrs]
    · rw [if_neg e, za_wri e, za_wra (by omega), za_wra (by omega), za_wra (by omega)]
  have e41 : ordC C p no' v k 41 = C 41 := ec 41 (by omega) (by omega) (by omega) (by omega) (by omega)
  have e17 : ordC C p no' v k 17 = C 17 := ec 17 (by omega) (by omega) (by omega) (by omega) (by omega)
  have eq0 : ordR R p no' v k 128 (1780 + 3 * no') = nI p := by unfold ordR; rw [za_wri (by omega), za_wri (by omega), za_wri (by omega), za_wri (by omega), za_wrs]
  have eq1 : ordR R p no' v k 128 (1780 + 3 * no' + 1) = nI v := by unfold ordR; rw [za_wri (by omega), za_wri (by omega), za_wri (by omega), za_wrs]
  have eq2 : ordR R p no' v k 128 (1780 + 3 * no' + 2) = 0 := by unfold ordR; rw [za_wri (by omega), za_wri (by omega), za_wrs]
  have h2 : RV 17 n t n (ab t) (t / 52) m (ordC C p no' v k) (ordR R p no' v k) := rv_mk h.1 hH (fun b hb => ec b (by omega) (by omega) (by omega) (by omega) (by omega)) (fun b b1 b2 => er b (by omega)) (by rw [show ordC C p no' v k (17 + 37) = C (17 + 37) from ec 54 (by omega) (by omega) (by omega) (by omega) (by omega)]) (fun j _ _ => by rw [e17])
  refine ⟨h2, AL_c h.2.1 (fun b _ _ => ec b (by omega) (by omega) (by omega) (by omega) (by omega)) (er _ (by omega)) (er _ (by omega)), ?_, IR_cg h.2.2.2.1 (fun b _ _ => ec b (by omega) (by omega) (by omega) (by omega) (by omega)) (er _ (by omega)), ⟨no' + 1, by unfold ordC; rw [za_wrs], ?_, fun q hq => ?_, fun k' hk' => ?_⟩, ?_, IP_c h.2.2.2.2.2.2.1 (e0 8 (by omega)) (ec 123 (by omega) (by omega) (by omega) (by omega) (by omega)) (by rw [er 127 (by omega)]) (er _ (by omega)), by rw [e0 9 (by omega), er 127 (by omega)]; exact h.2.2.2.2.2.2.2.1, IW_cg h.2.2.2.2.2.2.2.2.1 (ec 59 (by omega) (by omega) (by omega) (by omega) (by omega)) (ec 60 (by omega) (by omega) (by omega) (by omega) (by omega)) (ec 61 (by omega) (by omega) (by omega) (by omega) (by omega)) (er 139 (by omega)) (fun l' k' _ _ => ep _ (by omega) (by omega) (by omega) (by omega)), IC_c h.2.2.2.2.2.2.2.2.2.1 (e0 14 (by omega)) (e0 16 (by omega)) (ec 124 (by omega) (by omega) (by omega) (by omega) (by omega)) (ec 125 (by omega) (by omega) (by omega) (by omega) (by omega)) (by rw [er 127 (by omega)]) (by rw [er 127 (by omega)]) (er 142 (by omega)) (er 143 (by omega)), II_c h.2.2.2.2.2.2.2.2.2.2.1 (by rw [ec 121 (by omega) (by omega) (by omega) (by omega) (by omega)]) (ec 122 (by omega) (by omega) (by omega) (by omega) (by omega)) (by rw [er 127 (by omega)]) (er 144 (by omega)), ?_⟩
  · obtain ⟨a1, a2, kk, a3, a4, a5⟩ := h.2.2.1
    refine ⟨?_, ?_, kk, a3, by rw [e0 10 (by omega)]; exact a4, by rw [ep 2129 (by omega) (by omega) (by omega) (by omega)]; exact a5⟩
    · rw [show ordC C p no' v k 0 11 = C 0 11 + nI v by unfold ordC; rw [za_wra (by omega), za_wra (by omega), za_wra (by omega), za_wra (by omega), za_wrs]]
      rw [show ordR R p no' v k 128 2120 = R 128 2120 + nI v by unfold ordR; rw [za_wri (by omega), za_wri (by omega), za_wri (by omega), za_wri (by omega), za_wri (by omega), za_wrs], a1]
    · rw [ep 2121 (by omega) (by omega) (by omega) (by omega), e0 12 (by omega)]; exact a2
  · rw [hno2]; exact cn_con n _ _ (fun q hq => by rw [e39])
  · rw [e39, e40, e41]
    by_cases e : q = p
    · subst e
      rw [if_pos rfl, if_pos rfl]
      exact Or.inr ⟨no', by omega, rfl, eq0, eq1, by rw [eq2, h41], Or.inl h41, v, hv, rfl⟩
    · rw [if_neg e, if_neg e]
      rcases i3 q hq with z | ⟨k', k1, k2, k3, k4, k5, k6⟩
      · exact Or.inl z
      · exact Or.inr ⟨k', by omega, k2, by rw [ep _ (by omega) (by omega) (by omega) (by omega)]; exact k3, by rw [ep _ (by omega) (by omega) (by omega) (by omega)]; exact k4, by rw [ep _ (by omega) (by omega) (by omega) (by omega)]; exact k5, k6⟩
  · by_cases e : k' = no'
    · subst e
      exact ⟨p, hp, by rw [e39, if_pos rfl], eq0⟩
    · obtain ⟨q, p1, p2, p3⟩ := i4 k' (by omega)
      refine ⟨q, p1, ?_, by rw [ep _ (by omega) (by omega) (by omega) (by omega)]; exact p3⟩
      rw [e39, if_neg (fun z => by subst z; rw [h39] at p2; exact za_m1n (by omega) p2)]; exact p2
  · obtain ⟨dr, wt, a0, a1, a2, a3, a4, a5, a6, a7⟩ := h.2.2.2.2.2.1
    have e111 := ec 111 (by omega) (by omega) (by omega) (by omega) (by omega)
    exact ⟨dr, wt, a0, by rw [e111]; exact a1, by rw [ep _ (by omega) (by omega) (by omega) (by omega)]; exact a2, by rw [e111]; exact a3, by rw [ep _ (by omega) (by omega) (by omega) (by omega)]; exact a4, fun k hk => by rw [ep _ (by omega) (by omega) (by omega) (by omega), ec 112 (by omega) (by omega) (by omega) (by omega) (by omega)]; exact a5 k hk, fun k h1 h2 => by rw [ep _ (by omega) (by omega) (by omega) (by omega)]; exact a6 k h1 h2, fun k hk => by rw [ep _ (by omega) (by omega) (by omega) (by omega), ec 113 (by omega) (by omega) (by omega) (by omega) (by omega)]; exact a7 k hk⟩
  · have := h.2.2.2.2.2.2.2.2.2.2.2; unfold IZ at *; rw [e17]; exact this
end AN
