section AT
variable {w n t x a y m p : Nat} {C R : Mc}
def cand (w n : Nat) (C : Mc) (b : Nat) : Prop := b < n ∧ C (w + 18) b = nI 4 ∧ C (w + 20) b < nI 4 ∧ ¬ C (w + 17) b < C w 16
theorem boss_L (h : RW w n t x a y C R) (P : Int32) : ∀ k fu i b fe, i + k = n → k < fu → (b = -1 ∧ fe = nI 4 ∧ (∀ q, q < i → ¬ cand w n C q) ∨ ∃ c, b = nI c ∧ fe = C (w + 20) c ∧ cand w n C c) →
    ∃ b', fX3_findBoss_L7 (w + 15) fu C (C w 16) b fe (nI i) = some b' ∧ fX12_seeks_L8 fu R P (C w 16) b fe (nI i) = (if 0 ≤ b' then bnd (fX12_setPer R P (nI 2) (nI 3)) fun M2 => bnd (fX12_setPer M2 P (nI 3) b') fun M4 => (some (M4)) else (some (R))) ∧ (b' = -1 ∧ (∀ q, q < n → ¬ cand w n C q) ∨ ∃ c, b' = nI c ∧ cand w n C c)
  | k, 0, _, _, _, _, hf, _ => by omega
  | 0, fu + 1, i, b, fe, hi, _, hb => by
    obtain rfl : i = n := by omega
    have hn := rw_n100 h
    rw [fX3_findBoss_L7, fX12_seeks_L8, za_chk (n := 2124) (N := 2132) _ (by omega) (by omega), nI_clamp (n := 2124) (by omega), rw_n h, show C (w + 15) 0 = nI i from h.2.1.1, if_pos (nI_le (Nat.le_refl _) (by omega)), if_pos (nI_le (Nat.le_refl _) (by omega))]
    refine ⟨b, rfl, rfl, ?_⟩
    rcases hb with ⟨h1, _, h2⟩ | ⟨c, h1, _, h2⟩
    · exact Or.inl ⟨h1, h2⟩
    · exact Or.inr ⟨c, h1, h2⟩
  | k + 1, fu + 1, i, b, fe, hi, hf, hb => by
    have hn := rw_n100 h
    have hin : i < n := by omega
    rw [fX3_findBoss_L7, fX12_seeks_L8, za_chk (n := 2124) (N := 2132) _ (by omega) (by omega), nI_clamp (n := 2124) (by omega), rw_n h, show C (w + 15) 0 = nI n from h.2.1.1, if_neg (nI_ge (by omega) (by omega)), if_neg (nI_ge (by omega) (by omega)), if_neg (nI_ge (by omega) (by omega)), za_chk _ (by omega) (by omega), za_chk _ (by omega) (by omega), za_chk _ (by omega) (by omega), za_chk _ (by omega) (by omega), nI_clamp (by omega), rf_per (by omega) (by omega), za_bnd, ra_st h.1 (by omega), rf_per (by omega) (by omega), za_bnd, ra_coin h.1 (by omega), rw_hired h hin, za_bnd]
    unfold fX3_findBoss_J67 fX12_seeks_J71
    simp only [za_lt, nI_add]
    change ∃ b', (if C (w + 18) i = nI 4 then (if fe ≤ C (w + 20) i then _ else (if C (w + 17) i < C w 16 then _ else _)) else _) = _ ∧ _
    by_cases h4 : C (w + 18) i = nI 4
    · rw [if_pos h4, if_pos h4]
      by_cases h5 : fe ≤ C (w + 20) i
      · rw [if_pos h5]
        have hb2 : b = -1 ∧ fe = nI 4 ∧ (∀ q, q < i + 1 → ¬ cand w n C q) ∨ ∃ c, b = nI c ∧ fe = C (w + 20) c ∧ cand w n C c := by
          rcases hb with ⟨h1, h2, h3⟩ | hb
          · refine Or.inl ⟨h1, h2, fun q hq hc => ?_⟩
            by_cases e : q = i
            · subst e; rw [h2] at h5; exact absurd hc.2.2.1 (by grind)
            · exact h3 q (by omega) hc
          · exact Or.inr hb
        have ih := boss_L h P k fu (i + 1) b fe (by omega) (by omega) hb2
        by_cases h6 : C w 16 ≤ C (w + 17) i
        · rw [if_pos h6, if_neg (by grind)]; exact ih
        · rw [if_neg h6]; exact ih
      · rw [if_neg h5]
        by_cases h6 : C (w + 17) i < C w 16
        · rw [if_pos h6, if_neg (by grind)]
          refine boss_L h P k fu (i + 1) b fe (by omega) (by omega) ?_
          rcases hb with ⟨h1, h2, h3⟩ | hb
          · refine Or.inl ⟨h1, h2, fun q hq hc => ?_⟩
            by_cases e : q = i
            · subst e; exact hc.2.2.2 h6
            · exact h3 q (by omega) hc
          · exact Or.inr hb
        · rw [if_neg h6, if_pos (by grind), if_pos (by grind)]
          refine boss_L h P k fu (i + 1) (nI i) (C (w + 20) i) (by omega) (by omega) (Or.inr ⟨i, rfl, rfl, hin, h4, ?_, h6⟩)
          rcases hb with ⟨_, h2, _⟩ | ⟨c, _, h2, hc⟩
          · rw [h2] at h5; grind
          · rw [h2] at h5; have := hc.2.2.1; grind
    · rw [if_neg h4, if_neg h4]
      refine boss_L h P k fu (i + 1) b fe (by omega) (by omega) ?_
      rcases hb with ⟨h1, h2, h3⟩ | hb
      · refine Or.inl ⟨h1, h2, fun q hq hc => ?_⟩
        by_cases e : q = i
        · subst e; exact h4 hc.2.1
        · exact h3 q (by omega) hc
      · exact Or.inr hb
theorem boss_eq (h : RW w n t x a y C R) (P : Int32) : ∃ b', fX3_findBoss C (w + 15) (C w 16) = some b' ∧ fX12_seeks R P (C w 16) = (if 0 ≤ b' then bnd (fX12_setPer R P (nI 2) (nI 3)) fun M2 => bnd (fX12_setPer M2 P (nI 3) b') fun M4 => (some (M4)) else (some (R))) ∧ (b' = -1 ∧ NH w n C ∨ ∃ c, b' = nI c ∧ cand w n C c) := by
  have hn := rw_n100 h
  unfold fX3_findBoss fX12_seeks
  rw [za_0]
  obtain ⟨b', h1, h2, h3⟩ := boss_L h P n FU 0 (-1) (nI 4) (by omega) (by rw [za_FU]; omega) (Or.inl ⟨rfl, rfl, fun q hq => by omega⟩)
  refine ⟨b', h1, h2, h3.elim (fun ⟨q1, q2⟩ => Or.inl ⟨q1, fun q hq q4 qh hw => ?_⟩) Or.inr⟩
  exact q2 q hq ⟨hq, q4, qh, by grind⟩
/-- work is sought -/
theorem seek_sim (h : RV w n t n a y m C R) (hla : LA w n C) (h13 : C w 13 = 0) (hp : p < n) (h2 : C (w + 18) p = nI 2) :
    ∃ C' R', fX10_seekWork C w (nI p) = some C' ∧ (∀ f : Mc → Option Mc, (bn2 (fX12_meaning R (nI 2) 0) fun v33 M34 => bnd (fX12_seeks M34 (nI p) v33) fun M36 => f M36) = f R') ∧ RV w n t n a y m C' R' ∧ LA w n C' ∧ C' w 13 = 0 ∧ FC w C C' ∧ FD R R' ∧ C' (w + 15) 1 = C (w + 15) 1 := by
  have hw := h.w17
  have hn := rw_n100 h.1
  have hn0 : C (w + 15) 0 = nI n := h.1.2.1.1
  obtain ⟨v, v1, v2, v3⟩ := hla.2.2.2.1
  obtain ⟨R1, r1, r2⟩ := mean_r h (by omega) v3 v1
  have hm : fX12_meaning R (nI 2) 0 = some (nI v, R1) := by rw [mr_k (by omega) (by omega) (by omega)]; exact r1
  have h1 : RV w n t n a y m C R1 := h.junk (fun _ _ _ => rfl) r2
  obtain ⟨b', b1, b2, b3⟩ := boss_eq h1.1 (nI p)
  have keep : ∀ z, (z ≠ 0 → NH w n C) → RV w n t n a y m (wr C w 17 z) R1 ∧ LA w n (wr C w 17 z) ∧ wr C w 17 z w 13 = 0 ∧ FC w C (wr C w 17 z) ∧ wr C w 17 z (w + 15) 1 = C (w + 15) 1 := by
    intro z hz
    refine ⟨rv_wj _ (by omega) h1, ?_, by rw [za_wri (by omega)]; exact h13, fc_wr FC.rf (by omega), za_wra (by omega)⟩
    obtain ⟨l1, ⟨so, l2, l3⟩, l4, ⟨v', l5, l6, l7⟩, l8⟩ := hla
    have e : ∀ k, 1 ≤ k → wr C w 17 z (w + k) = C (w + k) := fun k hk => za_wrc (by omega)
    have ew : ∀ j, j ≠ 17 → wr C w 17 z w j = C w j := fun j hj => za_wri hj
    have em : ∀ k so v, MV w C k so v → MV w (wr C w 17 z) k so v := fun k so v hv => MV_cg hv (fun b hb => za_wrc (by omega)) (congrFun (e 37 (by omega)) _) (ew 6 (by omega)) (congrFun (e 1 (by omega)) _) (congrFun (e 15 (by omega)) _)
    refine ⟨by rw [ew 14 (by omega)]; exact BL_cg l1 (fun k k1 k2 => e k (by omega)), ⟨so, ?_, ?_⟩, ?_, ⟨v', l5, by rw [ew 16 (by omega)]; exact l6, em _ _ _ l7⟩, fun q => ?_⟩
    · rw [ew 14 (by omega)]
      rcases l2 with l2 | ⟨c, c1, c2, c3⟩
      · exact Or.inl l2
      · exact Or.inr ⟨c, c1, c2, by rw [e 2 (by omega)]; exact c3⟩
    · rw [ew 10 (by omega), ew 15 (by omega)]
      intro q
      obtain ⟨u, u1, u2, u3, u4⟩ := l3 q
      exact ⟨u, u1, u2, u3, em _ _ _ u4⟩
    · rw [ew 10 (by omega), ew 15 (by omega)]; exact l4
    · rw [za_wrs] at q
      have := hz q
      intro r hr; rw [e 18 (by omega), e 20 (by omega), e 17 (by omega), ew 16 (by omega)]; exact this r hr
  have fdr : FD R R1 := fd_of r2
  have none_case : NH w n C → b' = -1 ∧ fX12_seeks R1 (nI p) (nI v) = some R1 := by
    intro hnh
    rw [← v2]
    rcases b3 with ⟨q1, q2⟩ | ⟨c, q1, q2⟩
    · rw [b2, q1, if_neg (by decide +kernel)]; exact ⟨rfl, rfl⟩
    · exact absurd (show C w 16 ≤ C (w + 17) c by have := q2.2.2.2; grind) (hnh c q2.1 q2.2.1 q2.2.2.1)
  unfold fX10_seekWork fX10_seekWork_J22 fX10_seekWork_J34
  by_cases h17 : C w 17 = 0
  · rw [if_pos h17, b1, za_bnd]
    rcases b3 with ⟨q1, q2⟩ | ⟨c, q1, q2⟩
    · obtain ⟨k1, k2, k3, k4, k5⟩ := keep (nI 1) (fun _ => q2)
      rw [q1, if_pos rfl, za_chp _ isz1, za_lt, lf_hire0 (by rw [za_wra (by omega)]; exact hn0) hn hp, za_bnd]
      exact ⟨_, R1, rfl, fun f => by rw [hm, za_bn2, (none_case q2).2, za_bnd], k1, k2, k3, k4, fdr, k5⟩
    · obtain ⟨k1, k2, k3, k4, k5⟩ := keep 0 (fun q => absurd rfl q)
      rw [q1, if_neg (za_nm1 (by have := q2.1; omega)), za_chp _ isz0, za_lt, lf_hire (by rw [za_wra (by omega)]; exact hn0) hn hp q2.1, za_bnd]
      have hb4 : wr C w 17 0 (w + 18) c = nI 4 := by rw [za_wra (by omega)]; exact q2.2.1
      have hp2 : wr C w 17 0 (w + 18) p = nI 2 := by rw [za_wra (by omega)]; exact h2
      have hR := op_hire hp hn q2.1 hp2 hb4 k1.1
      have e : ∀ k, k ≠ 18 → k ≠ 19 → k ≠ 20 → moHire (wr C w 17 0) (w + 15) p c (w + k) = wr C w 17 0 (w + k) := fun k e1 e2 e3 => by unfold moHire; rw [za_wrc (by omega), za_wrc (by omega), za_wrc (by omega)]
      have ew : ∀ j, moHire (wr C w 17 0) (w + 15) p c w j = wr C w 17 0 w j := fun j => by unfold moHire; rw [za_wra (by omega), za_wra (by omega), za_wra (by omega)]
      have fc : FC w (wr C w 17 0) (moHire (wr C w 17 0) (w + 15) p c) := fc_wr (fc_wr (fc_wr FC.rf (by omega)) (by omega)) (by omega)
      have fd : FD R1 (wr (wr R1 128 (768 + 8 * p + 2) (nI 3)) 128 (768 + 8 * p + 3) (nI c)) := fd_wr (fd_wr FD.rf (by first | omega | (have := rw_n100 h.1; omega))) (by first | omega | (have := rw_n100 h.1; omega))
      refine ⟨_, _, rfl, fun f => ?_, k1.step hR fc fd (congrFun (e 37 (by omega) (by omega) (by omega)) _) (ew _) (ew _) (ew _), ?_, (ew 13).trans k3, k4.tr fc, fdr.tr fd, (congrFun (e 15 (by omega) (by omega) (by omega)) _).trans k5⟩
      · rw [hm, za_bn2, ← v2, b2, q1, if_pos (nI_pos' (by have := q2.1; omega)), rf_setPer (by omega) (by omega), za_bnd, rf_setPer (by omega) (by omega), za_bnd, za_bnd]
      · exact LA_cg k2 (fun k e1 e2 => e k (by omega) (by omega) (by omega)) (fun b hb => fc.1 b (by omega)) (congrFun (e 37 (by omega) (by omega) (by omega)) _) (ew _) (congrFun (e 1 (by omega) (by omega) (by omega)) _) (congrFun (e 15 (by omega) (by omega) (by omega)) _) (fun j _ => ew j) (fun q => absurd (by rw [ew 17]; exact za_wrs _ _ _ _) q) (by rw [ew 17]; exact fun q => q)
  · rw [if_neg h17]
    have hnh := hla.2.2.2.2 h17
    obtain ⟨k1, k2, k3, k4, k5⟩ := keep (nI 1) (fun _ => hnh)
    rw [if_pos rfl, za_chp _ isz1, za_lt, lf_hire0 (by rw [za_wra (by omega)]; exact hn0) hn hp, za_bnd]
    exact ⟨_, R1, rfl, fun f => by rw [hm, za_bn2, (none_case hnh).2, za_bnd], k1, k2, k3, k4, fdr, k5⟩
/-- food -/
theorem eat_sim (h : RV w n t n a y m C R) (hla : C w 13 = 0 → LA w n C) (hp : p < n) :
    ∃ C' R', fX10_act_J108 w C (nI p) = some C' ∧ fX12_lives_J134 R (nI p) = some R' ∧ RV w n t n a y m C' R' ∧ (C' w 13 = 0 → LA w n C') ∧ FC w C C' ∧ FD R R' ∧ C' (w + 15) 1 = C (w + 15) 1 := by
  have hw := h.w17
  have hn := rw_n100 h.1
  have hn0 : C (w + 15) 0 = nI n := h.1.2.1.1
  unfold fX10_act_J108 fX12_lives_J134
  rw [za_chk _ (by omega) (by omega), nI_clamp (by omega), ra_store h.1.1]
  by_cases h0 : C w 7 ≤ 0
  · rw [if_pos h0, if_pos h0, lf_starve hn0 hn hp, za_bnd, rf_per (by omega) (by omega), za_bnd, rf_setPer (by omega) (by omega), za_bnd, za_chk _ (by omega) (by omega), za_chk _ (by omega) (by omega), za_lt, nI_clamp (by omega), ra_hun h.1.1 (by omega)]
    have h1 := op_hun (C (w + 25) p + nI 1) hp hn h.1
    have h2 := op_hungry (C (w + 15) 2 + nI 1) h1
    have fc : FC w C (moStarve C (w + 15) p) := fc_wr (fc_wr FC.rf (by omega)) (by omega)
    have ew : ∀ j, moStarve C (w + 15) p w j = C w j := fun j => by unfold moStarve; rw [za_wra (by omega), za_wra (by omega)]
    have e : ∀ k, k ≠ 15 → k ≠ 25 → moStarve C (w + 15) p (w + k) = C (w + k) := fun k e1 e2 => by unfold moStarve; rw [za_wrc (by omega), za_wrc (by omega)]
    have fd : FD R (wr (wr R 128 (768 + 8 * p + 4) (C (w + 25) p + nI 1)) 128 2122 (C (w + 15) 2 + nI 1)) := fd_wr (fd_wr FD.rf (by first | omega | (have := rw_n100 h.1; omega))) (by first | omega | (have := rw_n100 h.1; omega))
    have e15 : moStarve C (w + 15) p (w + 15) 1 = C (w + 15) 1 := by unfold moStarve; rw [za_wri (by omega), za_wra (by omega)]
    refine ⟨moStarve C (w + 15) p, _, rfl, ?_, h.step h2 fc fd (congrFun (e 37 (by omega) (by omega)) _) (ew _) (ew _) (ew _), fun q => ?_, fc, fd, e15⟩
    · rw [show wr R 128 (768 + 8 * p + 4) (C (w + 25) p + nI 1) 128 2122 = C (w + 15) 2 by rw [za_wri (by omega)]; exact ra_hungry h.1.1]
    · exact LA_cg (hla (by rw [← ew 13]; exact q)) (fun k k1 k2 => e k (by omega) (by omega)) (fun b hb => fc.1 b (by omega)) (congrFun (e 37 (by omega) (by omega)) _) (ew _) (congrFun (e 1 (by omega) (by omega)) _) e15 (fun j _ => ew j) (fun _ hnh q hq => by rw [e 18 (by omega) (by omega), e 20 (by omega) (by omega), e 17 (by omega) (by omega), ew 16]; exact hnh q hq) (by rw [ew 17]; exact fun q => q)
  · rw [if_neg h0, if_neg h0, za_lt, za_chk _ (by omega) (by omega), za_chk _ (by omega) (by omega), za_lt]
    have e : ∀ k, 1 ≤ k → wr C w 7 (C w 7 - nI 1) (w + k) = C (w + k) := fun k e1 => za_wrc (by omega)
    have ew : ∀ j, j ≠ 7 → wr C w 7 (C w 7 - nI 1) w j = C w j := fun j hj => za_wri hj
    refine ⟨_, _, rfl, rfl, rv_store _ h, fun q => ?_, fc_wr FC.rf (by omega), fd_wr FD.rf (by first | omega | (have := rw_n100 h.1; omega)), za_wra (by omega)⟩
    exact LA_cg (hla (by rw [← ew 13 (by omega)]; exact q)) (fun k k1 k2 => e k (by omega)) (fun b hb => za_wrc (by omega)) (congrFun (e 37 (by omega)) _) (ew _ (by omega)) (congrFun (e 1 (by omega)) _) (congrFun (e 15 (by omega)) _) (fun j _ => ew j (by omega)) (fun _ hnh q hq => by rw [e 18 (by omega), e 20 (by omega), e 17 (by omega), ew 16 (by omega)]; exact hnh q hq) (by rw [ew 17 (by omega)]; exact fun q => q)
end AT
