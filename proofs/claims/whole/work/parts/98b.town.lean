/-! ===== the town's acres ===== -/
def fr (j : Nat) : Prop := (1780 ≤ j ∧ j < 2104) ∨ j = 2120 ∨ j = 2121 ∨ (2129 ≤ j ∧ j < 2132)
section AR
variable {n t m p c : Nat} {C R C' R' C1 R2 : Mc} {N L N' L' : Md} {e : Nat → Int32}
theorem rw_free {w x a y : Nat} (h : RW w n t x a y C R) (hr : ∀ b, b ≠ 128 → R' b = R b) (hj : ∀ j, ¬ fr j → R' 128 j = R 128 j) : RW w n t x a y C R' := by
  obtain ⟨hA, hN, hS, hP, hH, hO, hC, hZ, hQ, hB, hL, hE, hq, hl⟩ := h
  refine ⟨fun f i hf hi => ?_, hN, hS, hP, hH, hO, hC, hZ, hQ, hB, hL, fun c hc => ?_, fun p hp k i h1 h2 h3 => ?_, fun mm l h1 h2 h3 => ?_⟩
  · rw [← hA f i hf hi]
    by_cases e : fC f = 128
    · rw [e]
      refine hj _ (fun z => ?_)
      have h1 := (fa_ok hf hi).2.1
      rw [e, f99 _ z] at h1
      omega
    · rw [hr _ e]
  · rw [hj _ (by unfold fr; omega), hj _ (by unfold fr; omega), hr 131 (by omega)]; exact hE c hc
  · rw [hj _ (by unfold fr; omega)]; exact hq p hp k i h1 h2 h3
  · rw [hj _ (by unfold fr; omega), hj _ (by unfold fr; omega)]; exact hl mm l h1 h2 h3
/-- all but the town's acres stays -/
theorem iv_town (h : IV n t m C R N L) (hc : ∀ b, b ≠ 111 → b ≠ 112 → b ≠ 113 → C' b = C b) (hr : ∀ b, b ≠ 128 → R' b = R b) (hj : ∀ j, (j < 2080 ∨ (2104 ≤ j ∧ j < 2130) ∨ 2131 < j) → R' 128 j = R 128 j) (ht : IT C' R') : IV n t m C' R' N L := by
  obtain ⟨a1, a2, a3, a4, a5, a6, a7, a8, a9, a10, a11, a12⟩ := h
  have hR : RV 17 n t n (ab t) (t / 52) m C R' := rv_mk a1 (rw_free a1.1 hr (fun j hj' => hj j (by unfold fr at hj'; omega))) (fun _ _ => rfl) (fun b b1 b2 => hr b (by omega)) rfl (fun _ _ _ => rfl)
  refine ⟨rv_ot hR (fun b hb => hc b (by omega) (by omega) (by omega)) (fun _ _ => rfl) (fun _ _ => rfl), AL_c a2 (fun b _ _ => hc b (by omega) (by omega) (by omega)) (hr _ (by omega)) (hr _ (by omega)), ?_, IR_cg a4 (fun b _ _ => hc b (by omega) (by omega) (by omega)) (hr _ (by omega)), IO_cg a5 (rw_n100 a1.1) (by rw [hc 32 (by omega) (by omega) (by omega)]) (hc 39 (by omega) (by omega) (by omega)) (hc 40 (by omega) (by omega) (by omega)) (hc 41 (by omega) (by omega) (by omega)) (fun j _ _ => hj j (by omega)), ht, IP_c a7 (by rw [hc 0 (by omega) (by omega) (by omega)]) (hc 123 (by omega) (by omega) (by omega)) (by rw [hr 127 (by omega)]) (hr _ (by omega)), by rw [hc 0 (by omega) (by omega) (by omega), hr 127 (by omega)]; exact a8, IW_cg a9 (hc 59 (by omega) (by omega) (by omega)) (hc 60 (by omega) (by omega) (by omega)) (hc 61 (by omega) (by omega) (by omega)) (hr _ (by omega)) (fun l k _ _ => hj _ (by omega)), IC_c a10 (by rw [hc 0 (by omega) (by omega) (by omega)]) (by rw [hc 0 (by omega) (by omega) (by omega)]) (hc 124 (by omega) (by omega) (by omega)) (hc 125 (by omega) (by omega) (by omega)) (by rw [hr 127 (by omega)]) (by rw [hr 127 (by omega)]) (hr _ (by omega)) (hr _ (by omega)), II_c a11 (by rw [hc 121 (by omega) (by omega) (by omega)]) (hc 122 (by omega) (by omega) (by omega)) (by rw [hr 127 (by omega)]) (hr _ (by omega)), ?_⟩
  · unfold IH at *; rw [hj 2120 (by omega), hj 2121 (by omega), hj 2129 (by omega), hc 0 (by omega) (by omega) (by omega)]; exact a3
  · unfold IZ at *; rw [hc 17 (by omega) (by omega) (by omega)]; exact a12
/-- found among the first wt of a row, or not -/
theorem asking_L {wt : Nat} {v : Int32} (hw : wt ≤ 12) (h1 : C 111 3 = nI wt) : ∀ k fu i, i + k = wt → k < fu → ((∃ j, i ≤ j ∧ j < wt ∧ C 113 j = v) → fX9_isAsking_L2 fu C v (nI i) = some (nI 1)) ∧ ((∀ j, i ≤ j → j < wt → C 113 j ≠ v) → fX9_isAsking_L2 fu C v (nI i) = some 0)
  | k, 0, _, _, hf => by omega
  | 0, fu + 1, i, hi, _ => by
    obtain rfl : i = wt := by omega
    rw [fX9_isAsking_L2, h1, if_pos (nI_le (Nat.le_refl _) (by omega))]
    exact ⟨fun ⟨q, q1, q2, _⟩ => by omega, fun _ => rfl⟩
  | k + 1, fu + 1, i, hi, hf => by
    obtain ⟨g1, g2⟩ := asking_L (v := v) hw h1 k fu (i + 1) (by omega) (by omega)
    rw [fX9_isAsking_L2, h1, if_neg (nI_ge (by omega) (by omega)), if_neg (nI_ge (by omega) (by omega)), za_chk _ (by omega) (by omega), nI_clamp (by omega)]
    by_cases q : C 113 i = v
    · rw [if_pos q]
      exact ⟨fun _ => rfl, fun z => absurd q (z i (Nat.le_refl _) (by omega))⟩
    · rw [if_neg q, nI_add]
      refine ⟨fun ⟨j, j1, j2, j3⟩ => g1 ⟨j, ?_, j2, j3⟩, fun z => g2 (fun j j1 j2 => z j (by omega) j2)⟩
      by_cases e : j = i
      · subst e; exact absurd j3 q
      · omega
theorem has_L {dr : Nat} {v : Int32} (hw : dr ≤ 12) (h1 : C 111 2 = nI dr) : ∀ k fu i, i + k = dr → k < fu → ((∃ j, i ≤ j ∧ j < dr ∧ C 112 j = v) → fX9_has_L2 fu C v (nI i) = some (nI 1)) ∧ ((∀ j, i ≤ j → j < dr → C 112 j ≠ v) → fX9_has_L2 fu C v (nI i) = some 0)
  | k, 0, _, _, hf => by omega
  | 0, fu + 1, i, hi, _ => by
    obtain rfl : i = dr := by omega
    rw [fX9_has_L2, h1, if_pos (nI_le (Nat.le_refl _) (by omega))]
    exact ⟨fun ⟨q, q1, q2, _⟩ => by omega, fun _ => rfl⟩
  | k + 1, fu + 1, i, hi, hf => by
    obtain ⟨g1, g2⟩ := has_L (v := v) hw h1 k fu (i + 1) (by omega) (by omega)
    rw [fX9_has_L2, h1, if_neg (nI_ge (by omega) (by omega)), if_neg (nI_ge (by omega) (by omega)), za_chk _ (by omega) (by omega), nI_clamp (by omega)]
    by_cases q : C 112 i = v
    · rw [if_pos q]
      exact ⟨fun _ => rfl, fun z => absurd q (z i (Nat.le_refl _) (by omega))⟩
    · rw [if_neg q, nI_add]
      refine ⟨fun ⟨j, j1, j2, j3⟩ => g1 ⟨j, ?_, j2, j3⟩, fun z => g2 (fun j j1 j2 => z j (by omega) j2)⟩
      by_cases e : j = i
      · subst e; exact absurd j3 q
      · omega
def askF (R : Mc) (wt dr : Nat) (v : Int32) : Option (Int32 × Mc) := if nI wt + nI dr = nI 12 then some (-3, R) else some (nI (wt + 1), wr (wr R 128 (2092 + wt) v) 128 2130 (nI (wt + 1)))
theorem ask77 {wt dr : Nat} {v : Int32} (hw : dr + wt ≤ 12) (h1 : R 128 2131 = nI dr) (h2 : R 128 2130 = nI wt) : ∀ k fu i, i + k = dr → k < fu → ((∃ j, i ≤ j ∧ j < dr ∧ R 128 (2080 + j) = v) → fX12_ask_L77 fu R v (nI i) = some (-2, R)) ∧ ((∀ j, i ≤ j → j < dr → R 128 (2080 + j) ≠ v) → fX12_ask_L77 fu R v (nI i) = askF R wt dr v)
  | k, 0, _, _, hf => by omega
  | 0, fu + 1, i, hi, _ => by
    obtain rfl : i = dr := by omega
    refine ⟨fun ⟨q, q1, q2, _⟩ => by omega, fun _ => ?_⟩
    rw [fX12_ask_L77]
    unfold askF
    simp only [za_lt]
    rw [za_chk (n := 2131) _ (by omega) (by omega), nI_clamp (n := 2131) (by omega), h1, if_pos (nI_le (Nat.le_refl _) (by omega)), za_chk (n := 2130) _ (by omega) (by omega), nI_clamp (n := 2130) (by omega), h2, za_chk (n := 2131) _ (by omega) (by omega)]
    by_cases q : nI wt + nI i = nI 12
    · rw [if_pos q, if_pos q]
    · have hlt : wt < 12 := by
        by_cases z : wt < 12
        · exact z
        · exact absurd (by rw [nI_add]; exact congrArg nI (by omega)) q
      rw [if_neg q, if_neg q, nI_add]
      simp (disch := omega) only [za_chk, nI_clamp]
      rw [show wr R 128 (2092 + wt) v 128 2130 = nI wt by rw [za_wri (by omega)]; exact h2, nI_add, za_wrs]
  | k + 1, fu + 1, i, hi, hf => by
    obtain ⟨g1, g2⟩ := ask77 (v := v) hw h1 h2 k fu (i + 1) (by omega) (by omega)
    rw [fX12_ask_L77, za_chk (n := 2131) _ (by omega) (by omega), nI_clamp (n := 2131) (by omega), h1, if_neg (nI_ge (by omega) (by omega)), nI_add, nI_add, za_chk (n := 2080 + i) _ (by omega) (by omega), nI_clamp (n := 2080 + i) (by omega)]
    by_cases q : R 128 (2080 + i) = v
    · rw [if_pos q]
      exact ⟨fun _ => rfl, fun z => absurd q (z i (Nat.le_refl _) (by omega))⟩
    · rw [if_neg q]
      refine ⟨fun ⟨j, j1, j2, j3⟩ => g1 ⟨j, ?_, j2, j3⟩, fun z => g2 (fun j j1 j2 => z j (by omega) j2)⟩
      by_cases e : j = i
      · subst e; exact absurd j3 q
      · omega
theorem ask40 {wt : Nat} {v : Int32} (hw : wt ≤ 12) (h2 : R 128 2130 = nI wt) : ∀ k fu i, i + k = wt → k < fu → ((∃ j, i ≤ j ∧ j < wt ∧ R 128 (2092 + j) = v) → fX12_ask_L40 fu R v (nI i) = some (-2, R)) ∧ ((∀ j, i ≤ j → j < wt → R 128 (2092 + j) ≠ v) → fX12_ask_L40 fu R v (nI i) = fX12_ask_L77 FU R v 0)
  | k, 0, _, _, hf => by omega
  | 0, fu + 1, i, hi, _ => by
    obtain rfl : i = wt := by omega
    rw [fX12_ask_L40, za_chk (n := 2130) _ (by omega) (by omega), nI_clamp (n := 2130) (by omega), h2, if_pos (nI_le (Nat.le_refl _) (by omega))]
    exact ⟨fun ⟨q, q1, q2, _⟩ => by omega, fun _ => rfl⟩
  | k + 1, fu + 1, i, hi, hf => by
    obtain ⟨g1, g2⟩ := ask40 (v := v) hw h2 k fu (i + 1) (by omega) (by omega)
    rw [fX12_ask_L40, za_chk (n := 2130) _ (by omega) (by omega), nI_clamp (n := 2130) (by omega), h2, if_neg (nI_ge (by omega) (by omega)), nI_add, nI_add, za_chk (n := 2092 + i) _ (by omega) (by omega), nI_clamp (n := 2092 + i) (by omega)]
    by_cases q : R 128 (2092 + i) = v
    · rw [if_pos q]
      exact ⟨fun _ => rfl, fun z => absurd q (z i (Nat.le_refl _) (by omega))⟩
    · rw [if_neg q]
      refine ⟨fun ⟨j, j1, j2, j3⟩ => g1 ⟨j, ?_, j2, j3⟩, fun z => g2 (fun j j1 j2 => z j (by omega) j2)⟩
      by_cases e : j = i
      · subst e; exact absurd j3 q
      · omega
theorem c_ask (h : IV n t m C R N L) (p0 : Int32) : OM eB C R N L (fX11_ask C p0) (fX12_ask R p0) := by
  unfold fX11_ask fX12_ask fX12_ask_J19
  have ih := iv_thr (v := 0) h
  simp only [za_lt]
  rcases pers h p0 with ⟨h1, h2⟩ | ⟨p, hp, rfl, h1, h2⟩
  · exact om_t (k := 1) (v := nI 1) h (by rw [h1, za_bnxl]) (by rw [h2 _ t128, za_bnd, if_pos rfl, bad_1, za_bn2, if_neg za_n10]) rfl za_n10
  rw [h1, za_bnx, h2 _ t128, za_bnd, if_neg za_n10, bad_0, za_bn2, if_pos rfl, wf_here h.1 hp, rx_here ih.1 hp, za_bnd, za_bnd, ite10, ite10]
  by_cases q0 : C (17 + 18) p < nI 2
  · exact om_r (b := -1) h (if_pos q0) (if_pos q0)
  simp only [if_neg q0]
  obtain ⟨dr, wt, i0, i1, i2, i3, i4, i5, i6, i7⟩ := ih.2.2.2.2.2.1
  unfold fX9_has fX9_isAsking
  have hh := has_L (v := nI p) (C := C) (by omega) i1 dr FU 0 (by omega) (by rw [za_FU]; omega)
  have ha := asking_L (v := nI p) (C := C) (by omega) i3 wt FU 0 (by omega) (by rw [za_FU]; omega)
  have r40 := ask40 (v := nI p) (R := wr R 127 0 0) (by omega) i4 wt FU 0 (by omega) (by rw [za_FU]; omega)
  have r77 := ask77 (v := nI p) (R := wr R 127 0 0) i0 i2 i4 dr FU 0 (by omega) (by rw [za_FU]; omega)
  rw [nI_0] at hh ha r40 r77
  by_cases qh : ∃ j, j < dr ∧ C 112 j = nI p
  · obtain ⟨j, j1, j2⟩ := qh
    rw [hh.1 ⟨j, by omega, j1, j2⟩, za_bnd, if_neg za_n10]
    refine om_r (b := -2) h rfl ?_
    by_cases qa : ∃ j, j < wt ∧ C 113 j = nI p
    · obtain ⟨j', k1, k2⟩ := qa
      exact r40.1 ⟨j', by omega, k1, by rw [i7 j' k1]; exact k2⟩
    · rw [r40.2 (fun j' _ k1 k2 => qa ⟨j', k1, by rw [← i7 j' k1]; exact k2⟩)]
      exact r77.1 ⟨j, by omega, j1, by rw [i5 j j1]; exact j2⟩
  · rw [hh.2 (fun j _ j1 j2 => qh ⟨j, j1, j2⟩), za_bnd, if_pos rfl]
    by_cases qa : ∃ j, j < wt ∧ C 113 j = nI p
    · obtain ⟨j', k1, k2⟩ := qa
      rw [ha.1 ⟨j', by omega, k1, k2⟩, za_bnd, if_neg za_n10]
      exact om_r (b := -2) h rfl (r40.1 ⟨j', by omega, k1, by rw [i7 j' k1]; exact k2⟩)
    · rw [ha.2 (fun j _ j1 j2 => qa ⟨j, j1, j2⟩), za_bnd, if_pos rfl]
      have hr : fX12_ask_L40 FU (wr R 127 0 0) (nI p) 0 = askF (wr R 127 0 0) wt dr (nI p) := by
        rw [r40.2 (fun j' _ k1 k2 => qa ⟨j', k1, by rw [← i7 j' k1]; exact k2⟩), r77.2 (fun j' _ k1 k2 => qh ⟨j', k1, by rw [← i5 j' k1]; exact k2⟩)]
      rw [hr]
      unfold fX9_hear askF
      simp only [za_lt]
      rw [i1, i3, nI_add, nI_add]
      by_cases q : dr + wt = 12
      · exact om_r (b := -3) h (by rw [if_pos (nI_le (by omega) (by omega)), za_bn2]) (if_pos (congrArg nI (by omega)))
      · have hlt : wt < 12 := by omega
        rw [if_neg (nI_ge (show dr + wt < 12 by omega) (by omega)), if_neg (fun z => q (by have := za_inj (by omega) (by omega) z; omega)), za_inY hlt (by omega), za_bnd, if_neg za_n10, za_chk _ hlt (by omega), nI_clamp (by omega), show wr C 113 wt (nI p) 111 3 = nI wt by rw [za_wra (by omega)]; exact i3, nI_add, za_wrs, za_bn2]
        refine om_v (b := nI (wt + 1)) (iv_town ih (fun b b1 b2 b3 => by rw [za_wrc b1, za_wrc b3]) (fun b b1 => by rw [za_wrc b1, za_wrc b1]) (fun j hj => by rw [za_wri (by omega), za_wri (by omega)]) ⟨dr, wt + 1, by omega, ?_, ?_, za_wrs _ _ _ _, za_wrs _ _ _ _, fun k hk => ?_, fun k k1 k2 => ?_, fun k hk => ?_⟩) rfl rfl (gc_wr (gc_wr GC.rf (by omega)) (by omega)) (gr_wr (gr_wr (gr_wr GR2.rf (by omega)) (by omega)) (by omega)) (by simp (disch := omega) only [za_wra, za_wrs])
        · rw [za_wri (by omega), za_wra (by omega)]; exact i1
        · rw [za_wri (by omega), za_wri (by omega)]; exact i2
        · rw [za_wri (by omega), za_wri (by omega), za_wra (by omega), za_wra (by omega)]; exact i5 k hk
        · rw [za_wri (by omega), za_wri (by omega)]; exact i6 k k1 k2
        · have eC : wr (wr C 113 wt (nI p)) 111 3 (nI (wt + 1)) 113 k = wr C 113 wt (nI p) 113 k := za_wra (by omega)
          have eR : wr (wr (wr R 127 0 0) 128 (2092 + wt) (nI p)) 128 2130 (nI (wt + 1)) 128 (2092 + k) = wr (wr R 127 0 0) 128 (2092 + wt) (nI p) 128 (2092 + k) := za_wri (by omega)
          rw [eC, eR]
          by_cases e : k = wt
          · subst e; rw [za_wrs, za_wrs]
          · rw [za_wri (by omega), za_wri e]; exact i7 k (by omega)
end AR
