/-! ===== what those who act look at ===== -/
section LO
variable {w n t x a y m : Nat} {C R : Mc}
theorem rv_wj {j : Nat} (v : Int32) (hj : 13 ≤ j ∧ j ≤ 17) (h : RV w n t x a y m C R) : RV w n t x a y m (wr C w j v) R := by
  have h1 : RW w n t x a y (wr C w j v) R := by
    rcases (show j = 13 ∨ j = 14 ∨ j = 15 ∨ j = 16 ∨ j = 17 by omega) with rfl | rfl | rfl | rfl | rfl
    · exact oj_stale v h.1
    · exact oj_bl v h.1
    · exact oj_bp v h.1
    · exact oj_wg v h.1
    · exact oj_nh v h.1
  exact h.step h1 (fc_wr FC.rf (by omega)) FD.rf (za_wra (by omega)) (za_wri (by omega)) (za_wri (by omega)) (za_wri (by omega))
def sB (w : Nat) (C : Mc) (b so : Int32) : Prop := (b = -1 ∧ so = 0) ∨ ∃ c, c < 96 ∧ b = nI c ∧ so = C (w + 2) c
/-- nobody hires at the wage that is looked up -/
def NH (w n : Nat) (C : Mc) : Prop := ∀ q, q < n → C (w + 18) q = nI 4 → C (w + 20) q < nI 4 → ¬ C w 16 ≤ C (w + 17) q
def LA (w n : Nat) (C : Mc) : Prop := BL w C (C w 14) ∧ (∃ so, sB w C (C w 14) so ∧ (C w 10 = 0 → ∃ v, 1 ≤ v ∧ v ≤ 1000 ∧ C w 15 = nI v ∧ MV w C 0 so v)) ∧ (C w 10 ≠ 0 → C w 15 = C w 10) ∧ (∃ v, v ≤ 1000 ∧ C w 16 = nI v ∧ MV w C 2 0 v) ∧ (C w 17 ≠ 0 → NH w n C)
theorem LA_cg {C' : Mc} (h : LA w n C) (e : ∀ k, 2 ≤ k → k ≤ 14 → C' (w + k) = C (w + k)) (hb : ∀ b, b = 16 ∨ 146 ≤ b → C' b = C b) (e1 : C' (w + 37) 2 = C (w + 37) 2) (e2 : C' w 6 = C w 6) (e3 : C' (w + 1) 9 = C (w + 1) 9) (e4 : C' (w + 15) 1 = C (w + 15) 1) (ew : ∀ j, j = 10 ∨ 14 ≤ j ∧ j ≤ 16 → C' w j = C w j) (hn : C' w 17 ≠ 0 → NH w n C → NH w n C') (h17 : C' w 17 ≠ 0 → C w 17 ≠ 0) : LA w n C' := by
  obtain ⟨h1, ⟨so, h2, h3⟩, h4, ⟨v, h5, h6, h7⟩, h8⟩ := h
  refine ⟨by rw [ew 14 (by omega)]; exact BL_cg h1 e, ⟨so, ?_, ?_⟩, ?_, ⟨v, h5, by rw [ew 16 (by omega)]; exact h6, MV_cg h7 hb e1 e2 e3 e4⟩, fun q => hn q (h8 (h17 q))⟩
  · rw [ew 14 (by omega)]
    rcases h2 with h2 | ⟨c, c1, c2, c3⟩
    · exact Or.inl h2
    · exact Or.inr ⟨c, c1, c2, by rw [e 2 (by omega) (by omega)]; exact c3⟩
  · rw [ew 10 (by omega), ew 15 (by omega)]
    intro q
    obtain ⟨v, v1, v2, v3, v4⟩ := h3 q
    exact ⟨v, v1, v2, v3, MV_cg v4 hb e1 e2 e3 e4⟩
  · rw [ew 10 (by omega), ew 15 (by omega)]; exact h4
theorem look_J {v1 : Nat} {b so : Int32} (h : RV w n t x a y m C R) (hb : BL w C b) (h14 : C w 14 = b) (hs : sB w C b so) (h15 : C w 10 = 0 → ∃ v, 1 ≤ v ∧ v ≤ 1000 ∧ C w 15 = nI v ∧ MV w C 0 so v) (h15b : C w 10 ≠ 0 → C w 15 = C w 10) :
    ∃ C', fX10_lookAround_J78 w C (C (w + 37) 2) = some C' ∧ RV w n t x a y m C' R ∧ C' w 13 = 0 ∧ LA w n C' ∧ FC w C C' ∧ (∀ k, 1 ≤ k → k ≤ 44 → C' (w + k) = C (w + k)) ∧ ∀ j, j < 13 → C' w j = C w j := by
  have hw := h.w17
  obtain ⟨v, C1, i1, i2, i3, _, _, i6⟩ := mean_c (k := 2) 0 h (by omega)
  have h1 : RV w n t x a y m C1 R := h.junk i2 (fun _ _ => rfl)
  refine ⟨wr (wr (wr C1 w 16 (nI v)) w 17 0) w 13 0, ?_, rv_wj _ (by omega) (rv_wj _ (by omega) (rv_wj _ (by omega) h1)), za_wrs _ _ _ _, ?_, ?_, ?_, ?_⟩
  · unfold fX10_lookAround_J78
    rw [i1, za_bn2]; rfl
  · have e : ∀ k, 1 ≤ k → k ≤ 44 → wr (wr (wr C1 w 16 (nI v)) w 17 0) w 13 0 (w + k) = C (w + k) := fun k k1 k2 => by rw [za_wrc (by omega), za_wrc (by omega), za_wrc (by omega)]; exact i2 _ (by omega) (by omega)
    have ew : ∀ j, j ≠ 16 → j ≠ 17 → j ≠ 13 → wr (wr (wr C1 w 16 (nI v)) w 17 0) w 13 0 w j = C w j := fun j j1 j2 j3 => by rw [za_wri j3, za_wri j2, za_wri j1, i2 _ (by omega) (by omega)]
    have e16 : wr (wr (wr C1 w 16 (nI v)) w 17 0) w 13 0 w 16 = nI v := by rw [za_wri (by omega), za_wri (by omega), za_wrs]
    have e17 : wr (wr (wr C1 w 16 (nI v)) w 17 0) w 13 0 w 17 = 0 := by rw [za_wri (by omega), za_wrs]
    have et : ∀ b, b = 16 ∨ 146 ≤ b → wr (wr (wr C1 w 16 (nI v)) w 17 0) w 13 0 b = C b := fun b hb => by rw [za_wrc (by omega), za_wrc (by omega), za_wrc (by omega)]; exact i2 _ (by omega) (by omega)
    have em : ∀ k so v, MV w C k so v → MV w (wr (wr (wr C1 w 16 (nI v)) w 17 0) w 13 0) k so v := by
      intro k so v' hmv
      exact MV_cg hmv (fun b hb => by rw [za_wrc (by omega), za_wrc (by omega), za_wrc (by omega)]; exact i2 _ (by omega) (by omega)) (by rw [za_wra (by omega), za_wra (by omega), za_wra (by omega), i2 _ (by omega) (by omega)]) (by rw [za_wri (by omega), za_wri (by omega), za_wri (by omega), i2 _ (by omega) (by omega)]) (by rw [za_wra (by omega), za_wra (by omega), za_wra (by omega), i2 _ (by omega) (by omega)]) (by rw [za_wra (by omega), za_wra (by omega), za_wra (by omega), i2 _ (by omega) (by omega)])
    have em' : ∀ k so v', MV w C k so v' → MV w (wr (wr (wr C1 w 16 (nI v)) w 17 0) w 13 0) k so v' := fun k so v' hmv => MV_cg hmv et (congrFun (e 37 (by omega) (by omega)) _) (ew 6 (by omega) (by omega) (by omega)) (congrFun (e 1 (by omega) (by omega)) _) (congrFun (e 15 (by omega) (by omega)) _)
    refine ⟨by rw [ew 14 (by omega) (by omega) (by omega), h14]; exact BL_cg hb (fun k k1 k2 => e k (by omega) (by omega)), ⟨so, ?_, ?_⟩, ?_, ⟨v, i3, e16, em' _ _ _ i6⟩, fun q => absurd e17 q⟩
    · rw [ew 14 (by omega) (by omega) (by omega), h14]
      rcases hs with hs | ⟨c, c1, c2, c3⟩
      · exact Or.inl hs
      · exact Or.inr ⟨c, c1, c2, by rw [e 2 (by omega) (by omega)]; exact c3⟩
    · rw [ew 10 (by omega) (by omega) (by omega), ew 15 (by omega) (by omega) (by omega)]
      intro q
      obtain ⟨v', v1, v2, v3, v4⟩ := h15 q
      exact ⟨v', v1, v2, v3, em' _ _ _ v4⟩
    · rw [ew 10 (by omega) (by omega) (by omega), ew 15 (by omega) (by omega) (by omega)]; exact h15b
  · exact fc_wr (fc_wr (fc_wr (fc_of i2) (by omega)) (by omega)) (by omega)
  · intro k k1 k2
    rw [za_wrc (by omega), za_wrc (by omega), za_wrc (by omega)]; exact i2 _ (by omega) (by omega)
  · intro j hj
    rw [za_wri (by omega), za_wri (by omega), za_wri (by omega), i2 _ (by omega) (by omega)]
theorem look_sim (h : RV w n t x a y m C R) (hy : y ≤ 20) :
    ∃ C', fX10_lookAround C w = some C' ∧ RV w n t x a y m C' R ∧ C' w 13 = 0 ∧ LA w n C' ∧ FC w C C' ∧ (∀ k, 1 ≤ k → k ≤ 44 → C' (w + k) = C (w + k)) ∧ ∀ j, j < 13 → C' w j = C w j := by
  have hw := h.w17
  obtain ⟨b, b1, b2, b3⟩ := best_eq (GR_of h.1 hy)
  have h1 : RV w n t x a y m (wr (wr C w 14 b) w 15 (C w 10)) R := rv_wj _ (by omega) (rv_wj _ (by omega) h)
  have e : ∀ k, 1 ≤ k → k ≤ 46 → wr (wr C w 14 b) w 15 (C w 10) (w + k) = C (w + k) := fun k k1 k2 => by rw [za_wrc (by omega), za_wrc (by omega)]
  have ew : ∀ j, j ≠ 14 → j ≠ 15 → wr (wr C w 14 b) w 15 (C w 10) w j = C w j := fun j j1 j2 => by rw [za_wri j2, za_wri j1]
  have e14 : wr (wr C w 14 b) w 15 (C w 10) w 14 = b := by rw [za_wri (by omega), za_wrs]
  have e15 : wr (wr C w 14 b) w 15 (C w 10) w 15 = C w 10 := za_wrs _ _ _ _
  have hbl : BL w C b := ⟨C, fun _ _ _ => rfl, b1⟩
  have hbl1 : BL w (wr (wr C w 14 b) w 15 (C w 10)) b := BL_cg hbl (fun k k1 k2 => e k (by omega) (by omega))
  obtain ⟨so, hso, hsB⟩ : ∃ so, fX4_soilOf (wr (wr C w 14 b) w 15 (C w 10)) (w + 1) b = some so ∧ sB w (wr (wr C w 14 b) w 15 (C w 10)) b so := by
    rcases b3 with rfl | ⟨c, c1, rfl, c3⟩
    · exact ⟨0, lg_soil0, Or.inl ⟨rfl, rfl⟩⟩
    · exact ⟨_, lg_soil c1, Or.inr ⟨c, c1, rfl, rfl⟩⟩
  unfold fX10_lookAround
  rw [za_lt, b1, za_bnd, za_lt, za_lt, show wr C w 14 b w 10 = C w 10 from za_wri (by omega), ew 10 (by omega) (by omega)]
  by_cases h0 : C w 10 = 0
  · rw [if_pos h0, e14, hso, za_bnd]
    obtain ⟨v, C1, i1, i2, i3, i4, _, i6⟩ := mean_c (k := 0) so h1 (by omega)
    rw [show wr (wr C w 14 b) w 15 (C w 10) (w + 37) 2 = C (w + 37) 2 from congrFun (e 37 (by omega) (by omega)) 2, ← za_0] at i1
    rw [i1, za_bn2, za_lt]
    have h2 : RV w n t x a y m C1 R := h1.junk i2 (fun _ _ => rfl)
    have h3 : RV w n t x a y m (wr C1 w 15 (nI v)) R := rv_wj _ (by omega) h2
    have f : ∀ k, 1 ≤ k → k ≤ 44 → wr C1 w 15 (nI v) (w + k) = wr (wr C w 14 b) w 15 (C w 10) (w + k) := fun k k1 k2 => by rw [za_wrc (by omega)]; exact i2 _ (by omega) (by omega)
    have fw : ∀ j, j ≠ 15 → wr C1 w 15 (nI v) w j = wr (wr C w 14 b) w 15 (C w 10) w j := fun j j1 => by rw [za_wri j1, i2 _ (by omega) (by omega)]
    have ft : ∀ b', b' = 16 ∨ 146 ≤ b' → wr C1 w 15 (nI v) b' = wr (wr C w 14 b) w 15 (C w 10) b' := fun b' hb' => by rw [za_wrc (by omega)]; exact i2 _ (by omega) (by omega)
    obtain ⟨C', j1, j2, j3, j4, j5, j6, j7⟩ := look_J (v1 := v) (b := b) (so := so) h3 (BL_cg hbl1 (fun k k1 k2 => f k (by omega) (by omega))) (by rw [fw 14 (by omega)]; exact e14) (by
        rcases hsB with q | ⟨c, c1, c2, c3⟩
        · exact Or.inl q
        · exact Or.inr ⟨c, c1, c2, by rw [f 2 (by omega) (by omega)]; exact c3⟩)
      (fun _ => ⟨v, i4 rfl, i3, za_wrs _ _ _ _, MV_cg i6 ft (congrFun (f 37 (by omega) (by omega)) _) (fw 6 (by omega)) (congrFun (f 1 (by omega) (by omega)) _) (congrFun (f 15 (by omega) (by omega)) _)⟩)
      (fun q => absurd (by rw [fw 10 (by omega), ew 10 (by omega) (by omega)]; exact h0) q)
    rw [show wr C1 w 15 (nI v) (w + 37) 2 = C (w + 37) 2 by rw [congrFun (f 37 (by omega) (by omega)) 2]; exact congrFun (e 37 (by omega) (by omega)) 2] at j1
    refine ⟨C', j1, j2, j3, j4, FC.tr (fc_wr ((fc_wr (fc_wr FC.rf (by omega)) (by omega) : FC w C (wr (wr C w 14 b) w 15 (C w 10))).tr (fc_of i2)) (by omega)) j5, fun k k1 k2 => (j6 k k1 k2).trans ((f k k1 k2).trans (e k k1 (by omega))), fun j hj => (j7 j hj).trans ((fw j (by omega)).trans (ew j (by omega) (by omega)))⟩
  · rw [if_neg h0]
    obtain ⟨C', j1, j2, j3, j4, j5, j6, j7⟩ := look_J (v1 := 0) (b := b) (so := so) h1 hbl1 e14 hsB (fun q => absurd (by rw [← ew 10 (by omega) (by omega)]; exact q) h0) (fun _ => by rw [e15, ew 10 (by omega) (by omega)])
    rw [show wr (wr C w 14 b) w 15 (C w 10) (w + 37) 2 = C (w + 37) 2 from congrFun (e 37 (by omega) (by omega)) 2] at j1
    exact ⟨C', j1, j2, j3, j4, FC.tr (fc_wr (fc_wr FC.rf (by omega)) (by omega)) j5, fun k k1 k2 => (j6 k k1 k2).trans (e k k1 (by omega)), fun j hj => (j7 j hj).trans (ew j (by omega) (by omega))⟩
end LO
