/-! ===== the whole of a world, with its laws' texts ===== -/
def WT (w : Nat) (C : Mc) : Prop := (∃ k, k ≤ 1000 ∧ C w 10 = nI k) ∧ (C w 11 = -1 ∨ ∃ k, k ≤ 100 ∧ C w 11 = nI k) ∧ (C w 12 = -1 ∨ ∃ k, k ≤ 500 ∧ C w 12 = nI k)
def isW (w : Nat) : Prop := w = 17 ∨ w = 64
/-- RW, n people, week t, m laws -/
def RV (w n t x a y m : Nat) (C R : Mc) : Prop := RW w n t x a y C R ∧ C (w + 37) 1 = nI m ∧ m ≤ 12 ∧ BK m C R ∧ WT w C ∧ isW w
/-- the cells of the reference's table that a week leaves alone -/
def pz (j : Nat) : Prop := (1568 ≤ j ∧ j < 1640 ∧ ((j - 1568) % 6 = 1 ∨ (j - 1568) % 6 = 2 ∨ (j - 1568) % 6 = 4)) ∨ (1780 ≤ j ∧ j < 2104) ∨ j = 2120 ∨ j = 2121 ∨ 2129 ≤ j
def FC (w : Nat) (C C' : Mc) : Prop := (∀ a, a < w ∨ w + 46 < a → C' a = C a) ∧ (∀ k, (22 ≤ k ∧ k ≤ 24) ∨ (42 ≤ k ∧ k ≤ 44) → C' (w + k) = C (w + k)) ∧ C' (w + 15) 3 = C (w + 15) 3
def FD (R R' : Mc) : Prop := (∀ a, a ≠ 128 → a ≠ 140 → R' a = R a) ∧ ∀ j, pz j → R' 128 j = R 128 j
theorem FC.rf {w : Nat} {C : Mc} : FC w C C := ⟨fun _ _ => rfl, fun _ _ => rfl, rfl⟩
theorem FD.rf {R : Mc} : FD R R := ⟨fun _ _ _ => rfl, fun _ _ => rfl⟩
theorem FC.tr {w : Nat} {C C1 C2 : Mc} (h : FC w C C1) (h2 : FC w C1 C2) : FC w C C2 := ⟨fun a ha => (h2.1 a ha).trans (h.1 a ha), fun a ha => (h2.2.1 a ha).trans (h.2.1 a ha), h2.2.2.trans h.2.2⟩
theorem FD.tr {R R1 R2 : Mc} (h : FD R R1) (h2 : FD R1 R2) : FD R R2 := ⟨fun a ha hb => (h2.1 a ha hb).trans (h.1 a ha hb), fun a ha => (h2.2 a ha).trans (h.2 a ha)⟩
theorem fc_of {w : Nat} {C C' : Mc} (h : ∀ b, b ≠ w + 45 → b ≠ w + 46 → C' b = C b) : FC w C C' := ⟨fun a ha => h a (by omega) (by omega), fun k hk => h _ (by omega) (by omega), by rw [h _ (by omega) (by omega)]⟩
theorem fd_of {R R' : Mc} (h : ∀ b, b ≠ 140 → R' b = R b) : FD R R' := ⟨fun a _ hb => h a hb, fun j _ => by rw [h 128 (by omega)]⟩
theorem fc_wr {w c i : Nat} {v : Int32} {C C1 : Mc} (h : FC w C C1) (hc : (w ≤ c ∧ c < w + 15) ∨ (c = w + 15 ∧ i ≠ 3) ∨ (w + 16 ≤ c ∧ c < w + 22) ∨ (w + 24 < c ∧ c < w + 42) ∨ (w + 44 < c ∧ c ≤ w + 46)) : FC w C (wr C1 c i v) :=
  ⟨fun a ha => by rw [za_wrc (by omega)]; exact h.1 a ha, fun k hk => by rw [za_wrc (by omega)]; exact h.2.1 k hk, by rw [za_wr, if_neg (by omega)]; exact h.2.2⟩
theorem fd_wr {c i : Nat} {v : Int32} {R R1 : Mc} (h : FD R R1) (hc : c = 140 ∨ (c = 128 ∧ (i < 1568 ∨ (1568 ≤ i ∧ i < 1640 ∧ (i - 1568) % 6 ≠ 1 ∧ (i - 1568) % 6 ≠ 2 ∧ (i - 1568) % 6 ≠ 4) ∨ (1640 ≤ i ∧ i < 1780) ∨ (2104 ≤ i ∧ i < 2120) ∨ (2121 < i ∧ i < 2129)))) : FD R (wr R1 c i v) :=
  ⟨fun a ha hb => by rw [za_wrc (by omega)]; exact h.1 a ha hb, fun j hj => by
    rw [za_wr, if_neg (fun q => by unfold pz at hj; omega)]; exact h.2 j hj⟩
theorem BK_cg {m : Nat} {C C' R R' : Mc} (h : BK m C R) (hc : ∀ a, a = 16 ∨ 146 ≤ a → C' a = C a) (hr : ∀ a, 135 ≤ a → a ≤ 138 → R' a = R a) : BK m C' R' := by
  intro l hl
  obtain ⟨h1, h2⟩ := h l hl
  refine ⟨fun hm => ?_, fun hm => by rw [hc 16 (Or.inl rfl)]; exact h2 hm⟩
  obtain ⟨z, z1, z2, z3, z4, z5, z6⟩ := h1 hm
  refine ⟨z, z1, z2, by rw [hc 16 (Or.inl rfl)]; exact z3, by rw [hc z (Or.inr z1)]; exact z4, by rw [hc z (Or.inr z1), hr 138 (by omega) (by omega)]; exact z5, fun k hk => ?_⟩
  rcases z6 k hk with ⟨q1, q2⟩ | ⟨f, n, r, len, q1, q2, q3, q4, q5, q6, q6b, q7, q8, q9⟩
  · exact Or.inl ⟨by rw [hc _ (Or.inr (by omega))]; exact q1, by rw [hr _ (by omega) (by omega)]; exact q2⟩
  · refine Or.inr ⟨f, n, r, len, by rw [hc _ (Or.inr (by omega))]; exact q1, by rw [hc _ (Or.inr (by omega))]; exact q2, by rw [dl_cg (hc _ (Or.inr (by omega)))]; exact q3, q4, q5, by rw [hr _ (by omega) (by omega)]; exact q6, q6b, q7, by rw [hc _ (Or.inr (by omega)), hr 135 (by omega) (by omega), hr 136 (by omega) (by omega)]; exact q8, by rw [hr _ (by omega) (by omega)]; exact q9⟩
theorem RV.step {w n t x a y m n' t' x' a' y' : Nat} {C R C' R' : Mc} (h : RV w n t x a y m C R) (h2 : RW w n' t' x' a' y' C' R') (hc : FC w C C') (hd : FD R R') (e1 : C' (w + 37) 1 = C (w + 37) 1) (e2 : C' w 10 = C w 10) (e3 : C' w 11 = C w 11) (e4 : C' w 12 = C w 12) : RV w n' t' x' a' y' m C' R' := by
  obtain ⟨_, g1, g2, g3, g4, g5⟩ := h
  refine ⟨h2, e1.trans g1, g2, BK_cg g3 (fun b hb => hc.1 b (by rcases g5 with rfl | rfl <;> omega)) (fun b h1 h2 => hd.1 b (by omega) (by omega)), ?_, g5⟩
  unfold WT at *; rw [e2, e3, e4]; exact g4
theorem rw_junk {w n t x a y : Nat} {C R C' R' : Mc} (h : RW w n t x a y C R) (hc : ∀ b, b ≠ w + 45 → b ≠ w + 46 → C' b = C b) (hr : ∀ b, b ≠ 140 → R' b = R b) : RW w n t x a y C' R' := by
  obtain ⟨hA, hN, hS, hP, hH, hO, hC, hZ, hQ, hB, hL, hE, hq, hl⟩ := h
  refine ⟨fun f i hf hi => ?_, WN_cg hN ?_ ?_, WS_cg hS (fun k _ _ => hc _ (by omega) (by omega)), WP_cg hP (hc _ (by omega) (by omega)) (hc _ (by omega) (by omega)) (fun k _ _ => hc _ (by omega) (by omega)), WH_cg hH (hc _ (by omega) (by omega)) (hc _ (by omega) (by omega)) (fun k _ _ => hc _ (by omega) (by omega)), WO_cg hO (hc _ (by omega) (by omega)) (hc _ (by omega) (by omega)) (hc _ (by omega) (by omega)) (hc _ (by omega) (by omega)), WC_cg hC ?_ ?_ (hc _ (by omega) (by omega)) (hc _ (by omega) (by omega)), WZ_cg hZ (fun k _ _ => hc _ (by omega) (by omega)), WQ_cg hQ ?_ (fun k _ _ => hc _ (by omega) (by omega)), WB_cg hB ?_ (fun k _ _ => hc _ (by omega) (by omega)), WL_cg hL ?_ ?_ (hc _ (by omega) (by omega)), RE_cg hE (fun k _ _ => hc _ (by omega) (by omega)) (fun c hc0 => ⟨?_, ?_, ?_⟩), RQ_cg hq (hc _ (by omega) (by omega)) (hc _ (by omega) (by omega)) (fun p hp i hi => ?_), RY_cg hl ?_ (hc _ (by omega) (by omega)) (hc _ (by omega) (by omega)) (fun l hl => ⟨?_, ?_⟩)⟩
  · have h0 : fA f ≤ 39 := by
      clear hi
      revert f
      decide +kernel
    have h1 : fC f ≠ 140 := by
      clear hi h0
      revert f
      decide +kernel
    rw [hc _ (by omega) (by omega), hr _ h1]; exact hA f i hf hi
  all_goals first | exact congrFun (hc _ (by omega) (by omega)) _ | exact congrFun (hr _ (by omega)) _
theorem RV.junk {w n t x a y m : Nat} {C R C' R' : Mc} (h : RV w n t x a y m C R) (hc : ∀ b, b ≠ w + 45 → b ≠ w + 46 → C' b = C b) (hr : ∀ b, b ≠ 140 → R' b = R b) : RV w n t x a y m C' R' :=
  h.step (rw_junk h.1 hc hr) (fc_of hc) (fd_of hr) (congrFun (hc _ (by omega) (by omega)) _) (congrFun (hc _ (by omega) (by omega)) _) (congrFun (hc _ (by omega) (by omega)) _) (congrFun (hc _ (by omega) (by omega)) _)
section WR
variable {w n t x a y m : Nat} {C R : Mc}
theorem RV.w17 (h : RV w n t x a y m C R) : 17 ≤ w ∧ w ≤ 64 := by rcases h.2.2.2.2.2 with rfl | rfl <;> omega
theorem rw_n (h : RW w n t x a y C R) : R 128 2124 = nI n := (ra_n h.1).trans h.2.1.1
theorem rw_t (h : RW w n t x a y C R) : R 128 2116 = nI t := (ra_week h.1).trans h.2.1.2.2.1
theorem rw_n100 (h : RW w n t x a y C R) : n ≤ 100 := h.2.1.2.1
theorem rw_here (h : RW w n t x a y C R) : fX12_here R = some (C (w + 15) 1) := by
  rw [rf_hereN (rw_n h) (rw_n100 h), h.2.2.2.2.2.2.1.1]
  refine congrArg some (congrArg nI (cn_con _ _ _ (fun k hk => ?_)))
  have := rw_n100 h
  simp only [herP, ra_st h.1 (show k < 100 by omega)]
theorem rw_farms (h : RW w n t x a y C R) : fX12_farms R = some (C (w + 1) 9) := by
  rw [rf_farms, h.2.2.2.2.2.2.1.2]
  refine congrArg some (congrArg nI (cn_con _ _ _ (fun k hk => ?_)))
  simp only [frmP, ra_hold h.1 hk]
theorem rw_hired {p : Nat} (h : RW w n t x a y C R) (hp : p < n) : fX12_hiredBy R (nI p) = some (C (w + 20) p) := by
  rw [rf_hired (rw_n h) (rw_n100 h), (h.2.2.2.2.1 p hp).1]
  refine congrArg some (congrArg nI (cn_con _ _ _ (fun k hk => ?_)))
  have := rw_n100 h
  simp only [hirP, ra_st h.1 (show k < 100 by omega), ra_boss h.1 (show k < 100 by omega)]
theorem rw_farmsOf {p : Nat} (h : RW w n t x a y C R) (hp : p < n) : fX12_farmsOf R (nI p) = some (C (w + 21) p) := by
  rw [rf_farmsOf, (h.2.2.2.2.1 p hp).2]
  refine congrArg some (congrArg nI (cn_con _ _ _ (fun k hk => ?_)))
  simp only [farP, ra_hold h.1 hk, ra_own h.1 hk]
theorem rv_forces (h : RV w n t x a y m C R) : fX12_forces R = some (C (w + 37) 2) := by
  obtain ⟨h1, h2, h3, _⟩ := h
  have hL := h1.2.2.2.2.2.2.2.2.2.2.1
  obtain ⟨m', i1, i2, i3, i4⟩ := hL
  obtain rfl : m' = m := za_inj (by omega) (by omega) (i2.symm.trans h2)
  rw [rf_forces h3 ((ra_ln h1.1).trans h2), i3]
  refine congrArg some (congrArg nI (mk_con _ (fun l hl => ?_)))
  rw [ra_lst h1.1 (by omega)]
/-- a value of the meaning of name k, as things stand in C -/
def MV (w : Nat) (C : Mc) (k : Nat) (so : Int32) (v : Nat) : Prop := ∃ Cx Cy, (∀ b, b = 16 ∨ 146 ≤ b → Cx b = C b) ∧ fX2_meaning Cx (w + 37) (C (w + 37) 2) (nI k) (C w 6) (C (w + 1) 9) (C (w + 15) 1) so = some (nI v, Cy)
theorem MV_cg {k v : Nat} {so : Int32} {C' : Mc} (h : MV w C k so v) (hb : ∀ b, b = 16 ∨ 146 ≤ b → C' b = C b) (e1 : C' (w + 37) 2 = C (w + 37) 2) (e2 : C' w 6 = C w 6) (e3 : C' (w + 1) 9 = C (w + 1) 9) (e4 : C' (w + 15) 1 = C (w + 15) 1) : MV w C' k so v := by
  obtain ⟨Cx, Cy, h1, h2⟩ := h
  exact ⟨Cx, Cy, fun b h => (h1 b h).trans (hb b h).symm, by rw [e1, e2, e3, e4]; exact h2⟩
theorem rv_bits (h : RV w n t x a y m C R) : ∀ l, l < 12 → bit (C (w + 37) 2) l → l < m := by
  obtain ⟨h1, h2, h3, _⟩ := h
  obtain ⟨m', i1, i2, i3, i4⟩ := h1.2.2.2.2.2.2.2.2.2.2.1
  obtain rfl : m' = m := za_inj (by omega) (by omega) (i2.symm.trans h2)
  rw [i3]; exact mk_bits h3
/-- the class finds it .. -/
theorem mean_c {k : Nat} (so : Int32) (h : RV w n t x a y m C R) (hk : k < 8) : ∃ v C', fX2_meaning C (w + 37) (C (w + 37) 2) (nI k) (C w 6) (C (w + 1) 9) (C (w + 15) 1) so = some (nI v, C') ∧ (∀ b, b ≠ w + 45 → b ≠ w + 46 → C' b = C b) ∧ v ≤ 1000 ∧ (k = 0 → 1 ≤ v) ∧ (k = 1 → v ≤ 100) ∧ MV w C k so v := by
  have hw := h.w17
  obtain ⟨v, C', R', i1, i2, i3, i4, i5, i6, _⟩ := mean_eq (co := w + 37) (wk := C w 6) (sd := C (w + 1) 9) (pe := C (w + 15) 1) (so := so) h.2.2.2.1 hk (rv_bits h) (by omega)
  exact ⟨v, C', i1, fun b h1 h2 => i2 b h1 h2, i4, i5, i6, C, C', fun _ _ => rfl, i1⟩
/-- .. and the reference, whenever it looks -/
theorem mean_r {k v : Nat} {so : Int32} (h : RV w n t x a y m C R) (hk : k < 8) (hv : MV w C k so v) (hv1 : v ≤ 1000) : ∃ R', fX12_meaning_J33 R (nI k) so = some (nI v, R') ∧ (∀ b, b ≠ 140 → R' b = R b) := by
  have hw := h.w17
  obtain ⟨Cx, Cy, h1, h2⟩ := hv
  have hBx : BK m Cx R := BK_cg h.2.2.2.1 h1 (fun _ _ _ => rfl)
  obtain ⟨v', C', R', i1, i2, i3, i4, i5, i6, tl, j1, j2, j3⟩ := mean_eq (co := w + 37) (wk := C w 6) (sd := C (w + 1) 9) (pe := C (w + 15) 1) (so := so) hBx hk (rv_bits h) (by omega)
  rw [i1] at h2
  have hvv : nI v' = nI v := congrArg Prod.fst (Option.some.inj h2)
  obtain rfl : v' = v := za_inj (by omega) (by omega) hvv
  refine ⟨R', ?_, i3⟩
  unfold fX12_meaning_J33
  rw [rv_forces h, za_bnd, j2, za_bnd]
  rcases j3 with ⟨rfl, rfl, rfl⟩ | ⟨l, v0, hl, hl12, rfl, g1, g2⟩
  · rw [if_neg (by decide +kernel), (us_ok k hk).2.1, za_bnd]
  · rw [if_pos (nI_pos' (by omega)), za_chk _ (by omega) (by omega), rw_farms h.1, za_bnd, rw_here h.1, za_bnd, nI_clamp (by omega), ra_week h.1.1, g1, za_bn2, g2, za_bnd]
theorem tell_w {k : Nat} (h : RV w n t x a y m C R) (hk : k < 8) : ∃ tl, fX2_teller C (w + 37) (C (w + 37) 2) (nI k) = some tl ∧ (bnd (fX12_forces R) fun v => fX12_teller R v (nI k)) = some tl ∧ (tl = -1 ∨ ∃ l, l < 12 ∧ tl = nI l) := by
  obtain ⟨tl, h1, h2, h3⟩ := tel_eq (co := w + 37) h.2.2.2.1 hk (rv_bits h)
  refine ⟨tl, h1, by rw [rv_forces h, za_bnd]; exact h2, ?_⟩
  rcases h3 with h3 | ⟨l, z, a1, a2, a3, _⟩
  · exact Or.inl h3
  · exact Or.inr ⟨l, a2, a3⟩
end WR
/-- the promise of a section -/
def prI (so sy sr : Int32) : Int32 := if sy = 0 then nI 10 * so else nI 10 * so + sr / sy / nI 10
theorem pr_nat {s y r : Nat} (hs : s ≤ 9) (hy : y ≤ 20) (hr : r ≤ 530000) : ∃ k, k < 1000000 ∧ prI (nI s) (nI y) (nI r) = nI k := by
  unfold prI
  rw [za_mul]
  by_cases h0 : nI y = 0
  · rw [if_pos h0]; exact ⟨10 * s, by omega, rfl⟩
  · rw [if_neg h0]
    have : y ≠ 0 := fun q => h0 (by rw [q]; rfl)
    have h1 : r / y ≤ r := Nat.div_le_self r y
    rw [za_div (by omega) (by omega) (by omega), za_div (by omega) (by omega) (by omega), nI_add]
    exact ⟨10 * s + r / y / 10, by omega, rfl⟩
