/-! ===== what holds of a world of the class, and between it and the reference ===== -/
def WN (w n t : Nat) (C : Mc) : Prop := C (w + 15) 0 = nI n ∧ n ≤ 100 ∧ C w 6 = nI t ∧ t ≤ 1000
/-- a section's row: holding, person, ends, stock, fence, paid, teller, wanted, soil, water -/
def okS (n : Nat) (h o en sk fe pa te wa so we : Int32) : Prop :=
  (∃ k, h = nI k ∧ k ≤ 6 ∧ k ≠ 2 ∧ (k ≤ 1 → o = -1) ∧ (1 < k → ∃ p, p < n ∧ o = nI p) ∧ (k ≠ 4 → en = -1) ∧ (k = 3 ∨ k = 5 → ∃ m, m ≤ 1000 ∧ pa = nI m) ∧ (k ≠ 3 → k ≠ 5 → pa = -1) ∧ (k = 3 → te = -1 ∨ ∃ l, l < 12 ∧ te = nI l) ∧ (k = 0 → ∃ m, 1 ≤ m ∧ m ≤ 12 ∧ wa = nI m)) ∧ isZ fe ∧ (∃ m, m ≤ 1000 ∧ sk = nI m) ∧ (∃ m, m ≤ 9 ∧ so = nI m) ∧ isZ we
def WS (w n : Nat) (C : Mc) : Prop := ∀ c, c < 96 → okS n (C (w + 5) c) (C (w + 6) c) (C (w + 7) c) (C (w + 8) c) (C (w + 9) c) (C (w + 10) c) (C (w + 11) c) (C (w + 4) c) (C (w + 2) c) 0
def okP (n x s : Nat) (st bo : Nat → Int32) (tr co b : Int32) : Prop := s ≤ 4 ∧ (∃ k, k ≤ 1000000 ∧ co = nI k) ∧ (∃ d, d ≤ 3 ∧ tr = nI d) ∧ (s = 3 → ∃ y, y < n ∧ b = nI y ∧ (st y = nI 4 ∨ y = x)) ∧ (s ≠ 3 → b = -1)
def WP (w n x : Nat) (C : Mc) : Prop := ∀ p, p < n → ∃ s, C (w + 18) p = nI s ∧ okP n x s (C (w + 18)) (C (w + 19)) (C (w + 16) p) (C (w + 17) p) (C (w + 19) p) ∧ (s = 4 ↔ 0 < cn 96 (farP (C (w + 5)) (C (w + 6)) (nI p)))
def WH (w n : Nat) (C : Mc) : Prop := ∀ p, p < n → C (w + 20) p = nI (cn n (hirP (C (w + 18)) (C (w + 19)) (nI p))) ∧ C (w + 21) p = nI (cn 96 (farP (C (w + 5)) (C (w + 6)) (nI p)))
def WO (w n : Nat) (C : Mc) : Prop := ∀ p, n ≤ p → p < 100 → C (w + 20) p = 0 ∧ C (w + 21) p = 0 ∧ C (w + 25) p = 0 ∧ C (w + 24) p = 0
def WC (w n : Nat) (C : Mc) : Prop := C (w + 15) 1 = nI (cn n (herP (C (w + 18)))) ∧ C (w + 1) 9 = nI (cn 96 (frmP (C (w + 5))))
def WZ (w a y : Nat) (C : Mc) : Prop := ∀ z, z < 4 → (∃ k, k ≤ a ∧ C (w + 12) z = nI k) ∧ (∃ k, k ≤ y ∧ C (w + 13) z = nI k) ∧ (∃ k, k ≤ 26500 * y ∧ C (w + 14) z = nI k)
def WQ (w : Nat) (C : Mc) : Prop := ∃ m, m ≤ 4 ∧ C (w + 27) 0 = nI m ∧ ∀ p, p < 4 → (p < m → ∃ k, 1 ≤ k ∧ k ≤ 9 ∧ C (w + 28) p = nI k) ∧ (m ≤ p → C (w + 29) p = 0 ∧ C (w + 30) p = 0) ∧ (∃ a, a < 96 ∧ C (w + 29) p = nI a) ∧ ∃ k, k ≤ 12 ∧ C (w + 30) p = nI k ∧ ∀ i, i < k → ∃ c, c < 96 ∧ C (w + 31) (p * 12 + i) = nI c
def WB (w : Nat) (C : Mc) : Prop := ∃ m, m ≤ 20 ∧ C (w + 32) 0 = nI m ∧ ∀ b, b < 20 → (∃ k, k ≤ 10000 ∧ C (w + 33) b = nI k) ∧ (∃ k, k ≤ 5 ∧ C (w + 34) b = nI k) ∧ (∃ k, k ≤ 3 ∧ C (w + 35) b = nI k) ∧ (m ≤ b → C (w + 34) b = 0 ∧ C (w + 35) b = 0)
/-- the bits of the laws below m that are in force -/
def mk (f : Nat → Int32) : Nat → Nat
  | 0 => 0
  | m + 1 => mk f m + if f m = nI 2 ∨ f m = nI 3 then 2 ^ m else 0
def WL (w : Nat) (C : Mc) : Prop := ∃ m, m ≤ 12 ∧ C (w + 37) 1 = nI m ∧ C (w + 37) 2 = nI (mk (C (w + 38)) m) ∧ ∀ l, l < 12 → (∃ s, s ≤ 4 ∧ C (w + 38) l = nI s) ∧ (m ≤ l → C (w + 38) l = 0)
def milI (so we : Int32) : Int32 := ((nI 6) + (if we = 0 then 0 else nI 3)) + (((nI 9) - so) / (nI 3))
def okE (h en wa so we e d : Int32) : Prop := (h = nI 4 → e = en) ∧ (h = 0 → wa + d = milI so we)
def RE (w : Nat) (C R : Mc) : Prop := ∀ c, c < 96 → okE (C (w + 5) c) (C (w + 7) c) (C (w + 4) c) (C (w + 2) c) (R 131 c) (R 128 (8 * c + 2)) (R 128 (8 * c + 7))
def RQ (w : Nat) (C R : Mc) : Prop := ∀ p, p < 4 → ∀ k i, C (w + 30) p = nI k → k ≤ 12 → i < k → R 128 (1720 + 15 * p + 3 + i) = C (w + 31) (p * 12 + i)
def okL (rh as sa rd : Int32) : Prop := (rh = -1 ∧ sa = 0) ∨ ∃ d, d < 2 ^ 31 ∧ rh = nI d ∧ rd = nI d ∧ ((sa = nI 1 ∧ as = nI 1) ∨ (sa = nI 2 ∧ as = 0))
def RY (w : Nat) (C R : Mc) : Prop := ∀ m l, C (w + 37) 1 = nI m → m ≤ 12 → l < m → okL (C (w + 40) l) (C (w + 41) l) (R 128 (1568 + 6 * l + 4)) (R 128 (1568 + 6 * l + 5))
/-- all of it: n people, week t, x: one who hires though no more on a farm (n: none), a, y: bounds of rain and years -/
def RW (w n t x a y : Nat) (C R : Mc) : Prop := RA w C R ∧ WN w n t C ∧ WS w n C ∧ WP w n x C ∧ WH w n C ∧ WO w n C ∧ WC w n C ∧ WZ w a y C ∧ WQ w C ∧ WB w C ∧ WL w C ∧ RE w C R ∧ RQ w C R ∧ RY w C R
section CG
variable {w n t x a y : Nat} {C C' R R' : Mc}
theorem WN_cg (h : WN w n t C) (h1 : C' (w + 15) 0 = C (w + 15) 0) (h2 : C' w 6 = C w 6) : WN w n t C' := by
  unfold WN at *; rw [h1, h2]; exact h
theorem WS_cg (h : WS w n C) (e : ∀ k, 2 ≤ k → k ≤ 11 → C' (w + k) = C (w + k)) : WS w n C' := by
  intro c hc; have := h c hc
  rw [e 5 (by omega) (by omega), e 6 (by omega) (by omega), e 7 (by omega) (by omega), e 8 (by omega) (by omega), e 9 (by omega) (by omega), e 10 (by omega) (by omega), e 11 (by omega) (by omega), e 4 (by omega) (by omega), e 2 (by omega) (by omega)]
  exact this
theorem WP_cg (h : WP w n x C) (e5 : C' (w + 5) = C (w + 5)) (e6 : C' (w + 6) = C (w + 6)) (e : ∀ k, 16 ≤ k → k ≤ 19 → C' (w + k) = C (w + k)) : WP w n x C' := by
  intro p hp; have := h p hp
  rw [e5, e6, e 16 (by omega) (by omega), e 17 (by omega) (by omega), e 18 (by omega) (by omega), e 19 (by omega) (by omega)]
  exact this
theorem WH_cg (h : WH w n C) (e5 : C' (w + 5) = C (w + 5)) (e6 : C' (w + 6) = C (w + 6)) (e : ∀ k, 18 ≤ k → k ≤ 21 → C' (w + k) = C (w + k)) : WH w n C' := by
  intro p hp; have := h p hp
  rw [e5, e6, e 18 (by omega) (by omega), e 19 (by omega) (by omega), e 20 (by omega) (by omega), e 21 (by omega) (by omega)]
  exact this
theorem WO_cg (h : WO w n C) (e20 : C' (w + 20) = C (w + 20)) (e21 : C' (w + 21) = C (w + 21)) (e24 : C' (w + 24) = C (w + 24)) (e25 : C' (w + 25) = C (w + 25)) : WO w n C' := by
  intro p hp hq; have := h p hp hq
  rw [e20, e21, e24, e25]; exact this
theorem WC_cg (h : WC w n C) (e1 : C' (w + 15) 1 = C (w + 15) 1) (e2 : C' (w + 1) 9 = C (w + 1) 9) (e5 : C' (w + 5) = C (w + 5)) (e18 : C' (w + 18) = C (w + 18)) : WC w n C' := by
  unfold WC at *; rw [e1, e2, e5, e18]; exact h
theorem WZ_cg (h : WZ w a y C) (e : ∀ k, 12 ≤ k → k ≤ 14 → C' (w + k) = C (w + k)) : WZ w a y C' := by
  intro z hz; have := h z hz
  rw [e 12 (by omega) (by omega), e 13 (by omega) (by omega), e 14 (by omega) (by omega)]; exact this
theorem WQ_cg (h : WQ w C) (e0 : C' (w + 27) 0 = C (w + 27) 0) (e : ∀ k, 28 ≤ k → k ≤ 31 → C' (w + k) = C (w + k)) : WQ w C' := by
  unfold WQ at *
  rw [e0, e 28 (by omega) (by omega), e 29 (by omega) (by omega), e 30 (by omega) (by omega), e 31 (by omega) (by omega)]; exact h
theorem WB_cg (h : WB w C) (e0 : C' (w + 32) 0 = C (w + 32) 0) (e : ∀ k, 33 ≤ k → k ≤ 36 → C' (w + k) = C (w + k)) : WB w C' := by
  unfold WB at *
  rw [e0, e 33 (by omega) (by omega), e 34 (by omega) (by omega), e 35 (by omega) (by omega)]; exact h
theorem WL_cg (h : WL w C) (e1 : C' (w + 37) 1 = C (w + 37) 1) (e2 : C' (w + 37) 2 = C (w + 37) 2) (e : C' (w + 38) = C (w + 38)) : WL w C' := by
  unfold WL at *; rw [e1, e2, e]; exact h
theorem RE_cg (h : RE w C R) (e : ∀ k, 2 ≤ k → k ≤ 7 → C' (w + k) = C (w + k)) (r : ∀ c, c < 96 → R' 128 (8 * c + 2) = R 128 (8 * c + 2) ∧ R' 128 (8 * c + 7) = R 128 (8 * c + 7) ∧ R' 131 c = R 131 c) : RE w C' R' := by
  intro c hc; have := h c hc
  rw [e 5 (by omega) (by omega), e 7 (by omega) (by omega), e 4 (by omega) (by omega), e 2 (by omega) (by omega), (r c hc).1, (r c hc).2.1, (r c hc).2.2]; exact this
theorem RQ_cg (h : RQ w C R) (e30 : C' (w + 30) = C (w + 30)) (e31 : C' (w + 31) = C (w + 31)) (r : ∀ p, p < 4 → ∀ i, i < 12 → R' 128 (1720 + 15 * p + 3 + i) = R 128 (1720 + 15 * p + 3 + i)) : RQ w C' R' := by
  intro p hp k i hk h12 hi
  rw [e30] at hk
  rw [e31, r p hp i (by omega)]
  exact h p hp k i hk h12 hi
theorem RY_cg (h : RY w C R) (e1 : C' (w + 37) 1 = C (w + 37) 1) (e40 : C' (w + 40) = C (w + 40)) (e41 : C' (w + 41) = C (w + 41)) (r : ∀ l, l < 12 → R' 128 (1568 + 6 * l + 4) = R 128 (1568 + 6 * l + 4) ∧ R' 128 (1568 + 6 * l + 5) = R 128 (1568 + 6 * l + 5)) : RY w C' R' := by
  intro m l hm h12 hl
  rw [e1] at hm
  rw [e40, e41, (r l (by omega)).1, (r l (by omega)).2]
  exact h m l hm h12 hl
end CG
def up1 (f : Nat → Int32) (p : Nat) (v : Int32) : Nat → Int32 := fun j => if j = p then v else f j
theorem up1_s (f : Nat → Int32) (p : Nat) (v : Int32) : up1 f p v p = v := if_pos rfl
theorem up1_o {f : Nat → Int32} {p q : Nat} {v : Int32} (h : q ≠ p) : up1 f p v q = f q := if_neg h
theorem za_wrf (M : Mc) (k i : Nat) (v : Int32) : wr M k i v k = up1 (M k) i v := by
  funext j; unfold wr up1; by_cases h : j = i
  · rw [if_pos ⟨rfl, h⟩, if_pos h]
  · rw [if_neg (fun q => h q.2), if_neg h]
theorem hir_s (st bo : Nat → Int32) (p : Nat) (u v z : Int32) : hirP (up1 st p u) (up1 bo p v) z p = decide (u = nI 3 ∧ v = z) := by unfold hirP; rw [up1_s, up1_s]
theorem hir_o {st bo : Nat → Int32} {p k : Nat} {u v z : Int32} (h : k ≠ p) : hirP (up1 st p u) (up1 bo p v) z k = hirP st bo z k := by unfold hirP; rw [up1_o h, up1_o h]
theorem hir_f {st bo : Nat → Int32} {p : Nat} {z : Int32} (h : st p ≠ nI 3 ∨ bo p ≠ z) : hirP st bo z p = false := by
  unfold hirP; exact decide_eq_false (fun q => h.elim (fun a => a q.1) (fun a => a q.2))
theorem hir_t {st bo : Nat → Int32} {p : Nat} {z : Int32} (h : st p = nI 3) (h2 : bo p = z) : hirP st bo z p = true := decide_eq_true ⟨h, h2⟩
theorem her_s (st : Nat → Int32) (p : Nat) (u : Int32) : herP (up1 st p u) p = decide (¬ u < nI 2) := by unfold herP; rw [up1_s]
theorem her_o {st : Nat → Int32} {p k : Nat} {u : Int32} (h : k ≠ p) : herP (up1 st p u) k = herP st k := by unfold herP; rw [up1_o h]
theorem frm_s (ho : Nat → Int32) (p : Nat) (u : Int32) : frmP (up1 ho p u) p = decide (u = nI 3 ∨ u = nI 5) := by unfold frmP; rw [up1_s]
theorem frm_o {ho : Nat → Int32} {p k : Nat} {u : Int32} (h : k ≠ p) : frmP (up1 ho p u) k = frmP ho k := by unfold frmP; rw [up1_o h]
theorem far_s (ho ow : Nat → Int32) (p : Nat) (u v z : Int32) : farP (up1 ho p u) (up1 ow p v) z p = decide ((u = nI 3 ∨ u = nI 5) ∧ v = z) := by unfold farP; rw [up1_s, up1_s]
theorem far_o {ho ow : Nat → Int32} {p k : Nat} {u v z : Int32} (h : k ≠ p) : farP (up1 ho p u) (up1 ow p v) z k = farP ho ow z k := by unfold farP; rw [up1_o h, up1_o h]
theorem st_eq {s k : Nat} {v : Int32} (hs : s ≤ 100) (hk : k ≤ 100) (h1 : v = nI s) (h2 : v = nI k) : s = k := za_inj (by omega) (by omega) (h1 ▸ h2)
theorem her_n {st : Nat → Int32} {p s : Nat} (h : st p = nI s) (hs : s ≤ 100) : herP st p = decide (2 ≤ s) := by
  unfold herP; rw [h]
  by_cases h2 : 2 ≤ s
  · rw [decide_eq_true h2]; exact decide_eq_true (nI_nlt h2 (by omega))
  · rw [decide_eq_false h2]; exact decide_eq_false (fun q => q (nI_lt (by omega) (by omega)))
theorem nis {a b : Nat} (h : a = b + 1) : nI a - nI 1 = nI b := by rw [h, za_sub (by omega)]; rfl
