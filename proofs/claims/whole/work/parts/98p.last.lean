/-! ===== how long queues last: a party with a queue comes nearer to its end every week ===== -/
def wdN (w : Nat) (C : Mc) (c : Nat) : Nat := if C (w + 5) c = 0 then (C (w + 4) c).toNatClampNeg else 0
def dN (a c : Nat) : Nat := (a % 12 - c % 12) + (c % 12 - a % 12) + ((a / 12 - c / 12) + (c / 12 - a / 12))
def meF (w : Nat) (C : Mc) (p : Nat) : Nat := (C (w + 31) (p * 12)).toNatClampNeg
def meP (w : Nat) (C : Mc) (p : Nat) : Nat := if C (w + 30) p = 0 then 0 else 1 + 31 * ((C (w + 30) p).toNatClampNeg - 1) + (dN (C (w + 29) p).toNatClampNeg (meF w C p) + wdN w C (meF w C p))
theorem wd_0 {w : Nat} {C : Mc} {c : Nat} (h : ¬ C (w + 5) c = 0) : wdN w C c = 0 := if_neg h
theorem dN_le {a c : Nat} (ha : a < 96) (hc : c < 96) : dN a c ≤ 18 := by unfold dN; omega
section MP
variable {w n t x a y m p q : Nat} {C R C' : Mc}
theorem wd_12 {c : Nat} (h : RW w n t x a y C R) (hc : c < 96) : wdN w C c ≤ 12 := by
  unfold wdN
  by_cases h0 : C (w + 5) c = 0
  · rw [if_pos h0]
    obtain ⟨⟨kk, i1, i2, _, _, _, _, _, _, _, i10⟩, _⟩ := h.2.2.1 c hc
    have hkk : kk = 0 := (za_eq0 (by omega)).mp (i1.symm.trans h0)
    obtain ⟨wn, w1, w2, w3⟩ := i10 hkk
    rw [w3, nI_clamp (by omega)]; exact w2
  · rw [if_neg h0]; omega
theorem me_le (h : RW w n t x a y C R) (hp : p < 4) : meP w C p ≤ 372 := by
  obtain ⟨aa, k, a1, a2, k1, k2, k3⟩ := rw_q h hp
  unfold meP
  by_cases h0 : C (w + 30) p = 0
  · rw [if_pos h0]; omega
  · rw [if_neg h0]
    obtain ⟨c, c1, c2⟩ := k3 0 (by have : k ≠ 0 := fun z => h0 (k2.trans (by rw [z]; rfl))
                                   omega)
    have hF : meF w C p = c := by unfold meF; rw [show p * 12 = p * 12 + 0 from rfl, c2, nI_clamp (by omega)]
    have := dN_le a1 c1; have := wd_12 h c1
    rw [hF, k2, a2, nI_clamp (by omega), nI_clamp (by omega)]; omega
theorem me_drop {k p' : Nat} (h : RW w n t x a y C R) (hp : p < 4) (hk : C (w + 30) p = nI (k + 1)) (hk2 : k ≤ 11) (hp' : p' < 4) : meP w (wr (up C (w + 31) (va_cpy (C (w + 31)) (C (w + 31)) (p * 12 + 1) (p * 12) 11)) (w + 30) p (nI k)) p' ≤ meP w C p' := by
  have e5 : ∀ b, b ≠ 30 → b ≠ 31 → wr (up C (w + 31) (va_cpy (C (w + 31)) (C (w + 31)) (p * 12 + 1) (p * 12) 11)) (w + 30) p (nI k) (w + b) = C (w + b) := fun b h1 h2 => by rw [za_wrc (by omega), up_o (by omega)]
  have e31 : wr (up C (w + 31) (va_cpy (C (w + 31)) (C (w + 31)) (p * 12 + 1) (p * 12) 11)) (w + 30) p (nI k) (w + 31) = va_cpy (C (w + 31)) (C (w + 31)) (p * 12 + 1) (p * 12) 11 := by rw [za_wrc (by omega), up_c]
  have ewd : ∀ c, wdN w (wr (up C (w + 31) (va_cpy (C (w + 31)) (C (w + 31)) (p * 12 + 1) (p * 12) 11)) (w + 30) p (nI k)) c = wdN w C c := fun c => by unfold wdN; rw [e5 5 (by omega) (by omega), e5 4 (by omega) (by omega)]
  by_cases e : p' = p
  · subst e
    obtain ⟨aa, k', a1, a2, k1, k2, k3⟩ := rw_q h hp
    obtain rfl : k' = k + 1 := za_inj (by omega) (by omega) (k2.symm.trans hk)
    unfold meP
    rw [za_wrs, if_neg (show ¬ C (w + 30) p' = 0 from fun z => by have := (za_eq0 (by omega)).mp (hk.symm.trans z); omega)]
    by_cases h0 : k = 0
    · subst h0; rw [if_pos nI_0]; omega
    · rw [if_neg (fun z => h0 ((za_eq0 (by omega)).mp z)), ewd, e5 29 (by omega) (by omega)]
      obtain ⟨c, c1, c2⟩ := k3 1 (by omega)
      have hF : meF w (wr (up C (w + 31) (va_cpy (C (w + 31)) (C (w + 31)) (p' * 12 + 1) (p' * 12) 11)) (w + 30) p' (nI k)) p' = c := by
        unfold meF
        rw [e31]
        unfold va_cpy
        rw [if_pos ⟨Nat.le_refl _, by omega⟩, Nat.sub_self, Nat.add_zero, c2, nI_clamp (by omega)]
      have := dN_le a1 c1; have := wd_12 h c1
      rw [hF, hk, a2, nI_clamp (by omega), nI_clamp (by omega), nI_clamp (by omega)]; omega
  · have hF : meF w (wr (up C (w + 31) (va_cpy (C (w + 31)) (C (w + 31)) (p * 12 + 1) (p * 12) 11)) (w + 30) p (nI k)) p' = meF w C p' := by
      unfold meF
      rw [e31]
      unfold va_cpy
      rw [if_neg (by omega)]
    refine Nat.le_of_eq ?_
    unfold meP
    rw [za_wri e, up_o (by omega), ewd, hF, e5 29 (by omega) (by omega)]
/-- a mile of digging -/
theorem me_dig {k c : Nat} (h : RW w n t x a y C R) (hp : p < 4) (hk : C (w + 30) p = nI (k + 1)) (hk2 : k ≤ 11) (hcq : C (w + 31) (p * 12) = nI c) (hc : c < 96) (h0 : C (w + 5) c = 0) (e29 : C' (w + 29) = C (w + 29)) (e30 : C' (w + 30) = C (w + 30)) (e31 : C' (w + 31) = C (w + 31)) (eo : ∀ x, x ≠ c → wdN w C' x = wdN w C x) (ec : wdN w C' c + 1 ≤ wdN w C c) : (∀ p', p' < 4 → meP w C' p' ≤ meP w C p') ∧ meP w C' p + 1 ≤ meP w C p := by
  have eF : ∀ p', meF w C' p' = meF w C p' := fun p' => by unfold meF; rw [e31]
  have eall : ∀ x, wdN w C' x ≤ wdN w C x := fun x => by
    by_cases e : x = c
    · subst e; omega
    · exact Nat.le_of_eq (eo x e)
  refine ⟨fun p' _ => ?_, ?_⟩
  · unfold meP
    rw [e29, e30, eF]
    by_cases q : C (w + 30) p' = 0
    · rw [if_pos q, if_pos q]; omega
    · rw [if_neg q, if_neg q]; have := eall (meF w C p'); omega
  · have q : ¬ C (w + 30) p = 0 := fun z => by have := (za_eq0 (by omega)).mp (hk.symm.trans z); omega
    have hF : meF w C p = c := by unfold meF; rw [hcq, nI_clamp (by omega)]
    unfold meP
    rw [e29, e30, eF, if_neg q, if_neg q, hF]; omega
/-- a mile of the way -/
theorem me_go {k c aa r : Nat} (hp : p < 4) (hk : C (w + 30) p = nI (k + 1)) (hk2 : k ≤ 11) (hcq : C (w + 31) (p * 12) = nI c) (hc : c < 96) (a1 : aa < 96) (a2 : C (w + 29) p = nI aa) (r1 : r < 96) (hr : dN r c + 1 ≤ dN aa c) : (∀ p', p' < 4 → meP w (wr C (w + 29) p (nI r)) p' ≤ meP w C p') ∧ meP w (wr C (w + 29) p (nI r)) p + 1 ≤ meP w C p := by
  have e : ∀ b, b ≠ 29 → wr C (w + 29) p (nI r) (w + b) = C (w + b) := fun b hb => za_wrc (by omega)
  have eF : ∀ p', meF w (wr C (w + 29) p (nI r)) p' = meF w C p' := fun p' => by unfold meF; rw [e 31 (by omega)]
  have ew : ∀ x, wdN w (wr C (w + 29) p (nI r)) x = wdN w C x := fun x => by unfold wdN; rw [e 5 (by omega), e 4 (by omega)]
  have q : ¬ C (w + 30) p = 0 := fun z => by have := (za_eq0 (by omega)).mp (hk.symm.trans z); omega
  have hF : meF w C p = c := by unfold meF; rw [hcq, nI_clamp (by omega)]
  have key : meP w (wr C (w + 29) p (nI r)) p + 1 ≤ meP w C p := by
    unfold meP
    rw [e 30 (by omega), eF, ew, if_neg q, if_neg q, hF, za_wrs, a2, nI_clamp (show r < 2 ^ 31 by omega), nI_clamp (show aa < 2 ^ 31 by omega)]; omega
  refine ⟨fun p' _ => ?_, key⟩
  by_cases ep : p' = p
  · subst ep; omega
  · refine Nat.le_of_eq ?_
    unfold meP
    rw [e 30 (by omega), eF, ew, za_wri ep]
/-- those of a queue that are not wild any more are out of it, on both sides -/
theorem drop_M (hp : p < 4) : ∀ k fu fr i C R, k + i ≤ 12 → k < fu → k < fr → RV w n t n a y m C R → C (w + 30) p = nI k → ∃ C' R' q, fX5_dropDone_L11 (w + 27) (w + 1) fu C (nI p) (nI i) = some C' ∧ fX12_passes_L0 fr R (nI (1720 + 15 * p)) = some R' ∧ RV w n t n a y m C' R' ∧ FC w C C' ∧ FD R R' ∧ (∀ j, C' w j = C w j) ∧ (∀ b, b ≠ 30 → b ≠ 31 → C' (w + b) = C (w + b)) ∧ q ≤ k ∧ C' (w + 30) p = nI q ∧ (0 < q → ∃ c, c < 96 ∧ C' (w + 31) (p * 12) = nI c ∧ C' (w + 5) c = 0) ∧ ∀ p', p' < 4 → meP w C' p' ≤ meP w C p'
  | k, 0, _, _, _, _, _, hf, _, _, _ => by omega
  | k, _, 0, _, _, _, _, _, hf, _, _ => by omega
  | 0, fu + 1, fr + 1, i, C, R, hi, _, _, h, hk => by
    have h0R : R 128 (1720 + 15 * p + 2) = nI 0 := (ra_wait h.1.1 hp).trans hk
    have hC : fX5_dropDone_L11 (w + 27) (w + 1) (fu + 1) C (nI p) (nI i) = some C := by
      rw [fX5_dropDone_L11]
      by_cases h12 : nI 12 ≤ nI i
      · rw [if_pos h12]
      · rw [if_neg h12, za_chk _ hp (by omega), nI_clamp (by omega), show C (w + 27 + 3) p = nI 0 from hk, if_pos (by decide +kernel)]
    refine ⟨C, R, 0, hC, ?_, h, FC.rf, FD.rf, fun _ => rfl, fun _ _ _ => rfl, by omega, hk, fun h => by omega, fun _ _ => Nat.le_refl _⟩
    rw [fX12_passes_L0, nI_add, za_chk _ (by omega) (by omega), nI_clamp (by omega), h0R, if_pos (by decide +kernel)]
  | k + 1, fu + 1, fr + 1, i, C, R, hi, hf, hfr, h, hk => by
    have hw := h.w17
    have h0R : R 128 (1720 + 15 * p + 2) = nI (k + 1) := (ra_wait h.1.1 hp).trans hk
    obtain ⟨_, k', _, _, k1, k2, k3⟩ := rw_q h.1 hp
    obtain rfl : k' = k + 1 := za_inj (by omega) (by omega) (k2.symm.trans hk)
    obtain ⟨c, c1, c2⟩ := k3 0 (by omega)
    have c2R : R 128 (1720 + 15 * p + 3) = nI c := (h.1.2.2.2.2.2.2.2.2.2.2.2.2.1 p hp (k + 1) 0 hk (by omega) (by omega)).trans c2
    rw [fX5_dropDone_L11, fX12_passes_L0, if_neg (nI_ge (by omega) (by omega)), za_chk (n := p) _ hp (by omega), nI_clamp (n := p) (by omega), show C (w + 27 + 3) p = nI (k + 1) from hk, if_neg (nI_nle (by omega) (by omega)), lq_first (g := 0) hp hk (by omega) c2, za_bnd, lg_wild c1, za_bnd, nI_add, nI_add, nI_add, za_chk (n := 1720 + 15 * p + 2) _ (by omega) (by omega), nI_clamp (n := 1720 + 15 * p + 2) (by omega), h0R, if_neg (nI_nle (by omega) (by omega)), za_chk (n := 1720 + 15 * p + 3) _ (by omega) (by omega), nI_clamp (n := 1720 + 15 * p + 3) (by omega), c2R, rf_sec0 c1, za_bnd, ra_hold h.1.1 c1]
    by_cases h0 : C (w + 5) c = 0
    · rw [if_pos (show C (w + 1 + 4) c = 0 from h0), if_neg za_n10, if_pos h0]
      exact ⟨C, R, k + 1, rfl, rfl, h, FC.rf, FD.rf, fun _ => rfl, fun _ _ _ => rfl, by omega, hk, fun _ => ⟨c, c1, c2, h0⟩, fun _ _ => Nat.le_refl _⟩
    · rw [if_neg (show ¬ C (w + 1 + 4) c = 0 from h0), if_pos rfl, if_neg h0]
      obtain ⟨R1, d1, d2, d3⟩ := deq_L (at' := 1720 + 15 * p) (q := k) (by omega) (by omega) k FU 0 (wr R 128 (1720 + 15 * p + 2) (nI k)) (by omega) (by rw [za_FU]; omega) (za_wrs _ _ _ _)
      have hdq : fX12_dequeues R (nI (1720 + 15 * p)) = some R1 := by
        unfold fX12_dequeues
        rw [nI_add, za_chk _ (by omega) (by omega), za_chk _ (by omega) (by omega), za_lt, nI_clamp (by omega), h0R, nis rfl, za_0]
        exact d1
      have hcp : ∀ f : Mc → Option Mc, cpy C (w + 27 + 4) 48 ((nI p * nI 12) + nI 1) (w + 27 + 4) 48 (nI p * nI 12) (nI 11) f = f (up C (w + 31) (va_cpy (C (w + 31)) (C (w + 31)) (p * 12 + 1) (p * 12) 11)) := by
        intro f
        unfold cpy
        rw [za_mul, nI_add, nI_clamp (by omega), nI_clamp (by omega), nI_clamp (by omega), if_neg]
        rintro (z | z | z | z | z)
        · exact nI_pos (by omega) z
        · exact nI_pos (by omega) z
        · exact nI_pos (by omega) z
        · omega
        · omega
      rw [hcp, hdq, za_bnd, za_chk _ hp (by omega), za_chk _ hp (by omega), za_lt, up_o (by omega), show C (w + 27 + 3) p = nI (k + 1) from hk, nis rfl]
      have hd2' : ∀ j, j < k → R1 128 (1720 + 15 * p + 3 + j) = R 128 (1720 + 15 * p + 3 + j + 1) := fun j hj => by
        rw [d2 j (by omega) hj, za_wri (by omega)]
      have hR := op_drop hp (by omega) hk hd2' (fun b j hh => d3 b j (by omega)) h.1
      have fc : FC w C (wr (up C (w + 31) (va_cpy (C (w + 31)) (C (w + 31)) (p * 12 + 1) (p * 12) 11)) (w + 30) p (nI k)) := fc_wr ⟨fun b hb => up_o (by omega), fun k hk => up_o (by omega), by rw [up_o (by omega)]⟩ (by omega)
      have fd : FD R R1 := ⟨fun b h1 h2 => by funext j; rw [d3 b j (Or.inl h1), za_wra h1], fun j hj => by unfold pz at hj; rw [d3 128 j (by omega), za_wri (by omega)]⟩
      have ew : ∀ j, wr (up C (w + 31) (va_cpy (C (w + 31)) (C (w + 31)) (p * 12 + 1) (p * 12) 11)) (w + 30) p (nI k) w j = C w j := fun j => by rw [za_wra (by omega), up_o (by omega)]
      have eb : ∀ b, b ≠ 30 → b ≠ 31 → wr (up C (w + 31) (va_cpy (C (w + 31)) (C (w + 31)) (p * 12 + 1) (p * 12) 11)) (w + 30) p (nI k) (w + b) = C (w + b) := fun b h1 h2 => by rw [za_wrc (by omega), up_o (by omega)]
      obtain ⟨C', R', q', j1, j2, j3, j4, j5, j6, j7, j8, j9, j10, j11⟩ := drop_M hp k fu fr (i + 1) _ _ (by omega) (by omega) (by omega) (h.step hR fc fd (congrFun (eb 37 (by omega) (by omega)) _) (ew _) (ew _) (ew _)) (za_wrs _ _ _ _)
      exact ⟨C', R', q', j1, j2, j3, fc.tr j4, fd.tr j5, fun j => (j6 j).trans (ew j), fun b h1 h2 => (j7 b h1 h2).trans (eb b h1 h2), by omega, j9, j10, fun p' hp' => Nat.le_trans (j11 p' hp') (me_drop h.1 hp hk (by omega) hp')⟩
theorem drop_sm (hp : p < 4) (h : RV w n t n a y m C R) : ∃ C' R' q, fX5_dropDone C (w + 27) (w + 1) (nI p) = some C' ∧ fX12_passes R (nI (1720 + 15 * p)) = some R' ∧ RV w n t n a y m C' R' ∧ FC w C C' ∧ FD R R' ∧ (∀ j, C' w j = C w j) ∧ (∀ b, b ≠ 30 → b ≠ 31 → C' (w + b) = C (w + b)) ∧ q ≤ 12 ∧ C' (w + 30) p = nI q ∧ (0 < q → ∃ c, c < 96 ∧ C' (w + 31) (p * 12) = nI c ∧ C' (w + 5) c = 0) ∧ ∀ p', p' < 4 → meP w C' p' ≤ meP w C p' := by
  obtain ⟨_, k, _, _, k1, k2, _⟩ := rw_q h.1 hp
  obtain ⟨C', R', q', j1, j2, j3, j4, j5, j6, j7, j8, j9, j10, j11⟩ := drop_M hp k FU FU 0 C R (by omega) (by rw [za_FU]; omega) (by rw [za_FU]; omega) h k2
  unfold fX5_dropDone fX12_passes
  rw [za_inY hp (by omega), za_bnd, if_neg za_n10, za_0, j1, j2]
  exact ⟨C', R', q', rfl, rfl, j3, j4, j5, j6, j7, by omega, j9, j10, j11⟩
theorem near_o2 {aa c : Nat} (ha : aa < 96) (hc : c < 96) (hne : aa ≠ c) : ∃ r, r < 96 ∧ fX12_nearer (nI aa) (nI c) = some (nI r) ∧ (if aa % 12 = c % 12 then (if c ≤ aa then nI aa + (-12) else nI aa + nI 12) else (if c % 12 ≤ aa % 12 then nI aa + (-1) else nI aa + nI 1)) = nI r ∧ dN r c + 1 ≤ dN aa c := by
  unfold fX12_nearer
  rw [za_irm (by omega) (by omega) (by omega), za_irm (by omega) (by omega) (by omega), za_lt, za_lt]
  have e12 : ∀ v : Nat, 12 ≤ v → nI v + (-12) = nI (v - 12) := fun v hv => by rw [show (-12 : Int32) = -nI 12 by decide +kernel, ← Int32.sub_eq_add_neg, za_sub hv]
  have e1 : ∀ v : Nat, 1 ≤ v → nI v + (-1) = nI (v - 1) := fun v hv => by rw [show (-1 : Int32) = -nI 1 by decide +kernel, ← Int32.sub_eq_add_neg, za_sub hv]
  rcases Nat.lt_trichotomy (aa % 12) (c % 12) with h | h | h
  · refine ⟨aa + 1, by omega, ?_, ?_, by unfold dN; omega⟩
    · rw [if_neg (nI_ge h (by omega)), nI_add]
    · rw [if_neg (by omega), if_neg (by omega), nI_add]
  · by_cases h2 : c ≤ aa
    · refine ⟨aa - 12, by omega, ?_, ?_, by unfold dN; omega⟩
      · rw [if_pos (nI_le (by omega) (by omega)), if_pos (nI_le (by omega) (by omega)), if_pos (nI_le h2 (by omega)), za_sub (by omega)]
      · rw [if_pos h, if_pos h2, e12 _ (by omega)]
    · refine ⟨aa + 12, by omega, ?_, ?_, by unfold dN; omega⟩
      · rw [if_pos (nI_le (by omega) (by omega)), if_pos (nI_le (by omega) (by omega)), if_neg (nI_ge (by omega) (by omega)), nI_add]
      · rw [if_pos h, if_neg h2, nI_add]
  · refine ⟨aa - 1, by omega, ?_, ?_, by unfold dN; omega⟩
    · rw [if_pos (nI_le (by omega) (by omega)), if_neg (nI_ge h (by omega)), za_sub (by omega)]
    · rw [if_neg (by omega), if_pos (by omega), e1 _ (by omega)]
theorem mile_sm {k c : Nat} (hp : p < 4) (hpm : ∀ m, m ≤ 4 → C (w + 27) 0 = nI m → p < m) (h : RV w n t n a y m C R) (hk : C (w + 30) p = nI (k + 1)) (hk2 : k ≤ 11) (hc : c < 96) (hcq : C (w + 31) (p * 12) = nI c) (h0 : C (w + 5) c = 0) :
    ∃ C' R', fX5_goMile C (w + 27) (w + 1) (nI p) = some C' ∧ (∀ f, mileR R (nI (1720 + 15 * p)) f = f R') ∧ RV w n t n a y m C' R' ∧ FC w C C' ∧ FD R R' ∧ (∀ j, C' w j = C w j) ∧ C' (w + 27) 0 = C (w + 27) 0 ∧ (∀ p', p' < 4 → meP w C' p' ≤ meP w C p') ∧ meP w C' p + 1 ≤ meP w C p := by
  have hw := h.w17
  obtain ⟨aa, _, a1, a2, _, _, _⟩ := rw_q h.1 hp
  have eA : R 128 (1720 + 15 * p + 1) = nI aa := (ra_at h.1.1 hp).trans a2
  have eF : R 128 (1720 + 15 * p + 3) = nI c := (h.1.2.2.2.2.2.2.2.2.2.2.2.2.1 p hp (k + 1) 0 hk (by omega) (by omega)).trans hcq
  unfold fX5_goMile mileR
  rw [za_inY hp (by omega), za_bnd, if_neg za_n10, lq_first (g := 0) hp hk hk2 hcq, za_bnd]
  simp only [za_chk _ hp (show 4 < 2 ^ 31 by omega), nI_clamp (show p < 2 ^ 31 by omega), nI_add]
  rw [show C (w + 27 + 2) p = nI aa from a2]
  simp only [za_chk (n := 1720 + 15 * p + 3) _ (show _ < 2132 by omega) (by omega), za_chk (n := 1720 + 15 * p + 1) _ (show _ < 2132 by omega) (by omega), za_lt, nI_clamp (n := 1720 + 15 * p + 3) (by omega), nI_clamp (n := 1720 + 15 * p + 1) (by omega), eF, eA]
  by_cases hac : aa = c
  · subst hac
    simp only [if_true]
    obtain ⟨⟨kk, i1, i2, _, _, _, _, _, _, _, i10⟩, _⟩ := h.1.2.2.1 aa hc
    have hkk : kk = 0 := (za_eq0 (by omega)).mp (i1.symm.trans h0)
    obtain ⟨wn, w1, w2, w3⟩ := i10 hkk
    have hE := (h.1.2.2.2.2.2.2.2.2.2.2.2.1 aa hc).2 h0
    have hdig : fX4_dig C (w + 1) (nI aa) = (if 0 < nI (wn - 1) then some (wr C (w + 4) aa (nI (wn - 1))) else some (moOpen (wr C (w + 4) aa (nI (wn - 1))) (w + 1) aa)) := by
      unfold fX4_dig
      rw [lg_wild hc, za_bnd, if_pos (show C (w + 1 + 4) aa = 0 from h0), if_neg za_n10]
      simp only [za_chk _ hc (show 96 < 2 ^ 31 by omega), nI_clamp (show aa < 2 ^ 31 by omega), za_lt]
      rw [show C (w + 1 + 3) aa = nI wn from w3, za_sub w1, za_wrs]
      rw [lg_openN hc (by rw [za_wra (by omega), show C (w + 1 + 4) aa = 0 from h0]; decide +kernel), za_bnd]
    rw [hdig]
    simp only [za_mul, nI_add]
    simp only [za_chk (n := 8 * aa + 7) _ (show _ < 2132 by omega) (by omega), nI_clamp (n := 8 * aa + 7) (by omega)]
    have hm : ∀ v, fX12_miles (wr R 128 (8 * aa + 7) v) (nI aa) = some (milI (C (w + 2) aa) (R 131 aa)) := fun v => miles_r h.1 hc _ (za_wrc (by omega)) (za_wrc (by omega))
    simp only [rf_sec hc (show 7 < 8 by omega), za_bnd, za_wrs, hm]
    have hsum : nI (wn - 1) + (R 128 (8 * aa + 7) + nI 1) = milI (C (w + 2) aa) (R 131 aa) := by
      rw [← hE, w3, ← nis (show wn = wn - 1 + 1 by omega)]; grind
    by_cases hz : wn = 1
    · subst hz
      have hmil : R 128 (8 * aa + 7) + nI 1 = milI (C (w + 2) aa) (R 131 aa) := by
        rw [← hsum, show nI (1 - 1) = 0 from nI_0, Int32.zero_add]
      rw [if_neg (by decide +kernel)]
      simp only [if_pos hmil, rf_holds hc, za_bnd]
      have hL := op_lot (nI (1 - 1)) (R 128 (8 * aa + 7) + nI 1) hc (show ¬ (C (w + 5) aa = nI 3 ∨ C (w + 5) aa = nI 5) by rw [h0]; decide +kernel) h.1
      have ec : ∀ b, b ≠ 4 → (b < 5 ∨ 11 < b) → moOpen (wr C (w + 4) aa (nI (1 - 1))) (w + 1) aa (w + b) = C (w + b) := fun b b1 b2 => by
        unfold moOpen; simp (disch := omega) only [za_wrc]
      have ew : ∀ j, moOpen (wr C (w + 4) aa (nI (1 - 1))) (w + 1) aa w j = C w j := fun j => by rw [open_w, za_wra (by omega)]
      exact ⟨_, _, rfl, fun f => rfl, h.step hL (FC.tr (fc_wr FC.rf (by omega)) fc_open) (FD.tr (fd_wr FD.rf (by omega)) (fd_holds (by omega))) (congrFun (ec 37 (by omega) (by omega)) _) (ew _) (ew _) (ew _), FC.tr (fc_wr FC.rf (by omega)) fc_open, FD.tr (fd_wr FD.rf (by omega)) (fd_holds (by omega)), ew, congrFun (ec 27 (by omega) (by omega)) _, me_dig h.1 hp hk (by omega) hcq hc h0 (ec 29 (by omega) (by omega)) (ec 30 (by omega) (by omega)) (ec 31 (by omega) (by omega)) (fun x hx => by unfold wdN moOpen; simp (disch := omega) only [za_wrc, za_wri hx, za_wra]) (by rw [wd_0 (by unfold moOpen; simp (disch := omega) only [za_wra]; rw [show w + 5 = w + 1 + 4 from rfl, za_wrs]; decide +kernel)]; unfold wdN; rw [if_pos h0, w3, nI_clamp (by omega)]; omega)⟩
    · have hnm : ¬ R 128 (8 * aa + 7) + nI 1 = milI (C (w + 2) aa) (R 131 aa) := by
        intro e
        rw [← hsum] at e
        have : nI (wn - 1) = 0 := by grind
        exact hz (by have := (za_eq0 (by omega)).mp this; omega)
      rw [if_pos ((za_0lt (by omega)).mpr (by omega))]
      simp only [if_neg hnm]
      exact ⟨_, _, rfl, fun f => rfl, h.step (op_dig _ hc ⟨by omega, by omega⟩ hsum h.1) (fc_wr FC.rf (by omega)) (fd_wr FD.rf (by omega)) (za_wra (by omega)) (za_wra (by omega)) (za_wra (by omega)) (za_wra (by omega)), fc_wr FC.rf (by omega), fd_wr FD.rf (by omega), fun j => za_wra (by omega), za_wra (by omega), me_dig h.1 hp hk (by omega) hcq hc h0 (za_wrc (by omega)) (za_wrc (by omega)) (za_wrc (by omega)) (fun x hx => by unfold wdN; simp only [za_wri hx]) (by unfold wdN; rw [za_wra (by omega), if_pos h0, if_pos h0, za_wrs, w3, nI_clamp (by omega), nI_clamp (by omega)]; omega)⟩
  · have hne : ¬ nI aa = nI c := fun z => hac (za_inj (by omega) (by omega) z)
    obtain ⟨r, r1, r2, r3, r4⟩ := near_o2 a1 hc hac
    simp only [if_neg hne, r2, za_bnd]
    have hR := op_at (k := r) hp r1 hpm h.1
    refine ⟨_, _, ?_, fun f => rfl, h.step hR (fc_wr FC.rf (by omega)) (fd_wr FD.rf (by omega)) (za_wra (by omega)) (za_wra (by omega)) (za_wra (by omega)) (za_wra (by omega)), fc_wr FC.rf (by omega), fd_wr FD.rf (by omega), fun j => za_wra (by omega), za_wra (by omega), me_go hp hk (by omega) hcq hc a1 a2 r1 r4⟩
    rw [← r3, za_irm (by omega) (by omega) (by omega), za_irm (by omega) (by omega) (by omega)]
    unfold fX5_goMile_J106 fX5_goMile_J77
    simp only [za_chk _ hp (show 4 < 2 ^ 31 by omega), nI_clamp (show p < 2 ^ 31 by omega), za_lt]
    by_cases h1 : aa % 12 = c % 12
    · rw [if_pos (show nI (aa % 12) = nI (c % 12) by rw [h1]), if_pos h1]
      by_cases h2 : c ≤ aa
      · rw [if_pos (nI_le h2 (by omega)), if_pos h2]
      · rw [if_neg (nI_ge (by omega) (by omega)), if_neg h2]
    · rw [if_neg (fun z => h1 (za_inj (by omega) (by omega) z)), if_neg h1]
      by_cases h2 : c % 12 ≤ aa % 12
      · rw [if_pos (nI_le h2 (by omega)), if_pos h2]
      · rw [if_neg (nI_ge (by omega) (by omega)), if_neg h2]
theorem pace_M (hp : p < 4) {K7 : Mc → Int32 → Option Mc} : ∀ left fu fr C R q, left < fu → left < fr → RV w n t n a y m C R → (∀ m, m ≤ 4 → C (w + 27) 0 = nI m → p < m) → left ≤ 9 → q ≤ 12 → C (w + 30) p = nI q → (0 < q → ∃ c, c < 96 ∧ C (w + 31) (p * 12) = nI c ∧ C (w + 5) c = 0) → ∃ C' R', (if nI left = 0 then (fX5_goOut_J65 (w + 27) (w + 1) K7 C (nI p)) else chk (nI p) (4) ((if 0 < (C (w + 27 + 3) (nI p).toNatClampNeg) then bnd (fX5_goMile C (w + 27) (w + 1) (nI p)) fun M5 => (fX5_goOut_L27 (w + 27) (w + 1) K7 fu M5 (nI p) (nI left + (-1))) else (fX5_goOut_J65 (w + 27) (w + 1) K7 C (nI p))))) = fX5_goOut_J65 (w + 27) (w + 1) K7 C' (nI p) ∧ fX12_surveys_L23 fr R (nI (1720 + 15 * p)) (nI left) = some R' ∧ RV w n t n a y m C' R' ∧ FC w C C' ∧ FD R R' ∧ (∀ j, C' w j = C w j) ∧ C' (w + 27) 0 = C (w + 27) 0 ∧ (∀ p', p' < 4 → meP w C' p' ≤ meP w C p') ∧ (0 < left → meP w C' p + 1 ≤ meP w C p ∨ meP w C' p = 0)
  | left, 0, _, _, _, _, hf, _, _, _, _, _, _, _ => by omega
  | left, _, 0, _, _, _, _, hf, _, _, _, _, _, _ => by omega
  | 0, fu + 1, fr + 1, C, R, q, _, _, h, _, _, _, hq, _ => by
    rw [if_pos (show nI 0 = 0 from nI_0), fX12_surveys_L23, if_pos (by decide +kernel)]
    exact ⟨C, R, rfl, rfl, h, FC.rf, FD.rf, fun _ => rfl, rfl, fun _ _ => Nat.le_refl _, fun z => by omega⟩
  | left + 1, fu + 1, fr + 1, C, R, q, hf, hfr, h, hpm, hl9, hq12, hq, hq2 => by
    have hw := h.w17
    rw [if_neg (show ¬ nI (left + 1) = 0 from fun z => by have := (za_eq0 (by omega)).mp z; omega), za_chk _ hp (by omega), nI_clamp (n := p) (by omega), show C (w + 27 + 3) p = nI q from hq, fX12_surveys_L23, if_neg (nI_nle (by omega) (by omega))]
    have hqR : R 128 (1720 + 15 * p + 2) = nI q := (ra_wait h.1.1 hp).trans hq
    by_cases h0 : q = 0
    · subst h0
      rw [if_neg (by decide +kernel), nI_add, za_chk _ (by omega) (by omega), nI_clamp (by omega), hqR, if_pos (by decide +kernel)]
      exact ⟨C, R, rfl, rfl, h, FC.rf, FD.rf, fun _ => rfl, rfl, fun _ _ => Nat.le_refl _, fun _ => Or.inr (by unfold meP; rw [if_pos (hq.trans nI_0)])⟩
    · obtain ⟨q', rfl⟩ : ∃ q', q = q' + 1 := ⟨q - 1, by omega⟩
      obtain ⟨c, c1, c2, c3⟩ := hq2 (by omega)
      obtain ⟨C1, R1, i1, i2, i3, i4, i5, i6, i7, i8, i9⟩ := mile_sm hp hpm h hq (by omega) c1 c2 c3
      have e := i2 (fun M => fX12_surveys_J127 (fun M X0 X1 => fX12_surveys_L23 fr M X0 X1) M (nI (1720 + 15 * p)) (nI (left + 1)))
      unfold mileR at e
      rw [if_pos ((za_0lt (by omega)).mpr (by omega)), i1, za_bnd, pk_m1]
      have eR : (chk (nI (1720 + 15 * p) + (nI 2)) (2132) ((if (R (128) (nI (1720 + 15 * p) + (nI 2)).toNatClampNeg) ≤ 0 then (some (R)) else fX12_surveys_J127 (fun M X0 X1 => fX12_surveys_L23 fr M X0 X1) R1 (nI (1720 + 15 * p)) (nI (left + 1))))) = fX12_surveys_J127 (fun M X0 X1 => fX12_surveys_L23 fr M X0 X1) R1 (nI (1720 + 15 * p)) (nI (left + 1)) := by
        rw [nI_add, za_chk _ (by omega) (by omega), nI_clamp (by omega), hqR, if_neg (nI_nle (by omega) (by omega))]
      rw [e, eR]
      obtain ⟨C2, R2, q2, j1, j2, j3, j4, j5, j6, j7, j8, j9, j10, j11⟩ := drop_sm hp i3
      unfold fX12_surveys_J127
      rw [j2, za_bnd, pk_m1, fX5_goOut_L27, if_neg (nI_pos (by omega)), j1, za_bnd]
      have e27 : C2 (w + 27) 0 = C (w + 27) 0 := (congrFun (j7 27 (by omega) (by omega)) 0).trans i7
      obtain ⟨C3, R3, k1, k2, k3, k4, k5, k6, k7, k8, k9⟩ := pace_M hp left fu fr C2 R2 q2 (by omega) (by omega) j3 (fun m hm he => hpm m hm (e27.symm.trans he)) (by omega) j8 j9 j10
      exact ⟨C3, R3, k1, k2, k3, i4.tr (j4.tr k4), i5.tr (j5.tr k5), fun j => (k6 j).trans ((j6 j).trans (i6 j)), k7.trans e27, fun p' hp' => Nat.le_trans (k8 p' hp') (Nat.le_trans (j11 p' hp') (i8 p' hp')), fun _ => Or.inl (by have := k8 p hp; have := j11 p hp; omega)⟩
theorem out_M {mp : Nat} (hmp : mp ≤ 4) : ∀ k fu fr p C R, p + k = mp → k < fu → k < fr → RV w n t n a y m C R → C (w + 27) 0 = nI mp → ∃ C' R', fX5_goOut_L7 (w + 27) (w + 1) fu C (nI p) = some C' ∧ fX12_surveysAll_L2 fr R (nI p) = some R' ∧ RV w n t n a y m C' R' ∧ FC w C C' ∧ FD R R' ∧ (∀ j, C' w j = C w j) ∧ C' (w + 27) 0 = C (w + 27) 0 ∧ (∀ p', p' < 4 → meP w C' p' ≤ meP w C p') ∧ ∀ p', p ≤ p' → p' < mp → meP w C' p' + 1 ≤ meP w C p' ∨ meP w C' p' = 0
  | k, 0, _, _, _, _, _, hf, _, _, _ => by omega
  | k, _, 0, _, _, _, _, _, hf, _, _ => by omega
  | 0, fu + 1, fr + 1, p, C, R, hi, _, _, h, hm => by
    obtain rfl : p = mp := by omega
    rw [fX5_goOut_L7, fX12_surveysAll_L2, hm, if_pos (nI_le (Nat.le_refl _) (by omega)), za_chk (n := 2127) _ (by omega) (by omega), nI_clamp (n := 2127) (by omega), ra_pn h.1.1, hm, if_pos (nI_le (Nat.le_refl _) (by omega))]
    exact ⟨C, R, rfl, rfl, h, FC.rf, FD.rf, fun _ => rfl, hm, fun _ _ => Nat.le_refl _, fun p' h1 h2 => by omega⟩
  | k + 1, fu + 1, fr + 1, p, C, R, hi, hf, hfr, h, hm => by
    have hp4 : p < 4 := by omega
    obtain ⟨m', m1, m2, m3⟩ := h.1.2.2.2.2.2.2.2.2.1
    obtain rfl : m' = mp := za_inj (by omega) (by omega) (m2.symm.trans hm)
    obtain ⟨pc, pc1, pc2, pc3⟩ := (m3 p hp4).1 (by omega)
    rw [fX5_goOut_L7, fX12_surveysAll_L2, hm, if_neg (nI_ge (by omega) (by omega)), if_neg (nI_ge (by omega) (by omega)), za_chk (n := 2127) _ (by omega) (by omega), nI_clamp (n := 2127) (by omega), ra_pn h.1.1, hm, if_neg (nI_ge (by omega) (by omega)), za_chk _ hp4 (by omega), za_lt, nI_clamp (n := p) (by omega), show C (w + 27 + 1) p = nI pc from pc3, nI_add]
    obtain ⟨C2, R2, q2, j1, j2, j3, j4, j5, j6, j7, j8, j9, j10, j11⟩ := drop_sm hp4 h
    have e27 : C2 (w + 27) 0 = C (w + 27) 0 := congrFun (j7 27 (by omega) (by omega)) 0
    have hpm : ∀ q, q ≤ 4 → C2 (w + 27) 0 = nI q → p < q := fun q hq he => by
      have := za_inj (by omega) (by omega) ((hm.symm.trans e27.symm).trans he)
      omega
    obtain ⟨C3, R3, k1, k2, k3, k4, k5, k6, k7, k8, k9⟩ := pace_M hp4 (K7 := fun M X0 => fX5_goOut_L7 (w + 27) (w + 1) fu M X0) pc 99999 FU C2 R2 q2 (by omega) (by rw [za_FU]; omega) j3 hpm pc2 j8 j9 j10
    have hsv : fX12_surveys R (nI p) = some R3 := by
      unfold fX12_surveys
      rw [za_mul, nI_add, za_lt, j2, za_bnd, show nI (1720 + 15 * p) + 0 = nI (1720 + 15 * p) from Int32.add_zero _, za_chk _ (by omega) (by omega), za_lt, nI_clamp (by omega), ra_pace j3.1.1 hp4, j7 28 (by omega) (by omega), pc3]
      exact k2
    have hcl : fX5_goOut_L27 (w + 27) (w + 1) (fun M X0 => fX5_goOut_L7 (w + 27) (w + 1) fu M X0) FU C (nI p) (nI pc) = fX5_goOut_J65 (w + 27) (w + 1) (fun M X0 => fX5_goOut_L7 (w + 27) (w + 1) fu M X0) C3 (nI p) := by
      rw [show FU = 99999 + 1 from rfl, fX5_goOut_L27, if_neg (nI_pos (by omega)), j1, za_bnd]
      exact k1
    rw [hsv, za_bnd, hcl]
    unfold fX5_goOut_J65
    rw [nI_add]
    obtain ⟨C4, R4, l1, l2, l3, l4, l5, l6, l7, l8, l9⟩ := out_M hmp k fu fr (p + 1) C3 R3 (by omega) (by omega) (by omega) k3 (k7.trans (e27.trans hm))
    refine ⟨C4, R4, l1, l2, l3, j4.tr (k4.tr l4), j5.tr (k5.tr l5), fun j => (l6 j).trans ((k6 j).trans (j6 j)), l7.trans (k7.trans (e27.trans hm)), fun p' hp' => Nat.le_trans (l8 p' hp') (Nat.le_trans (k8 p' hp') (j11 p' hp')), fun p' h1 h2 => ?_⟩
    by_cases e : p' = p
    · subst e
      have g1 := k9 (by omega); have g2 := l8 p' hp4; have g3 := j11 p' hp4
      omega
    · have g1 := l9 p' (by omega) h2; have g2 := k8 p' (by omega); have g3 := j11 p' (by omega)
      omega
theorem out_sm (h : RV w n t n a y m C R) : ∃ C' R', fX5_goOut C (w + 27) (w + 1) = some C' ∧ fX12_surveysAll R = some R' ∧ RV w n t n a y m C' R' ∧ FC w C C' ∧ FD R R' ∧ (∀ j, C' w j = C w j) ∧ C' (w + 27) 0 = C (w + 27) 0 ∧ ∀ p', p' < 4 → meP w C' p' + 1 ≤ meP w C p' ∨ meP w C' p' = 0 := by
  obtain ⟨m', m1, m2, m3⟩ := h.1.2.2.2.2.2.2.2.2.1
  unfold fX5_goOut fX12_surveysAll
  rw [za_0]
  obtain ⟨C', R', l1, l2, l3, l4, l5, l6, l7, l8, l9⟩ := out_M m1 m' FU FU 0 C R (by omega) (by rw [za_FU]; omega) (by rw [za_FU]; omega) h m2
  refine ⟨C', R', l1, l2, l3, l4, l5, l6, l7, fun p' hp' => ?_⟩
  by_cases e : p' < m'
  · exact l9 p' (by omega) e
  · right
    obtain ⟨m2', n1, n2, n3⟩ := l3.1.2.2.2.2.2.2.2.2.1
    obtain rfl : m2' = m' := za_inj (by omega) (by omega) (n2.symm.trans (l7.trans m2))
    unfold meP; rw [if_pos ((n3 p' hp').2.1 (by omega)).2]
end MP
