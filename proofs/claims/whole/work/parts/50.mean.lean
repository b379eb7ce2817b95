/-! ===== what a name means: class and reference alike ===== -/
theorem dl_cg {C C' : Mc} {z : Nat} (h : C' z = C z) : dlen C' z = dlen C z := by unfold dlen; rw [h]
theorem ev_seg {z k0 k1 : Nat} {C R : Mc} {k e len f r : Nat} {wk sd pe so : Int32} (hk : k < 8) (he : C (z + 3) k = nI e) (he3 : e ≤ 300) (hl : dlen C (z + 1) = len) (hel : e ≤ len) (hlen : len ≤ 300)
    (hf0 : C k0 0 = wk) (hf1 : C k0 1 = wk / nI 52) (hf2 : C k0 2 = sd) (hf3 : C k0 3 = pe) (hf4 : C k0 4 = so) (hd0 : k1 ≠ k0) (hd1 : k1 ≠ z + 1) (hd3 : k1 ≠ z + 3) :
    ∀ n T, f + n ≤ e → r + n ≤ 4800 → sg (C (z + 1)) (R 135) (R 136) f r n [] T → ∃ C' R', (∀ fu, fX8_value_L50 z k0 k1 (fu + n) C (nI k) (nI 0) (nI f) = fX8_value_L50 z k0 k1 fu C' (nI k) (nI T.length) (nI (f + n))) ∧ (∀ fu, fX12_value_L22 (fu + n) R wk sd pe so (nI 0) (nI r) = fX12_value_L22 fu R' wk sd pe so (nI T.length) (nI (r + n))) ∧ (∀ a, a ≠ k1 → C' a = C a) ∧ (∀ a, a ≠ 140 → R' a = R a) ∧ (∀ j, j < T.length → C' k1 j = R' 140 j) ∧ okT (R' 140) T ∧ T.length ≤ n
  | 0, T, _, _, hs => by
    obtain rfl : T = [] := hs
    exact ⟨C, R, fun _ => rfl, fun _ => rfl, fun _ _ => rfl, fun _ _ => rfl, fun j hj => absurd hj (by simp), trivial, by simp⟩
  | n + 1, T, hn, hr, hs => by
    obtain ⟨T1, hs1, hc⟩ := hs
    obtain ⟨C1, R1, h1, h2, h3, h4, h5, h6, h7⟩ := ev_seg hk he he3 hl hel hlen hf0 hf1 hf2 hf3 hf4 hd0 hd1 hd3 n T1 (by omega) (by omega) hs1
    obtain ⟨v, p, g1, g2, g3, g4, g5⟩ := ev_step (C := C1) (R := R1) (i := f + n) (ri := r + n) (f := f) (T := T1) (T' := T) (wk := wk) (sd := sd) (pe := pe) (so := so) (z := z) (k0 := k0) (k1 := k1) (len := len) (e := e) hk (by rw [h3 _ hd3.symm]; exact he) (by omega) he3 (by rw [dl_cg (h3 _ hd1.symm)]; exact hl) (by omega) hlen (by omega)
      (by rw [h3 _ hd0.symm]; exact hf0) (by rw [h3 _ hd0.symm]; exact hf1) (by rw [h3 _ hd0.symm]; exact hf2) (by rw [h3 _ hd0.symm]; exact hf3) (by rw [h3 _ hd0.symm]; exact hf4) (by omega) (by rw [h3 _ hd1.symm, h4 _ (by omega), h4 _ (by omega)]; exact hc) h5 h6
    refine ⟨wr C1 k1 p v, wr R1 140 p v, fun fu => ?_, fun fu => ?_, fun a ha => by rw [za_wrc ha]; exact h3 a ha, fun a ha => by rw [za_wrc ha]; exact h4 a ha, g3, g4, by omega⟩
    · rw [show fu + (n + 1) = (fu + 1) + n by omega, h1, g1]; rfl
    · rw [show fu + (n + 1) = (fu + 1) + n by omega, h2, g2]; rfl
/-- the code that tells name k in law l, whose statute is cell z: the same on both sides -/
def cdR (C R : Mc) (z l k : Nat) : Prop := ∃ f n r len, C (z + 2) k = nI f ∧ C (z + 3) k = nI (f + n) ∧ dlen C (z + 1) = len ∧ f + n ≤ len ∧ len ≤ 300 ∧ R 137 (8 * l + k) = nI r ∧ r + n < 400 ∧ 400 * l + r + n < 4800 ∧ sg (C (z + 1)) (R 135) (R 136) f (400 * l + r) n [] [false] ∧ R 135 (400 * l + r + n) = nI 16
theorem val_eq {z k0 k1 : Nat} {C R : Mc} {k l : Nat} {wk sd pe so : Int32} (hk : k < 8) (hl : l < 12) (h : cdR C R z l k) (hf0 : C k0 0 = wk) (hf1 : C k0 1 = wk / nI 52) (hf2 : C k0 2 = sd) (hf3 : C k0 3 = pe) (hf4 : C k0 4 = so) (hd0 : k1 ≠ k0) (hd1 : k1 ≠ z + 1) (hd3 : k1 ≠ z + 3) :
    ∃ v C' R', fX8_value C z k0 k1 (nI k) = some (v, C') ∧ fX12_value R (nI l) (nI k) wk sd pe so = some (v, R') ∧ (∀ a, a ≠ k1 → C' a = C a) ∧ (∀ a, a ≠ 140 → R' a = R a) := by
  obtain ⟨f, n, r, len, h1, h2, h3, h4, h5, h6, h6b, h7, h8, h9⟩ := h
  obtain ⟨C1, R1, g1, g2, g3, g4, g5, g6, g7⟩ := ev_seg (k0 := k0) (k1 := k1) (wk := wk) (sd := sd) (pe := pe) (so := so) hk h2 (by omega) h3 h4 h5 hf0 hf1 hf2 hf3 hf4 hd0 hd1 hd3 n [false] (Nat.le_refl _) (by omega) h8
  refine ⟨R1 140 0, C1, R1, ?_, ?_, g3, g4⟩
  · unfold fX8_value
    rw [if_neg (by decide +kernel), if_neg (nI_pos (by omega)), if_neg (nI_ge hk (by omega)), if_pos (nI_lt hk (by omega)), za_chk _ hk (by omega), za_lt, nI_clamp (by omega), h1, show FU = (99999 - n + 1) + n by rw [za_FU]; omega, za_0, g1]
    rw [fX8_value_L50, za_chk _ hk (by omega), nI_clamp (by omega), g3 _ hd3.symm, h2, if_pos (nI_le (Nat.le_refl _) (by omega)), if_pos (show nI [false].length = nI 1 from rfl), za_0, za_chk _ (by omega) (by omega), nI_clamp (by omega), g5 0 (by simp)]
  · unfold fX12_value
    rw [za_mul, nI_add, za_chk _ (by omega) (by omega), za_lt, nI_clamp (by omega), h6, za_mul, nI_add, show FU = (99999 - n + 1) + n by rw [za_FU]; omega, za_0, g2]
    rw [fX12_value_L22, za_chk _ h7 (by omega), nI_clamp (by omega), g4 _ (by omega), h9, if_pos rfl, za_0, za_chk _ (by omega) (by omega), nI_clamp (by omega)]
/-- the texts of the laws below m, on both sides -/
def BK (m : Nat) (C R : Mc) : Prop := ∀ l, l < 12 → (l < m → ∃ z, 146 ≤ z ∧ z < 2 ^ 31 ∧ C 16 l = nI z ∧ isZ (C z 3) ∧ C z 3 = R 138 l ∧ ∀ k, k < 8 → (C (z + 2) k = -1 ∧ R 137 (8 * l + k) = -1) ∨ cdR C R z l k) ∧ (m ≤ l → C 16 l = 0)
theorem tel_L {C R : Mc} {co m k : Nat} {X : Int32} (hB : BK m C R) (hk : k < 8) (hX : ∀ l, l < 12 → bit X l → l < m) : ∀ j fu, j ≤ 12 → j < fu → ∃ tl, fX2_teller_L3 co fu C X (nI k) (nI j + (-1)) = some tl ∧ fX12_teller_L3 fu R X (nI k) (nI j + (-1)) = some tl ∧ (tl = -1 ∨ ∃ l z, l < m ∧ l < 12 ∧ tl = nI l ∧ 146 ≤ z ∧ z < 2 ^ 31 ∧ C 16 l = nI z ∧ cdR C R z l k)
  | _, 0, _, h => by omega
  | 0, fu + 1, _, _ => by
    refine ⟨-1, ?_, ?_, Or.inl rfl⟩
    · rw [fX2_teller_L3, show nI 0 + (-1) = -1 by decide +kernel, if_pos za_m1lt0]
    · rw [fX12_teller_L3, show nI 0 + (-1) = -1 by decide +kernel, if_pos za_m1lt0]
  | j + 1, fu + 1, hj, hf => by
    obtain ⟨tl, i1, i2, i3⟩ := tel_L (co := co) hB hk hX j fu (by omega) (by omega)
    obtain ⟨b1, b2⟩ := hB j (by omega)
    rw [fX2_teller_L3, fX12_teller_L3, pk_m1, if_neg (nI_pos (by omega)), if_neg (nI_pos (by omega)), if_neg (nI_ge (by omega) (by omega)), za_chk _ (by omega) (by omega), za_lt, nI_clamp (by omega)]
    unfold fX2_teller_J53 fX12_teller_J32
    by_cases hb : bit X j
    · obtain ⟨z, z1, z2, z3, z4, z5, z6⟩ := b1 (hX j (by omega) hb)
      unfold bit at hb
      rw [z3, nI_clamp z2, if_neg (by omega), if_pos hb, if_pos hb, za_mul, nI_add, za_chk _ (by omega) (by omega), nI_clamp (by omega)]
      unfold fX8_tells
      rw [if_neg (nI_pos (by omega)), if_neg (nI_ge hk (by omega)), if_neg (nI_ge hk (by omega)), za_chk _ hk (by omega), nI_clamp (by omega)]
      rcases z6 k hk with ⟨q1, q2⟩ | q
      · rw [q1, q2, if_pos rfl, za_bnd, if_pos rfl, if_pos za_m1lt0]
        exact ⟨tl, i1, i2, i3⟩
      · obtain ⟨f, n, r, len, q1, q2, q3, q4, q5, q6, q6b, q7⟩ := q
        rw [q1, q6, if_neg (za_nm1 (by omega)), za_bnd, if_neg za_n10, if_neg (nI_pos (by omega))]
        exact ⟨nI j, rfl, rfl, Or.inr ⟨j, z, hX j (by omega) hb, by omega, rfl, z1, z2, z3, f, n, r, len, q1, q2, q3, q4, q5, q6, q6b, q7⟩⟩
    · have hb' := hb
      unfold bit at hb'
      rw [if_neg hb', if_neg hb', if_neg hb']
      refine ⟨tl, ?_, i2, i3⟩
      split <;> exact i1
theorem tel_eq {C R : Mc} {co m k : Nat} {X : Int32} (hB : BK m C R) (hk : k < 8) (hX : ∀ l, l < 12 → bit X l → l < m) : ∃ tl, fX2_teller C co X (nI k) = some tl ∧ fX12_teller R X (nI k) = some tl ∧ (tl = -1 ∨ ∃ l z, l < m ∧ l < 12 ∧ tl = nI l ∧ 146 ≤ z ∧ z < 2 ^ 31 ∧ C 16 l = nI z ∧ cdR C R z l k) := by
  have := tel_L (co := co) hB hk hX 12 FU (by omega) (by rw [za_FU]; omega)
  rw [show nI 12 + (-1) = nI 11 from pk_m1 11] at this
  exact this
/-- what a value is bounded to -/
def bdI (k : Nat) (v : Int32) : Int32 := if v < (if k = 0 then nI 1 else 0) then (if k = 0 then nI 1 else 0) else if (if k = 1 then nI 100 else nI 1000) < v then (if k = 1 then nI 100 else nI 1000) else v
theorem bd_23 {v lo hi : Int32} : fX12_bounded_J23 v lo hi = some (if v < lo then lo else if hi < v then hi else v) := by
  unfold fX12_bounded_J23
  by_cases h1 : v < lo
  · rw [if_pos h1, if_neg (by grind)]
  · rw [if_neg h1, if_pos (by grind)]
    by_cases h2 : hi < v
    · rw [if_pos h2, if_neg (by grind)]
    · rw [if_neg h2, if_pos (by grind)]
theorem bd_r {k : Nat} (hk : k < 8) (v : Int32) : fX12_bounded (nI k) v = some (bdI k v) := by
  unfold fX12_bounded fX12_bounded_J9 bdI
  simp only [bd_23]
  by_cases h0 : k = 0
  · subst h0; rfl
  · have e0 : ¬ nI k = 0 := fun q => h0 ((za_eq0 (by omega)).mp q)
    by_cases h1 : k = 1
    · subst h1; rfl
    · have e1 : ¬ nI k = nI 1 := fun q => h1 (za_inj (by omega) (by omega) q)
      simp only [if_neg e0, if_neg e1, if_neg h0, if_neg h1]
theorem bd_c {lo hi v : Int32} (h : lo ≤ hi) : xmax lo (xmin hi v) = if v < lo then lo else if hi < v then hi else v := by
  unfold xmax xmin; grind
theorem bd_3 {lo hi : Nat} (v : Int32) (hl : lo ≤ hi) (hh : hi ≤ 1000) : ∃ u, (if v < nI lo then nI lo else if nI hi < v then nI hi else v) = nI u ∧ lo ≤ u ∧ u ≤ hi := by
  by_cases h1 : v < nI lo
  · rw [if_pos h1]; exact ⟨lo, rfl, by omega, hl⟩
  · rw [if_neg h1]
    by_cases h2 : nI hi < v
    · rw [if_pos h2]; exact ⟨hi, rfl, hl, by omega⟩
    · rw [if_neg h2]
      have h0 : 0 ≤ nI lo := nI_pos' (by omega)
      obtain ⟨j, hj, rfl⟩ := za_ofle (x := v) (N := hi) (by omega) (by grind) (by grind)
      rw [nI_ltI (by omega) (by omega)] at h1
      exact ⟨j, rfl, by omega, hj⟩
theorem bd_rng {k : Nat} (v : Int32) : ∃ u, bdI k v = nI u ∧ u ≤ 1000 ∧ (k = 0 → 1 ≤ u) ∧ (k = 1 → u ≤ 100) := by
  unfold bdI
  by_cases h0 : k = 0
  · subst h0
    obtain ⟨u, h1, h2, h3⟩ := bd_3 (lo := 1) (hi := 1000) v (by omega) (by omega)
    exact ⟨u, h1, h3, fun _ => h2, fun h => by omega⟩
  · by_cases h1 : k = 1
    · subst h1
      obtain ⟨u, h1, h2, h3⟩ := bd_3 (lo := 0) (hi := 100) v (by omega) (by omega)
      exact ⟨u, h1, by omega, fun h => by omega, fun _ => h3⟩
    · simp only [if_neg h0, if_neg h1]
      obtain ⟨u, i1, i2, i3⟩ := bd_3 (lo := 0) (hi := 1000) v (by omega) (by omega)
      exact ⟨u, i1, i3, fun h => absurd h h0, fun h => absurd h h1⟩
