/-! ===== the loop's invariant: one memory, the class's world and the reference's in it ===== -/
section GL
variable {n t m np : Nat} {C R C' R' M : Mc} {N L N' L' N1 : Md}
theorem iv_cg (h : IV n t m C R N L) (hc : ∀ b, b < 127 ∨ 145 ≤ b → C' b = C b) (hr : ∀ b, 127 ≤ b → b < 145 → R' b = R b) (hN : N' 121 = N 121) (hL : L' 127 = L 127) : IV n t m C' R' N' L' := by
  refine iv_ot h (fun b q => hc b (by omega)) (fun b q => hr b (by omega) (by omega)) (fun j _ => by rw [hr 127 (by omega) (by omega)]) (AL_c h.2.1 (fun b q1 q2 => hc b (by omega)) (hr 132 (by omega) (by omega)) (hr 133 (by omega) (by omega))) (fun j _ _ => by rw [hc 0 (by omega)]) (IP_c h.2.2.2.2.2.2.1 (by rw [hc 0 (by omega)]) (hc 123 (by omega)) (by rw [hr 127 (by omega) (by omega)]) (hr 134 (by omega) (by omega))) (by rw [hc 0 (by omega), hr 127 (by omega) (by omega)]; exact h.2.2.2.2.2.2.2.1) (IC_c h.2.2.2.2.2.2.2.2.2.1 (by rw [hc 0 (by omega)]) (by rw [hc 0 (by omega)]) (hc 124 (by omega)) (hc 125 (by omega)) (by rw [hr 127 (by omega) (by omega)]) (by rw [hr 127 (by omega) (by omega)]) (hr 142 (by omega) (by omega)) (hr 143 (by omega) (by omega))) ?_
  obtain ⟨k, h1, h2, h3, h4, h5, h6⟩ := h.2.2.2.2.2.2.2.2.2.2.1
  exact ⟨k, h1, by rw [hc 121 (by omega)]; exact h2, by rw [hr 127 (by omega) (by omega)]; exact h3, fun i hi => by rw [hr 144 (by omega) (by omega), hc 122 (by omega)]; exact h4 i hi, by rw [hN, hL]; exact h5, by rw [hN, hL]; exact h6⟩
/-- the reference's memory behind the class's: both in one -/
theorem iv_one (h : IV n t m C R N L) (hg : GR2 C R) (hN : N' 121 = N 121) (hL : N' 127 = L 127) : IV n t m R R N' N' := iv_cg h (fun b q => hg b q) (fun _ _ _ => rfl) hN hL
theorem bk_m {m' : Nat} (h : BK m C R) (h' : BK m' C' R') (e : C' 16 = C 16) (hm : m ≤ 12) (hm' : m' ≤ 12) : m' = m := by
  rcases Nat.lt_trichotomy m' m with q | q | q
  · obtain ⟨z, z1, z2, z3, -⟩ := (h m' (by omega)).1 q
    have h0 := (h' m' (by omega)).2 (Nat.le_refl _)
    rw [e, z3, ← nI_0] at h0
    have := za_inj z2 (by omega) h0
    omega
  · exact q
  · obtain ⟨z, z1, z2, z3, -⟩ := (h' m (by omega)).1 q
    have h0 := (h m (by omega)).2 (Nat.le_refl _)
    rw [← e, z3, ← nI_0] at h0
    have := za_inj z2 (by omega) h0
    omega
def GI (np : Nat) (M : Mc) (N : Md) : Prop := ∃ n t m, IV n t m M M N N ∧ (∃ k, k ≤ 100 * t ∧ M (17 + 15) 2 = nI k) ∧ (∀ l, l < m → M 16 l = nI (146 + 4 * l)) ∧ np = 146 + 4 * m ∧ (m = 12 → M 0 9 = -1)
theorem gi_al (h : GI np M N) : (np - 146) % 4 = 0 := by
  obtain ⟨n, t, m, -, -, -, e, -⟩ := h
  omega
theorem gi_N (h : GI np M N) (h1 : N1 121 = N 121) (h2 : N1 127 = N 127) : GI np M N1 := by
  obtain ⟨n, t, m, h, r⟩ := h
  exact ⟨n, t, m, iv_cg h (fun _ _ => rfl) (fun _ _ _ => rfl) h1 h2, r⟩
/-- behind a call that keeps the week, the hungry, the book and the place -/
theorem gi_next {n' t' m' : Nat} (h : GI np M N) (h' : IV n' t' m' C' R' N L) (hL : L 127 = N 127) (hk : KA (M 17 6) (M 32 2) (M 0 9) (M 16) C') (hg : GR2 C' R') : GI np R' N := by
  obtain ⟨n, t, m, hI, ⟨k, hk1, hk2⟩, hz, hnp, h12⟩ := h
  have e1 : t' = t := za_inj (by have := iv_t h'; omega) (by have := iv_t hI; omega) ((iv_tc h').symm.trans (hk.1.trans (iv_tc hI)))
  have e2 : m' = m := bk_m hI.1.2.2.2.1 h'.1.2.2.2.1 hk.2.2.2 hI.1.2.2.1 h'.1.2.2.1
  subst e1
  subst e2
  exact ⟨n', t', m', iv_one h' hg rfl hL.symm, ⟨k, hk1, by rw [hg 32 (by omega)]; exact hk.2.1.trans hk2⟩, fun l hl => by rw [hg 16 (by omega), hk.2.2.2]; exact hz l hl, hnp, fun q => by rw [hg 0 (by omega), hk.2.2.1]; exact h12 q⟩
theorem ka_rf : KA (M 17 6) (M 32 2) (M 0 9) (M 16) M := ⟨rfl, rfl, rfl, rfl⟩
/-- what a step of the law wants of a call that may throw -/
def ST (e : Nat → Int32) (np : Nat) (M : Mc) (N : Md) (x : Option (Nat ⊕ (Int32 × Mc))) (y : Mc → Option (Int32 × Mc)) : Prop :=
  ∃ x', x = some x' ∧ ((∃ k b R', x' = .inl k ∧ e k ≠ 0 ∧ y M = some (b, R') ∧ R' 127 0 = e k ∧ GI np R' N) ∨ ∃ b C' R', x' = .inr (b, C') ∧ y C' = some (b, R') ∧ R' 127 0 = 0 ∧ GI np R' N)
theorem st_M {e : Nat → Int32} {x : Option (Nat ⊕ (Int32 × Mc))} {y : Mc → Option (Int32 × Mc)} (h : GI np M N) (c : ∀ n t m R, IV n t m M R N N → (∃ k, k ≤ 100 * t ∧ M (17 + 15) 2 = nI k) → OM e M R N N x (y R)) (hA : KG gT (KA (M 17 6) (M 32 2) (M 0 9) (M 16)) x) : ST e np M N x y := by
  have h0 := h
  obtain ⟨n, t, m, hI, hu, hz, hnp, h12⟩ := h0
  obtain ⟨b, C', R', n', t', m', y1, i1, g1, g2, hx⟩ := c n t m M hI hu
  rcases hx with ⟨k, x1, rfl, x3, x4⟩ | ⟨x1, x2⟩
  · exact ⟨_, x1, Or.inl ⟨k, b, R', rfl, x4, y1, x3, gi_next h i1 rfl ka_rf g2⟩⟩
  · have hk := hA _ C' x1 rfl
    obtain ⟨b2, C2, R2, n2, t2, m2, z1, i2, j1, j2, hw⟩ := c n t m C' (iv_cg hI (fun _ _ => rfl) (fun b q1 q2 => g1 b q1 q2) rfl rfl) hu
    rcases hw with ⟨k, w1, -⟩ | ⟨w1, w2⟩
    · rw [x1] at w1
      cases w1
    · rw [x1] at w1
      cases w1
      exact ⟨_, x1, Or.inr ⟨b, C', R2, rfl, z1, w2, gi_next h i2 rfl hk j2⟩⟩
def SR (e : Nat → Int32) (np : Nat) (M : Mc) (N : Md) (x : Option (Nat ⊕ Int32)) (y : Mc → Option (Int32 × Mc)) : Prop :=
  ∃ x', x = some x' ∧ ((∃ k b R', x' = .inl k ∧ e k ≠ 0 ∧ y M = some (b, R') ∧ R' 127 0 = e k ∧ GI np R' N) ∨ ∃ b R', x' = .inr b ∧ y M = some (b, R') ∧ R' 127 0 = 0 ∧ GI np R' N)
theorem st_R {e : Nat → Int32} {x : Option (Nat ⊕ Int32)} {y : Mc → Option (Int32 × Mc)} (h : GI np M N) (c : ∀ n t m, IV n t m M M N N → OR e n t m M M N N x (y M)) : SR e np M N x y := by
  have h0 := h
  obtain ⟨n, t, m, hI, hu, hz, hnp, h12⟩ := h0
  obtain ⟨b, R', y1, i1, g2, hx⟩ := c n t m hI
  have hg := gi_next h i1 rfl ka_rf g2
  rcases hx with ⟨k, x1, x3, x4⟩ | ⟨x1, x2⟩
  · exact ⟨_, x1, Or.inl ⟨k, b, R', rfl, x4, y1, x3, hg⟩⟩
  · exact ⟨_, x1, Or.inr ⟨b, R', rfl, y1, x2, hg⟩⟩
def SS (e : Nat → Int32) (np : Nat) (M : Mc) (N : Md) (x : Option (Nat ⊕ Mc)) (y : Mc → Option Mc) : Prop :=
  ∃ x', x = some x' ∧ ((∃ k R', x' = .inl k ∧ e k ≠ 0 ∧ y M = some R' ∧ R' 127 0 = e k ∧ GI np R' N) ∨ ∃ C' R', x' = .inr C' ∧ y C' = some R' ∧ R' 127 0 = 0 ∧ GI np R' N)
theorem op_inl {x : Option (Nat ⊕ Mc)} {k : Nat} (h : oP x = some (.inl k)) : x = some (.inl k) := by
  match x, h with
  | some (.inl k'), h => cases h; rfl
  | some (.inr a), h => cases h
theorem op_inr {x : Option (Nat ⊕ Mc)} {b : Int32} {C : Mc} (h : oP x = some (.inr (b, C))) : x = some (.inr C) := by
  match x, h with
  | some (.inl k'), h => cases h
  | some (.inr a), h => cases h; rfl
theorem oq_some {y : Option Mc} {b : Int32} {C : Mc} (h : oQ y = some (b, C)) : y = some C := by
  match y, h with
  | some a, h => cases h; rfl
theorem st_S {e : Nat → Int32} {x : Option (Nat ⊕ Mc)} {y : Mc → Option Mc} (h : GI np M N) (c : ∀ n t m R, IV n t m M R N N → OM e M R N N (oP x) (oQ (y R))) (hA : KG gS (KA (M 17 6) (M 32 2) (M 0 9) (M 16)) x) : SS e np M N x y := by
  have hA2 : KG gT (KA (M 17 6) (M 32 2) (M 0 9) (M 16)) (oP x) := fun r M' e1 e2 => by
    match r, e1, e2 with
    | .inr (b, M2), e1, e2 =>
      cases e2
      exact hA _ _ (op_inr e1) rfl
  obtain ⟨x', x1, q⟩ := st_M (x := oP x) (y := fun R => oQ (y R)) h (fun n t m R h _ => c n t m R h) hA2
  rcases q with ⟨k, b, R', rfl, q2, q3, q4, q5⟩ | ⟨b, C', R', rfl, q2, q3, q4⟩
  · exact ⟨_, op_inl x1, Or.inl ⟨k, R', rfl, q2, oq_some q3, q4, q5⟩⟩
  · exact ⟨_, op_inr x1, Or.inr ⟨C', R', rfl, oq_some q2, q3, q4⟩⟩
theorem ov_inl {α : Type} {x : Option α} {k : Nat} (h : oV x = some (.inl k)) : False := by
  match x, h with
  | some a, h => cases h
theorem ov_inr {α : Type} {x : Option α} {a : α} (h : oV x = some (.inr a)) : x = some a := by
  match x, h with
  | some b, h => cases h; rfl
/-- a call that throws nothing -/
theorem st_V {x : Option (Int32 × Mc)} {y : Mc → Option (Int32 × Mc)} (h : GI np M N) (c : ∀ n t m R, IV n t m M R N N → OM eB M R N N (oV x) (y R)) (hA : KG gP (KA (M 17 6) (M 32 2) (M 0 9) (M 16)) x) : ∃ b C' R', x = some (b, C') ∧ y C' = some (b, R') ∧ R' 127 0 = 0 ∧ GI np R' N := by
  have hA2 : KG gT (KA (M 17 6) (M 32 2) (M 0 9) (M 16)) (oV x) := fun r M' e1 e2 => by
    match r, e1, e2 with
    | .inr (b, M2), e1, e2 =>
      cases e2
      exact hA _ _ (ov_inr e1) rfl
  obtain ⟨x', x1, q⟩ := st_M (x := oV x) (y := y) h (fun n t m R h _ => c n t m R h) hA2
  rcases q with ⟨k, b, R', rfl, q2, q3, q4, q5⟩ | ⟨b, C', R', rfl, q2, q3, q4⟩
  · exact (ov_inl x1).elim
  · exact ⟨b, C', R', ov_inr x1, q2, q3, q4⟩
theorem st_W {x : Option Int32} {y : Mc → Option (Int32 × Mc)} (h : GI np M N) (c : ∀ n t m, IV n t m M M N N → OR eB n t m M M N N (oV x) (y M)) : ∃ b R', x = some b ∧ y M = some (b, R') ∧ R' 127 0 = 0 ∧ GI np R' N := by
  obtain ⟨x', x1, q⟩ := st_R (x := oV x) (y := y) h c
  rcases q with ⟨k, b, R', rfl, -⟩ | ⟨b, R', rfl, q2, q3, q4⟩
  · exact (ov_inl x1).elim
  · exact ⟨b, R', ov_inr x1, q2, q3, q4⟩
theorem week_H {cnt : Nat} (hcnt : cnt ≤ 104) : ∀ k fu i t C R h, i + k = cnt → t + k ≤ 1000 → IV n t m C R N L → C (17 + 15) 2 = nI h → ∀ r, fX11_week_L25 fu C (nI cnt) (nI i) = some r → ∃ v C', r = .inr (v, C') ∧ (∃ j, j ≤ 100 * k ∧ C' (17 + 15) 2 = nI (h + j)) ∧ C' 16 = C 16 ∧ C' 0 9 = C 0 9 ∧ C' 17 6 = nI (t + k)
  | k, 0, _, _, _, _, _, _, _, _, _, r, e => by
    rw [fX11_week_L25] at e
    cases e
  | 0, fu + 1, i, t, C, R, h, hi, ht, hI, hh, r, e => by
    obtain rfl : i = cnt := by omega
    rw [fX11_week_L25, if_pos (nI_le (Nat.le_refl _) (by omega))] at e
    cases e
    exact ⟨_, _, rfl, ⟨0, by omega, hh⟩, rfl, rfl, iv_tc hI⟩
  | k + 1, fu + 1, i, t, C, R, h, hi, ht, hI, hh, r, e => by
    obtain ⟨C1, C2, R2, i1, i2, i3, i4, i5, i6, i7⟩ := week_1 hI (by omega)
    obtain ⟨D1, S1, g1, g2, g3, g4, -⟩ := goOn_sim hI.1 hI.2.1 (by omega : t + 1 ≤ 1000)
    have hD : D1 = C1 := Option.some.inj (g1.symm.trans i1)
    subst hD
    have hw := write_c (t := t) g3.1.2.1.2.2.1 (by omega)
    have e2 : C2 = rowsC D1 t := Option.some.inj (i2.symm.trans hw)
    have c16 : C2 16 = C 16 := by rw [e2, rowsC_o (by omega), g4.1 16 (by omega)]
    have c0 : C2 0 9 = C 0 9 := by rw [e2, rowsC_o (by omega), g4.1 0 (by omega)]
    obtain ⟨⟨j, hj, ej⟩, -⟩ := hun_week2 (w0 := 17) (n := n) (h := h) (by omega) (rw_n100 hI.1.1) hI.1.1.2.1.1 hh i1
    have c32 : C2 (17 + 15) 2 = nI (h + j) := by rw [e2, rowsC_o (by omega)]; exact ej
    rw [fX11_week_L25, if_neg (nI_ge (by omega) (by omega)), i1, za_bnd, i2, za_bnd, nI_add] at e
    obtain ⟨v, C', q1, ⟨j2, hj2, q2⟩, q3, q4, q5⟩ := week_H hcnt k fu (i + 1) (t + 1) C2 R2 (h + j) (by omega) (by omega) i4 c32 r e
    have hn := rw_n100 hI.1.1
    exact ⟨v, C', q1, ⟨j + j2, by omega, by rw [q2, Nat.add_assoc]⟩, q3.trans c16, q4.trans c0, by rw [q5]; congr 1; omega⟩
theorem week_K (hI : IV n t m C R N L) (hu : ∃ k, k ≤ 100 * t ∧ C (17 + 15) 2 = nI k) {p0 b : Int32} (e : fX11_week C p0 = some (.inr (b, C'))) : ∃ t', C' 17 6 = nI t' ∧ t' ≤ 1000 ∧ (∃ k, k ≤ 100 * t' ∧ C' (17 + 15) 2 = nI k) ∧ C' 16 = C 16 ∧ C' 0 9 = C 0 9 := by
  unfold fX11_week fX11_week_J14 fX11_week_J15 fX11_needWeeks at e
  have ht := iv_t hI
  obtain ⟨h, hh1, hh2⟩ := hu
  rcases rng 104 (by omega) p0 with g | ⟨g0, g⟩ | ⟨j, j1, rfl⟩
  · rw [if_pos g, need_0, za_bnxl] at e
    cases e
  · rw [if_neg g0, if_pos g, need_0, za_bnxl] at e
    cases e
  · rw [if_neg (nI_pos (by omega)), if_neg (nI_nlt j1 (by omega)), need_1, za_bnx, iv_tc hI, nI_add] at e
    by_cases q : t + j ≤ 1000
    · rw [if_pos (nI_le q (by omega)), za_bnx] at e
      have e' : fX11_week_L25 FU C (nI j) (nI 0) = some (.inr (b, C')) := by rw [nI_0]; exact e
      obtain ⟨v, C2, q1, ⟨j2, hj2, q2⟩, q3, q4, q5⟩ := week_H (cnt := j) j1 j FU 0 t C R h (by omega) q hI hh2 _ e'
      cases q1
      exact ⟨t + j, q5, q, ⟨h + j2, by omega, q2⟩, q3, q4⟩
    · have hn : ¬ nI (t + j) ≤ nI 1000 := fun z => q (by rw [nI_leI (by omega) (by omega)] at z; exact z)
      rw [if_neg hn, za_bnxl] at e
      cases e
theorem st_week {p0 : Int32} (h : GI np M N) : ST eA np M N (fX11_week M p0) (fun R => fX12_week R p0) := by
  have h0 := h
  obtain ⟨n, t, m, hI, hu, hz, hnp, h12⟩ := h0
  obtain ⟨b, C', R', n', t', m', y1, i1, g1, g2, hx⟩ := c_week hI p0
  rcases hx with ⟨k, x1, rfl, x3, x4⟩ | ⟨x1, x2⟩
  · exact ⟨_, x1, Or.inl ⟨k, b, R', rfl, x4, y1, x3, gi_next h i1 rfl ka_rf g2⟩⟩
  · obtain ⟨b2, C2, R2, n2, t2, m2, z1, i2, j1, j2, hw⟩ := c_week (iv_cg hI (C' := M) (R' := C') (fun _ _ => rfl) (fun b q1 q2 => g1 b q1 q2) rfl rfl) p0
    rcases hw with ⟨k, w1, -⟩ | ⟨w1, w2⟩
    · rw [x1] at w1
      cases w1
    · rw [x1] at w1
      cases w1
      refine ⟨_, x1, Or.inr ⟨b, C', R2, rfl, z1, w2, ?_⟩⟩
      obtain ⟨t3, k1, k2, ⟨k, k3, k4⟩, k5, k6⟩ := week_K hI hu x1
      have e1 : t2 = t3 := za_inj (by have := iv_t i2; omega) (by omega) ((iv_tc i2).symm.trans k1)
      have e2 : m2 = m := bk_m hI.1.2.2.2.1 i2.1.2.2.2.1 k5 hI.1.2.2.1 i2.1.2.2.1
      subst e1
      subst e2
      exact ⟨n2, t2, m2, iv_one i2 j2 rfl rfl, ⟨k, k3, by rw [j2 _ (by omega)]; exact k4⟩, fun l hl => by rw [j2 16 (by omega), k5]; exact hz l hl, hnp, fun q => by rw [j2 0 (by omega), k6]; exact h12 q⟩
def PN (np : Nat) (x : Option (Nat ⊕ (Int32 × Mc × Nat))) : Prop := ∀ a, x = some (.inr a) → np ≤ a.2.2
theorem N_none : PN np none := fun _ h => by cases h
theorem N_some {a : Int32 × Mc × Nat} (h : np ≤ a.2.2) : PN np (some (.inr a)) := fun _ e => by cases e; exact h
theorem N_ite {c : Prop} [Decidable c] {a b : Option (Nat ⊕ (Int32 × Mc × Nat))} (h1 : PN np a) (h2 : PN np b) : PN np (if c then a else b) := by
  by_cases q : c
  · rw [if_pos q]; exact h1
  · rw [if_neg q]; exact h2
theorem N_lt {β : Type} {a : β} {f : β → Option (Nat ⊕ (Int32 × Mc × Nat))} (h : ∀ b, PN np (f b)) : PN np (lt a f) := h a
theorem N_bnd {β : Type} {x : Option β} {f : β → Option (Nat ⊕ (Int32 × Mc × Nat))} (h : ∀ b, PN np (f b)) : PN np (bnd x f) := by
  cases x with
  | none => exact N_none
  | some b => exact h b
theorem N_bn2 {β γ : Type} {x : Option (β × γ)} {f : β → γ → Option (Nat ⊕ (Int32 × Mc × Nat))} (h : ∀ b c, PN np (f b c)) : PN np (bn2 x f) := by
  cases x with
  | none => exact N_none
  | some b => exact h _ _
theorem N_bnx {β : Type} {x : Option (Nat ⊕ β)} {f : β → Option (Nat ⊕ (Int32 × Mc × Nat))} (h : ∀ b, PN np (f b)) : PN np (bnx x f) := by
  cases x with
  | none => exact N_none
  | some b =>
    cases b with
    | inl k => intro v e; cases e
    | inr b => exact h b
theorem n_law_J17 {M : Mc} {X1 Z0 : Int32} : PN np (fX11_law_J17 np M X1 Z0) := by
  unfold fX11_law_J17
  exact N_bnx fun _ => N_lt fun _ => N_lt fun _ => N_ite (N_bn2 fun _ _ => N_ite (N_bnd fun _ => N_bn2 fun _ _ => N_some (Nat.le_add_right _ _)) (N_lt fun _ => N_some (Nat.le_refl _))) (N_some (Nat.le_refl _))
theorem n_law {M : Mc} {p0 : Int32} : PN np (fX11_law np M p0) := by
  unfold fX11_law
  refine N_ite ?_ (N_ite ?_ n_law_J17)
  · unfold fX11_law_J16; exact n_law_J17
  · unfold fX11_law_J16; exact n_law_J17
def SL (np : Nat) (M : Mc) (N : Md) (x : Option (Nat ⊕ (Int32 × Mc × Nat))) (y : Mc → Option (Int32 × Mc)) : Prop :=
  ∃ x', x = some x' ∧ ((∃ b R', x' = .inl 2 ∧ y M = some (b, R') ∧ R' 127 0 = nI 1 ∧ GI np R' N) ∨ ∃ b C' R' np1, x' = .inr (b, C', np1) ∧ np ≤ np1 ∧ y C' = some (b, R') ∧ R' 127 0 = 0 ∧ GI np1 R' N)
theorem st_L {p0 : Int32} (h : GI np M N) : SL np M N (fX11_law np M p0) (fun R => fX12_law R p0) := by
  have h0 := h
  obtain ⟨n, t, m, hI, hu, hz, hnp, h12⟩ := h0
  have hm := hI.1.2.2.1
  obtain ⟨b, R', n', t', y1, g2, hx⟩ := c_law hI hz hnp h12 p0
  rcases hx with ⟨x1, x2, m', i1, -⟩ | ⟨C', m', x1, x2, x3, i1, g1, x6, x7, x8, x9⟩
  · exact ⟨_, x1, Or.inl ⟨b, R', rfl, y1, x2, gi_next h i1 rfl ka_rf g2⟩⟩
  · obtain ⟨b2, R2, n2, t2, z1, j2, hw⟩ := c_law (iv_cg hI (C' := M) (R' := C') (fun _ _ => rfl) (fun b q1 q2 => g1 b q1 q2) rfl rfl) hz hnp h12 p0
    rcases hw with ⟨w1, -⟩ | ⟨C2, m2, w1, w2, w3, i2, k1, w6, w7, w8, w9⟩
    · rw [x1] at w1
      cases w1
    · rw [x1] at w1
      have w1 := Sum.inr.inj (Option.some.inj w1)
      have wb : b = b2 := congrArg Prod.fst w1
      have wC : C' = C2 := congrArg (fun q => q.2.1) w1
      have wn : 146 + 4 * m' = 146 + 4 * m2 := congrArg (fun q => q.2.2) w1
      obtain rfl : m' = m2 := by omega
      subst wb
      subst wC
      have e1 : t2 = t := za_inj (by have := iv_t i2; omega) (by have := iv_t hI; omega) ((iv_tc i2).symm.trans (w8.trans (iv_tc hI)))
      subst e1
      have hle := n_law _ x1
      refine ⟨_, x1, Or.inr ⟨b, C', R2, _, rfl, hle, z1, w3, n2, t2, m', iv_one i2 j2 rfl rfl, ?_, fun l hl => by rw [j2 16 (by omega)]; exact w6 l hl, rfl, fun q => by rw [j2 0 (by omega)]; exact w7 q⟩⟩
      obtain ⟨k, k1, k2⟩ := hu
      exact ⟨k, k1, by rw [j2 _ (by omega)]; exact w9.trans k2⟩
end GL
