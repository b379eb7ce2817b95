theorem mk_lt (f : Nat → Int32) : ∀ m, mk f m < 2 ^ m
  | 0 => Nat.one_pos
  | m + 1 => by have := mk_lt f m; unfold mk; rw [Nat.pow_succ]; split <;> omega
theorem mk_succ (f : Nat → Int32) (m : Nat) : mk f (m + 1) = mk f m + if f m = nI 2 ∨ f m = nI 3 then 2 ^ m else 0 := rfl
theorem mk_tb (f : Nat → Int32) (l : Nat) : ∀ m, Nat.testBit (mk f m) l = (decide (l < m) && decide (f l = nI 2 ∨ f l = nI 3))
  | 0 => by simp [mk]
  | m + 1 => by
    have ih := mk_tb f l m
    have hlt := mk_lt f m
    unfold mk
    by_cases hf : f m = nI 2 ∨ f m = nI 3
    · rw [if_pos hf, Nat.add_comm]
      rcases Nat.lt_trichotomy l m with h | h | h
      · rw [Nat.testBit_two_pow_add_gt h, ih, decide_eq_true h, decide_eq_true (show l < m + 1 by omega)]
      · subst h
        rw [Nat.testBit_two_pow_add_eq, Nat.testBit_lt_two_pow hlt, decide_eq_true (show l < l + 1 by omega), decide_eq_true hf]; rfl
      · rw [Nat.testBit_lt_two_pow, decide_eq_false (show ¬ l < m + 1 by omega)]; rfl
        have : 2 ^ (m + 1) ≤ 2 ^ l := Nat.pow_le_pow_right (by decide) h
        rw [Nat.pow_succ] at this; omega
    · rw [if_neg hf, Nat.add_zero, ih]
      by_cases h : l = m
      · subst h; rw [decide_eq_false hf]; simp
      · by_cases h2 : l < m
        · rw [decide_eq_true h2, decide_eq_true (show l < m + 1 by omega)]
        · rw [decide_eq_false h2, decide_eq_false (show ¬ l < m + 1 by omega)]
theorem mk_bit {f : Nat → Int32} {m l : Nat} (hm : m ≤ 12) : mk f m / 2 ^ l % 2 = 1 ↔ l < m ∧ (f l = nI 2 ∨ f l = nI 3) := by
  have := mk_tb f l m
  rw [Nat.testBit_eq_decide_div_mod_eq] at this
  constructor
  · intro h; rw [decide_eq_true h] at this
    have := this.symm
    rw [Bool.and_eq_true, decide_eq_true_eq, decide_eq_true_eq] at this; exact this
  · intro h; rw [decide_eq_true h.1, decide_eq_true h.2] at this
    exact of_decide_eq_true this
theorem mk_4096 {f : Nat → Int32} {m : Nat} (hm : m ≤ 12) : mk f m < 4096 := Nat.lt_of_lt_of_le (mk_lt f m) (Nat.pow_le_pow_right (n := 2) (by decide) hm)
theorem mk_con {f g : Nat → Int32} : ∀ m, (∀ l, l < m → ((f l = nI 2 ∨ f l = nI 3) ↔ (g l = nI 2 ∨ g l = nI 3))) → mk f m = mk g m
  | 0, _ => rfl
  | m + 1, h => by
    unfold mk; rw [mk_con m (fun l hl => h l (by omega))]
    by_cases hf : f m = nI 2 ∨ f m = nI 3
    · rw [if_pos hf, if_pos ((h m (by omega)).mp hf)]
    · rw [if_neg hf, if_neg (fun q => hf ((h m (by omega)).mpr q))]
theorem mk_add {f : Nat → Int32} {l : Nat} {v : Int32} (hf : ¬ (f l = nI 2 ∨ f l = nI 3)) (hv : v = nI 2 ∨ v = nI 3) : ∀ m, l < m → mk (up1 f l v) m = mk f m + 2 ^ l
  | 0, h => by omega
  | m + 1, h => by
    unfold mk
    by_cases e : l = m
    · subst e
      rw [up1_s, if_pos hv, if_neg hf, mk_con (g := f) l (fun k hk => by rw [up1_o (by omega)])]; omega
    · rw [mk_add hf hv m (by omega), up1_o (by omega)]; omega
theorem mk_sub {f : Nat → Int32} {l : Nat} {v : Int32} (hf : f l = nI 2 ∨ f l = nI 3) (hv : ¬ (v = nI 2 ∨ v = nI 3)) : ∀ m, l < m → mk f m = mk (up1 f l v) m + 2 ^ l
  | 0, h => by omega
  | m + 1, h => by
    unfold mk
    by_cases e : l = m
    · subst e
      rw [up1_s, if_pos hf, if_neg hv, mk_con (f := up1 f l v) (g := f) l (fun k hk => by rw [up1_o (by omega)])]; omega
    · have := mk_sub hf hv m (by omega)
      rw [up1_o (show m ≠ l by omega)]; omega
theorem mk_bits {f : Nat → Int32} {m : Nat} (hm : m ≤ 12) : ∀ l, l < 12 → bit (nI (mk f m)) l → l < m :=
  fun _ hl h => ((mk_bit hm).mp (((bit_ok (mk_4096 hm) hl).1).mp h)).1
theorem rf_force {v : Int32} : fX12_isForce v = some (if v = nI 2 ∨ v = nI 3 then nI 1 else 0) := by
  unfold fX12_isForce
  by_cases h : v = nI 2
  · rw [if_pos h, if_pos (Or.inl h)]
  · rw [if_neg h]; by_cases h5 : v = nI 3
    · rw [if_pos h5, if_pos (Or.inr h5)]
    · rw [if_neg h5, if_neg (fun q => q.elim h h5)]
theorem rf_forces_L {R : Mc} {m : Nat} (hm : m ≤ 12) (hn : R 128 2125 = nI m) : ∀ k fu i, i + k = m → k < fu → fX12_forces_L4 fu R (nI (mk (fun l => R 128 (1568 + 6 * l)) i)) (nI i) = some (nI (mk (fun l => R 128 (1568 + 6 * l)) m))
  | k, 0, _, _, h => by omega
  | 0, fu + 1, i, h, _ => by
    obtain rfl : i = m := by omega
    unfold fX12_forces_L4
    rw [za_chk _ (by omega) (by omega), nI_clamp (by omega), hn, if_pos (nI_le (Nat.le_refl _) (by omega))]
  | k + 1, fu + 1, i, h, hf => by
    have ih := rf_forces_L hm hn k fu (i + 1) (by omega) (by omega)
    unfold fX12_forces_L4
    rw [za_chk _ (by omega) (by omega), nI_clamp (by omega), hn, if_neg (nI_ge (by omega) (by omega)), rf_ofLaw0 (by omega), za_bnd, rf_force, za_bnd]
    rw [mk_succ] at ih
    unfold fX12_forces_J36
    have hi : i ≤ 12 := by omega
    have hx := mk_4096 (f := fun l => R 128 (1568 + 6 * l)) hi
    by_cases h3 : R 128 (1568 + 6 * i) = nI 2 ∨ R 128 (1568 + 6 * i) = nI 3
    · rw [if_pos h3, if_neg za_n10, za_lt, nI_add]
      rw [if_pos h3] at ih
      rw [(bit_ok hx (by omega)).2.2 (fun q => by have := ((mk_bit hi).mp q).1; omega)]
      exact ih
    · rw [if_neg h3, if_pos rfl, za_lt, nI_add]
      rw [if_neg h3, Nat.add_zero] at ih
      rw [show ∀ x : Int32, x ||| 0 = x from fun x => by simp]
      exact ih
theorem rf_forces {R : Mc} {m : Nat} (hm : m ≤ 12) (hn : R 128 2125 = nI m) : fX12_forces R = some (nI (mk (fun l => R 128 (1568 + 6 * l)) m)) := by
  unfold fX12_forces
  exact rf_forces_L hm hn m FU 0 (by omega) (by rw [za_FU]; omega)
/-- what holds without a law -/
def usN (k : Nat) : Nat := if k = 0 then 20 else if k = 1 then 50 else if k = 2 then 2 else if k = 3 then 5 else if k = 4 then 1 else if k = 5 then 0 else if k = 6 then 4 else 1
theorem us_ok : ∀ k, k < 8 → usu k = nI (usN k) ∧ fX12_without (nI k) = some (nI (usN k)) ∧ usN k ≤ 1000 ∧ (k = 0 → 1 ≤ usN k) ∧ (k = 1 → usN k ≤ 100) := by decide +kernel
/-- the meaning of name k by mask X and what is told, on both sides -/
theorem mean_eq {C R : Mc} {co m k : Nat} {X wk sd pe so : Int32} (hB : BK m C R) (hk : k < 8) (hX : ∀ l, l < 12 → bit X l → l < m) (hco : 16 < co + 8 ∧ co + 9 < 146) :
    ∃ v C' R', fX2_meaning C co X (nI k) wk sd pe so = some (nI v, C') ∧ (∀ a, a ≠ co + 8 → a ≠ co + 9 → C' a = C a) ∧ (∀ a, a ≠ 140 → R' a = R a) ∧ v ≤ 1000 ∧ (k = 0 → 1 ≤ v) ∧ (k = 1 → v ≤ 100) ∧
      ∃ tl, fX2_teller C co X (nI k) = some tl ∧ fX12_teller R X (nI k) = some tl ∧ ((tl = -1 ∧ R' = R ∧ v = usN k) ∨ ∃ l v0, l < m ∧ l < 12 ∧ tl = nI l ∧ fX12_value R (nI l) (nI k) wk sd pe so = some (v0, R') ∧ fX12_bounded (nI k) v0 = some (nI v)) := by
  obtain ⟨tl, t1, t2, t3⟩ := tel_eq (co := co) hB hk hX
  obtain ⟨u1, u2, u3, u4, u5⟩ := us_ok k hk
  rcases t3 with rfl | ⟨l, z, hl, hl12, rfl, z1, z2, z3, hcd⟩
  · refine ⟨usN k, C, R, ?_, fun _ _ _ => rfl, fun _ _ => rfl, u3, u4, u5, -1, t1, t2, Or.inl ⟨rfl, rfl, rfl⟩⟩
    unfold fX2_meaning
    rw [t1, za_bnd, if_pos za_m1lt0]
    unfold fX2_meaning_J33
    rw [if_neg (nI_pos (by omega)), if_neg (nI_ge hk (by omega)), za_chk _ hk (by omega), nI_clamp (by omega), u1]
  · have hcd5 : cdR (wr (wr (wr (wr (wr C (co + 8) 0 wk) (co + 8) 1 (wk / nI 52)) (co + 8) 2 sd) (co + 8) 3 pe) (co + 8) 4 so) R z l k := by
      obtain ⟨f, n, r, len, q1, q2, q3, q4⟩ := hcd
      have e : ∀ a, a ≠ co + 8 → wr (wr (wr (wr (wr C (co + 8) 0 wk) (co + 8) 1 (wk / nI 52)) (co + 8) 2 sd) (co + 8) 3 pe) (co + 8) 4 so a = C a := fun a ha => by rw [za_wrc ha, za_wrc ha, za_wrc ha, za_wrc ha, za_wrc ha]
      refine ⟨f, n, r, len, by rw [e _ (by omega)]; exact q1, by rw [e _ (by omega)]; exact q2, by rw [dl_cg (e _ (by omega))]; exact q3, ?_⟩
      rw [e _ (by omega)]; exact q4
    obtain ⟨v0, C1, R1, g1, g2, g3, g4⟩ := val_eq (k0 := co + 8) (k1 := co + 9) (wk := wk) (sd := sd) (pe := pe) (so := so) hk hl12 hcd5 (by simp (disch := omega) only [za_wrs, za_wri]) (by simp (disch := omega) only [za_wrs, za_wri]) (by simp (disch := omega) only [za_wrs, za_wri]) (by simp (disch := omega) only [za_wrs, za_wri]) (by simp (disch := omega) only [za_wrs, za_wri]) (by omega) (by omega) (by omega)
    obtain ⟨v, w1, w2, w3, w4⟩ := bd_rng (k := k) v0
    refine ⟨v, C1, R1, ?_, fun a h1 h2 => by rw [g3 a h2, za_wrc h1, za_wrc h1, za_wrc h1, za_wrc h1, za_wrc h1], g4, w2, w3, w4, nI l, t1, t2, Or.inr ⟨l, v0, hl, hl12, rfl, g2, by rw [bd_r hk, w1]⟩⟩
    unfold fX2_meaning
    rw [t1, za_bnd, if_neg (nI_pos (by omega)), if_neg (nI_ge hl12 (by omega)), za_chk _ hl12 (by omega), za_lt, nI_clamp (by omega), z3, nI_clamp z2, if_neg (by omega), za_0, za_chk _ (by omega) (by omega), za_lt, za_chk _ (by omega) (by omega), za_lt, za_chk _ (by omega) (by omega), za_lt, za_chk _ (by omega) (by omega), za_lt, za_chk _ (by omega) (by omega), za_lt, nI_clamp (by omega), nI_clamp (by omega), nI_clamp (by omega), nI_clamp (by omega), nI_clamp (by omega), g1, za_bn2, ← za_0]
    unfold fX2_meaning_J129 fX2_meaning_J144
    rw [← w1]
    unfold bdI
    have q01 : (0 : Int32) ≤ nI 1 := by decide +kernel
    have q1 : nI 1 ≤ nI 1000 := by decide +kernel
    have q2 : (0 : Int32) ≤ nI 100 := by decide +kernel
    have q3 : (0 : Int32) ≤ nI 1000 := by decide +kernel
    by_cases h0 : k = 0
    · subst h0
      rw [if_pos (show nI 0 = 0 from nI_0), if_neg (show ¬ nI 0 = nI 1 by decide +kernel), bd_c q1]; rfl
    · have e0 : ¬ nI k = 0 := fun q => h0 ((za_eq0 (by omega)).mp q)
      by_cases h1 : k = 1
      · subst h1
        rw [if_neg e0, if_pos rfl, bd_c q2]; rfl
      · have e1 : ¬ nI k = nI 1 := fun q => h1 (za_inj (by omega) (by omega) q)
        rw [if_neg e0, if_neg e1, bd_c q3]
        simp only [if_neg h0, if_neg h1]
