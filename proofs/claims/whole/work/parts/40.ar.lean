/-! ===== STAGE 2, pure Lean: numbers, the option's rows, memory ===== -/
theorem za_lt {α β : Type} (a : α) (f : α → β) : lt a f = f a := rfl
theorem za_bnd {α β : Type} (a : α) (f : α → Option β) : bnd (some a) f = f a := rfl
theorem za_bn2 {α γ β : Type} (a : α) (b : γ) (f : α → γ → Option β) : bn2 (some (a, b)) f = f a b := rfl
theorem za_bn3 {α γ δ β : Type} (a : α) (b : γ) (c : δ) (f : α → γ → δ → Option β) : bn3 (some (a, b, c)) f = f a b c := rfl
theorem za_bnx {α β : Type} (a : α) (f : α → Option (Nat ⊕ β)) : bnx (some (.inr a)) f = f a := rfl
theorem za_bnxl {α β : Type} (k : Nat) (f : α → Option (Nat ⊕ β)) : bnx (some (.inl k)) f = some (.inl k) := rfl
theorem za_chk {β : Type} {n N : Nat} (x : Option β) (h : n < N) (hN : N < 2 ^ 31) : chk (nI n) N x = x := if_neg (nI_in h hN)
theorem za_chz {β : Type} {i : Int32} (x : Option β) (h : i ≠ 0) : chz i x = x := if_neg h
theorem za_chp {β : Type} {P : Prop} [Decidable P] (x : Option β) (h : P) : chp P x = x := if_pos h
theorem za_0 : (0 : Int32) = nI 0 := nI_0.symm
theorem za_1 : (1 : Int32) = nI 1 := rfl
theorem za_m1 : (-1 : Int32) = nI 4294967295 := by decide +kernel
theorem za_mul (a b : Nat) : nI a * nI b = nI (a * b) := pk_mul a b
theorem za_sub {a b : Nat} (h : b ≤ a) : nI a - nI b = nI (a - b) := pk_sub h
theorem za_div {a d : Nat} (ha : a < 2 ^ 31) (h0 : 0 < d) (hd : d < 2 ^ 31) : nI a / nI d = nI (a / d) := pk_div ha h0 hd
theorem za_irm {a d : Nat} (ha : a < 2 ^ 31) (h0 : 0 < d) (hd : d < 2 ^ 31) : irm (nI a) (nI d) = nI (a % d) := pk_rem ha h0 hd
theorem za_nm1 {a : Nat} (ha : a < 2 ^ 31) : ¬ nI a = -1 := by
  intro h
  have := congrArg Int32.toInt h
  rw [nI_toInt ha] at this
  have h2 : (-1 : Int32).toInt = -1 := by decide
  omega
theorem za_m1n {a : Nat} (ha : a < 2 ^ 31) : ¬ (-1 : Int32) = nI a := fun h => za_nm1 ha h.symm
theorem za_m1lt0 : (-1 : Int32) < 0 := by decide
theorem za_m1ltn {a : Nat} (ha : a < 2 ^ 31) : (-1 : Int32) < nI a := by
  rw [Int32.lt_iff_toInt_lt, nI_toInt ha]; have h2 : (-1 : Int32).toInt = -1 := by decide
  omega
theorem za_m1len {a : Nat} (ha : a < 2 ^ 31) : (-1 : Int32) ≤ nI a := by
  rw [Int32.le_iff_toInt_le, nI_toInt ha]; have h2 : (-1 : Int32).toInt = -1 := by decide
  omega
theorem za_nltm1 {a : Nat} (ha : a < 2 ^ 31) : ¬ nI a < (-1 : Int32) := by
  rw [Int32.lt_iff_toInt_lt, nI_toInt ha]; have h2 : (-1 : Int32).toInt = -1 := by decide
  omega
theorem za_nlem1 {a : Nat} (ha : a < 2 ^ 31) : ¬ nI a ≤ (-1 : Int32) := by
  rw [Int32.le_iff_toInt_le, nI_toInt ha]; have h2 : (-1 : Int32).toInt = -1 := by decide
  omega
theorem za_eq0 {a : Nat} (ha : a < 2 ^ 31) : nI a = 0 ↔ a = 0 := by rw [← nI_0]; exact nI_eq ha (by omega)
theorem za_0eq {a : Nat} (ha : a < 2 ^ 31) : 0 = nI a ↔ a = 0 := by rw [eq_comm]; exact za_eq0 ha
theorem za_le0 {a : Nat} (ha : a < 2 ^ 31) : nI a ≤ 0 ↔ a = 0 := by rw [← nI_0, nI_leI ha (by omega)]; omega
theorem za_0lt {a : Nat} (ha : a < 2 ^ 31) : 0 < nI a ↔ 0 < a := by rw [← nI_0]; exact nI_ltI (by omega) ha
theorem za_0le {a : Nat} (ha : a < 2 ^ 31) : 0 ≤ nI a := nI_pos' ha
theorem za_nlt0 {a : Nat} (ha : a < 2 ^ 31) : ¬ nI a < 0 := nI_pos ha
theorem za_clm : (0 : Int32).toNatClampNeg = 0 := rfl
theorem za_ofp {x : Int32} (h : 0 ≤ x) : ∃ j : Nat, j < 2 ^ 31 ∧ x = nI j := nI_of (by grind)
theorem za_ofl {x : Int32} {N : Nat} (hN : N < 2 ^ 31) (h : ¬ x < 0) (h2 : ¬ nI N ≤ x) : ∃ j : Nat, j < N ∧ x = nI j := by
  obtain ⟨j, hj, rfl⟩ := nI_of h
  exact ⟨j, by rw [nI_leI hN hj] at h2; omega, rfl⟩
theorem za_ofle {x : Int32} {N : Nat} (hN : N < 2 ^ 31) (h : ¬ x < 0) (h2 : x ≤ nI N) : ∃ j : Nat, j ≤ N ∧ x = nI j := by
  obtain ⟨j, hj, rfl⟩ := nI_of h
  exact ⟨j, by rw [nI_leI hj hN] at h2; omega, rfl⟩
theorem za_inj {a b : Nat} (ha : a < 2 ^ 31) (hb : b < 2 ^ 31) (h : nI a = nI b) : a = b := (nI_eq ha hb).mp h
/-- memory -/
theorem za_wr (M : Mc) (k i : Nat) (v : Int32) (a j : Nat) : wr M k i v a j = if a = k ∧ j = i then v else M a j := rfl
theorem za_wrs (M : Mc) (k i : Nat) (v : Int32) : wr M k i v k i = v := if_pos ⟨rfl, rfl⟩
theorem za_wra {M : Mc} {k i a j : Nat} {v : Int32} (h : a ≠ k) : wr M k i v a j = M a j := if_neg (fun q => h q.1)
theorem za_wrc {M : Mc} {k i a : Nat} {v : Int32} (h : a ≠ k) : wr M k i v a = M a := funext fun _ => if_neg (fun q => h q.1)
theorem za_wri {M : Mc} {k i a j : Nat} {v : Int32} (h : j ≠ i) : wr M k i v a j = M a j := if_neg (fun q => h q.2)
theorem za_in {a N : Nat} (ha : a < 2 ^ 31) (hN : N < 2 ^ 31) : fX11_inside (nI a) (nI N) = some (if a < N then nI 1 else 0) := by
  unfold fX11_inside
  rw [if_neg (nI_pos ha)]
  by_cases h : a < N
  · rw [if_neg (nI_ge h hN), if_pos h]
  · rw [if_pos (nI_le (by omega) ha), if_neg h]
theorem za_inY {a N : Nat} (h : a < N) (hN : N < 2 ^ 31) : fX11_inside (nI a) (nI N) = some (nI 1) := by rw [za_in (by omega) hN, if_pos h]
theorem za_inN {N : Int32} : fX11_inside (-1) N = some 0 := by unfold fX11_inside; rw [if_pos za_m1lt0]
theorem za_n10 : ¬ nI 1 = 0 := by decide +kernel
theorem za_FU : FU = 99999 + 1 := rfl
/-- how many k below n have f -/
def cn : Nat → (Nat → Bool) → Nat
  | 0, _ => 0
  | n + 1, f => cn n f + if f n then 1 else 0
theorem cn_le : ∀ (n : Nat) (f : Nat → Bool), cn n f ≤ n
  | 0, _ => Nat.le_refl _
  | n + 1, f => by have := cn_le n f; unfold cn; split <;> omega
theorem cn_con : ∀ (n : Nat) (f g : Nat → Bool), (∀ k, k < n → f k = g k) → cn n f = cn n g
  | 0, _, _, _ => rfl
  | n + 1, f, g, h => by unfold cn; rw [cn_con n f g (fun k hk => h k (by omega)), h n (by omega)]
/-- one that gets it -/
theorem cn_inc : ∀ (n : Nat) (f g : Nat → Bool) (i : Nat), i < n → f i = false → g i = true → (∀ k, k < n → k ≠ i → f k = g k) → cn n g = cn n f + 1
  | 0, _, _, _, hi, _, _, _ => by omega
  | n + 1, f, g, i, hi, h1, h2, h => by
    unfold cn
    by_cases hn : i = n
    · subst hn
      rw [h1, h2, cn_con i g f (fun k hk => (h k (by omega) (by omega)).symm)]
      rfl
    · rw [cn_inc n f g i (by omega) h1 h2 (fun k hk hki => h k (by omega) hki), h n (by omega) (by omega)]
      omega
theorem cn_dec (n : Nat) (f g : Nat → Bool) (i : Nat) (hi : i < n) (h1 : f i = true) (h2 : g i = false) (h : ∀ k, k < n → k ≠ i → f k = g k) : cn n f = cn n g + 1 :=
  cn_inc n g f i hi h2 h1 (fun k hk hki => (h k hk hki).symm)
theorem cn_pos : ∀ (n : Nat) (f : Nat → Bool), 0 < cn n f ↔ ∃ i, i < n ∧ f i = true
  | 0, _ => ⟨fun h => by unfold cn at h; omega, fun ⟨i, hi, _⟩ => by omega⟩
  | n + 1, f => by
    unfold cn
    by_cases hn : f n = true
    · rw [if_pos hn]
      exact ⟨fun _ => ⟨n, by omega, hn⟩, fun _ => by omega⟩
    · rw [if_neg hn, Nat.add_zero, cn_pos n f]
      constructor
      · rintro ⟨i, hi, h⟩; exact ⟨i, by omega, h⟩
      · rintro ⟨i, hi, h⟩
        refine ⟨i, ?_, h⟩
        by_cases hin : i = n
        · subst hin; exact absurd h hn
        · omega
theorem cn_0 (n : Nat) (f : Nat → Bool) (h : ∀ k, k < n → f k = false) : cn n f = 0 := by
  have := cn_pos n f
  by_cases h0 : 0 < cn n f
  · obtain ⟨i, hi, hf⟩ := this.mp h0
    rw [h i hi] at hf; cases hf
  · omega
theorem cn_succ (n : Nat) (f : Nat → Bool) : cn (n + 1) f = cn n f + if f n then 1 else 0 := rfl
