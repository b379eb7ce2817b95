/-! ===== the value of a law's code: class and reference alike ===== -/
/-- a two-place sign: class cell x, reference code cd; b: its places are truths, r: its answer is one -/
def cB (x cd : Int32) (b r : Bool) : Prop :=
  (x = -6 ∧ cd = nI 1 ∧ b = false ∧ r = false) ∨ (x = -7 ∧ cd = nI 2 ∧ b = false ∧ r = false) ∨ (x = -8 ∧ cd = nI 3 ∧ b = false ∧ r = false) ∨ (x = -9 ∧ cd = nI 4 ∧ b = false ∧ r = false) ∨ (x = -10 ∧ cd = nI 5 ∧ b = false ∧ r = false) ∨ (x = -11 ∧ cd = nI 6 ∧ b = false ∧ r = false) ∨ (x = -12 ∧ cd = nI 7 ∧ b = false ∧ r = false) ∨ (x = -13 ∧ cd = nI 12 ∧ b = false ∧ r = true) ∨ (x = -14 ∧ cd = nI 13 ∧ b = false ∧ r = true) ∨ (x = -15 ∧ cd = nI 14 ∧ b = false ∧ r = true) ∨ (x = -16 ∧ cd = nI 9 ∧ b = true ∧ r = true) ∨ (x = -17 ∧ cd = nI 10 ∧ b = true ∧ r = true)
/-- one cell of the code: what is on the stack (true: a truth) before and behind -/
def cS (x cd nu : Int32) (T T' : List Bool) : Prop :=
  (∃ v, v < 2 ^ 31 ∧ x = nI v ∧ cd = 0 ∧ nu = nI v ∧ T' = false :: T) ∨ (∃ k, k < 5 ∧ x = -1 - nI k ∧ cd = nI 15 ∧ nu = nI k ∧ T' = false :: T) ∨ (∃ b r T0, cB x cd b r ∧ T = b :: b :: T0 ∧ T' = r :: T0) ∨ (x = -18 ∧ cd = nI 11 ∧ ∃ T0, T = true :: T0 ∧ T' = true :: T0) ∨ (x = -19 ∧ cd = nI 8 ∧ ∃ T0, T = false :: false :: true :: T0 ∧ T' = false :: T0)
def sg (cc rc rn : Nat → Int32) (f r : Nat) : Nat → List Bool → List Bool → Prop
  | 0, T, T' => T' = T
  | n + 1, T, T' => ∃ T1, sg cc rc rn f r n T T1 ∧ cS (cc (f + n)) (rc (r + n)) (rn (r + n)) T1 T'
def okT (g : Nat → Int32) : List Bool → Prop
  | [] => True
  | b :: T => (b = true → isZ (g T.length)) ∧ okT g T
theorem okT_cg {g g' : Nat → Int32} : ∀ {T : List Bool}, (∀ i, i < T.length → g' i = g i) → okT g T → okT g' T
  | [], _, _ => trivial
  | b :: T, h, h2 => ⟨fun hb => by rw [h _ (by simp)]; exact h2.1 hb, okT_cg (fun i hi => h i (by simp; omega)) h2.2⟩
theorem join_w {x cd a b : Int32} {s r : Bool} (h : cB x cd s r) (ha : s = true → isZ a) (hb : s = true → isZ b) : ∃ v, fX8_join x a b = some v ∧ fX12_worked cd a b = some v ∧ (r = true → isZ v) := by
  unfold cB at h
  rcases h with ⟨rfl, rfl, rfl, rfl⟩ | ⟨rfl, rfl, rfl, rfl⟩ | ⟨rfl, rfl, rfl, rfl⟩ | ⟨rfl, rfl, rfl, rfl⟩ | ⟨rfl, rfl, rfl, rfl⟩ | ⟨rfl, rfl, rfl, rfl⟩ | ⟨rfl, rfl, rfl, rfl⟩ | ⟨rfl, rfl, rfl, rfl⟩ | ⟨rfl, rfl, rfl, rfl⟩ | ⟨rfl, rfl, rfl, rfl⟩ | ⟨rfl, rfl, rfl, rfl⟩ | ⟨rfl, rfl, rfl, rfl⟩
  · exact ⟨_, rfl, rfl, fun h => absurd h (by decide)⟩
  · exact ⟨_, rfl, rfl, fun h => absurd h (by decide)⟩
  · exact ⟨_, rfl, rfl, fun h => absurd h (by decide)⟩
  · by_cases h0 : b = 0
    · subst h0; exact ⟨0, rfl, rfl, fun h => absurd h (by decide)⟩
    · refine ⟨a / b, ?_, ?_, fun h => absurd h (by decide)⟩
      · refine (show fX8_join (-9) a b = (if b = 0 then (some (0)) else chz b ((some ((a / b))))) from rfl).trans ?_
        rw [if_neg h0, za_chz _ h0]
      · refine (show fX12_worked (nI 4) a b = (if b = 0 then (some (0)) else chz b ((some ((a / b))))) from rfl).trans ?_
        rw [if_neg h0, za_chz _ h0]
  · by_cases h0 : b = 0
    · subst h0; exact ⟨0, rfl, rfl, fun h => absurd h (by decide)⟩
    · refine ⟨irm a b, ?_, ?_, fun h => absurd h (by decide)⟩
      · refine (show fX8_join (-10) a b = (if b = 0 then (some (0)) else chz b ((some ((irm a b))))) from rfl).trans ?_
        rw [if_neg h0, za_chz _ h0]
      · refine (show fX12_worked (nI 5) a b = (if b = 0 then (some (0)) else chz b ((some ((irm a b))))) from rfl).trans ?_
        rw [if_neg h0, za_chz _ h0]
  · exact ⟨if b ≤ a then b else a, (show fX8_join (-11) a b = (if b ≤ a then (some (b)) else (some (a))) from rfl).trans (by split <;> rfl), (show fX12_worked (nI 6) a b = (if b ≤ a then (some (b)) else (some (a))) from rfl).trans (by split <;> rfl), fun h => absurd h (by decide)⟩
  · exact ⟨if a ≤ b then b else a, (show fX8_join (-12) a b = (if a ≤ b then (some (b)) else (some (a))) from rfl).trans (by split <;> rfl), (show fX12_worked (nI 7) a b = (if a ≤ b then (some (b)) else (some (a))) from rfl).trans (by split <;> rfl), fun h => absurd h (by decide)⟩
  · exact ⟨if b ≤ a then 0 else nI 1, (show fX8_join (-13) a b = (if b ≤ a then (some (0)) else (some (nI 1))) from rfl).trans (by split <;> rfl), (show fX12_worked (nI 12) a b = (if b ≤ a then (some (0)) else (some (nI 1))) from rfl).trans (by split <;> rfl), fun _ => by split; exact Or.inl rfl; exact Or.inr rfl⟩
  · exact ⟨if a ≤ b then 0 else nI 1, (show fX8_join (-14) a b = (if a ≤ b then (some (0)) else (some (nI 1))) from rfl).trans (by split <;> rfl), (show fX12_worked (nI 13) a b = (if a ≤ b then (some (0)) else (some (nI 1))) from rfl).trans (by split <;> rfl), fun _ => by split; exact Or.inl rfl; exact Or.inr rfl⟩
  · exact ⟨if a = b then nI 1 else 0, (show fX8_join (-15) a b = (if a = b then (some (nI 1)) else (some (0))) from rfl).trans (by split <;> rfl), (show fX12_worked (nI 14) a b = (if a = b then (some (nI 1)) else (some (0))) from rfl).trans (by split <;> rfl), fun _ => by split; exact Or.inr rfl; exact Or.inl rfl⟩
  · rcases ha rfl with rfl | rfl <;> rcases hb rfl with rfl | rfl
    · exact ⟨0, rfl, by decide +kernel, fun _ => Or.inl rfl⟩
    · exact ⟨0, rfl, by decide +kernel, fun _ => Or.inl rfl⟩
    · exact ⟨0, rfl, by decide +kernel, fun _ => Or.inl rfl⟩
    · exact ⟨1, rfl, by decide +kernel, fun _ => Or.inr rfl⟩
  · rcases ha rfl with rfl | rfl <;> rcases hb rfl with rfl | rfl
    · exact ⟨0, rfl, by decide +kernel, fun _ => Or.inl rfl⟩
    · exact ⟨1, rfl, by decide +kernel, fun _ => Or.inr rfl⟩
    · exact ⟨1, rfl, by decide +kernel, fun _ => Or.inr rfl⟩
    · exact ⟨1, rfl, by decide +kernel, fun _ => Or.inr rfl⟩
