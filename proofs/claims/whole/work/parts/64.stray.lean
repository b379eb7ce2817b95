/-! ===== stock that strays ===== -/
def nbN (c k : Nat) : Option Nat := if k = 0 then (if 12 ≤ c then some (c - 12) else none) else if k = 1 then (if 0 < c % 12 then some (c - 1) else none) else if k = 2 then (if c % 12 < 11 then some (c + 1) else none) else (if c + 12 < 96 then some (c + 12) else none)
def nbI (c k : Nat) : Int32 := match nbN c k with | some d => nI d | none => -1
theorem nb_lt {c k d : Nat} (hc : c < 96) (h : nbN c k = some d) : d < 96 ∧ d ≠ c := by
  unfold nbN at h
  split at h
  · split at h
    · cases h; omega
    · cases h
  · split at h
    · split at h
      · cases h; omega
      · cases h
    · split at h
      · split at h
        · cases h; omega
        · cases h
      · split at h
        · cases h; omega
        · cases h
theorem beside_ok {c k : Nat} (hc : c < 96) (hk : k < 4) : fX12_beside (nI c) (nI k) = some (nbI c k) := by
  unfold fX12_beside nbI nbN
  rw [za_lt, za_irm (by omega) (by omega) (by omega)]
  rcases (show k = 0 ∨ k = 1 ∨ k = 2 ∨ k = 3 by omega) with rfl | rfl | rfl | rfl
  · rw [if_pos (show nI 0 = 0 from nI_0)]
    by_cases h : 12 ≤ c
    · rw [if_neg (nI_nlt h (by omega)), za_sub h]; simp [h]
    · rw [if_pos (nI_lt (by omega) (by omega))]; simp [h]
  · rw [if_neg (by decide +kernel), if_pos rfl]
    by_cases h : 0 < c % 12
    · rw [if_neg (nI_nle h (by omega)), za_sub (by omega)]; simp [h]
    · rw [if_pos ((za_le0 (by omega)).mpr (by omega))]; simp [h]
  · rw [if_neg (by decide +kernel), if_neg (by decide +kernel), if_pos rfl]
    by_cases h : c % 12 < 11
    · rw [if_neg (nI_ge h (by omega)), nI_add]; simp [h]
    · rw [if_pos (nI_le (by omega) (by omega))]; simp [h]
  · rw [if_neg (by decide +kernel), if_neg (by decide +kernel), if_neg (by decide +kernel), nI_add]
    by_cases h : c + 12 < 96
    · rw [if_neg (nI_ge h (by omega))]; simp [h]
    · rw [if_pos (nI_le (by omega) (by omega))]; simp [h]
section ST
variable {w n t x a y m p : Nat} {C R : Mc}
/-- a farm of another person -/
def sfm (w : Nat) (C : Mc) (d c : Nat) : Prop := (C (w + 5) d = nI 3 ∨ C (w + 5) d = nI 5) ∧ C (w + 6) d ≠ C (w + 6) c
theorem sf_c {d c : Nat} (hd : d < 96) (hc : c < 96) : (sfm w C d c → fX4_isStrangersFarm C (w + 1) (nI d) (nI c) = some (nI 1)) ∧ (¬ sfm w C d c → fX4_isStrangersFarm C (w + 1) (nI d) (nI c) = some 0) := by
  unfold fX4_isStrangersFarm fX4_isStrangersFarm_J40 sfm
  rw [za_inY hd (by omega), za_bnd, if_neg za_n10, za_inY hc (by omega), za_bnd, if_neg za_n10, za_chk _ hd (by omega), za_chk _ hd (by omega), za_chk _ hd (by omega), za_chk _ hc (by omega), nI_clamp (n := d) (by omega), nI_clamp (n := c) (by omega)]
  change (_ → (if C (w + 5) d = nI 3 then (if C (w + 6) d = C (w + 6) c then _ else _) else (if C (w + 5) d = nI 5 then (if C (w + 6) d = C (w + 6) c then _ else _) else _)) = _) ∧ (_ → (if C (w + 5) d = nI 3 then (if C (w + 6) d = C (w + 6) c then _ else _) else (if C (w + 5) d = nI 5 then (if C (w + 6) d = C (w + 6) c then _ else _) else _)) = _)
  by_cases h3 : C (w + 5) d = nI 3
  · rw [if_pos h3]
    by_cases ho : C (w + 6) d = C (w + 6) c
    · rw [if_pos ho]; exact ⟨fun h => absurd ho h.2, fun _ => rfl⟩
    · rw [if_neg ho]; exact ⟨fun _ => rfl, fun h => absurd ⟨Or.inl h3, ho⟩ h⟩
  · rw [if_neg h3]
    by_cases h5 : C (w + 5) d = nI 5
    · rw [if_pos h5]
      by_cases ho : C (w + 6) d = C (w + 6) c
      · rw [if_pos ho]; exact ⟨fun h => absurd ho h.2, fun _ => rfl⟩
      · rw [if_neg ho]; exact ⟨fun _ => rfl, fun h => absurd ⟨Or.inr h5, ho⟩ h⟩
    · rw [if_neg h5]; exact ⟨fun h => absurd h.1 (fun q => q.elim h3 h5), fun _ => rfl⟩
theorem sf_o {d : Nat} {v : Int32} (hd : 96 ≤ d) (hd2 : d < 2 ^ 31) : fX4_isStrangersFarm C (w + 1) (nI d) v = some 0 := by
  unfold fX4_isStrangersFarm; rw [za_in hd2 (by omega), if_neg (by omega), za_bnd, if_pos rfl]
def hit (w : Nat) (C : Mc) (c k : Nat) : Prop := ∃ d, nbN c k = some d ∧ sfm w C d c
/-- the class's look around: the first way that hits -/
theorem sfb_c {c : Nat} (hc : c < 96) : ∃ r, fX4_strangersFarmBeside C (w + 1) (nI c) = some r ∧ ((r = -1 ∧ ∀ k, k < 4 → ¬ hit w C c k) ∨ ∃ k d, k < 4 ∧ nbN c k = some d ∧ sfm w C d c ∧ r = nI d ∧ ∀ k', k' < k → ¬ hit w C c k') := by
  have n3 : (fX4_strangersFarmBeside_J69 (w + 1) C (nI c) = some (-1) ∧ ¬ hit w C c 3) ∨ ∃ d, nbN c 3 = some d ∧ sfm w C d c ∧ fX4_strangersFarmBeside_J69 (w + 1) C (nI c) = some (nI d) := by
    unfold fX4_strangersFarmBeside_J69
    rw [nI_add]
    by_cases h : c + 12 < 96
    · have hn : nbN c 3 = some (c + 12) := by unfold nbN; simp [h]
      by_cases hs : sfm w C (c + 12) c
      · rw [(sf_c h hc).1 hs, za_bnd, if_neg za_n10]; exact Or.inr ⟨_, hn, hs, rfl⟩
      · rw [(sf_c h hc).2 hs, za_bnd, if_pos rfl]
        exact Or.inl ⟨rfl, fun ⟨d, h1, h2⟩ => by rw [hn] at h1; cases h1; exact hs h2⟩
    · rw [sf_o (by omega) (by omega), za_bnd, if_pos rfl]
      exact Or.inl ⟨rfl, fun ⟨d, h1, h2⟩ => by unfold nbN at h1; simp [h] at h1⟩
  have n2 : (fX4_strangersFarmBeside_J45 (w + 1) C (nI c) = fX4_strangersFarmBeside_J69 (w + 1) C (nI c) ∧ ¬ hit w C c 2) ∨ ∃ d, nbN c 2 = some d ∧ sfm w C d c ∧ fX4_strangersFarmBeside_J45 (w + 1) C (nI c) = some (nI d) := by
    unfold fX4_strangersFarmBeside_J45
    rw [za_irm (by omega) (by omega) (by omega), nI_add]
    by_cases h : c % 12 < 11
    · have hn : nbN c 2 = some (c + 1) := by unfold nbN; simp [h]
      rw [if_neg (nI_ge h (by omega))]
      by_cases hs : sfm w C (c + 1) c
      · rw [(sf_c (by omega) hc).1 hs, za_bnd, if_neg za_n10]; exact Or.inr ⟨_, hn, hs, rfl⟩
      · rw [(sf_c (by omega) hc).2 hs, za_bnd, if_pos rfl]
        exact Or.inl ⟨rfl, fun ⟨d, h1, h2⟩ => by rw [hn] at h1; cases h1; exact hs h2⟩
    · rw [if_pos (nI_le (by omega) (by omega))]
      exact Or.inl ⟨rfl, fun ⟨d, h1, h2⟩ => by unfold nbN at h1; simp [h] at h1⟩
  have n1 : (fX4_strangersFarmBeside_J23 (w + 1) C (nI c) = fX4_strangersFarmBeside_J45 (w + 1) C (nI c) ∧ ¬ hit w C c 1) ∨ ∃ d, nbN c 1 = some d ∧ sfm w C d c ∧ fX4_strangersFarmBeside_J23 (w + 1) C (nI c) = some (nI d) := by
    unfold fX4_strangersFarmBeside_J23
    rw [za_irm (by omega) (by omega) (by omega)]
    by_cases h : 0 < c % 12
    · have hn : nbN c 1 = some (c - 1) := by unfold nbN; simp [h]
      rw [if_neg (nI_nle h (by omega)), za_sub (by omega)]
      by_cases hs : sfm w C (c - 1) c
      · rw [(sf_c (by omega) hc).1 hs, za_bnd, if_neg za_n10]; exact Or.inr ⟨_, hn, hs, rfl⟩
      · rw [(sf_c (by omega) hc).2 hs, za_bnd, if_pos rfl]
        exact Or.inl ⟨rfl, fun ⟨d, h1, h2⟩ => by rw [hn] at h1; cases h1; exact hs h2⟩
    · rw [if_pos ((za_le0 (by omega)).mpr (by omega))]
      exact Or.inl ⟨rfl, fun ⟨d, h1, h2⟩ => by unfold nbN at h1; simp [h] at h1⟩
  have n0 : (fX4_strangersFarmBeside C (w + 1) (nI c) = fX4_strangersFarmBeside_J23 (w + 1) C (nI c) ∧ ¬ hit w C c 0) ∨ ∃ d, nbN c 0 = some d ∧ sfm w C d c ∧ fX4_strangersFarmBeside C (w + 1) (nI c) = some (nI d) := by
    unfold fX4_strangersFarmBeside
    by_cases h : 12 ≤ c
    · have hn : nbN c 0 = some (c - 12) := by unfold nbN; simp [h]
      rw [if_neg (nI_nlt h (by omega)), za_sub h]
      by_cases hs : sfm w C (c - 12) c
      · rw [(sf_c (by omega) hc).1 hs, za_bnd, if_neg za_n10]; exact Or.inr ⟨_, hn, hs, rfl⟩
      · rw [(sf_c (by omega) hc).2 hs, za_bnd, if_pos rfl]
        exact Or.inl ⟨rfl, fun ⟨d, h1, h2⟩ => by rw [hn] at h1; cases h1; exact hs h2⟩
    · rw [if_pos (nI_lt (by omega) (by omega))]
      exact Or.inl ⟨rfl, fun ⟨d, h1, h2⟩ => by unfold nbN at h1; simp [h] at h1⟩
  rcases n0 with ⟨e0, h0⟩ | ⟨d, d1, d2, d3⟩
  · rcases n1 with ⟨e1, h1⟩ | ⟨d, d1, d2, d3⟩
    · rcases n2 with ⟨e2, h2⟩ | ⟨d, d1, d2, d3⟩
      · rcases n3 with ⟨e3, h3⟩ | ⟨d, d1, d2, d3⟩
        · refine ⟨-1, by rw [e0, e1, e2, e3], Or.inl ⟨rfl, fun k hk => ?_⟩⟩
          rcases (show k = 0 ∨ k = 1 ∨ k = 2 ∨ k = 3 by omega) with rfl | rfl | rfl | rfl <;> assumption
        · refine ⟨nI d, by rw [e0, e1, e2, d3], Or.inr ⟨3, d, by omega, d1, d2, rfl, fun k hk => ?_⟩⟩
          rcases (show k = 0 ∨ k = 1 ∨ k = 2 by omega) with rfl | rfl | rfl <;> assumption
      · refine ⟨nI d, by rw [e0, e1, d3], Or.inr ⟨2, d, by omega, d1, d2, rfl, fun k hk => ?_⟩⟩
        rcases (show k = 0 ∨ k = 1 by omega) with rfl | rfl <;> assumption
    · refine ⟨nI d, by rw [e0, d3], Or.inr ⟨1, d, by omega, d1, d2, rfl, fun k hk => ?_⟩⟩
      obtain rfl : k = 0 := by omega
      assumption
  · exact ⟨nI d, d3, Or.inr ⟨0, d, by omega, d1, d2, rfl, fun k hk => absurd hk (by omega)⟩⟩
/-- the reference's loop: the same -/
theorem sfb_r {c : Nat} {X2 : Int32} (h : RW w n t x a y C R) (hc : c < 96) (r : Int32) (hr : (r = -1 ∧ ∀ k, k < 4 → ¬ hit w C c k) ∨ ∃ k d, k < 4 ∧ nbN c k = some d ∧ sfm w C d c ∧ r = nI d ∧ ∀ k', k' < k → ¬ hit w C c k') : ∀ j fu i, i + j = 4 → j < fu → (∀ k', k' < i → ¬ hit w C c k') → fX12_strays_L57 (fu + 1) R (nI c) X2 (C (w + 6) c) (-1) (nI i) = fX12_strays_J115 R (nI c) X2 (C (w + 6) c) r
  | j, 0, _, _, hf, _ => by omega
  | 0, fu + 1, i, hi, _, hn => by
    obtain rfl : i = 4 := by omega
    rw [fX12_strays_L57, if_pos (nI_le (Nat.le_refl _) (by omega))]
    rcases hr with ⟨rfl, _⟩ | ⟨k, d, k1, k2, k3, _⟩
    · rfl
    · exact absurd ⟨d, k2, k3⟩ (hn k k1)
  | j + 1, fu + 1, i, hi, hf, hn => by
    rw [fX12_strays_L57, if_neg (nI_ge (by omega) (by omega)), if_neg (by decide), beside_ok hc (by omega), za_bnd]
    unfold fX12_strays_J109
    simp only [nI_add]
    have skip : ¬ hit w C c i → fX12_strays_L57 (fu + 1) R (nI c) X2 (C (w + 6) c) (-1) (nI (i + 1)) = fX12_strays_J115 R (nI c) X2 (C (w + 6) c) r := fun hh => by
      refine sfb_r h hc r hr j fu (i + 1) (by omega) (by omega) (fun k' hk' => ?_)
      by_cases e : k' = i
      · subst e; exact hh
      · exact hn k' (by omega)
    cases hnb : nbN c i with
    | none =>
      have hI : nbI c i = -1 := by unfold nbI; rw [hnb]
      rw [hI, if_pos za_m1lt0]
      exact skip (fun ⟨d, h1, _⟩ => by rw [hnb] at h1; cases h1)
    | some d =>
      have hI : nbI c i = nI d := by unfold nbI; rw [hnb]
      obtain ⟨hd, _⟩ := nb_lt hc hnb
      rw [hI, if_neg (nI_pos (by omega)), rf_sec0 hd, za_bnd, rf_isFarm, za_bnd, ra_hold h.1 hd]
      by_cases hf3 : C (w + 5) d = nI 3 ∨ C (w + 5) d = nI 5
      · rw [if_pos hf3, if_neg za_n10, rf_sec hd (by omega), za_bnd, ra_own h.1 hd]
        by_cases ho : C (w + 6) d = C (w + 6) c
        · rw [if_pos ho]
          exact skip (fun ⟨d', h1, h2⟩ => by rw [hnb] at h1; cases h1; exact h2.2 ho)
        · rw [if_neg ho]
          have hit0 : hit w C c i := ⟨d, hnb, hf3, ho⟩
          have hrd : r = nI d := by
            rcases hr with ⟨_, q⟩ | ⟨k, d', k1, k2, k3, k4, k5⟩
            · exact absurd hit0 (q i (by omega))
            · have : k = i := by
                by_cases e1 : k < i
                · exact absurd ⟨d', k2, k3⟩ (hn k e1)
                · by_cases e2 : i < k
                  · exact absurd hit0 (k5 i e2)
                  · omega
              subst this
              rw [hnb] at k2; cases k2; exact k4
          rw [fX12_strays_L57, hrd]
          by_cases h4 : nI 4 ≤ nI (i + 1)
          · rw [if_pos h4]
          · rw [if_neg h4, if_pos (nI_pos' (by omega))]
      · rw [if_neg hf3, if_pos rfl]
        exact skip (fun ⟨d', h1, h2⟩ => by rw [hnb] at h1; cases h1; exact hf3 h2.1)
end ST
