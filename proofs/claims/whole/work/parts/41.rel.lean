/-! ===== the paired places: family f, index i: class cell w + fA f, place fJ f + i; reference cell fC f, place fB f + fS f * i ===== -/
def fams : List (Nat × Nat × Nat × Nat × Nat × Nat) := [(5, 0, 128, 0, 8, 96), (6, 0, 128, 1, 8, 96), (8, 0, 128, 3, 8, 96), (9, 0, 128, 4, 8, 96), (10, 0, 128, 5, 8, 96), (11, 0, 128, 6, 8, 96), (2, 0, 130, 0, 1, 96), (3, 0, 131, 0, 1, 0), (16, 0, 128, 768, 8, 100), (17, 0, 128, 769, 8, 100), (18, 0, 128, 770, 8, 100), (19, 0, 128, 771, 8, 100), (25, 0, 128, 772, 8, 100), (26, 0, 128, 773, 8, 100), (22, 0, 128, 774, 8, 100), (12, 0, 128, 2104, 1, 4), (13, 0, 128, 2108, 1, 4), (14, 0, 128, 2112, 1, 4), (28, 0, 128, 1720, 15, 4), (29, 0, 128, 1721, 15, 4), (30, 0, 128, 1722, 15, 4), (33, 0, 128, 1640, 4, 20), (34, 0, 128, 1641, 4, 20), (35, 0, 128, 1642, 4, 20), (36, 0, 128, 1643, 4, 20), (38, 0, 128, 1568, 6, 12), (39, 0, 128, 1571, 6, 12), (15, 0, 128, 2124, 1, 1), (15, 2, 128, 2122, 1, 1), (15, 3, 128, 2128, 1, 1), (0, 6, 128, 2116, 1, 1), (0, 7, 128, 2117, 1, 1), (0, 8, 128, 2118, 1, 1), (0, 9, 128, 2119, 1, 1), (27, 0, 128, 2127, 1, 1), (32, 0, 128, 2126, 1, 1), (32, 1, 128, 2123, 1, 1), (37, 1, 128, 2125, 1, 1), (0, 10, 127, 23, 1, 1), (0, 11, 127, 24, 1, 1), (0, 12, 127, 7, 1, 1)]
def fA (f : Nat) : Nat := (fams.getD f (0, 0, 0, 0, 0, 0)).1
def fJ (f : Nat) : Nat := (fams.getD f (0, 0, 0, 0, 0, 0)).2.1
def fC (f : Nat) : Nat := (fams.getD f (0, 0, 0, 0, 0, 0)).2.2.1
def fB (f : Nat) : Nat := (fams.getD f (0, 0, 0, 0, 0, 0)).2.2.2.1
def fS (f : Nat) : Nat := (fams.getD f (0, 0, 0, 0, 0, 0)).2.2.2.2.1
def fN (f : Nat) : Nat := (fams.getD f (0, 0, 0, 0, 0, 0)).2.2.2.2.2
def fAi (a j : Nat) : Nat := match a with
  | 0 => if j = 6 then 30 else if j = 7 then 31 else if j = 8 then 32 else if j = 9 then 33 else if j = 10 then 38 else if j = 11 then 39 else if j = 12 then 40 else 99
  | 2 => 6
  | 3 => 7
  | 5 => 0
  | 6 => 1
  | 8 => 2
  | 9 => 3
  | 10 => 4
  | 11 => 5
  | 12 => 15
  | 13 => 16
  | 14 => 17
  | 15 => if j = 0 then 27 else if j = 2 then 28 else if j = 3 then 29 else 99
  | 16 => 8
  | 17 => 9
  | 18 => 10
  | 19 => 11
  | 22 => 14
  | 25 => 12
  | 26 => 13
  | 27 => if j = 0 then 34 else 99
  | 28 => 18
  | 29 => 19
  | 30 => 20
  | 32 => if j = 0 then 35 else if j = 1 then 36 else 99
  | 33 => 21
  | 34 => 22
  | 35 => 23
  | 36 => 24
  | 37 => if j = 1 then 37 else 99
  | 38 => 25
  | 39 => 26
  | _ => 99
def fRi (c k : Nat) : Nat := if c = 130 then 6 else if c = 131 then 7 else if c = 127 then (if k = 23 then 38 else if k = 24 then 39 else if k = 7 then 40 else 99) else if k < 768 then (if k % 8 = 0 then 0 else if k % 8 = 1 then 1 else if k % 8 = 3 then 2 else if k % 8 = 4 then 3 else if k % 8 = 5 then 4 else if k % 8 = 6 then 5 else 99) else if k < 1568 then (if k % 8 = 0 then 8 else if k % 8 = 1 then 9 else if k % 8 = 2 then 10 else if k % 8 = 3 then 11 else if k % 8 = 4 then 12 else if k % 8 = 5 then 13 else if k % 8 = 6 then 14 else 99) else if k < 1640 then (if (k - 1568) % 6 = 0 then 25 else if (k - 1568) % 6 = 3 then 26 else 99) else if k < 1720 then (if k % 4 = 0 then 21 else if k % 4 = 1 then 22 else if k % 4 = 2 then 23 else if k % 4 = 3 then 24 else 99) else if k < 1780 then (if (k - 1720) % 15 = 0 then 18 else if (k - 1720) % 15 = 1 then 19 else if (k - 1720) % 15 = 2 then 20 else 99) else if k < 2104 then 99 else if k < 2108 then 15 else if k < 2112 then 16 else if k < 2116 then 17 else if k = 2124 then 27 else if k = 2122 then 28 else if k = 2128 then 29 else if k = 2116 then 30 else if k = 2117 then 31 else if k = 2118 then 32 else if k = 2119 then 33 else if k = 2127 then 34 else if k = 2126 then 35 else if k = 2123 then 36 else if k = 2125 then 37 else 99
def faok : Bool := (List.range 41).all fun f => (List.range (fN f)).all fun i => fAi (fA f) (fJ f + i) == f && fRi (fC f) (fB f + fS f * i) == f && decide (0 < fS f)
theorem faok_t : faok = true := by decide +kernel
theorem fa_ok {f i : Nat} (hf : f < 41) (hi : i < fN f) : fAi (fA f) (fJ f + i) = f ∧ fRi (fC f) (fB f + fS f * i) = f ∧ 0 < fS f := by
  have h := faok_t
  unfold faok at h
  have h1 := List.all_eq_true.mp h f (List.mem_range.mpr hf)
  have h2 := List.all_eq_true.mp h1 i (List.mem_range.mpr hi)
  simp only [Bool.and_eq_true, beq_iff_eq, decide_eq_true_eq] at h2
  exact ⟨h2.1.1, h2.1.2, h2.2⟩
/-- class and reference hold the same at all paired places -/
def RA (w : Nat) (C R : Mc) : Prop := ∀ f i, f < 41 → i < fN f → R (fC f) (fB f + fS f * i) = C (w + fA f) (fJ f + i)
theorem ra_cw {w f i f' i' : Nat} {C : Mc} {v : Int32} (hf : f < 41) (hi : i < fN f) (hf' : f' < 41) (hi' : i' < fN f') : wr C (w + fA f) (fJ f + i) v (w + fA f') (fJ f' + i') = if f' = f ∧ i' = i then v else C (w + fA f') (fJ f' + i') := by
  unfold wr
  have h1 := (fa_ok hf hi).1
  have h2 := (fa_ok hf' hi').1
  by_cases h : f' = f ∧ i' = i
  · obtain ⟨rfl, rfl⟩ := h
    rw [if_pos ⟨rfl, rfl⟩, if_pos ⟨rfl, rfl⟩]
  · rw [if_neg h, if_neg]
    rintro ⟨q1, q2⟩
    have q1 : fA f' = fA f := by omega
    have : f' = f := by rw [← h1, ← h2, q1, q2]
    subst this
    exact h ⟨rfl, by omega⟩
theorem ra_rw {f i f' i' : Nat} {R : Mc} {v : Int32} (hf : f < 41) (hi : i < fN f) (hf' : f' < 41) (hi' : i' < fN f') : wr R (fC f) (fB f + fS f * i) v (fC f') (fB f' + fS f' * i') = if f' = f ∧ i' = i then v else R (fC f') (fB f' + fS f' * i') := by
  unfold wr
  have h1 := (fa_ok hf hi).2.1
  have h2 := (fa_ok hf' hi').2.1
  have h3 := (fa_ok hf hi).2.2
  by_cases h : f' = f ∧ i' = i
  · obtain ⟨rfl, rfl⟩ := h
    rw [if_pos ⟨rfl, rfl⟩, if_pos ⟨rfl, rfl⟩]
  · rw [if_neg h, if_neg]
    rintro ⟨q1, q2⟩
    have : f' = f := by rw [← h1, ← h2, q1, q2]
    subst this
    refine h ⟨rfl, ?_⟩
    exact Nat.eq_of_mul_eq_mul_left h3 (by omega)
theorem ra_cj {w a j f' i' : Nat} {C : Mc} {v : Int32} (ha : fAi a j = 99) (hf' : f' < 41) (hi' : i' < fN f') : wr C (w + a) j v (w + fA f') (fJ f' + i') = C (w + fA f') (fJ f' + i') := by
  unfold wr
  have h2 := (fa_ok hf' hi').1
  refine if_neg ?_
  rintro ⟨q1, q2⟩
  have q1 : fA f' = a := by omega
  rw [q1, q2, ha] at h2
  omega
theorem ra_rj {c k f' i' : Nat} {R : Mc} {v : Int32} (ha : c = 128 → fRi c k = 99) (hc : c ≠ 130) (hd : c ≠ 131) (he : c = 127 → k ≠ 23 ∧ k ≠ 24 ∧ k ≠ 7) (hf' : f' < 41) (hi' : i' < fN f') : wr R c k v (fC f') (fB f' + fS f' * i') = R (fC f') (fB f' + fS f' * i') := by
  unfold wr
  have h2 := (fa_ok hf' hi').2.1
  refine if_neg ?_
  rintro ⟨q1, q2⟩
  rw [q1, q2] at h2
  by_cases hb : c = 128
  · rw [ha hb] at h2; omega
  by_cases hb7 : c = 127
  · have := he hb7
    subst hb7
    unfold fRi at h2
    simp [this.1, this.2.1, this.2.2] at h2
    omega
  · have : f' < 41 → fC f' = 127 ∨ fC f' = 128 ∨ fC f' = 130 ∨ fC f' = 131 := by
      clear h2 q1 q2 hi'
      revert f'
      decide +kernel
    rcases this hf' with h | h | h | h <;> omega

theorem ra_hold {w i : Nat} {C R : Mc} (h : RA w C R) (hi : i < 96) : R 128 (8 * i) = C (w + 5) i := by
  have := h 0 i (by decide) hi
  change R 128 (0 + 8 * i) = C (w + 5) (0 + i) at this
  rwa [show 0 + 8 * i = 8 * i from by omega, Nat.zero_add] at this
theorem rc_hold {w i f' i' : Nat} {C : Mc} {v : Int32} (hi : i < 96) (hf' : f' < 41) (hi' : i' < fN f') : wr C (w + 5) i v (w + fA f') (fJ f' + i') = if f' = 0 ∧ i' = i then v else C (w + fA f') (fJ f' + i') := by
  have := ra_cw (w := w) (f := 0) (i := i) (C := C) (v := v) (by decide) hi hf' hi'
  change wr C (w + 5) (0 + i) v _ _ = _ at this
  rwa [Nat.zero_add] at this
theorem rr_hold {i f' i' : Nat} {R : Mc} {v : Int32} (hi : i < 96) (hf' : f' < 41) (hi' : i' < fN f') : wr R 128 (8 * i) v (fC f') (fB f' + fS f' * i') = if f' = 0 ∧ i' = i then v else R (fC f') (fB f' + fS f' * i') := by
  have := ra_rw (f := 0) (i := i) (R := R) (v := v) (by decide) hi hf' hi'
  change wr R 128 (0 + 8 * i) v _ _ = _ at this
  rwa [show 0 + 8 * i = 8 * i from by omega] at this
theorem ra_own {w i : Nat} {C R : Mc} (h : RA w C R) (hi : i < 96) : R 128 (8 * i + 1) = C (w + 6) i := by
  have := h 1 i (by decide) hi
  change R 128 (1 + 8 * i) = C (w + 6) (0 + i) at this
  rwa [show 1 + 8 * i = 8 * i + 1 from by omega, Nat.zero_add] at this
theorem rc_own {w i f' i' : Nat} {C : Mc} {v : Int32} (hi : i < 96) (hf' : f' < 41) (hi' : i' < fN f') : wr C (w + 6) i v (w + fA f') (fJ f' + i') = if f' = 1 ∧ i' = i then v else C (w + fA f') (fJ f' + i') := by
  have := ra_cw (w := w) (f := 1) (i := i) (C := C) (v := v) (by decide) hi hf' hi'
  change wr C (w + 6) (0 + i) v _ _ = _ at this
  rwa [Nat.zero_add] at this
theorem rr_own {i f' i' : Nat} {R : Mc} {v : Int32} (hi : i < 96) (hf' : f' < 41) (hi' : i' < fN f') : wr R 128 (8 * i + 1) v (fC f') (fB f' + fS f' * i') = if f' = 1 ∧ i' = i then v else R (fC f') (fB f' + fS f' * i') := by
  have := ra_rw (f := 1) (i := i) (R := R) (v := v) (by decide) hi hf' hi'
  change wr R 128 (1 + 8 * i) v _ _ = _ at this
  rwa [show 1 + 8 * i = 8 * i + 1 from by omega] at this
theorem ra_stk {w i : Nat} {C R : Mc} (h : RA w C R) (hi : i < 96) : R 128 (8 * i + 3) = C (w + 8) i := by
  have := h 2 i (by decide) hi
  change R 128 (3 + 8 * i) = C (w + 8) (0 + i) at this
  rwa [show 3 + 8 * i = 8 * i + 3 from by omega, Nat.zero_add] at this
theorem rc_stk {w i f' i' : Nat} {C : Mc} {v : Int32} (hi : i < 96) (hf' : f' < 41) (hi' : i' < fN f') : wr C (w + 8) i v (w + fA f') (fJ f' + i') = if f' = 2 ∧ i' = i then v else C (w + fA f') (fJ f' + i') := by
  have := ra_cw (w := w) (f := 2) (i := i) (C := C) (v := v) (by decide) hi hf' hi'
  change wr C (w + 8) (0 + i) v _ _ = _ at this
  rwa [Nat.zero_add] at this
theorem rr_stk {i f' i' : Nat} {R : Mc} {v : Int32} (hi : i < 96) (hf' : f' < 41) (hi' : i' < fN f') : wr R 128 (8 * i + 3) v (fC f') (fB f' + fS f' * i') = if f' = 2 ∧ i' = i then v else R (fC f') (fB f' + fS f' * i') := by
  have := ra_rw (f := 2) (i := i) (R := R) (v := v) (by decide) hi hf' hi'
  change wr R 128 (3 + 8 * i) v _ _ = _ at this
  rwa [show 3 + 8 * i = 8 * i + 3 from by omega] at this
theorem ra_fen {w i : Nat} {C R : Mc} (h : RA w C R) (hi : i < 96) : R 128 (8 * i + 4) = C (w + 9) i := by
  have := h 3 i (by decide) hi
  change R 128 (4 + 8 * i) = C (w + 9) (0 + i) at this
  rwa [show 4 + 8 * i = 8 * i + 4 from by omega, Nat.zero_add] at this
theorem rc_fen {w i f' i' : Nat} {C : Mc} {v : Int32} (hi : i < 96) (hf' : f' < 41) (hi' : i' < fN f') : wr C (w + 9) i v (w + fA f') (fJ f' + i') = if f' = 3 ∧ i' = i then v else C (w + fA f') (fJ f' + i') := by
  have := ra_cw (w := w) (f := 3) (i := i) (C := C) (v := v) (by decide) hi hf' hi'
  change wr C (w + 9) (0 + i) v _ _ = _ at this
  rwa [Nat.zero_add] at this
theorem rr_fen {i f' i' : Nat} {R : Mc} {v : Int32} (hi : i < 96) (hf' : f' < 41) (hi' : i' < fN f') : wr R 128 (8 * i + 4) v (fC f') (fB f' + fS f' * i') = if f' = 3 ∧ i' = i then v else R (fC f') (fB f' + fS f' * i') := by
  have := ra_rw (f := 3) (i := i) (R := R) (v := v) (by decide) hi hf' hi'
  change wr R 128 (4 + 8 * i) v _ _ = _ at this
  rwa [show 4 + 8 * i = 8 * i + 4 from by omega] at this
theorem ra_paid {w i : Nat} {C R : Mc} (h : RA w C R) (hi : i < 96) : R 128 (8 * i + 5) = C (w + 10) i := by
  have := h 4 i (by decide) hi
  change R 128 (5 + 8 * i) = C (w + 10) (0 + i) at this
  rwa [show 5 + 8 * i = 8 * i + 5 from by omega, Nat.zero_add] at this
theorem rc_paid {w i f' i' : Nat} {C : Mc} {v : Int32} (hi : i < 96) (hf' : f' < 41) (hi' : i' < fN f') : wr C (w + 10) i v (w + fA f') (fJ f' + i') = if f' = 4 ∧ i' = i then v else C (w + fA f') (fJ f' + i') := by
  have := ra_cw (w := w) (f := 4) (i := i) (C := C) (v := v) (by decide) hi hf' hi'
  change wr C (w + 10) (0 + i) v _ _ = _ at this
  rwa [Nat.zero_add] at this
theorem rr_paid {i f' i' : Nat} {R : Mc} {v : Int32} (hi : i < 96) (hf' : f' < 41) (hi' : i' < fN f') : wr R 128 (8 * i + 5) v (fC f') (fB f' + fS f' * i') = if f' = 4 ∧ i' = i then v else R (fC f') (fB f' + fS f' * i') := by
  have := ra_rw (f := 4) (i := i) (R := R) (v := v) (by decide) hi hf' hi'
  change wr R 128 (5 + 8 * i) v _ _ = _ at this
  rwa [show 5 + 8 * i = 8 * i + 5 from by omega] at this
theorem ra_tel {w i : Nat} {C R : Mc} (h : RA w C R) (hi : i < 96) : R 128 (8 * i + 6) = C (w + 11) i := by
  have := h 5 i (by decide) hi
  change R 128 (6 + 8 * i) = C (w + 11) (0 + i) at this
  rwa [show 6 + 8 * i = 8 * i + 6 from by omega, Nat.zero_add] at this
theorem rc_tel {w i f' i' : Nat} {C : Mc} {v : Int32} (hi : i < 96) (hf' : f' < 41) (hi' : i' < fN f') : wr C (w + 11) i v (w + fA f') (fJ f' + i') = if f' = 5 ∧ i' = i then v else C (w + fA f') (fJ f' + i') := by
  have := ra_cw (w := w) (f := 5) (i := i) (C := C) (v := v) (by decide) hi hf' hi'
  change wr C (w + 11) (0 + i) v _ _ = _ at this
  rwa [Nat.zero_add] at this
theorem rr_tel {i f' i' : Nat} {R : Mc} {v : Int32} (hi : i < 96) (hf' : f' < 41) (hi' : i' < fN f') : wr R 128 (8 * i + 6) v (fC f') (fB f' + fS f' * i') = if f' = 5 ∧ i' = i then v else R (fC f') (fB f' + fS f' * i') := by
  have := ra_rw (f := 5) (i := i) (R := R) (v := v) (by decide) hi hf' hi'
  change wr R 128 (6 + 8 * i) v _ _ = _ at this
  rwa [show 6 + 8 * i = 8 * i + 6 from by omega] at this
theorem ra_soil {w i : Nat} {C R : Mc} (h : RA w C R) (hi : i < 96) : R 130 i = C (w + 2) i := by
  have := h 6 i (by decide) hi
  change R 130 (0 + 1 * i) = C (w + 2) (0 + i) at this
  rwa [show 0 + 1 * i = i from by omega, Nat.zero_add] at this
theorem rc_soil {w i f' i' : Nat} {C : Mc} {v : Int32} (hi : i < 96) (hf' : f' < 41) (hi' : i' < fN f') : wr C (w + 2) i v (w + fA f') (fJ f' + i') = if f' = 6 ∧ i' = i then v else C (w + fA f') (fJ f' + i') := by
  have := ra_cw (w := w) (f := 6) (i := i) (C := C) (v := v) (by decide) hi hf' hi'
  change wr C (w + 2) (0 + i) v _ _ = _ at this
  rwa [Nat.zero_add] at this
theorem rr_soil {i f' i' : Nat} {R : Mc} {v : Int32} (hi : i < 96) (hf' : f' < 41) (hi' : i' < fN f') : wr R 130 i v (fC f') (fB f' + fS f' * i') = if f' = 6 ∧ i' = i then v else R (fC f') (fB f' + fS f' * i') := by
  have := ra_rw (f := 6) (i := i) (R := R) (v := v) (by decide) hi hf' hi'
  change wr R 130 (0 + 1 * i) v _ _ = _ at this
  rwa [show 0 + 1 * i = i from by omega] at this
theorem rk_wet {i f' i' : Nat} {R : Mc} {v : Int32} (hf' : f' < 41) (hi' : i' < fN f') : wr R 131 i v (fC f') (fB f' + fS f' * i') = R (fC f') (fB f' + fS f' * i') := by
  unfold wr
  refine if_neg (fun q => ?_)
  have h : ∀ f, f < 41 → fC f = 131 → fN f = 0 := by decide +kernel
  have := h f' hf' q.1
  omega
theorem ra_trade {w i : Nat} {C R : Mc} (h : RA w C R) (hi : i < 100) : R 128 (768 + 8 * i) = C (w + 16) i := by
  have := h 8 i (by decide) hi
  change R 128 (768 + 8 * i) = C (w + 16) (0 + i) at this
  rwa [show 768 + 8 * i = 768 + 8 * i from by omega, Nat.zero_add] at this
theorem rc_trade {w i f' i' : Nat} {C : Mc} {v : Int32} (hi : i < 100) (hf' : f' < 41) (hi' : i' < fN f') : wr C (w + 16) i v (w + fA f') (fJ f' + i') = if f' = 8 ∧ i' = i then v else C (w + fA f') (fJ f' + i') := by
  have := ra_cw (w := w) (f := 8) (i := i) (C := C) (v := v) (by decide) hi hf' hi'
  change wr C (w + 16) (0 + i) v _ _ = _ at this
  rwa [Nat.zero_add] at this
theorem rr_trade {i f' i' : Nat} {R : Mc} {v : Int32} (hi : i < 100) (hf' : f' < 41) (hi' : i' < fN f') : wr R 128 (768 + 8 * i) v (fC f') (fB f' + fS f' * i') = if f' = 8 ∧ i' = i then v else R (fC f') (fB f' + fS f' * i') := by
  have := ra_rw (f := 8) (i := i) (R := R) (v := v) (by decide) hi hf' hi'
  change wr R 128 (768 + 8 * i) v _ _ = _ at this
  rwa [show 768 + 8 * i = 768 + 8 * i from by omega] at this
theorem ra_coin {w i : Nat} {C R : Mc} (h : RA w C R) (hi : i < 100) : R 128 (768 + 8 * i + 1) = C (w + 17) i := by
  have := h 9 i (by decide) hi
  change R 128 (769 + 8 * i) = C (w + 17) (0 + i) at this
  rwa [show 769 + 8 * i = 768 + 8 * i + 1 from by omega, Nat.zero_add] at this
theorem rc_coin {w i f' i' : Nat} {C : Mc} {v : Int32} (hi : i < 100) (hf' : f' < 41) (hi' : i' < fN f') : wr C (w + 17) i v (w + fA f') (fJ f' + i') = if f' = 9 ∧ i' = i then v else C (w + fA f') (fJ f' + i') := by
  have := ra_cw (w := w) (f := 9) (i := i) (C := C) (v := v) (by decide) hi hf' hi'
  change wr C (w + 17) (0 + i) v _ _ = _ at this
  rwa [Nat.zero_add] at this
theorem rr_coin {i f' i' : Nat} {R : Mc} {v : Int32} (hi : i < 100) (hf' : f' < 41) (hi' : i' < fN f') : wr R 128 (768 + 8 * i + 1) v (fC f') (fB f' + fS f' * i') = if f' = 9 ∧ i' = i then v else R (fC f') (fB f' + fS f' * i') := by
  have := ra_rw (f := 9) (i := i) (R := R) (v := v) (by decide) hi hf' hi'
  change wr R 128 (769 + 8 * i) v _ _ = _ at this
  rwa [show 769 + 8 * i = 768 + 8 * i + 1 from by omega] at this
theorem ra_st {w i : Nat} {C R : Mc} (h : RA w C R) (hi : i < 100) : R 128 (768 + 8 * i + 2) = C (w + 18) i := by
  have := h 10 i (by decide) hi
  change R 128 (770 + 8 * i) = C (w + 18) (0 + i) at this
  rwa [show 770 + 8 * i = 768 + 8 * i + 2 from by omega, Nat.zero_add] at this
theorem rc_st {w i f' i' : Nat} {C : Mc} {v : Int32} (hi : i < 100) (hf' : f' < 41) (hi' : i' < fN f') : wr C (w + 18) i v (w + fA f') (fJ f' + i') = if f' = 10 ∧ i' = i then v else C (w + fA f') (fJ f' + i') := by
  have := ra_cw (w := w) (f := 10) (i := i) (C := C) (v := v) (by decide) hi hf' hi'
  change wr C (w + 18) (0 + i) v _ _ = _ at this
  rwa [Nat.zero_add] at this
theorem rr_st {i f' i' : Nat} {R : Mc} {v : Int32} (hi : i < 100) (hf' : f' < 41) (hi' : i' < fN f') : wr R 128 (768 + 8 * i + 2) v (fC f') (fB f' + fS f' * i') = if f' = 10 ∧ i' = i then v else R (fC f') (fB f' + fS f' * i') := by
  have := ra_rw (f := 10) (i := i) (R := R) (v := v) (by decide) hi hf' hi'
  change wr R 128 (770 + 8 * i) v _ _ = _ at this
  rwa [show 770 + 8 * i = 768 + 8 * i + 2 from by omega] at this
theorem ra_boss {w i : Nat} {C R : Mc} (h : RA w C R) (hi : i < 100) : R 128 (768 + 8 * i + 3) = C (w + 19) i := by
  have := h 11 i (by decide) hi
  change R 128 (771 + 8 * i) = C (w + 19) (0 + i) at this
  rwa [show 771 + 8 * i = 768 + 8 * i + 3 from by omega, Nat.zero_add] at this
theorem rc_boss {w i f' i' : Nat} {C : Mc} {v : Int32} (hi : i < 100) (hf' : f' < 41) (hi' : i' < fN f') : wr C (w + 19) i v (w + fA f') (fJ f' + i') = if f' = 11 ∧ i' = i then v else C (w + fA f') (fJ f' + i') := by
  have := ra_cw (w := w) (f := 11) (i := i) (C := C) (v := v) (by decide) hi hf' hi'
  change wr C (w + 19) (0 + i) v _ _ = _ at this
  rwa [Nat.zero_add] at this
theorem rr_boss {i f' i' : Nat} {R : Mc} {v : Int32} (hi : i < 100) (hf' : f' < 41) (hi' : i' < fN f') : wr R 128 (768 + 8 * i + 3) v (fC f') (fB f' + fS f' * i') = if f' = 11 ∧ i' = i then v else R (fC f') (fB f' + fS f' * i') := by
  have := ra_rw (f := 11) (i := i) (R := R) (v := v) (by decide) hi hf' hi'
  change wr R 128 (771 + 8 * i) v _ _ = _ at this
  rwa [show 771 + 8 * i = 768 + 8 * i + 3 from by omega] at this
theorem ra_hun {w i : Nat} {C R : Mc} (h : RA w C R) (hi : i < 100) : R 128 (768 + 8 * i + 4) = C (w + 25) i := by
  have := h 12 i (by decide) hi
  change R 128 (772 + 8 * i) = C (w + 25) (0 + i) at this
  rwa [show 772 + 8 * i = 768 + 8 * i + 4 from by omega, Nat.zero_add] at this
theorem rc_hun {w i f' i' : Nat} {C : Mc} {v : Int32} (hi : i < 100) (hf' : f' < 41) (hi' : i' < fN f') : wr C (w + 25) i v (w + fA f') (fJ f' + i') = if f' = 12 ∧ i' = i then v else C (w + fA f') (fJ f' + i') := by
  have := ra_cw (w := w) (f := 12) (i := i) (C := C) (v := v) (by decide) hi hf' hi'
  change wr C (w + 25) (0 + i) v _ _ = _ at this
  rwa [Nat.zero_add] at this
theorem rr_hun {i f' i' : Nat} {R : Mc} {v : Int32} (hi : i < 100) (hf' : f' < 41) (hi' : i' < fN f') : wr R 128 (768 + 8 * i + 4) v (fC f') (fB f' + fS f' * i') = if f' = 12 ∧ i' = i then v else R (fC f') (fB f' + fS f' * i') := by
  have := ra_rw (f := 12) (i := i) (R := R) (v := v) (by decide) hi hf' hi'
  change wr R 128 (772 + 8 * i) v _ _ = _ at this
  rwa [show 772 + 8 * i = 768 + 8 * i + 4 from by omega] at this
theorem ra_land {w i : Nat} {C R : Mc} (h : RA w C R) (hi : i < 100) : R 128 (768 + 8 * i + 5) = C (w + 26) i := by
  have := h 13 i (by decide) hi
  change R 128 (773 + 8 * i) = C (w + 26) (0 + i) at this
  rwa [show 773 + 8 * i = 768 + 8 * i + 5 from by omega, Nat.zero_add] at this
theorem rc_land {w i f' i' : Nat} {C : Mc} {v : Int32} (hi : i < 100) (hf' : f' < 41) (hi' : i' < fN f') : wr C (w + 26) i v (w + fA f') (fJ f' + i') = if f' = 13 ∧ i' = i then v else C (w + fA f') (fJ f' + i') := by
  have := ra_cw (w := w) (f := 13) (i := i) (C := C) (v := v) (by decide) hi hf' hi'
  change wr C (w + 26) (0 + i) v _ _ = _ at this
  rwa [Nat.zero_add] at this
theorem rr_land {i f' i' : Nat} {R : Mc} {v : Int32} (hi : i < 100) (hf' : f' < 41) (hi' : i' < fN f') : wr R 128 (768 + 8 * i + 5) v (fC f') (fB f' + fS f' * i') = if f' = 13 ∧ i' = i then v else R (fC f') (fB f' + fS f' * i') := by
  have := ra_rw (f := 13) (i := i) (R := R) (v := v) (by decide) hi hf' hi'
  change wr R 128 (773 + 8 * i) v _ _ = _ at this
  rwa [show 773 + 8 * i = 768 + 8 * i + 5 from by omega] at this
theorem ra_ord {w i : Nat} {C R : Mc} (h : RA w C R) (hi : i < 100) : R 128 (768 + 8 * i + 6) = C (w + 22) i := by
  have := h 14 i (by decide) hi
  change R 128 (774 + 8 * i) = C (w + 22) (0 + i) at this
  rwa [show 774 + 8 * i = 768 + 8 * i + 6 from by omega, Nat.zero_add] at this
theorem rc_ord {w i f' i' : Nat} {C : Mc} {v : Int32} (hi : i < 100) (hf' : f' < 41) (hi' : i' < fN f') : wr C (w + 22) i v (w + fA f') (fJ f' + i') = if f' = 14 ∧ i' = i then v else C (w + fA f') (fJ f' + i') := by
  have := ra_cw (w := w) (f := 14) (i := i) (C := C) (v := v) (by decide) hi hf' hi'
  change wr C (w + 22) (0 + i) v _ _ = _ at this
  rwa [Nat.zero_add] at this
theorem rr_ord {i f' i' : Nat} {R : Mc} {v : Int32} (hi : i < 100) (hf' : f' < 41) (hi' : i' < fN f') : wr R 128 (768 + 8 * i + 6) v (fC f') (fB f' + fS f' * i') = if f' = 14 ∧ i' = i then v else R (fC f') (fB f' + fS f' * i') := by
  have := ra_rw (f := 14) (i := i) (R := R) (v := v) (by decide) hi hf' hi'
  change wr R 128 (774 + 8 * i) v _ _ = _ at this
  rwa [show 774 + 8 * i = 768 + 8 * i + 6 from by omega] at this
theorem ra_yr {w i : Nat} {C R : Mc} (h : RA w C R) (hi : i < 4) : R 128 (2104 + i) = C (w + 12) i := by
  have := h 15 i (by decide) hi
  change R 128 (2104 + 1 * i) = C (w + 12) (0 + i) at this
  rwa [show 2104 + 1 * i = 2104 + i from by omega, Nat.zero_add] at this
theorem rc_yr {w i f' i' : Nat} {C : Mc} {v : Int32} (hi : i < 4) (hf' : f' < 41) (hi' : i' < fN f') : wr C (w + 12) i v (w + fA f') (fJ f' + i') = if f' = 15 ∧ i' = i then v else C (w + fA f') (fJ f' + i') := by
  have := ra_cw (w := w) (f := 15) (i := i) (C := C) (v := v) (by decide) hi hf' hi'
  change wr C (w + 12) (0 + i) v _ _ = _ at this
  rwa [Nat.zero_add] at this
theorem rr_yr {i f' i' : Nat} {R : Mc} {v : Int32} (hi : i < 4) (hf' : f' < 41) (hi' : i' < fN f') : wr R 128 (2104 + i) v (fC f') (fB f' + fS f' * i') = if f' = 15 ∧ i' = i then v else R (fC f') (fB f' + fS f' * i') := by
  have := ra_rw (f := 15) (i := i) (R := R) (v := v) (by decide) hi hf' hi'
  change wr R 128 (2104 + 1 * i) v _ _ = _ at this
  rwa [show 2104 + 1 * i = 2104 + i from by omega] at this
theorem ra_sy {w i : Nat} {C R : Mc} (h : RA w C R) (hi : i < 4) : R 128 (2108 + i) = C (w + 13) i := by
  have := h 16 i (by decide) hi
  change R 128 (2108 + 1 * i) = C (w + 13) (0 + i) at this
  rwa [show 2108 + 1 * i = 2108 + i from by omega, Nat.zero_add] at this
theorem rc_sy {w i f' i' : Nat} {C : Mc} {v : Int32} (hi : i < 4) (hf' : f' < 41) (hi' : i' < fN f') : wr C (w + 13) i v (w + fA f') (fJ f' + i') = if f' = 16 ∧ i' = i then v else C (w + fA f') (fJ f' + i') := by
  have := ra_cw (w := w) (f := 16) (i := i) (C := C) (v := v) (by decide) hi hf' hi'
  change wr C (w + 13) (0 + i) v _ _ = _ at this
  rwa [Nat.zero_add] at this
theorem rr_sy {i f' i' : Nat} {R : Mc} {v : Int32} (hi : i < 4) (hf' : f' < 41) (hi' : i' < fN f') : wr R 128 (2108 + i) v (fC f') (fB f' + fS f' * i') = if f' = 16 ∧ i' = i then v else R (fC f') (fB f' + fS f' * i') := by
  have := ra_rw (f := 16) (i := i) (R := R) (v := v) (by decide) hi hf' hi'
  change wr R 128 (2108 + 1 * i) v _ _ = _ at this
  rwa [show 2108 + 1 * i = 2108 + i from by omega] at this
theorem ra_sr {w i : Nat} {C R : Mc} (h : RA w C R) (hi : i < 4) : R 128 (2112 + i) = C (w + 14) i := by
  have := h 17 i (by decide) hi
  change R 128 (2112 + 1 * i) = C (w + 14) (0 + i) at this
  rwa [show 2112 + 1 * i = 2112 + i from by omega, Nat.zero_add] at this
theorem rc_sr {w i f' i' : Nat} {C : Mc} {v : Int32} (hi : i < 4) (hf' : f' < 41) (hi' : i' < fN f') : wr C (w + 14) i v (w + fA f') (fJ f' + i') = if f' = 17 ∧ i' = i then v else C (w + fA f') (fJ f' + i') := by
  have := ra_cw (w := w) (f := 17) (i := i) (C := C) (v := v) (by decide) hi hf' hi'
  change wr C (w + 14) (0 + i) v _ _ = _ at this
  rwa [Nat.zero_add] at this
theorem rr_sr {i f' i' : Nat} {R : Mc} {v : Int32} (hi : i < 4) (hf' : f' < 41) (hi' : i' < fN f') : wr R 128 (2112 + i) v (fC f') (fB f' + fS f' * i') = if f' = 17 ∧ i' = i then v else R (fC f') (fB f' + fS f' * i') := by
  have := ra_rw (f := 17) (i := i) (R := R) (v := v) (by decide) hi hf' hi'
  change wr R 128 (2112 + 1 * i) v _ _ = _ at this
  rwa [show 2112 + 1 * i = 2112 + i from by omega] at this
theorem ra_pace {w i : Nat} {C R : Mc} (h : RA w C R) (hi : i < 4) : R 128 (1720 + 15 * i) = C (w + 28) i := by
  have := h 18 i (by decide) hi
  change R 128 (1720 + 15 * i) = C (w + 28) (0 + i) at this
  rwa [show 1720 + 15 * i = 1720 + 15 * i from by omega, Nat.zero_add] at this
theorem rc_pace {w i f' i' : Nat} {C : Mc} {v : Int32} (hi : i < 4) (hf' : f' < 41) (hi' : i' < fN f') : wr C (w + 28) i v (w + fA f') (fJ f' + i') = if f' = 18 ∧ i' = i then v else C (w + fA f') (fJ f' + i') := by
  have := ra_cw (w := w) (f := 18) (i := i) (C := C) (v := v) (by decide) hi hf' hi'
  change wr C (w + 28) (0 + i) v _ _ = _ at this
  rwa [Nat.zero_add] at this
theorem rr_pace {i f' i' : Nat} {R : Mc} {v : Int32} (hi : i < 4) (hf' : f' < 41) (hi' : i' < fN f') : wr R 128 (1720 + 15 * i) v (fC f') (fB f' + fS f' * i') = if f' = 18 ∧ i' = i then v else R (fC f') (fB f' + fS f' * i') := by
  have := ra_rw (f := 18) (i := i) (R := R) (v := v) (by decide) hi hf' hi'
  change wr R 128 (1720 + 15 * i) v _ _ = _ at this
  rwa [show 1720 + 15 * i = 1720 + 15 * i from by omega] at this
theorem ra_at {w i : Nat} {C R : Mc} (h : RA w C R) (hi : i < 4) : R 128 (1720 + 15 * i + 1) = C (w + 29) i := by
  have := h 19 i (by decide) hi
  change R 128 (1721 + 15 * i) = C (w + 29) (0 + i) at this
  rwa [show 1721 + 15 * i = 1720 + 15 * i + 1 from by omega, Nat.zero_add] at this
theorem rc_at {w i f' i' : Nat} {C : Mc} {v : Int32} (hi : i < 4) (hf' : f' < 41) (hi' : i' < fN f') : wr C (w + 29) i v (w + fA f') (fJ f' + i') = if f' = 19 ∧ i' = i then v else C (w + fA f') (fJ f' + i') := by
  have := ra_cw (w := w) (f := 19) (i := i) (C := C) (v := v) (by decide) hi hf' hi'
  change wr C (w + 29) (0 + i) v _ _ = _ at this
  rwa [Nat.zero_add] at this
theorem rr_at {i f' i' : Nat} {R : Mc} {v : Int32} (hi : i < 4) (hf' : f' < 41) (hi' : i' < fN f') : wr R 128 (1720 + 15 * i + 1) v (fC f') (fB f' + fS f' * i') = if f' = 19 ∧ i' = i then v else R (fC f') (fB f' + fS f' * i') := by
  have := ra_rw (f := 19) (i := i) (R := R) (v := v) (by decide) hi hf' hi'
  change wr R 128 (1721 + 15 * i) v _ _ = _ at this
  rwa [show 1721 + 15 * i = 1720 + 15 * i + 1 from by omega] at this
theorem ra_wait {w i : Nat} {C R : Mc} (h : RA w C R) (hi : i < 4) : R 128 (1720 + 15 * i + 2) = C (w + 30) i := by
  have := h 20 i (by decide) hi
  change R 128 (1722 + 15 * i) = C (w + 30) (0 + i) at this
  rwa [show 1722 + 15 * i = 1720 + 15 * i + 2 from by omega, Nat.zero_add] at this
theorem rc_wait {w i f' i' : Nat} {C : Mc} {v : Int32} (hi : i < 4) (hf' : f' < 41) (hi' : i' < fN f') : wr C (w + 30) i v (w + fA f') (fJ f' + i') = if f' = 20 ∧ i' = i then v else C (w + fA f') (fJ f' + i') := by
  have := ra_cw (w := w) (f := 20) (i := i) (C := C) (v := v) (by decide) hi hf' hi'
  change wr C (w + 30) (0 + i) v _ _ = _ at this
  rwa [Nat.zero_add] at this
theorem rr_wait {i f' i' : Nat} {R : Mc} {v : Int32} (hi : i < 4) (hf' : f' < 41) (hi' : i' < fN f') : wr R 128 (1720 + 15 * i + 2) v (fC f') (fB f' + fS f' * i') = if f' = 20 ∧ i' = i then v else R (fC f') (fB f' + fS f' * i') := by
  have := ra_rw (f := 20) (i := i) (R := R) (v := v) (by decide) hi hf' hi'
  change wr R 128 (1722 + 15 * i) v _ _ = _ at this
  rwa [show 1722 + 15 * i = 1720 + 15 * i + 2 from by omega] at this
theorem ra_bsum {w i : Nat} {C R : Mc} (h : RA w C R) (hi : i < 20) : R 128 (1640 + 4 * i) = C (w + 33) i := by
  have := h 21 i (by decide) hi
  change R 128 (1640 + 4 * i) = C (w + 33) (0 + i) at this
  rwa [show 1640 + 4 * i = 1640 + 4 * i from by omega, Nat.zero_add] at this
theorem rc_bsum {w i f' i' : Nat} {C : Mc} {v : Int32} (hi : i < 20) (hf' : f' < 41) (hi' : i' < fN f') : wr C (w + 33) i v (w + fA f') (fJ f' + i') = if f' = 21 ∧ i' = i then v else C (w + fA f') (fJ f' + i') := by
  have := ra_cw (w := w) (f := 21) (i := i) (C := C) (v := v) (by decide) hi hf' hi'
  change wr C (w + 33) (0 + i) v _ _ = _ at this
  rwa [Nat.zero_add] at this
theorem rr_bsum {i f' i' : Nat} {R : Mc} {v : Int32} (hi : i < 20) (hf' : f' < 41) (hi' : i' < fN f') : wr R 128 (1640 + 4 * i) v (fC f') (fB f' + fS f' * i') = if f' = 21 ∧ i' = i then v else R (fC f') (fB f' + fS f' * i') := by
  have := ra_rw (f := 21) (i := i) (R := R) (v := v) (by decide) hi hf' hi'
  change wr R 128 (1640 + 4 * i) v _ _ = _ at this
  rwa [show 1640 + 4 * i = 1640 + 4 * i from by omega] at this
theorem ra_bhan {w i : Nat} {C R : Mc} (h : RA w C R) (hi : i < 20) : R 128 (1640 + 4 * i + 1) = C (w + 34) i := by
  have := h 22 i (by decide) hi
  change R 128 (1641 + 4 * i) = C (w + 34) (0 + i) at this
  rwa [show 1641 + 4 * i = 1640 + 4 * i + 1 from by omega, Nat.zero_add] at this
theorem rc_bhan {w i f' i' : Nat} {C : Mc} {v : Int32} (hi : i < 20) (hf' : f' < 41) (hi' : i' < fN f') : wr C (w + 34) i v (w + fA f') (fJ f' + i') = if f' = 22 ∧ i' = i then v else C (w + fA f') (fJ f' + i') := by
  have := ra_cw (w := w) (f := 22) (i := i) (C := C) (v := v) (by decide) hi hf' hi'
  change wr C (w + 34) (0 + i) v _ _ = _ at this
  rwa [Nat.zero_add] at this
theorem rr_bhan {i f' i' : Nat} {R : Mc} {v : Int32} (hi : i < 20) (hf' : f' < 41) (hi' : i' < fN f') : wr R 128 (1640 + 4 * i + 1) v (fC f') (fB f' + fS f' * i') = if f' = 22 ∧ i' = i then v else R (fC f') (fB f' + fS f' * i') := by
  have := ra_rw (f := 22) (i := i) (R := R) (v := v) (by decide) hi hf' hi'
  change wr R 128 (1641 + 4 * i) v _ _ = _ at this
  rwa [show 1641 + 4 * i = 1640 + 4 * i + 1 from by omega] at this
theorem ra_bst {w i : Nat} {C R : Mc} (h : RA w C R) (hi : i < 20) : R 128 (1640 + 4 * i + 2) = C (w + 35) i := by
  have := h 23 i (by decide) hi
  change R 128 (1642 + 4 * i) = C (w + 35) (0 + i) at this
  rwa [show 1642 + 4 * i = 1640 + 4 * i + 2 from by omega, Nat.zero_add] at this
theorem rc_bst {w i f' i' : Nat} {C : Mc} {v : Int32} (hi : i < 20) (hf' : f' < 41) (hi' : i' < fN f') : wr C (w + 35) i v (w + fA f') (fJ f' + i') = if f' = 23 ∧ i' = i then v else C (w + fA f') (fJ f' + i') := by
  have := ra_cw (w := w) (f := 23) (i := i) (C := C) (v := v) (by decide) hi hf' hi'
  change wr C (w + 35) (0 + i) v _ _ = _ at this
  rwa [Nat.zero_add] at this
theorem rr_bst {i f' i' : Nat} {R : Mc} {v : Int32} (hi : i < 20) (hf' : f' < 41) (hi' : i' < fN f') : wr R 128 (1640 + 4 * i + 2) v (fC f') (fB f' + fS f' * i') = if f' = 23 ∧ i' = i then v else R (fC f') (fB f' + fS f' * i') := by
  have := ra_rw (f := 23) (i := i) (R := R) (v := v) (by decide) hi hf' hi'
  change wr R 128 (1642 + 4 * i) v _ _ = _ at this
  rwa [show 1642 + 4 * i = 1640 + 4 * i + 2 from by omega] at this
theorem ra_bdue {w i : Nat} {C R : Mc} (h : RA w C R) (hi : i < 20) : R 128 (1640 + 4 * i + 3) = C (w + 36) i := by
  have := h 24 i (by decide) hi
  change R 128 (1643 + 4 * i) = C (w + 36) (0 + i) at this
  rwa [show 1643 + 4 * i = 1640 + 4 * i + 3 from by omega, Nat.zero_add] at this
theorem rc_bdue {w i f' i' : Nat} {C : Mc} {v : Int32} (hi : i < 20) (hf' : f' < 41) (hi' : i' < fN f') : wr C (w + 36) i v (w + fA f') (fJ f' + i') = if f' = 24 ∧ i' = i then v else C (w + fA f') (fJ f' + i') := by
  have := ra_cw (w := w) (f := 24) (i := i) (C := C) (v := v) (by decide) hi hf' hi'
  change wr C (w + 36) (0 + i) v _ _ = _ at this
  rwa [Nat.zero_add] at this
theorem rr_bdue {i f' i' : Nat} {R : Mc} {v : Int32} (hi : i < 20) (hf' : f' < 41) (hi' : i' < fN f') : wr R 128 (1640 + 4 * i + 3) v (fC f') (fB f' + fS f' * i') = if f' = 24 ∧ i' = i then v else R (fC f') (fB f' + fS f' * i') := by
  have := ra_rw (f := 24) (i := i) (R := R) (v := v) (by decide) hi hf' hi'
  change wr R 128 (1643 + 4 * i) v _ _ = _ at this
  rwa [show 1643 + 4 * i = 1640 + 4 * i + 3 from by omega] at this
theorem ra_lst {w i : Nat} {C R : Mc} (h : RA w C R) (hi : i < 12) : R 128 (1568 + 6 * i) = C (w + 38) i := by
  have := h 25 i (by decide) hi
  change R 128 (1568 + 6 * i) = C (w + 38) (0 + i) at this
  rwa [show 1568 + 6 * i = 1568 + 6 * i from by omega, Nat.zero_add] at this
theorem rc_lst {w i f' i' : Nat} {C : Mc} {v : Int32} (hi : i < 12) (hf' : f' < 41) (hi' : i' < fN f') : wr C (w + 38) i v (w + fA f') (fJ f' + i') = if f' = 25 ∧ i' = i then v else C (w + fA f') (fJ f' + i') := by
  have := ra_cw (w := w) (f := 25) (i := i) (C := C) (v := v) (by decide) hi hf' hi'
  change wr C (w + 38) (0 + i) v _ _ = _ at this
  rwa [Nat.zero_add] at this
theorem rr_lst {i f' i' : Nat} {R : Mc} {v : Int32} (hi : i < 12) (hf' : f' < 41) (hi' : i' < fN f') : wr R 128 (1568 + 6 * i) v (fC f') (fB f' + fS f' * i') = if f' = 25 ∧ i' = i then v else R (fC f') (fB f' + fS f' * i') := by
  have := ra_rw (f := 25) (i := i) (R := R) (v := v) (by decide) hi hf' hi'
  change wr R 128 (1568 + 6 * i) v _ _ = _ at this
  rwa [show 1568 + 6 * i = 1568 + 6 * i from by omega] at this
theorem ra_lsin {w i : Nat} {C R : Mc} (h : RA w C R) (hi : i < 12) : R 128 (1568 + 6 * i + 3) = C (w + 39) i := by
  have := h 26 i (by decide) hi
  change R 128 (1571 + 6 * i) = C (w + 39) (0 + i) at this
  rwa [show 1571 + 6 * i = 1568 + 6 * i + 3 from by omega, Nat.zero_add] at this
theorem rc_lsin {w i f' i' : Nat} {C : Mc} {v : Int32} (hi : i < 12) (hf' : f' < 41) (hi' : i' < fN f') : wr C (w + 39) i v (w + fA f') (fJ f' + i') = if f' = 26 ∧ i' = i then v else C (w + fA f') (fJ f' + i') := by
  have := ra_cw (w := w) (f := 26) (i := i) (C := C) (v := v) (by decide) hi hf' hi'
  change wr C (w + 39) (0 + i) v _ _ = _ at this
  rwa [Nat.zero_add] at this
theorem rr_lsin {i f' i' : Nat} {R : Mc} {v : Int32} (hi : i < 12) (hf' : f' < 41) (hi' : i' < fN f') : wr R 128 (1568 + 6 * i + 3) v (fC f') (fB f' + fS f' * i') = if f' = 26 ∧ i' = i then v else R (fC f') (fB f' + fS f' * i') := by
  have := ra_rw (f := 26) (i := i) (R := R) (v := v) (by decide) hi hf' hi'
  change wr R 128 (1571 + 6 * i) v _ _ = _ at this
  rwa [show 1571 + 6 * i = 1568 + 6 * i + 3 from by omega] at this
theorem ra_n {w : Nat} {C R : Mc} (h : RA w C R) : R 128 2124 = C (w + 15) 0 := h 27 0 (by decide) (by decide)
theorem rc_n {w f' i' : Nat} {C : Mc} {v : Int32} (hf' : f' < 41) (hi' : i' < fN f') : wr C (w + 15) 0 v (w + fA f') (fJ f' + i') = if f' = 27 ∧ i' = 0 then v else C (w + fA f') (fJ f' + i') := ra_cw (f := 27) (i := 0) (by decide) (by decide) hf' hi'
theorem rr_n {f' i' : Nat} {R : Mc} {v : Int32} (hf' : f' < 41) (hi' : i' < fN f') : wr R 128 2124 v (fC f') (fB f' + fS f' * i') = if f' = 27 ∧ i' = 0 then v else R (fC f') (fB f' + fS f' * i') := ra_rw (f := 27) (i := 0) (by decide) (by decide) hf' hi'
theorem ra_hungry {w : Nat} {C R : Mc} (h : RA w C R) : R 128 2122 = C (w + 15) 2 := h 28 0 (by decide) (by decide)
theorem rc_hungry {w f' i' : Nat} {C : Mc} {v : Int32} (hf' : f' < 41) (hi' : i' < fN f') : wr C (w + 15) 2 v (w + fA f') (fJ f' + i') = if f' = 28 ∧ i' = 0 then v else C (w + fA f') (fJ f' + i') := ra_cw (f := 28) (i := 0) (by decide) (by decide) hf' hi'
theorem rr_hungry {f' i' : Nat} {R : Mc} {v : Int32} (hf' : f' < 41) (hi' : i' < fN f') : wr R 128 2122 v (fC f') (fB f' + fS f' * i') = if f' = 28 ∧ i' = 0 then v else R (fC f') (fB f' + fS f' * i') := ra_rw (f := 28) (i := 0) (by decide) (by decide) hf' hi'
theorem ra_orders {w : Nat} {C R : Mc} (h : RA w C R) : R 128 2128 = C (w + 15) 3 := h 29 0 (by decide) (by decide)
theorem rc_orders {w f' i' : Nat} {C : Mc} {v : Int32} (hf' : f' < 41) (hi' : i' < fN f') : wr C (w + 15) 3 v (w + fA f') (fJ f' + i') = if f' = 29 ∧ i' = 0 then v else C (w + fA f') (fJ f' + i') := ra_cw (f := 29) (i := 0) (by decide) (by decide) hf' hi'
theorem rr_orders {f' i' : Nat} {R : Mc} {v : Int32} (hf' : f' < 41) (hi' : i' < fN f') : wr R 128 2128 v (fC f') (fB f' + fS f' * i') = if f' = 29 ∧ i' = 0 then v else R (fC f') (fB f' + fS f' * i') := ra_rw (f := 29) (i := 0) (by decide) (by decide) hf' hi'
theorem ra_week {w : Nat} {C R : Mc} (h : RA w C R) : R 128 2116 = C w 6 := h 30 0 (by decide) (by decide)
theorem rc_week {w f' i' : Nat} {C : Mc} {v : Int32} (hf' : f' < 41) (hi' : i' < fN f') : wr C w 6 v (w + fA f') (fJ f' + i') = if f' = 30 ∧ i' = 0 then v else C (w + fA f') (fJ f' + i') := ra_cw (f := 30) (i := 0) (by decide) (by decide) hf' hi'
theorem rr_week {f' i' : Nat} {R : Mc} {v : Int32} (hf' : f' < 41) (hi' : i' < fN f') : wr R 128 2116 v (fC f') (fB f' + fS f' * i') = if f' = 30 ∧ i' = 0 then v else R (fC f') (fB f' + fS f' * i') := ra_rw (f := 30) (i := 0) (by decide) (by decide) hf' hi'
theorem ra_store {w : Nat} {C R : Mc} (h : RA w C R) : R 128 2117 = C w 7 := h 31 0 (by decide) (by decide)
theorem rc_store {w f' i' : Nat} {C : Mc} {v : Int32} (hf' : f' < 41) (hi' : i' < fN f') : wr C w 7 v (w + fA f') (fJ f' + i') = if f' = 31 ∧ i' = 0 then v else C (w + fA f') (fJ f' + i') := ra_cw (f := 31) (i := 0) (by decide) (by decide) hf' hi'
theorem rr_store {f' i' : Nat} {R : Mc} {v : Int32} (hf' : f' < 41) (hi' : i' < fN f') : wr R 128 2117 v (fC f') (fB f' + fS f' * i') = if f' = 31 ∧ i' = 0 then v else R (fC f') (fB f' + fS f' * i') := ra_rw (f := 31) (i := 0) (by decide) (by decide) hf' hi'
theorem ra_tre {w : Nat} {C R : Mc} (h : RA w C R) : R 128 2118 = C w 8 := h 32 0 (by decide) (by decide)
theorem rc_tre {w f' i' : Nat} {C : Mc} {v : Int32} (hf' : f' < 41) (hi' : i' < fN f') : wr C w 8 v (w + fA f') (fJ f' + i') = if f' = 32 ∧ i' = 0 then v else C (w + fA f') (fJ f' + i') := ra_cw (f := 32) (i := 0) (by decide) (by decide) hf' hi'
theorem rr_tre {f' i' : Nat} {R : Mc} {v : Int32} (hf' : f' < 41) (hi' : i' < fN f') : wr R 128 2118 v (fC f') (fB f' + fS f' * i') = if f' = 32 ∧ i' = 0 then v else R (fC f') (fB f' + fS f' * i') := ra_rw (f := 32) (i := 0) (by decide) (by decide) hf' hi'
theorem ra_sales {w : Nat} {C R : Mc} (h : RA w C R) : R 128 2119 = C w 9 := h 33 0 (by decide) (by decide)
theorem rc_sales {w f' i' : Nat} {C : Mc} {v : Int32} (hf' : f' < 41) (hi' : i' < fN f') : wr C w 9 v (w + fA f') (fJ f' + i') = if f' = 33 ∧ i' = 0 then v else C (w + fA f') (fJ f' + i') := ra_cw (f := 33) (i := 0) (by decide) (by decide) hf' hi'
theorem rr_sales {f' i' : Nat} {R : Mc} {v : Int32} (hf' : f' < 41) (hi' : i' < fN f') : wr R 128 2119 v (fC f') (fB f' + fS f' * i') = if f' = 33 ∧ i' = 0 then v else R (fC f') (fB f' + fS f' * i') := ra_rw (f := 33) (i := 0) (by decide) (by decide) hf' hi'
theorem ra_pn {w : Nat} {C R : Mc} (h : RA w C R) : R 128 2127 = C (w + 27) 0 := h 34 0 (by decide) (by decide)
theorem rc_pn {w f' i' : Nat} {C : Mc} {v : Int32} (hf' : f' < 41) (hi' : i' < fN f') : wr C (w + 27) 0 v (w + fA f') (fJ f' + i') = if f' = 34 ∧ i' = 0 then v else C (w + fA f') (fJ f' + i') := ra_cw (f := 34) (i := 0) (by decide) (by decide) hf' hi'
theorem rr_pn {f' i' : Nat} {R : Mc} {v : Int32} (hf' : f' < 41) (hi' : i' < fN f') : wr R 128 2127 v (fC f') (fB f' + fS f' * i') = if f' = 34 ∧ i' = 0 then v else R (fC f') (fB f' + fS f' * i') := ra_rw (f := 34) (i := 0) (by decide) (by decide) hf' hi'
theorem ra_bn {w : Nat} {C R : Mc} (h : RA w C R) : R 128 2126 = C (w + 32) 0 := h 35 0 (by decide) (by decide)
theorem rc_bn {w f' i' : Nat} {C : Mc} {v : Int32} (hf' : f' < 41) (hi' : i' < fN f') : wr C (w + 32) 0 v (w + fA f') (fJ f' + i') = if f' = 35 ∧ i' = 0 then v else C (w + fA f') (fJ f' + i') := ra_cw (f := 35) (i := 0) (by decide) (by decide) hf' hi'
theorem rr_bn {f' i' : Nat} {R : Mc} {v : Int32} (hf' : f' < 41) (hi' : i' < fN f') : wr R 128 2126 v (fC f') (fB f' + fS f' * i') = if f' = 35 ∧ i' = 0 then v else R (fC f') (fB f' + fS f' * i') := ra_rw (f := 35) (i := 0) (by decide) (by decide) hf' hi'
theorem ra_fund {w : Nat} {C R : Mc} (h : RA w C R) : R 128 2123 = C (w + 32) 1 := h 36 0 (by decide) (by decide)
theorem rc_fund {w f' i' : Nat} {C : Mc} {v : Int32} (hf' : f' < 41) (hi' : i' < fN f') : wr C (w + 32) 1 v (w + fA f') (fJ f' + i') = if f' = 36 ∧ i' = 0 then v else C (w + fA f') (fJ f' + i') := ra_cw (f := 36) (i := 0) (by decide) (by decide) hf' hi'
theorem rr_fund {f' i' : Nat} {R : Mc} {v : Int32} (hf' : f' < 41) (hi' : i' < fN f') : wr R 128 2123 v (fC f') (fB f' + fS f' * i') = if f' = 36 ∧ i' = 0 then v else R (fC f') (fB f' + fS f' * i') := ra_rw (f := 36) (i := 0) (by decide) (by decide) hf' hi'
theorem ra_ln {w : Nat} {C R : Mc} (h : RA w C R) : R 128 2125 = C (w + 37) 1 := h 37 0 (by decide) (by decide)
theorem rc_ln {w f' i' : Nat} {C : Mc} {v : Int32} (hf' : f' < 41) (hi' : i' < fN f') : wr C (w + 37) 1 v (w + fA f') (fJ f' + i') = if f' = 37 ∧ i' = 0 then v else C (w + fA f') (fJ f' + i') := ra_cw (f := 37) (i := 0) (by decide) (by decide) hf' hi'
theorem rr_ln {f' i' : Nat} {R : Mc} {v : Int32} (hf' : f' < 41) (hi' : i' < fN f') : wr R 128 2125 v (fC f') (fB f' + fS f' * i') = if f' = 37 ∧ i' = 0 then v else R (fC f') (fB f' + fS f' * i') := ra_rw (f := 37) (i := 0) (by decide) (by decide) hf' hi'
theorem ra_tp {w : Nat} {C R : Mc} (h : RA w C R) : R 127 23 = C w 10 := h 38 0 (by decide) (by decide)
theorem rc_tp {w f' i' : Nat} {C : Mc} {v : Int32} (hf' : f' < 41) (hi' : i' < fN f') : wr C w 10 v (w + fA f') (fJ f' + i') = if f' = 38 ∧ i' = 0 then v else C (w + fA f') (fJ f' + i') := ra_cw (f := 38) (i := 0) (by decide) (by decide) hf' hi'
theorem rr_tp {f' i' : Nat} {R : Mc} {v : Int32} (hf' : f' < 41) (hi' : i' < fN f') : wr R 127 23 v (fC f') (fB f' + fS f' * i') = if f' = 38 ∧ i' = 0 then v else R (fC f') (fB f' + fS f' * i') := ra_rw (f := 38) (i := 0) (by decide) (by decide) hf' hi'
theorem ra_ts {w : Nat} {C R : Mc} (h : RA w C R) : R 127 24 = C w 11 := h 39 0 (by decide) (by decide)
theorem rc_ts {w f' i' : Nat} {C : Mc} {v : Int32} (hf' : f' < 41) (hi' : i' < fN f') : wr C w 11 v (w + fA f') (fJ f' + i') = if f' = 39 ∧ i' = 0 then v else C (w + fA f') (fJ f' + i') := ra_cw (f := 39) (i := 0) (by decide) (by decide) hf' hi'
theorem rr_ts {f' i' : Nat} {R : Mc} {v : Int32} (hf' : f' < 41) (hi' : i' < fN f') : wr R 127 24 v (fC f') (fB f' + fS f' * i') = if f' = 39 ∧ i' = 0 then v else R (fC f') (fB f' + fS f' * i') := ra_rw (f := 39) (i := 0) (by decide) (by decide) hf' hi'
theorem ra_tr {w : Nat} {C R : Mc} (h : RA w C R) : R 127 7 = C w 12 := h 40 0 (by decide) (by decide)
theorem rc_tr {w f' i' : Nat} {C : Mc} {v : Int32} (hf' : f' < 41) (hi' : i' < fN f') : wr C w 12 v (w + fA f') (fJ f' + i') = if f' = 40 ∧ i' = 0 then v else C (w + fA f') (fJ f' + i') := ra_cw (f := 40) (i := 0) (by decide) (by decide) hf' hi'
theorem rr_tr {f' i' : Nat} {R : Mc} {v : Int32} (hf' : f' < 41) (hi' : i' < fN f') : wr R 127 7 v (fC f') (fB f' + fS f' * i') = if f' = 40 ∧ i' = 0 then v else R (fC f') (fB f' + fS f' * i') := ra_rw (f := 40) (i := 0) (by decide) (by decide) hf' hi'
theorem rj_end {w j f' i' : Nat} {C : Mc} {v : Int32} (hf' : f' < 41) (hi' : i' < fN f') : wr C (w + 7) j v (w + fA f') (fJ f' + i') = C (w + fA f') (fJ f' + i') := ra_cj (a := 7) rfl hf' hi'
theorem rj_wan {w j f' i' : Nat} {C : Mc} {v : Int32} (hf' : f' < 41) (hi' : i' < fN f') : wr C (w + 4) j v (w + fA f') (fJ f' + i') = C (w + fA f') (fJ f' + i') := ra_cj (a := 4) rfl hf' hi'
theorem rj_hir {w j f' i' : Nat} {C : Mc} {v : Int32} (hf' : f' < 41) (hi' : i' < fN f') : wr C (w + 20) j v (w + fA f') (fJ f' + i') = C (w + fA f') (fJ f' + i') := ra_cj (a := 20) rfl hf' hi'
theorem rj_far {w j f' i' : Nat} {C : Mc} {v : Int32} (hf' : f' < 41) (hi' : i' < fN f') : wr C (w + 21) j v (w + fA f') (fJ f' + i') = C (w + fA f') (fJ f' + i') := ra_cj (a := 21) rfl hf' hi'
theorem rj_opd {w j f' i' : Nat} {C : Mc} {v : Int32} (hf' : f' < 41) (hi' : i' < fN f') : wr C (w + 23) j v (w + fA f') (fJ f' + i') = C (w + fA f') (fJ f' + i') := ra_cj (a := 23) rfl hf' hi'
theorem rj_cho {w j f' i' : Nat} {C : Mc} {v : Int32} (hf' : f' < 41) (hi' : i' < fN f') : wr C (w + 24) j v (w + fA f') (fJ f' + i') = C (w + fA f') (fJ f' + i') := ra_cj (a := 24) rfl hf' hi'
theorem rj_sent {w j f' i' : Nat} {C : Mc} {v : Int32} (hf' : f' < 41) (hi' : i' < fN f') : wr C (w + 31) j v (w + fA f') (fJ f' + i') = C (w + fA f') (fJ f' + i') := ra_cj (a := 31) rfl hf' hi'
theorem rj_rh {w j f' i' : Nat} {C : Mc} {v : Int32} (hf' : f' < 41) (hi' : i' < fN f') : wr C (w + 40) j v (w + fA f') (fJ f' + i') = C (w + fA f') (fJ f' + i') := ra_cj (a := 40) rfl hf' hi'
theorem rj_ass {w j f' i' : Nat} {C : Mc} {v : Int32} (hf' : f' < 41) (hi' : i' < fN f') : wr C (w + 41) j v (w + fA f') (fJ f' + i') = C (w + fA f') (fJ f' + i') := ra_cj (a := 41) rfl hf' hi'
theorem rj_yes {w j f' i' : Nat} {C : Mc} {v : Int32} (hf' : f' < 41) (hi' : i' < fN f') : wr C (w + 42) j v (w + fA f') (fJ f' + i') = C (w + fA f') (fJ f' + i') := ra_cj (a := 42) rfl hf' hi'
theorem rj_no {w j f' i' : Nat} {C : Mc} {v : Int32} (hf' : f' < 41) (hi' : i' < fN f') : wr C (w + 43) j v (w + fA f') (fJ f' + i') = C (w + fA f') (fJ f' + i') := ra_cj (a := 43) rfl hf' hi'
theorem rj_vot {w j f' i' : Nat} {C : Mc} {v : Int32} (hf' : f' < 41) (hi' : i' < fN f') : wr C (w + 44) j v (w + fA f') (fJ f' + i') = C (w + fA f') (fJ f' + i') := ra_cj (a := 44) rfl hf' hi'
theorem rj_fac {w j f' i' : Nat} {C : Mc} {v : Int32} (hf' : f' < 41) (hi' : i' < fN f') : wr C (w + 45) j v (w + fA f') (fJ f' + i') = C (w + fA f') (fJ f' + i') := ra_cj (a := 45) rfl hf' hi'
theorem rj_stk2 {w j f' i' : Nat} {C : Mc} {v : Int32} (hf' : f' < 41) (hi' : i' < fN f') : wr C (w + 46) j v (w + fA f') (fJ f' + i') = C (w + fA f') (fJ f' + i') := ra_cj (a := 46) rfl hf' hi'
theorem rj_gf {w j f' i' : Nat} {C : Mc} {v : Int32} (hf' : f' < 41) (hi' : i' < fN f') : wr C (w + 1) j v (w + fA f') (fJ f' + i') = C (w + fA f') (fJ f' + i') := ra_cj (a := 1) rfl hf' hi'
theorem rj_here {w f' i' : Nat} {C : Mc} {v : Int32} (hf' : f' < 41) (hi' : i' < fN f') : wr C (w + 15) 1 v (w + fA f') (fJ f' + i') = C (w + fA f') (fJ f' + i') := ra_cj (a := 15) rfl hf' hi'
theorem rj_mask {w f' i' : Nat} {C : Mc} {v : Int32} (hf' : f' < 41) (hi' : i' < fN f') : wr C (w + 37) 2 v (w + fA f') (fJ f' + i') = C (w + fA f') (fJ f' + i') := ra_cj (a := 37) rfl hf' hi'
theorem rj_stale {w f' i' : Nat} {C : Mc} {v : Int32} (hf' : f' < 41) (hi' : i' < fN f') : wr C w 13 v (w + fA f') (fJ f' + i') = C (w + fA f') (fJ f' + i') := ra_cj (a := 0) rfl hf' hi'
theorem rj_bl {w f' i' : Nat} {C : Mc} {v : Int32} (hf' : f' < 41) (hi' : i' < fN f') : wr C w 14 v (w + fA f') (fJ f' + i') = C (w + fA f') (fJ f' + i') := ra_cj (a := 0) rfl hf' hi'
theorem rj_bp {w f' i' : Nat} {C : Mc} {v : Int32} (hf' : f' < 41) (hi' : i' < fN f') : wr C w 15 v (w + fA f') (fJ f' + i') = C (w + fA f') (fJ f' + i') := ra_cj (a := 0) rfl hf' hi'
theorem rj_wg {w f' i' : Nat} {C : Mc} {v : Int32} (hf' : f' < 41) (hi' : i' < fN f') : wr C w 16 v (w + fA f') (fJ f' + i') = C (w + fA f') (fJ f' + i') := ra_cj (a := 0) rfl hf' hi'
theorem rj_nh {w f' i' : Nat} {C : Mc} {v : Int32} (hf' : f' < 41) (hi' : i' < fN f') : wr C w 17 v (w + fA f') (fJ f' + i') = C (w + fA f') (fJ f' + i') := ra_cj (a := 0) rfl hf' hi'
theorem rk_end {i f' i' : Nat} {R : Mc} {v : Int32} (hi : i < 96) (hf' : f' < 41) (hi' : i' < fN f') : wr R 128 (8 * i + 2) v (fC f') (fB f' + fS f' * i') = R (fC f') (fB f' + fS f' * i') := by
  refine ra_rj (fun _ => ?_) (by decide) (by decide) (fun h => absurd h (by decide)) hf' hi'
  revert i
  decide +kernel
theorem rk_done {i f' i' : Nat} {R : Mc} {v : Int32} (hi : i < 96) (hf' : f' < 41) (hi' : i' < fN f') : wr R 128 (8 * i + 7) v (fC f') (fB f' + fS f' * i') = R (fC f') (fB f' + fS f' * i') := by
  refine ra_rj (fun _ => ?_) (by decide) (by decide) (fun h => absurd h (by decide)) hf' hi'
  revert i
  decide +kernel
theorem rk_yes {i f' i' : Nat} {R : Mc} {v : Int32} (hi : i < 12) (hf' : f' < 41) (hi' : i' < fN f') : wr R 128 (1568 + 6 * i + 1) v (fC f') (fB f' + fS f' * i') = R (fC f') (fB f' + fS f' * i') := by
  refine ra_rj (fun _ => ?_) (by decide) (by decide) (fun h => absurd h (by decide)) hf' hi'
  revert i
  decide +kernel
theorem rk_no {i f' i' : Nat} {R : Mc} {v : Int32} (hi : i < 12) (hf' : f' < 41) (hi' : i' < fN f') : wr R 128 (1568 + 6 * i + 2) v (fC f') (fB f' + fS f' * i') = R (fC f') (fB f' + fS f' * i') := by
  refine ra_rj (fun _ => ?_) (by decide) (by decide) (fun h => absurd h (by decide)) hf' hi'
  revert i
  decide +kernel
theorem rk_said {i f' i' : Nat} {R : Mc} {v : Int32} (hi : i < 12) (hf' : f' < 41) (hi' : i' < fN f') : wr R 128 (1568 + 6 * i + 4) v (fC f') (fB f' + fS f' * i') = R (fC f') (fB f' + fS f' * i') := by
  refine ra_rj (fun _ => ?_) (by decide) (by decide) (fun h => absurd h (by decide)) hf' hi'
  revert i
  decide +kernel
theorem rk_read {i f' i' : Nat} {R : Mc} {v : Int32} (hi : i < 12) (hf' : f' < 41) (hi' : i' < fN f') : wr R 128 (1568 + 6 * i + 5) v (fC f') (fB f' + fS f' * i') = R (fC f') (fB f' + fS f' * i') := by
  refine ra_rj (fun _ => ?_) (by decide) (by decide) (fun h => absurd h (by decide)) hf' hi'
  revert i
  decide +kernel
theorem rk_fst {i k f' i' : Nat} {R : Mc} {v : Int32} (hi : i < 4) (hk : k < 12) (hf' : f' < 41) (hi' : i' < fN f') : wr R 128 (1720 + 15 * i + 3 + k) v (fC f') (fB f' + fS f' * i') = R (fC f') (fB f' + fS f' * i') := by
  have h0 : ∀ i, i < 4 → ∀ k, k < 12 → fRi 128 (1720 + 15 * i + 3 + k) = 99 := by decide +kernel
  exact ra_rj (fun _ => h0 i hi k hk) (by decide) (by decide) (fun h => absurd h (by decide)) hf' hi'
theorem rk_oth {c k f' i' : Nat} {R : Mc} {v : Int32} (hc : c ≠ 127 ∧ c ≠ 128 ∧ c ≠ 130 ∧ c ≠ 131) (hf' : f' < 41) (hi' : i' < fN f') : wr R c k v (fC f') (fB f' + fS f' * i') = R (fC f') (fB f' + fS f' * i') := ra_rj (fun h => absurd h hc.2.1) hc.2.2.1 hc.2.2.2 (fun h => absurd h hc.1) hf' hi'
