/-! ===== the text of a law: words, numbers, blanks ===== -/
abbrev isLt (b : Nat) : Prop := 97 ≤ b ∧ b ≤ 122
abbrev isDg (b : Nat) : Prop := 48 ≤ b ∧ b ≤ 57
def SK (T : Nat → Nat) (n p q : Nat) : Prop := p ≤ q ∧ (∀ i, p ≤ i → i < q → i < n ∧ T i = 32) ∧ ¬ (q < n ∧ T q = 32)
def WE (T : Nat → Nat) (n p q : Nat) : Prop := p ≤ q ∧ (∀ i, p ≤ i → i < q → i < n ∧ isLt (T i)) ∧ ¬ (q < n ∧ isLt (T q))
def DE (T : Nat → Nat) (n p q : Nat) : Prop := p ≤ q ∧ (∀ i, p ≤ i → i < q → i < n ∧ isDg (T i)) ∧ ¬ (q < n ∧ isDg (T q))
def wtab : List (List Nat) := [[112, 114, 105, 99, 101], [115, 104, 97, 114, 101], [119, 97, 103, 101], [114, 117, 110], [102, 105, 110, 101], [118, 111, 116, 101, 115], [99, 104, 111, 105, 99, 101], [115, 113, 117, 97, 116], [117, 110, 100, 111], [115, 116, 97, 110, 100], [102, 97, 108, 108], [119, 101, 101, 107], [121, 101, 97, 114], [115, 111, 108, 100], [112, 101, 111, 112, 108, 101], [115, 111, 105, 108], [108, 101, 97, 115, 116], [109, 111, 115, 116], [105, 102], [111, 114], [97, 110, 100], [110, 111, 116]]
def wlen (w : Nat) : Nat := (wtab.getD w []).length
def wch (w j : Nat) : Nat := (wtab.getD w []).getD j 0
def isWd (T : Nat → Nat) (w p q : Nat) : Prop := q = p + wlen w ∧ ∀ j, j < wlen w → T (p + j) = wch w j
def dvC (T : Nat → Nat) (p : Nat) : Nat → Nat
  | 0 => 0
  | k + 1 => min 10000 (dvC T p k * 10 + T (p + k) - 48)
/-- what stands at place p: the class's token and number, and where it ends -/
def TokAt (T : Nat → Nat) (n p : Nat) (tk nu : Int32) (q : Nat) : Prop :=
  (n ≤ p ∧ tk = nI 301) ∨ (p < n ∧ isLt (T p) ∧ WE T n p q ∧ ((∃ w, w < 22 ∧ isWd T w p q ∧ tk = nI (400 + w)) ∨ ((∀ w, w < 22 → ¬ isWd T w p q) ∧ tk = nI 302))) ∨ (p < n ∧ isDg (T p) ∧ DE T n p q ∧ tk = nI 300 ∧ nu = nI (dvC T p (q - p))) ∨ (p < n ∧ ¬ isLt (T p) ∧ ¬ isDg (T p) ∧ T p ≠ 32 ∧ T p < 256 ∧ tk = nI (T p) ∧ q = p + 1)
def cwN (i : Nat) : Nat := [22, 0, 1, 2, 3, 4, 5, 6, 7, 8, 11, 12, 13, 14, 15, 16, 17, 18, 21, 20, 19, 10, 9].getD i 22
theorem len_M (M : Mc) (i : Nat) : fJ0_length_8abf5 M i = fJ0_length_8abf5 (fun _ _ => 0) i := rfl
theorem ch_M (M : Mc) (i : Nat) (p : Int32) : fJ0_charAt_5068e M i p = fJ0_charAt_5068e (fun _ _ => 0) i p := rfl
def strB : Bool := (List.range 22).all fun i => decide (fJ0_length_8abf5 (fun _ _ => 0) (i + 1) = some (nI (wlen (cwN (i + 1))))) && decide (cwN (i + 1) < 22) && (List.range (wlen (cwN (i + 1)))).all fun j => decide (fJ0_charAt_5068e (fun _ _ => 0) (i + 1) (nI j) = some (nI (wch (cwN (i + 1)) j)))
theorem strB_t : strB = true := by decide +kernel
theorem str_ok {i : Nat} (h1 : 1 ≤ i) (h2 : i < 23) : cwN i < 22 ∧ (∀ M, fJ0_length_8abf5 M i = some (nI (wlen (cwN i)))) ∧ ∀ M j, j < wlen (cwN i) → fJ0_charAt_5068e M i (nI j) = some (nI (wch (cwN i) j)) := by
  have h := strB_t
  unfold strB at h
  have h3 := List.all_eq_true.mp h (i - 1) (List.mem_range.mpr (by omega))
  rw [show i - 1 + 1 = i by omega] at h3
  simp only [Bool.and_eq_true, decide_eq_true_eq] at h3
  refine ⟨h3.1.2, fun M => by rw [len_M]; exact h3.1.1, fun M j hj => ?_⟩
  rw [ch_M]
  have := List.all_eq_true.mp h3.2 j (List.mem_range.mpr hj)
  exact of_decide_eq_true this
/-- the class's list of words -/
def bgn : Nat → Nat
  | 0 => 0
  | w + 1 => bgn w + wlen w + 1
def wdA (v : Nat) : Nat := ((List.range 22).filter fun w => decide (bgn (w + 1) ≤ v)).length
def wrdB : Bool := (List.range 113).all fun v => decide (bgn (wdA v) ≤ v) && decide (wdA v < 22) && decide (v - bgn (wdA v) ≤ wlen (wdA v)) && (if v - bgn (wdA v) = wlen (wdA v) then decide (fJ0_charAt_5068e (fun _ _ => 0) 0 (nI v) = some (nI 32)) && decide (wdA (v + 1) = wdA v + 1) && decide (bgn (wdA (v + 1)) = v + 1) else decide (fJ0_charAt_5068e (fun _ _ => 0) 0 (nI v) = some (nI (wch (wdA v) (v - bgn (wdA v))))) && decide (wdA (v + 1) = wdA v))
theorem wrdB_t : wrdB = true := by decide +kernel
theorem wrd_len (M : Mc) : fJ0_length_8abf5 M 0 = some (nI 113) := by rw [len_M]; decide +kernel
theorem wrd_ok {v : Nat} (h : v < 113) : bgn (wdA v) ≤ v ∧ wdA v < 22 ∧ v - bgn (wdA v) ≤ wlen (wdA v) ∧ ((v - bgn (wdA v) = wlen (wdA v) ∧ (∀ M, fJ0_charAt_5068e M 0 (nI v) = some (nI 32)) ∧ wdA (v + 1) = wdA v + 1 ∧ bgn (wdA (v + 1)) = v + 1) ∨ (v - bgn (wdA v) < wlen (wdA v) ∧ (∀ M, fJ0_charAt_5068e M 0 (nI v) = some (nI (wch (wdA v) (v - bgn (wdA v))))) ∧ wdA (v + 1) = wdA v)) := by
  have h2 := wrdB_t
  unfold wrdB at h2
  have h3 := List.all_eq_true.mp h2 v (List.mem_range.mpr h)
  simp only [Bool.and_eq_true, decide_eq_true_eq] at h3
  obtain ⟨⟨⟨a1, a2⟩, a3⟩, a4⟩ := h3
  refine ⟨a1, a2, a3, ?_⟩
  by_cases q : v - bgn (wdA v) = wlen (wdA v)
  · rw [if_pos q] at a4
    simp only [Bool.and_eq_true, decide_eq_true_eq] at a4
    exact Or.inl ⟨q, fun M => by rw [ch_M]; exact a4.1.1, a4.1.2, a4.2⟩
  · rw [if_neg q] at a4
    simp only [Bool.and_eq_true, decide_eq_true_eq] at a4
    exact Or.inr ⟨by omega, fun M => by rw [ch_M]; exact a4.1, a4.2⟩
theorem wd_113 : wdA 113 = 22 := by decide +kernel
theorem wd_0' : wdA 0 = 0 := by decide +kernel
theorem wch_lt : ∀ w, w < 22 → ∀ j, j < wlen w → 97 ≤ wch w j ∧ wch w j ≤ 122 := by decide +kernel
theorem wlen_r : ∀ w, w < 22 → 2 ≤ wlen w ∧ wlen w ≤ 6 := by decide +kernel
def w2B : Bool := (List.range 22).all fun w => (List.range 22).all fun u => w == u || wlen w != wlen u || (List.range (wlen w)).any fun j => wch w j != wch u j
theorem w2B_t : w2B = true := by decide +kernel
theorem isW_uni {T : Nat → Nat} {w u p q : Nat} (hw : w < 22) (hu : u < 22) (h1 : isWd T w p q) (h2 : isWd T u p q) : w = u := by
  have h := w2B_t
  unfold w2B at h
  have h3 := List.all_eq_true.mp (List.all_eq_true.mp h w (List.mem_range.mpr hw)) u (List.mem_range.mpr hu)
  rcases Bool.or_eq_true_iff.mp h3 with h4 | h4
  · rcases Bool.or_eq_true_iff.mp h4 with h5 | h5
    · exact beq_iff_eq.mp h5
    · have := bne_iff_ne.mp h5
      have e1 := h1.1; have e2 := h2.1
      omega
  · obtain ⟨j, j1, j2⟩ := List.any_eq_true.mp h4
    have j3 := List.mem_range.mp j1
    have e1 := h1.1; have e2 := h2.1
    exact absurd ((h1.2 j j3).symm.trans (h2.2 j (by omega))) (bne_iff_ne.mp j2)
theorem SK_rf {T : Nat → Nat} {n q : Nat} (h : ¬ (q < n ∧ T q = 32)) : SK T n q q := ⟨Nat.le_refl _, fun i h1 h2 => by omega, h⟩
theorem SK_uni {T : Nat → Nat} {n p q u : Nat} (h1 : SK T n p q) (h2 : SK T n p u) : q = u := by
  rcases Nat.lt_trichotomy q u with h | h | h
  · exact absurd (h2.2.1 q h1.1 h) h1.2.2
  · exact h
  · exact absurd (h1.2.1 u h2.1 h) h2.2.2
theorem SK_le {T : Nat → Nat} {n p q : Nat} (h : SK T n p q) (hp : p ≤ n) : q ≤ n := by
  by_cases e : q = p
  · omega
  · have := h.2.1 (q - 1) (by have := h.1; omega) (by have := h.1; omega); omega
theorem WE_uni {T : Nat → Nat} {n p q u : Nat} (h1 : WE T n p q) (h2 : WE T n p u) : q = u := by
  rcases Nat.lt_trichotomy q u with h | h | h
  · exact absurd (h2.2.1 q h1.1 h) h1.2.2
  · exact h
  · exact absurd (h1.2.1 u h2.1 h) h2.2.2
/-- a byte, as the class and as the reference see it -/
def bI (T : Nat → Nat) (n k : Nat) : Int32 := if k < n then nI (T k) else -1
def rI (T : Nat → Nat) (n k : Nat) : Int32 := if k < n then nI (T k) else 0
section WB
variable {T : Nat → Nat} {n k : Nat} {C R : Mc}
theorem cb (hn : n ≤ 300) (hT : ∀ i, i < n → C 123 i = nI (T i)) (hk : k ≤ 1000) : fX7_byteAt C (nI n) (nI k) = some (bI T n k) := by
  unfold fX7_byteAt bI
  rw [za_in (by omega) (by omega), za_bnd]
  by_cases q : k < n
  · rw [if_pos q, if_neg za_n10, za_inY (by omega) (by omega), za_bnd, if_neg za_n10, za_chk _ (by omega) (by omega), nI_clamp (by omega), hT k q, if_pos q]
  · rw [if_neg q, if_pos rfl, if_neg q]
theorem rb (h1 : R 127 10 = nI n) (hn : n ≤ 300) (hT : ∀ i, i < n → R 134 i &&& nI 255 = nI (T i)) (hk : k ≤ 1000) : fX12_byteAt R (nI k) = some (rI T n k) := by
  unfold fX12_byteAt rI
  rw [h1]
  by_cases q : k < n
  · rw [if_neg (nI_ge q (by omega)), za_chk _ (by omega) (by omega), nI_clamp (by omega), hT k q, if_pos q]
  · rw [if_pos (nI_le (by omega) (by omega)), if_neg q]
theorem il_c (hb : ∀ i, i < n → T i < 256) : fX7_isLetter (bI T n k) = some (if k < n ∧ isLt (T k) then nI 1 else 0) := by
  unfold fX7_isLetter bI isLt
  by_cases q : k < n
  · have := hb k q
    rw [if_pos q]
    by_cases q1 : T k < 97
    · rw [if_pos (nI_lt q1 (by omega)), if_neg (by omega)]
    · rw [if_neg (nI_nlt (by omega) (by omega))]
      by_cases q2 : 122 < T k
      · rw [if_pos (nI_lt q2 (by omega)), if_neg (by omega)]
      · rw [if_neg (nI_nlt (by omega) (by omega)), if_pos ⟨q, by omega, by omega⟩]
  · rw [if_neg q, if_pos (za_m1ltn (by omega)), if_neg (fun z => q z.1)]
theorem id_c (hb : ∀ i, i < n → T i < 256) : fX7_isDigit (bI T n k) = some (if k < n ∧ isDg (T k) then nI 1 else 0) := by
  unfold fX7_isDigit bI isDg
  by_cases q : k < n
  · have := hb k q
    rw [if_pos q]
    by_cases q1 : T k < 48
    · rw [if_pos (nI_lt q1 (by omega)), if_neg (by omega)]
    · rw [if_neg (nI_nlt (by omega) (by omega))]
      by_cases q2 : 57 < T k
      · rw [if_pos (nI_lt q2 (by omega)), if_neg (by omega)]
      · rw [if_neg (nI_nlt (by omega) (by omega)), if_pos ⟨q, by omega, by omega⟩]
  · rw [if_neg q, if_pos (za_m1ltn (by omega)), if_neg (fun z => q z.1)]
theorem id_r (hb : ∀ i, i < n → T i < 256) : fX12_isDigit (rI T n k) = some (if k < n ∧ isDg (T k) then nI 1 else 0) := by
  unfold fX12_isDigit rI isDg
  by_cases q : k < n
  · have := hb k q
    rw [if_pos q]
    by_cases q1 : T k < 48
    · rw [if_pos (nI_lt q1 (by omega)), if_neg (by omega)]
    · rw [if_neg (nI_nlt (by omega) (by omega))]
      by_cases q2 : 57 < T k
      · rw [if_pos (nI_lt q2 (by omega)), if_neg (by omega)]
      · rw [if_neg (nI_nlt (by omega) (by omega)), if_pos ⟨q, by omega, by omega⟩]
  · rw [if_neg q, if_pos (by decide +kernel), if_neg (fun z => q z.1)]
end WB
section WT2
variable {T : Nat → Nat} {n : Nat}
/-- is the word spelled there (class) -/
theorem spell_L {C : Mc} {w p v : Nat} (hn : n ≤ 300) (hT : ∀ i, i < n → C 123 i = nI (T i)) (hb : ∀ i, i < n → T i < 256) (hv : v < 113) (hw : v = bgn w + wlen w) (hwd : ∀ u, bgn w ≤ u → u < v → wdA u = w) (hp : p + wlen w ≤ n) : ∀ k fu j, j + k = wlen w → k < fu → ((∀ i, j ≤ i → i < wlen w → T (p + i) = wch w i) → fX7_isSpelled_L3 fu C (nI n) (nI p) (nI (bgn w)) (nI v) (nI (bgn w + j)) = some (nI 1)) ∧ ((∃ i, j ≤ i ∧ i < wlen w ∧ T (p + i) ≠ wch w i) → fX7_isSpelled_L3 fu C (nI n) (nI p) (nI (bgn w)) (nI v) (nI (bgn w + j)) = some 0)
  | k, 0, _, _, hf => by omega
  | 0, fu + 1, j, hj, _ => by
    obtain rfl : j = wlen w := by omega
    refine ⟨fun _ => ?_, fun ⟨i, h1, h2, _⟩ => by omega⟩
    rw [fX7_isSpelled_L3, if_pos (by rw [hw]; exact nI_le (Nat.le_refl _) (by omega))]
  | k + 1, fu + 1, j, hj, hf => by
    have ok := wrd_ok (v := bgn w + j) (by omega)
    rw [hwd (bgn w + j) (by omega) (by omega)] at ok
    obtain ⟨_, w22, _, ok⟩ := ok
    have wl := wlen_r w w22
    have hch : ∀ M, fJ0_charAt_5068e M 0 (nI (bgn w + j)) = some (nI (wch w j)) := by
      rcases ok with ⟨q, _⟩ | ⟨_, q, _⟩
      · omega
      · intro M; rw [q M, show bgn w + j - bgn w = j by omega]
    have wr := wch_lt w w22 j (by omega)
    have tb := hb (p + j) (by omega)
    have hstep : fX7_isSpelled_L3 (fu + 1) C (nI n) (nI p) (nI (bgn w)) (nI v) (nI (bgn w + j)) = (if nI (T (p + j)) = nI (wch w j) then fX7_isSpelled_L3 fu C (nI n) (nI p) (nI (bgn w)) (nI v) (nI (bgn w + (j + 1))) else some 0) := by
      rw [fX7_isSpelled_L3, if_neg (nI_ge (by omega) (by omega)), wrd_len, za_bnd, za_inY (by omega) (by omega), za_bnd, if_neg za_n10, nI_add, za_sub (by omega), show p + (bgn w + j) - bgn w = p + j by omega, cb hn hT (by omega), za_bnd, hch, za_bnd, nI_add, Nat.add_assoc]
      unfold bI
      rw [if_pos (show p + j < n by omega)]
    have ih := spell_L hn hT hb hv hw hwd hp k fu (j + 1) (by omega) (by omega)
    rw [hstep]
    by_cases q : T (p + j) = wch w j
    · rw [if_pos (by rw [q])]
      refine ⟨fun h => ih.1 (fun i h1 h2 => h i (by omega) h2), fun ⟨i, h1, h2, h3⟩ => ih.2 ⟨i, ?_, h2, h3⟩⟩
      by_cases e : i = j
      · subst e; exact absurd q h3
      · omega
    · rw [if_neg (fun z => q (za_inj (by omega) (by omega) z))]
      exact ⟨fun h => absurd (h j (Nat.le_refl _) (by omega)) q, fun _ => rfl⟩
theorem bg_wd : ∀ w, w < 22 → bgn w + wlen w < 113 := by decide +kernel
def bwB : Bool := (List.range 22).all fun w => (List.range (wlen w + 1)).all fun j => decide (wdA (bgn w + j) = w)
theorem bwB_t : bwB = true := by decide +kernel
theorem bw_ok {w u : Nat} (hw : w < 22) (h1 : bgn w ≤ u) (h2 : u ≤ bgn w + wlen w) : wdA u = w := by
  have h := bwB_t
  unfold bwB at h
  have h3 := List.all_eq_true.mp (List.all_eq_true.mp h w (List.mem_range.mpr hw)) (u - bgn w) (List.mem_range.mpr (by omega))
  have := of_decide_eq_true h3
  rw [show bgn w + (u - bgn w) = u by omega] at this
  exact this
/-- the word of a token, among those before place v of the list -/
def wok (T : Nat → Nat) (p q v : Nat) (tk : Int32) : Prop := (∃ w, w < wdA v ∧ isWd T w p q ∧ tk = nI (400 + w)) ∨ ((∀ w, w < wdA v → ¬ isWd T w p q) ∧ tk = nI 302)
theorem word_L {p q ct : Nat} (hn : n ≤ 300) (hb : ∀ i, i < n → T i < 256) (hq : WE T n p q) (hct : ct < 301) (hqn : q ≤ n) : ∀ k fu v C, v + k = 113 → k < fu → (∀ i, i < n → C 123 i = nI (T i)) → wok T p q v (C 115 ct) → ∃ C', fX7_takeWord_L68 fu C (nI n) (nI p) (nI ct) (nI q) (nI (wdA v)) (nI (bgn (wdA v))) (nI v) = some (nI q, C') ∧ wok T p q 113 (C' 115 ct) ∧ ∀ a j, ¬ (a = 115 ∧ j = ct) → C' a j = C a j
  | k, 0, _, _, _, hf, _, _ => by omega
  | 0, fu + 1, v, C, hv, _, _, hw => by
    obtain rfl : v = 113 := by omega
    rw [fX7_takeWord_L68, wrd_len, za_bnd, if_pos (nI_le (Nat.le_refl _) (by omega))]
    exact ⟨C, rfl, hw, fun _ _ _ => rfl⟩
  | k + 1, fu + 1, v, C, hv, hf, hT, hw => by
    obtain ⟨a1, a2, a3, a4⟩ := wrd_ok (v := v) (by omega)
    have wl := wlen_r _ a2
    have hpq := hq.1
    rw [fX7_takeWord_L68, wrd_len, za_bnd, if_neg (nI_ge (by omega) (by omega))]
    unfold fX7_takeWord_J128 fX7_takeWord_J137
    rcases a4 with ⟨e1, e2, e3, e4⟩ | ⟨e1, e2, e3⟩
    · rw [e2, za_bnd, if_pos rfl, za_sub a1, za_sub hpq]
      simp only [nI_add]
      have hskip : (¬ isWd T (wdA v) p q) → wok T p q (v + 1) (C 115 ct) := by
        intro hnot
        rcases hw with ⟨w, w1, w2, w3⟩ | ⟨w1, w2⟩
        · exact Or.inl ⟨w, by omega, w2, w3⟩
        · refine Or.inr ⟨fun w h1 => ?_, w2⟩
          by_cases e : w = wdA v
          · subst e; exact hnot
          · exact w1 w (by omega)
      by_cases ql : q - p = wlen (wdA v)
      · rw [if_pos (by rw [e1, ql])]
        have hsp := spell_L (C := C) (w := wdA v) (p := p) (v := v) hn hT hb (by omega) (by omega) (fun u h1 h2 => bw_ok a2 h1 (by omega)) (by omega) (wlen (wdA v)) FU 0 (by omega) (by rw [za_FU]; omega)
        unfold fX7_isSpelled
        rw [Nat.add_zero] at hsp
        by_cases hm : ∀ i, 0 ≤ i → i < wlen (wdA v) → T (p + i) = wch (wdA v) i
        · rw [hsp.1 hm, za_bnd, if_neg za_n10, za_chk _ hct (by omega), za_lt, za_lt, nI_clamp (by omega)]
          have hnew : wok T p q (v + 1) (wr C 115 ct (nI (400 + wdA v)) 115 ct) := by
            rw [za_wrs]
            exact Or.inl ⟨wdA v, by omega, ⟨by omega, fun j hj => hm j (by omega) hj⟩, rfl⟩
          obtain ⟨C', j1, j2, j3⟩ := word_L hn hb hq hct hqn k fu (v + 1) (wr C 115 ct (nI (400 + wdA v))) (by omega) (by omega) (fun i hi => by rw [za_wra (by omega)]; exact hT i hi) hnew
          rw [e3, show bgn (wdA v + 1) = v + 1 by rw [← e3]; exact e4] at j1
          exact ⟨C', j1, j2, fun a j h => (j3 a j h).trans (if_neg h)⟩
        · have hex : ∃ i, 0 ≤ i ∧ i < wlen (wdA v) ∧ T (p + i) ≠ wch (wdA v) i := by
            apply Classical.byContradiction
            intro z
            exact hm (fun i h1 h2 => Classical.byContradiction fun z2 => z ⟨i, h1, h2, z2⟩)
          rw [hsp.2 hex, za_bnd, if_pos rfl, za_lt]
          obtain ⟨C', j1, j2, j3⟩ := word_L hn hb hq hct hqn k fu (v + 1) C (by omega) (by omega) hT (hskip (fun z => by
            obtain ⟨i, h1, h2, h3⟩ := hex
            exact h3 (z.2 i h2)))
          rw [e3, show bgn (wdA v + 1) = v + 1 by rw [← e3]; exact e4] at j1
          exact ⟨C', j1, j2, j3⟩
      · rw [if_neg (show ¬ nI (v - bgn (wdA v)) = nI (q - p) from fun z => ql (by have := za_inj (by omega) (by omega) z; omega)), za_lt]
        obtain ⟨C', j1, j2, j3⟩ := word_L hn hb hq hct hqn k fu (v + 1) C (by omega) (by omega) hT (hskip (fun z => ql (by have := z.1; omega)))
        rw [e3, show bgn (wdA v + 1) = v + 1 by rw [← e3]; exact e4] at j1
        exact ⟨C', j1, j2, j3⟩
    · have wr := wch_lt (wdA v) a2 _ e1
      rw [e2, za_bnd, if_neg (fun z => by have := za_inj (by omega) (by omega) z; omega), nI_add]
      have hw2 : wok T p q (v + 1) (C 115 ct) := by
        unfold wok at *
        rw [e3]; exact hw
      obtain ⟨C', j1, j2, j3⟩ := word_L hn hb hq hct hqn k fu (v + 1) C (by omega) (by omega) hT hw2
      rw [e3] at j1
      exact ⟨C', j1, j2, j3⟩
/-- the letters of a word are passed over -/
theorem letters_L {C : Mc} {p ct : Nat} (hn : n ≤ 300) (hT : ∀ i, i < n → C 123 i = nI (T i)) (hb : ∀ i, i < n → T i < 256) : ∀ k fu u i, u + k = n → k < fu → p ≤ u → i + p = u → (∀ j, p ≤ j → j < u → j < n ∧ isLt (T j)) → ∃ q, WE T n p q ∧ u ≤ q ∧ q ≤ n ∧ fX7_takeWord_L21 fu C (nI n) (nI p) (nI ct) (nI u) (nI i) = fX7_takeWord_J49 C (nI n) (nI p) (nI ct) (nI q)
  | k, 0, _, _, _, hf, _, _, _ => by omega
  | 0, fu + 1, u, i, hu, _, hp, hi, hl => by
    obtain rfl : u = n := by omega
    refine ⟨u, ⟨hp, hl, fun z => by omega⟩, Nat.le_refl _, Nat.le_refl _, ?_⟩
    rw [fX7_takeWord_L21]
    by_cases q : u ≤ i
    · rw [if_pos (nI_le q (by omega))]
    · rw [if_neg (nI_ge (by omega) (by omega)), cb hn hT (by omega), za_bnd, il_c hb, za_bnd, if_neg (show ¬ (u < u ∧ isLt (T u)) from fun z => by omega), if_pos rfl]
  | k + 1, fu + 1, u, i, hu, hf, hp, hi, hl => by
    rw [fX7_takeWord_L21, if_neg (nI_ge (by omega) (by omega)), cb hn hT (by omega), za_bnd, il_c hb, za_bnd]
    by_cases q : isLt (T u)
    · rw [if_pos (show u < n ∧ isLt (T u) from ⟨by omega, q⟩), if_neg za_n10, nI_add, nI_add]
      obtain ⟨q', w1, w2, w3, w4⟩ := letters_L (p := p) (ct := ct) hn hT hb k fu (u + 1) (i + 1) (by omega) (by omega) (by omega) (by omega) (fun j h1 h2 => by
        by_cases e : j = u
        · subst e; exact ⟨by omega, q⟩
        · exact hl j h1 (by omega))
      exact ⟨q', w1, by omega, w3, w4⟩
    · rw [if_neg (show ¬ (u < n ∧ isLt (T u)) from fun z => q z.2), if_pos rfl]
      exact ⟨u, ⟨hp, hl, fun z => q z.2⟩, Nat.le_refl _, by omega, rfl⟩
theorem take_word {C : Mc} {p ct : Nat} (hn : n ≤ 300) (hT : ∀ i, i < n → C 123 i = nI (T i)) (hb : ∀ i, i < n → T i < 256) (hp : p < n) (hl : isLt (T p)) (hct : ct < 301) : ∃ q C', fX7_takeWord C (nI n) (nI p) (nI ct) = some (nI q, C') ∧ WE T n p q ∧ p < q ∧ q ≤ n ∧ ((∃ w, w < 22 ∧ isWd T w p q ∧ C' 115 ct = nI (400 + w)) ∨ ((∀ w, w < 22 → ¬ isWd T w p q) ∧ C' 115 ct = nI 302)) ∧ ∀ a j, ¬ (a = 115 ∧ j = ct) → C' a j = C a j := by
  obtain ⟨q, w1, w2, w3, w4⟩ := letters_L (p := p) (ct := ct) hn hT hb (n - p) FU p 0 (by omega) (by rw [za_FU]; omega) (by omega) (by omega) (fun j h1 h2 => by omega)
  have hpq : p < q := by
    rcases Nat.lt_or_ge p q with h | h
    · exact h
    · obtain rfl : q = p := by omega
      exact absurd ⟨hp, hl⟩ w1.2.2
  have hw0 : wok T p q 0 (wr C 115 ct (nI 302) 115 ct) := by
    rw [za_wrs]; exact Or.inr ⟨fun w hw => by rw [wd_0'] at hw; omega, rfl⟩
  obtain ⟨C', j1, j2, j3⟩ := word_L (T := T) hn hb w1 hct w3 113 FU 0 (wr C 115 ct (nI 302)) (by omega) (by rw [za_FU]; omega) (fun i hi => by rw [za_wra (by omega)]; exact hT i hi) hw0
  refine ⟨q, C', ?_, w1, hpq, w3, ?_, fun a j h => (j3 a j h).trans (if_neg h)⟩
  · unfold fX7_takeWord
    rw [za_inY hct (by omega), za_bnd, if_neg za_n10]
    rw [nI_0] at w4
    rw [w4]
    unfold fX7_takeWord_J49
    rw [za_chk _ hct (by omega), za_lt, nI_clamp (by omega)]
    rw [wd_0', show bgn 0 = 0 from rfl, nI_0] at j1
    exact j1
  · unfold wok at j2
    rw [wd_113] at j2
    exact j2
/-- a number -/
theorem number_L {C : Mc} {p ct : Nat} (hn : n ≤ 300) (hT : ∀ i, i < n → C 123 i = nI (T i)) (hb : ∀ i, i < n → T i < 256) : ∀ k fu u i, u + k = n → k < fu → i + p = u → (∀ j, p ≤ j → j < u → j < n ∧ isDg (T j)) → ∃ q, DE T n p q ∧ u ≤ q ∧ q ≤ n ∧ fX7_takeNumber_L24 fu C (nI n) (nI ct) (nI u) (nI (dvC T p i)) (nI i) = fX7_takeNumber_J76 C (nI ct) (nI q) (nI (dvC T p (q - p)))
  | k, 0, _, _, _, hf, _, _ => by omega
  | 0, fu + 1, u, i, hu, _, hi, hl => by
    obtain rfl : u = n := by omega
    refine ⟨u, ⟨by omega, hl, fun z => by omega⟩, Nat.le_refl _, Nat.le_refl _, ?_⟩
    rw [fX7_takeNumber_L24, show u - p = i by omega]
    by_cases q : u ≤ i
    · rw [if_pos (nI_le q (by omega))]
    · rw [if_neg (nI_ge (by omega) (by omega)), cb hn hT (by omega), za_bnd, id_c hb, za_bnd, if_neg (show ¬ (u < u ∧ isDg (T u)) from fun z => by omega), if_pos rfl]
  | k + 1, fu + 1, u, i, hu, hf, hi, hl => by
    rw [fX7_takeNumber_L24, if_neg (nI_ge (by omega) (by omega)), cb hn hT (by omega), za_bnd, id_c hb, za_bnd]
    by_cases q : isDg (T u)
    · have hd := q.1; have hd2 := q.2
      have hle : dvC T p i ≤ 10000 := by
        cases i with
        | zero => unfold dvC; omega
        | succ i => unfold dvC; omega
      have hv : xmin (nI 10000) (((nI (dvC T p i) * (nI 10)) + nI (T u)) - (nI 48)) = nI (dvC T p (i + 1)) := by
        rw [za_mul, nI_add, za_sub (by omega)]
        have e : dvC T p (i + 1) = min 10000 (dvC T p i * 10 + T u - 48) := by rw [dvC, show p + i = u by omega]
        rw [e]
        unfold xmin
        by_cases z : dvC T p i * 10 + T u - 48 < 10000
        · rw [if_pos (nI_lt z (by omega)), Nat.min_eq_right (by omega)]
        · rw [if_neg (nI_nlt (by omega) (by omega)), Nat.min_eq_left (by omega)]
      rw [if_pos (show u < n ∧ isDg (T u) from ⟨by omega, q⟩), if_neg za_n10, za_bnd]
      unfold bI
      rw [if_pos (show u < n by omega), hv, za_lt, nI_add, nI_add]
      obtain ⟨q', w1, w2, w3, w4⟩ := number_L (p := p) (ct := ct) hn hT hb k fu (u + 1) (i + 1) (by omega) (by omega) (by omega) (fun j h1 h2 => by
        by_cases e : j = u
        · subst e; exact ⟨by omega, q⟩
        · exact hl j h1 (by omega))
      exact ⟨q', w1, by omega, w3, w4⟩
    · rw [if_neg (show ¬ (u < n ∧ isDg (T u)) from fun z => q z.2), if_pos rfl]
      exact ⟨u, ⟨by omega, hl, fun z => q z.2⟩, Nat.le_refl _, by omega, by rw [show u - p = i by omega]⟩
end WT2
