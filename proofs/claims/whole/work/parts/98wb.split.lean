/-! ===== the text of a law: all tokens ===== -/
def TKS (T : Nat → Nat) (n : Nat) (C : Mc) (i0 cnt : Nat) (s q : Nat → Nat) : Prop := (∀ i, i0 ≤ i → i ≤ cnt → C 116 i = nI (s i) ∧ TokAt T n (s i) (C 115 i) (C 117 i) (q i)) ∧ (∀ i, i0 ≤ i → i < cnt → s i < n ∧ q i ≤ n ∧ s i < q i ∧ SK T n (q i) (s (i + 1))) ∧ s cnt = n
section SP
variable {T : Nat → Nat} {n : Nat}
theorem take_number {C : Mc} {p ct : Nat} (hn : n ≤ 300) (hT : ∀ i, i < n → C 123 i = nI (T i)) (hb : ∀ i, i < n → T i < 256) (hp : p < n) (hl : isDg (T p)) (hct : ct < 301) : ∃ q C', fX7_takeNumber C (nI n) (nI p) (nI ct) = some (nI q, C') ∧ DE T n p q ∧ p < q ∧ q ≤ n ∧ C' 115 ct = nI 300 ∧ C' 117 ct = nI (dvC T p (q - p)) ∧ ∀ a j, ¬ ((a = 115 ∨ a = 117) ∧ j = ct) → C' a j = C a j := by
  obtain ⟨q, w1, w2, w3, w4⟩ := number_L (C := C) (p := p) (ct := ct) hn hT hb (n - p) FU p 0 (by omega) (by rw [za_FU]; omega) (by omega) (fun j h1 h2 => by omega)
  have hpq : p < q := by
    rcases Nat.lt_or_ge p q with h | h
    · exact h
    · obtain rfl : q = p := by omega
      exact absurd ⟨hp, hl⟩ w1.2.2
  refine ⟨q, wr (wr C 115 ct (nI 300)) 117 ct (nI (dvC T p (q - p))), ?_, w1, hpq, w3, ?_, ?_, fun a j h => ?_⟩
  · unfold fX7_takeNumber
    rw [za_inY hct (by omega), za_bnd, if_neg za_n10]
    rw [show dvC T p 0 = 0 from rfl, nI_0] at w4
    rw [w4]
    unfold fX7_takeNumber_J76
    rw [za_chk _ hct (by omega), za_lt, za_chk _ hct (by omega), za_lt, nI_clamp (by omega)]
  · rw [za_wra (by omega), za_wrs]
  · rw [za_wrs]
  · rw [za_wr, if_neg (fun z => h ⟨Or.inr z.1, z.2⟩), za_wr, if_neg (fun z => h ⟨Or.inl z.1, z.2⟩)]
theorem skip_L {K8 : Mc → Int32 → Int32 → Int32 → Int32 → Option Mc} {C : Mc} {X4 X5 : Int32} (hn : n ≤ 300) (hT : ∀ i, i < n → C 123 i = nI (T i)) (hb : ∀ i, i < n → T i < 256) : ∀ m fu k j, k + m = n → m < fu → j ≤ k → ∃ q, SK T n k q ∧ q ≤ n ∧ fX7_split_L30 K8 fu C (nI n) (nI k) X4 X5 (nI j) = fX7_split_J56 K8 C (nI n) (nI q) X4 X5
  | m, 0, _, _, _, hf, _ => by omega
  | 0, fu + 1, k, j, hk, _, hj => by
    obtain rfl : k = n := by omega
    refine ⟨k, SK_rf (fun z => by omega), Nat.le_refl _, ?_⟩
    rw [fX7_split_L30]
    by_cases q : k ≤ j
    · rw [if_pos (nI_le q (by omega))]
    · rw [if_neg (nI_ge (by omega) (by omega)), cb hn hT (by omega), za_bnd]
      unfold bI
      rw [if_neg (show ¬ k < k by omega), if_neg (show ¬ (-1 : Int32) = nI 32 by decide +kernel)]
  | m + 1, fu + 1, k, j, hk, hf, hj => by
    have tb := hb k (by omega)
    rw [fX7_split_L30, if_neg (nI_ge (by omega) (by omega)), cb hn hT (by omega), za_bnd]
    unfold bI
    rw [if_pos (show k < n by omega)]
    by_cases q : T k = 32
    · rw [if_pos (by rw [q]), nI_add, nI_add]
      obtain ⟨q', s1, s2, s3⟩ := skip_L (K8 := K8) (X4 := X4) (X5 := X5) hn hT hb m fu (k + 1) (j + 1) (by omega) (by omega) (by omega)
      refine ⟨q', ⟨by have := s1.1; omega, fun i h1 h2 => ?_, s1.2.2⟩, s2, s3⟩
      by_cases e : i = k
      · subst e; exact ⟨by omega, q⟩
      · exact s1.2.1 i (by omega) h2
    · rw [if_neg (show ¬ nI (T k) = nI 32 from fun z => q (za_inj (by omega) (by omega) z))]
      exact ⟨k, SK_rf (fun z => q z.2), by omega, rfl⟩
theorem split_L (hn : n ≤ 300) (hb : ∀ i, i < n → T i < 256) : ∀ m fu k i C, k + m = n → m < fu → i ≤ k → (∀ i, i < n → C 123 i = nI (T i)) → ∃ cnt s q C', fX7_split_L8 fu C (nI n) (nI k) (nI i) (nI i) = some C' ∧ TKS T n C' i cnt s q ∧ i ≤ cnt ∧ cnt ≤ n ∧ SK T n k (s i) ∧ ∀ a j, ¬ ((a = 115 ∨ a = 116 ∨ a = 117) ∧ i ≤ j) → C' a j = C a j
  | m, 0, _, _, _, _, hf, _, _ => by omega
  | m, fu + 1, k, i, C, hk, hf, hik, hT => by
    rw [fX7_split_L8, if_neg (nI_nlt (by omega) (by omega)), za_inY (by omega) (by omega), za_bnd, if_neg za_n10]
    obtain ⟨p, s1, s2, s3⟩ := skip_L (K8 := fun M X0 X1 X2 X3 => fX7_split_L8 fu M X0 X1 X2 X3) (C := C) (X4 := nI i) (X5 := nI i) hn hT hb m FU k 0 hk (by rw [za_FU]; omega) (by omega)
    rw [nI_0] at s3
    rw [s3]
    unfold fX7_split_J56
    have hkp := s1.1
    rw [za_chk _ (show i < 301 by omega) (by omega), za_lt, za_chk _ (show i < 301 by omega) (by omega), za_lt, nI_clamp (show i < 2 ^ 31 by omega)]
    have hT1 : ∀ j, j < n → wr (wr C 116 i (nI p)) 117 i 0 123 j = nI (T j) := fun j hj => by rw [za_wra (by omega), za_wra (by omega)]; exact hT j hj
    rw [cb hn hT1 (by omega), za_bnd]
    by_cases hpn : p < n
    · have tb := hb p hpn
      have hne : ¬ bI T n p = -1 := by unfold bI; rw [if_pos hpn]; exact za_nm1 (by omega)
      have hb32 : T p ≠ 32 := fun z => s1.2.2 ⟨hpn, z⟩
      -- what is common behind a token
      have hgo : ∀ q C1, p < q → q ≤ n → C1 116 i = nI p → TokAt T n p (C1 115 i) (C1 117 i) q → (∀ a j, ¬ ((a = 115 ∨ a = 116 ∨ a = 117) ∧ i ≤ j) → C1 a j = C a j) → ∃ cnt s q' C', fX7_split_J153 (fun M X0 X1 X2 X3 => fX7_split_L8 fu M X0 X1 X2 X3) C1 (nI n) (nI q) (nI i) (nI i) (bI T n p) = some C' ∧ TKS T n C' i cnt s q' ∧ i ≤ cnt ∧ cnt ≤ n ∧ SK T n k (s i) ∧ ∀ a j, ¬ ((a = 115 ∨ a = 116 ∨ a = 117) ∧ i ≤ j) → C' a j = C a j := by
        intro q C1 h1 h2 h3 h4 h5
        unfold fX7_split_J153
        rw [if_neg hne, nI_add]
        obtain ⟨cnt, s, q', C', j1, j2, j3, j4, j5, j6⟩ := split_L hn hb (n - q) fu q (i + 1) C1 (by omega) (by omega) (by omega) (fun j hj => by rw [h5 123 j (by omega)]; exact hT j hj)
        refine ⟨cnt, fun x => if x = i then p else s x, fun x => if x = i then q else q' x, C', j1, ⟨fun x h6 h7 => ?_, fun x h6 h7 => ?_, ?_⟩, by omega, j4, ?_, fun a j h6 => (j6 a j (by omega)).trans (h5 a j h6)⟩
        · by_cases e : x = i
          · subst e
            show C' 116 x = nI (if x = x then p else s x) ∧ TokAt T n (if x = x then p else s x) (C' 115 x) (C' 117 x) (if x = x then q else q' x)
            rw [if_pos rfl, if_pos rfl, j6 116 x (by omega), j6 115 x (by omega), j6 117 x (by omega)]
            exact ⟨h3, h4⟩
          · show C' 116 x = nI (if x = i then p else s x) ∧ TokAt T n (if x = i then p else s x) (C' 115 x) (C' 117 x) (if x = i then q else q' x)
            rw [if_neg e, if_neg e]
            exact j2.1 x (by omega) h7
        · by_cases e : x = i
          · subst e
            show (if x = x then p else s x) < n ∧ (if x = x then q else q' x) ≤ n ∧ (if x = x then p else s x) < (if x = x then q else q' x) ∧ SK T n (if x = x then q else q' x) (if x + 1 = x then p else s (x + 1))
            rw [if_pos rfl, if_pos rfl, if_neg (by omega)]
            exact ⟨hpn, h2, h1, j5⟩
          · show (if x = i then p else s x) < n ∧ (if x = i then q else q' x) ≤ n ∧ (if x = i then p else s x) < (if x = i then q else q' x) ∧ SK T n (if x = i then q else q' x) (if x + 1 = i then p else s (x + 1))
            rw [if_neg e, if_neg e, if_neg (by omega)]
            exact j2.2.1 x (by omega) h7
        · show (if cnt = i then p else s cnt) = n
          rw [if_neg (by omega)]; exact j2.2.2
        · show SK T n k (if i = i then p else s i)
          rw [if_pos rfl]; exact s1
      rw [if_neg hne, il_c hb, za_bnd]
      by_cases hlt : isLt (T p)
      · rw [if_pos (show p < n ∧ isLt (T p) from ⟨hpn, hlt⟩), if_neg za_n10]
        obtain ⟨q, C1, t1, t2, t3, t4, t5, t6⟩ := take_word (ct := i) hn hT1 hb hpn hlt (by omega)
        rw [t1, za_bn2]
        refine hgo q C1 t3 t4 ?_ (Or.inr (Or.inl ⟨hpn, hlt, t2, t5⟩)) (fun a j h => ?_)
        · rw [t6 116 i (by omega), za_wra (by omega), za_wrs]
        · rw [t6 a j (by omega), za_wr, if_neg (by omega), za_wr, if_neg (by omega)]
      · rw [if_neg (show ¬ (p < n ∧ isLt (T p)) from fun z => hlt z.2), if_pos rfl, id_c hb, za_bnd]
        by_cases hdg : isDg (T p)
        · rw [if_pos (show p < n ∧ isDg (T p) from ⟨hpn, hdg⟩), if_neg za_n10]
          obtain ⟨q, C1, t1, t2, t3, t4, t5, t6, t7⟩ := take_number (ct := i) hn hT1 hb hpn hdg (by omega)
          rw [t1, za_bn2]
          refine hgo q C1 t3 t4 ?_ (Or.inr (Or.inr (Or.inl ⟨hpn, hdg, t2, t5, t6⟩))) (fun a j h => ?_)
          · rw [t7 116 i (by omega), za_wra (by omega), za_wrs]
          · rw [t7 a j (by omega), za_wr, if_neg (by omega), za_wr, if_neg (by omega)]
        · rw [if_neg (show ¬ (p < n ∧ isDg (T p)) from fun z => hdg z.2), if_pos rfl, za_chk _ (show i < 301 by omega) (by omega), za_lt, nI_add]
          refine hgo (p + 1) _ (by omega) (by omega) ?_ (Or.inr (Or.inr (Or.inr ⟨hpn, hlt, hdg, hb32, tb, ?_, rfl⟩))) (fun a j h => ?_)
          · rw [za_wra (by omega), za_wra (by omega), za_wrs]
          · rw [za_wrs]; unfold bI; rw [if_pos hpn]
          · rw [za_wr, if_neg (by omega), za_wr, if_neg (by omega), za_wr, if_neg (by omega)]
    · obtain rfl : p = n := by omega
      have he : bI T p p = -1 := if_neg hpn
      rw [he, if_pos rfl, za_chk _ (show i < 301 by omega) (by omega), za_lt]
      unfold fX7_split_J153
      rw [if_pos rfl]
      refine ⟨i, fun _ => p, fun _ => p, _, rfl, ⟨fun x h1 h2 => ?_, fun x h1 h2 => by omega, rfl⟩, Nat.le_refl _, by omega, s1, fun a j h => ?_⟩
      · obtain rfl : x = i := by omega
        refine ⟨?_, Or.inl ⟨Nat.le_refl _, za_wrs _ _ _ _⟩⟩
        rw [za_wra (by omega), za_wra (by omega), za_wrs]
      · rw [za_wr, if_neg (by omega), za_wr, if_neg (by omega), za_wr, if_neg (by omega)]
theorem split_c {C : Mc} (hn : n ≤ 300) (hb : ∀ i, i < n → T i < 256) (hT : ∀ i, i < n → C 123 i = nI (T i)) : ∃ cnt s q C', fX7_split C (nI n) = some C' ∧ TKS T n C' 0 cnt s q ∧ cnt ≤ n ∧ SK T n 0 (s 0) ∧ ∀ a, a ≠ 115 → a ≠ 116 → a ≠ 117 → C' a = C a := by
  obtain ⟨cnt, s, q, C', j1, j2, j3, j4, j5, j6⟩ := split_L hn hb n FU 0 0 C (by omega) (by rw [za_FU]; omega) (by omega) hT
  unfold fX7_split
  rw [nI_0] at j1
  exact ⟨cnt, s, q, C', j1, j2, j4, j5, fun a h1 h2 h3 => funext fun j => j6 a j (by omega)⟩
end SP
