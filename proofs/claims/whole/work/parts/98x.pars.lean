/-! ===== the parser's states, on both sides ===== -/
/-- what stays while a clause is read -/
def PFr (l c0 d0 : Nat) (Cb Rb C R : Mc) : Prop := (∀ b, b ≠ 114 → b ≠ 118 → C b = Cb b) ∧ (∀ j, j ≠ 3 → j ≠ 4 → j ≠ 5 → j ≠ 6 → j ≠ 8 → C 114 j = Cb 114 j) ∧ (∀ b, b ≠ 127 → b ≠ 135 → b ≠ 136 → R b = Rb b) ∧ (∀ j, j ≠ 11 → j ≠ 12 → j ≠ 13 → j ≠ 14 → j ≠ 15 → R 127 j = Rb 127 j) ∧ (∀ i, i < c0 → C 118 i = Cb 118 i) ∧ ∀ j, j < 400 * l + d0 → R 135 j = Rb 135 j ∧ R 136 j = Rb 136 j
def EN (T : Nat → Nat) (n l cnt : Nat) (s q : Nat → Nat) (Cb Rb : Mc) : Prop := n ≤ 300 ∧ (∀ i, i < n → T i < 256) ∧ (∀ i, i < n → Rb 134 i &&& nI 255 = nI (T i)) ∧ Rb 127 10 = nI n ∧ TKS T n Cb 0 cnt s q ∧ cnt ≤ n ∧ Rb 127 16 = nI l ∧ l < 12
def PX (T : Nat → Nat) (n l cnt : Nat) (s : Nat → Nat) (Cb Rb : Mc) (c0 d0 : Nat) (T0 : List Bool) (a p c d k o : Nat) (Ts : List Bool) (C R : Mc) : Prop := PFr l c0 d0 Cb Rb C R ∧ a ≤ cnt ∧ o ≤ 8 ∧ C 114 3 = nI a ∧ C 114 4 = Cb 115 a ∧ C 114 5 = 0 ∧ C 114 8 = nI c ∧ R 127 11 = nI p ∧ SK T n p (s a) ∧ p ≤ n ∧ (R 127 12 = 0 ∧ R 127 13 = Rb 127 13) ∧ R 127 14 = nI o ∧ R 127 15 = nI d ∧ c = c0 + k ∧ d = d0 + k ∧ sg (C 118) (R 135) (R 136) c0 (400 * l + d0) k T0 Ts
def PS2 (T : Nat → Nat) (n l cnt : Nat) (s : Nat → Nat) (Cb Rb : Mc) (c0 d0 : Nat) (T0 : List Bool) (lo sl o : Nat) (Ts : List Bool) (C R : Mc) : Prop := ∃ a p c d k, lo ≤ a ∧ c + sl ≤ a ∧ PX T n l cnt s Cb Rb c0 d0 T0 a p c d k o Ts C R
def PF2 (n l : Nat) (Cb Rb : Mc) (c0 d0 : Nat) (C R : Mc) : Prop := PFr l c0 d0 Cb Rb C R ∧ ∃ f p, 1 ≤ f ∧ f ≤ 3 ∧ C 114 5 = nI f ∧ C 114 4 = nI 302 ∧ R 127 12 = nI f ∧ R 127 13 = C 114 6 ∧ R 127 11 = nI p ∧ p ≤ n
def PH (T : Nat → Nat) (n l cnt : Nat) (s : Nat → Nat) (Cb Rb : Mc) (c0 d0 : Nat) (T0 : List Bool) (lo sl o : Nat) (Ts : List Bool) (C R : Mc) : Prop := PS2 T n l cnt s Cb Rb c0 d0 T0 lo sl o Ts C R ∨ PF2 n l Cb Rb c0 d0 C R
theorem sg_con {cc rc rn cc' rc' rn' : Nat → Int32} {f r : Nat} : ∀ {k : Nat} {U V : List Bool}, (∀ i, i < k → cc' (f + i) = cc (f + i) ∧ rc' (r + i) = rc (r + i) ∧ rn' (r + i) = rn (r + i)) → sg cc rc rn f r k U V → sg cc' rc' rn' f r k U V
  | 0, _, _, _, h => h
  | k + 1, _, _, e, ⟨T1, h1, h2⟩ => ⟨T1, sg_con (fun i hi => e i (by omega)) h1, by rw [(e k (by omega)).1, (e k (by omega)).2.1, (e k (by omega)).2.2]; exact h2⟩
/-- a sign of its own -/
def chS (ch : Nat) : Prop := ch < 256 ∧ 0 < ch ∧ ch ≠ 32 ∧ ¬ isLt ch ∧ ¬ isDg ch
section PXs
variable {T : Nat → Nat} {n l cnt : Nat} {s q : Nat → Nat} {Cb Rb C R : Mc} {c0 d0 : Nat} {T0 Ts Ts' : List Bool} {lo sl o a p c d k : Nat}
theorem tok_at (he : EN T n l cnt s q Cb Rb) (ha : a ≤ cnt) : TokAt T n (s a) (Cb 115 a) (Cb 117 a) (q a) ∧ Cb 116 a = nI (s a) := ⟨(he.2.2.2.2.1.1 a (by omega) ha).2, (he.2.2.2.2.1.1 a (by omega) ha).1⟩
theorem tok_end (he : EN T n l cnt s q Cb Rb) : Cb 115 cnt = nI 301 := by
  have h := (tok_at he (Nat.le_refl cnt)).1
  rw [he.2.2.2.2.1.2.2] at h
  rcases h with ⟨_, h⟩ | ⟨h, _⟩ | ⟨h, _⟩ | ⟨h, _⟩
  · exact h
  · omega
  · omega
  · omega
theorem tok_lt (he : EN T n l cnt s q Cb Rb) (ha : a ≤ cnt) (h : Cb 115 a ≠ nI 301) : a < cnt := by
  rcases Nat.lt_or_ge a cnt with h1 | h1
  · exact h1
  · obtain rfl : a = cnt := by omega
    exact absurd (tok_end he) h
theorem s_le (he : EN T n l cnt s q Cb Rb) (ha : a ≤ cnt) : s a ≤ n := by
  rcases Nat.lt_or_ge a cnt with h1 | h1
  · have := (he.2.2.2.2.1.2.1 a (by omega) h1).1; omega
  · obtain rfl : a = cnt := by omega
    rw [he.2.2.2.2.1.2.2]; exact Nat.le_refl _
theorem chr_tok {p' : Nat} {tk nu : Int32} {q' ch : Nat} (h : TokAt T n p' tk nu q') (hc : chS ch) : (tk = nI ch → p' < n ∧ T p' = ch ∧ q' = p' + 1) ∧ (tk ≠ nI ch → rI T n p' ≠ nI ch) := by
  obtain ⟨h1, h2, h3, h4, h5⟩ := hc
  unfold rI
  rcases h with ⟨g1, rfl⟩ | ⟨g1, g2, g3, g4⟩ | ⟨g1, g2, g3, rfl, g5⟩ | ⟨g1, g2, g3, g4, g5, rfl, g7⟩
  · refine ⟨fun z => by have := za_inj (by omega) (by omega) z; omega, fun _ => ?_⟩
    rw [if_neg (by omega)]
    intro z; have := (za_eq0 (by omega)).mp z.symm; omega
  · refine ⟨fun z => ?_, fun _ => ?_⟩
    · rcases g4 with ⟨w, w1, w2, rfl⟩ | ⟨_, rfl⟩
      · have := za_inj (by omega) (by omega) z; omega
      · have := za_inj (by omega) (by omega) z; omega
    · rw [if_pos g1]; intro z
      have := za_inj (by have := g2.2; omega) (by omega) z
      rw [this] at g2; exact h4 g2
  · refine ⟨fun z => by have := za_inj (by omega) (by omega) z; omega, fun _ => ?_⟩
    rw [if_pos g1]; intro z
    have := za_inj (by have := g2.2; omega) (by omega) z
    rw [this] at g2; exact h5 g2
  · refine ⟨fun z => ⟨g1, za_inj (by omega) (by omega) z, g7⟩, fun z => ?_⟩
    rw [if_pos g1]; exact z
theorem dig_tok {p' : Nat} {tk nu : Int32} {q' : Nat} (h : TokAt T n p' tk nu q') : (tk = nI 300 → p' < n ∧ isDg (T p') ∧ DE T n p' q' ∧ nu = nI (dvC T p' (q' - p'))) ∧ (tk ≠ nI 300 → ¬ (p' < n ∧ isDg (T p'))) := by
  rcases h with ⟨g1, rfl⟩ | ⟨g1, g2, g3, g4⟩ | ⟨g1, g2, g3, rfl, g5⟩ | ⟨g1, g2, g3, g4, g5, rfl, g7⟩
  · exact ⟨fun z => by have := za_inj (by omega) (by omega) z; omega, fun _ z => by omega⟩
  · refine ⟨fun z => ?_, fun _ z => ?_⟩
    · rcases g4 with ⟨w, w1, w2, rfl⟩ | ⟨_, rfl⟩
      · have := za_inj (by omega) (by omega) z; omega
      · have := za_inj (by omega) (by omega) z; omega
    · have h1 := g2.1; have h2 := z.2.2; omega
  · exact ⟨fun _ => ⟨g1, g2, g3, g5⟩, fun z => absurd rfl z⟩
  · exact ⟨fun z => by have := za_inj (by omega) (by omega) z; omega, fun _ z => g3 z.2⟩
theorem bl_L (hn : n ≤ 300) {u : Nat} : ∀ m fu p R, p + m = n → m < fu → R 127 10 = nI n → (∀ i, i < n → R 134 i &&& nI 255 = nI (T i)) → (∀ i, i < n → T i < 256) → R 127 11 = nI p → SK T n p u → ∃ R', fX12_blanks_L0 fu R = some R' ∧ (∀ b j, ¬ (b = 127 ∧ j = 11) → R' b j = R b j) ∧ R' 127 11 = nI u
  | m, 0, _, _, _, hf, _, _, _, _, _ => by omega
  | 0, fu + 1, p, R, hp, _, h1, hT, hb, h2, hs => by
    have e : u = p := by
      rcases Nat.lt_or_ge p u with z | z
      · have := hs.2.1 p (Nat.le_refl _) z; omega
      · have := hs.1; omega
    subst e
    rw [fX12_blanks_L0, h1, h2, if_pos (nI_le (by omega) (by omega))]
    exact ⟨R, rfl, fun _ _ _ => rfl, h2⟩
  | m + 1, fu + 1, p, R, hp, hf, h1, hT, hb, h2, hs => by
    have tb := hb p (by omega)
    rw [fX12_blanks_L0, h1, h2, if_neg (nI_ge (by omega) (by omega)), rb h1 hn hT (by omega), za_bnd]
    unfold rI
    rw [if_pos (show p < n by omega)]
    by_cases z : T p = 32
    · have hu : p < u := by
        rcases Nat.lt_or_ge p u with y | y
        · exact y
        · have : u = p := by have := hs.1; omega
          subst this; exact absurd ⟨by omega, z⟩ hs.2.2
      rw [if_pos (by rw [z]), za_lt, nI_add]
      obtain ⟨R', j1, j2, j3⟩ := bl_L hn m fu (p + 1) (wr R 127 11 (nI (p + 1))) (by omega) (by omega) (by rw [za_wri (by omega)]; exact h1) (fun i hi => by rw [za_wra (by omega)]; exact hT i hi) hb (za_wrs _ _ _ _) ⟨by omega, fun i h3 h4 => hs.2.1 i (by omega) h4, hs.2.2⟩
      exact ⟨R', j1, fun b j hh => (j2 b j hh).trans (if_neg hh), j3⟩
    · rw [if_neg (show ¬ nI (T p) = nI 32 from fun y => z (za_inj (by omega) (by omega) y))]
      refine ⟨R, rfl, fun _ _ _ => rfl, ?_⟩
      rw [h2]; congr 1
      rcases Nat.lt_or_ge p u with y | y
      · exact absurd (hs.2.1 p (Nat.le_refl _) y).2 z
      · have := hs.1; omega
theorem pfr_at {R' : Mc} (h : PFr l c0 d0 Cb Rb C R) (h1 : ∀ b j, ¬ (b = 127 ∧ (j = 11 ∨ j = 12 ∨ j = 13 ∨ j = 14 ∨ j = 15)) → R' b j = R b j) : PFr l c0 d0 Cb Rb C R' :=
  ⟨h.1, h.2.1, fun b b1 b2 b3 => (funext fun j => h1 b j (fun z => b1 z.1)).trans (h.2.2.1 b b1 b2 b3), fun j j1 j2 j3 j4 j5 => (h1 127 j (by omega)).trans (h.2.2.2.1 j j1 j2 j3 j4 j5), h.2.2.2.2.1, fun j hj => ⟨(h1 135 j (by omega)).trans (h.2.2.2.2.2 j hj).1, (h1 136 j (by omega)).trans (h.2.2.2.2.2 j hj).2⟩⟩
theorem pfr_c {C' : Mc} (h : PFr l c0 d0 Cb Rb C R) (h1 : ∀ b j, ¬ (b = 114 ∧ (j = 3 ∨ j = 4 ∨ j = 5 ∨ j = 6 ∨ j = 8)) → C' b j = C b j) : PFr l c0 d0 Cb Rb C' R :=
  ⟨fun b b1 b2 => (funext fun j => h1 b j (fun z => b1 z.1)).trans (h.1 b b1 b2), fun j j1 j2 j3 j4 j5 => (h1 114 j (by omega)).trans (h.2.1 j j1 j2 j3 j4 j5), h.2.2.1, h.2.2.2.1, fun i hi => (h1 118 i (by omega)).trans (h.2.2.2.2.1 i hi), h.2.2.2.2.2⟩
theorem px_at {R' : Mc} {p' : Nat} (h : PX T n l cnt s Cb Rb c0 d0 T0 a p c d k o Ts C R) (h1 : ∀ b j, ¬ (b = 127 ∧ j = 11) → R' b j = R b j) (h2 : R' 127 11 = nI p') (h3 : SK T n p' (s a)) (h4 : p' ≤ n) : PX T n l cnt s Cb Rb c0 d0 T0 a p' c d k o Ts C R' := by
  obtain ⟨g1, g2, g3, g4, g5, g6, g7, g8, g9, g10, g11, g12, g13, g14, g15, g16⟩ := h
  refine ⟨pfr_at g1 (fun b j hh => h1 b j (by omega)), g2, g3, g4, g5, g6, g7, h2, h3, h4, ?_, ?_, ?_, g14, g15, ?_⟩
  · rw [h1 127 12 (by omega), h1 127 13 (by omega)]; exact g11
  · rw [h1 127 14 (by omega)]; exact g12
  · rw [h1 127 15 (by omega)]; exact g13
  · rw [show R' 135 = R 135 from funext fun j => h1 135 j (by omega), show R' 136 = R 136 from funext fun j => h1 136 j (by omega)]; exact g16
/-- the facts of the reference's text, at any state -/
theorem pf_txt (he : EN T n l cnt s q Cb Rb) (h : PFr l c0 d0 Cb Rb C R) : R 127 10 = nI n ∧ (∀ i, i < n → R 134 i &&& nI 255 = nI (T i)) ∧ R 127 16 = nI l := by
  refine ⟨(h.2.2.2.1 10 (by omega) (by omega) (by omega) (by omega) (by omega)).trans he.2.2.2.1, fun i hi => ?_, (h.2.2.2.1 16 (by omega) (by omega) (by omega) (by omega) (by omega)).trans he.2.2.2.2.2.2.1⟩
  rw [h.2.2.1 134 (by omega) (by omega) (by omega)]; exact he.2.2.1 i hi
theorem px_bl (he : EN T n l cnt s q Cb Rb) (h : PX T n l cnt s Cb Rb c0 d0 T0 a p c d k o Ts C R) : ∃ R', fX12_blanks R = some R' ∧ PX T n l cnt s Cb Rb c0 d0 T0 a (s a) c d k o Ts C R' := by
  obtain ⟨t1, t2, _⟩ := pf_txt he h.1
  obtain ⟨R', j1, j2, j3⟩ := bl_L he.1 (n - p) FU p R (by have := h.2.2.2.2.2.2.2.2.2.1; omega) (by have := he.1; rw [za_FU]; omega) t1 t2 he.2.1 h.2.2.2.2.2.2.2.1 h.2.2.2.2.2.2.2.2.1
  exact ⟨R', j1, px_at h j2 j3 (SK_rf h.2.2.2.2.2.2.2.2.1.2.2) (s_le he h.2.1)⟩
theorem px_bl0 (he : EN T n l cnt s q Cb Rb) (h : PX T n l cnt s Cb Rb c0 d0 T0 a (s a) c d k o Ts C R) : fX12_blanks R = some R := by
  obtain ⟨t1, t2, _⟩ := pf_txt he h.1
  have h11 := h.2.2.2.2.2.2.2.1
  have hn := he.1
  have hs := s_le he h.2.1
  unfold fX12_blanks
  rw [za_FU, fX12_blanks_L0, t1, h11]
  by_cases z : s a < n
  · have tb := he.2.1 _ z
    rw [if_neg (nI_ge z (by omega)), rb t1 hn t2 (by omega), za_bnd]
    unfold rI
    rw [if_pos z, if_neg (show ¬ nI (T (s a)) = nI 32 from fun y => h.2.2.2.2.2.2.2.2.1.2.2 ⟨z, za_inj (by omega) (by omega) y⟩)]
  · rw [if_pos (nI_le (by omega) (by omega))]
theorem px_byte (he : EN T n l cnt s q Cb Rb) (h : PX T n l cnt s Cb Rb c0 d0 T0 a (s a) c d k o Ts C R) : fX12_byteAt R (R 127 11) = some (rI T n (s a)) := by
  obtain ⟨t1, t2, _⟩ := pf_txt he h.1
  have hn := he.1
  have hs := s_le he h.2.1
  rw [h.2.2.2.2.2.2.2.1]
  exact rb t1 hn t2 (by omega)
theorem pf_bl (he : EN T n l cnt s q Cb Rb) (h : PF2 n l Cb Rb c0 d0 C R) : ∃ R', fX12_blanks R = some R' ∧ PF2 n l Cb Rb c0 d0 C R' := by
  obtain ⟨g1, f, p, f1, f2, f3, f4, f5, f6, f7, f8⟩ := h
  obtain ⟨t1, t2, _⟩ := pf_txt he g1
  -- how far the blanks go
  have hex : ∀ m p, p + m = n → ∃ u, SK T n p u ∧ u ≤ n := by
    intro m
    induction m with
    | zero => intro p hp; exact ⟨p, SK_rf (fun z => by omega), by omega⟩
    | succ m ih =>
      intro p hp
      by_cases z : T p = 32
      · obtain ⟨u, u1, u2⟩ := ih (p + 1) (by omega)
        refine ⟨u, ⟨by have := u1.1; omega, fun i h1 h2 => ?_, u1.2.2⟩, u2⟩
        by_cases e : i = p
        · subst e; exact ⟨by omega, z⟩
        · exact u1.2.1 i (by omega) h2
      · exact ⟨p, SK_rf (fun y => z y.2), by omega⟩
  obtain ⟨u, u1, u2⟩ := hex (n - p) p (by omega)
  obtain ⟨R', j1, j2, j3⟩ := bl_L he.1 (n - p) FU p R (by omega) (by have := he.1; rw [za_FU]; omega) t1 t2 he.2.1 f7 u1
  exact ⟨R', j1, pfr_at g1 (fun b j hh => j2 b j (by omega)), f, u, f1, f2, f3, f4, by rw [j2 127 12 (by omega)]; exact f5, by rw [j2 127 13 (by omega)]; exact f6, j3, u2⟩
/-- the class goes on to the next token, the reference behind this one -/
theorem px_go (he : EN T n l cnt s q Cb Rb) (h : PX T n l cnt s Cb Rb c0 d0 T0 a (s a) c d k o Ts C R) (ha : a < cnt) : ∃ C', fX7_goOn C = some C' ∧ ∀ R', (∀ b j, ¬ (b = 127 ∧ j = 11) → R' b j = R b j) → R' 127 11 = nI (q a) → PX T n l cnt s Cb Rb c0 d0 T0 (a + 1) (q a) c d k o Ts C' R' := by
  obtain ⟨g1, g2, g3, g4, g5, g6, g7, g8, g9, g10, g11, g12, g13, g14, g15, g16⟩ := h
  have hn := he.1
  have hc := he.2.2.2.2.2.1
  obtain ⟨s1, s2, s3, s4⟩ := he.2.2.2.2.1.2.1 a (by omega) ha
  have e115 : C 115 = Cb 115 := g1.1 115 (by omega) (by omega)
  refine ⟨wr (wr C 114 3 (nI (a + 1))) 114 4 (Cb 115 (a + 1)), ?_, fun R' h1 h2 => ?_⟩
  · unfold fX7_goOn
    rw [g6, if_pos rfl, g4, nI_add, za_inY (by omega) (by omega), za_bnd, if_neg za_n10, za_lt, za_wrs, za_chk _ (by omega) (by omega), za_lt, nI_clamp (by omega), za_wra (by omega), e115]
  · refine ⟨pfr_at (pfr_c g1 (fun b j hh => by rw [za_wr, if_neg (by omega), za_wr, if_neg (by omega)])) (fun b j hh => h1 b j (by omega)), by omega, g3, ?_, ?_, ?_, ?_, h2, s4, s2, ?_, ?_, ?_, g14, g15, ?_⟩
    · rw [za_wri (by omega), za_wrs]
    · rw [za_wrs]
    · rw [za_wri (by omega), za_wri (by omega)]; exact g6
    · rw [za_wri (by omega), za_wri (by omega)]; exact g7
    · rw [h1 127 12 (by omega), h1 127 13 (by omega)]; exact g11
    · rw [h1 127 14 (by omega)]; exact g12
    · rw [h1 127 15 (by omega)]; exact g13
    · rw [show R' 135 = R 135 from funext fun j => h1 135 j (by omega), show R' 136 = R 136 from funext fun j => h1 136 j (by omega), za_wrc (by omega), za_wrc (by omega)]; exact g16
/-- a fault, on both sides -/
theorem px_fail {f : Nat} (he : EN T n l cnt s q Cb Rb) (h : PX T n l cnt s Cb Rb c0 d0 T0 a (s a) c d k o Ts C R) (hf1 : 1 ≤ f) (hf3 : f ≤ 3) : ∃ C' R', fX7_fail C (nI f) = some C' ∧ fX12_wrong R (nI f) (R 127 11) = some R' ∧ R' = wr (wr R 127 12 (nI f)) 127 13 (nI (s a)) ∧ ∀ R2, (∀ b j, ¬ (b = 127 ∧ (j = 11 ∨ j = 14)) → R2 b j = R' b j) → (∃ p, R2 127 11 = nI p ∧ p ≤ n) → PF2 n l Cb Rb c0 d0 C' R2 := by
  obtain ⟨g1, g2, g3, g4, g5, g6, g7, g8, g9, g10, g11, g12, g13, g14, g15, g16⟩ := h
  have hn := he.1
  have hc := he.2.2.2.2.2.1
  obtain ⟨_, e116⟩ := tok_at he g2
  have e : C 116 a = nI (s a) := (congrFun (g1.1 116 (by omega) (by omega)) a).trans e116
  refine ⟨wr (wr (wr C 114 5 (nI f)) 114 6 (nI (s a))) 114 4 (nI 302), wr (wr R 127 12 (nI f)) 127 13 (nI (s a)), ?_, ?_, rfl, fun R2 h1 h2 => ?_⟩
  · unfold fX7_fail fX7_fail_J42
    rw [g6, if_pos rfl, za_lt, za_wri (by omega), g4, za_inY (by omega) (by omega), za_bnd, if_neg za_n10, za_chk _ (by omega) (by omega), za_lt, za_lt, nI_clamp (by omega), za_wra (by omega), e]
  · unfold fX12_wrong
    rw [g11.1, if_pos (Int32.le_refl _), za_lt, za_lt, g8]
  · obtain ⟨p2, p3, p4⟩ := h2
    refine ⟨pfr_at (pfr_c g1 (fun b j hh => by rw [za_wr, if_neg (by omega), za_wr, if_neg (by omega), za_wr, if_neg (by omega)])) (fun b j hh => ?_), f, p2, hf1, hf3, ?_, ?_, ?_, ?_, p3, p4⟩
    · rw [h1 b j (by omega), za_wr, if_neg (by omega), za_wr, if_neg (by omega)]
    · rw [za_wri (by omega), za_wri (by omega), za_wrs]
    · rw [za_wrs]
    · rw [h1 127 12 (by omega), za_wri (by omega), za_wrs]
    · rw [h1 127 13 (by omega), za_wrs, za_wri (by omega), za_wrs]
theorem px_fail0 {f : Nat} (he : EN T n l cnt s q Cb Rb) (h : PX T n l cnt s Cb Rb c0 d0 T0 a (s a) c d k o Ts C R) (hf1 : 1 ≤ f) (hf3 : f ≤ 3) : ∃ C' R', fX7_fail C (nI f) = some C' ∧ fX12_wrong R (nI f) (R 127 11) = some R' ∧ PF2 n l Cb Rb c0 d0 C' R' := by
  obtain ⟨C', R', h1, h2, h3, h4⟩ := px_fail he h hf1 hf3
  refine ⟨C', R', h1, h2, h4 R' (fun _ _ _ => rfl) ⟨s a, ?_, s_le he h.2.1⟩⟩
  rw [h3, za_wri (by omega), za_wri (by omega)]; exact h.2.2.2.2.2.2.2.1
/-- behind a fault nothing more happens -/
theorem pf_go (h : PF2 n l Cb Rb c0 d0 C R) : fX7_goOn C = some C := by
  obtain ⟨_, f, p, f1, f2, f3, f4, _⟩ := h
  unfold fX7_goOn
  rw [f3, if_neg (fun z => by have := (za_eq0 (by omega)).mp z; omega)]
theorem pf_fail {v : Int32} (h : PF2 n l Cb Rb c0 d0 C R) : fX7_fail C v = some C := by
  obtain ⟨_, f, p, f1, f2, f3, f4, _⟩ := h
  unfold fX7_fail
  rw [f3, if_neg (fun z => by have := (za_eq0 (by omega)).mp z; omega)]
theorem pf_put {v : Int32} (h : PF2 n l Cb Rb c0 d0 C R) : fX7_put C v = some C := by
  obtain ⟨_, f, p, f1, f2, f3, f4, _⟩ := h
  unfold fX7_put
  rw [f3, if_neg (fun z => by have := (za_eq0 (by omega)).mp z; omega)]
theorem pf_tok (h : PF2 n l Cb Rb c0 d0 C R) : C 114 4 = nI 302 := by obtain ⟨_, f, p, f1, f2, f3, f4, _⟩ := h; exact f4
theorem pf_flt (h : PF2 n l Cb Rb c0 d0 C R) : ¬ C 114 5 = 0 ∧ ¬ R 127 12 = 0 ∧ ¬ R 127 12 ≤ 0 := by
  obtain ⟨_, f, p, f1, f2, f3, f4, f5, _⟩ := h
  rw [f3, f5]
  exact ⟨fun z => by have := (za_eq0 (by omega)).mp z; omega, fun z => by have := (za_eq0 (by omega)).mp z; omega, fun z => by have := (za_le0 (by omega)).mp z; omega⟩
theorem n302 {v : Nat} (h : v < 2 ^ 31) (hv : v ≠ 302) : ¬ nI 302 = nI v := fun z => hv (za_inj (by omega) h z).symm
theorem pf_expect {v : Nat} (h : PF2 n l Cb Rb c0 d0 C R) (hv : v < 2 ^ 31) (h302 : v ≠ 302) : fX7_expect C (nI v) = some C := by
  unfold fX7_expect
  rw [pf_tok h, if_neg (n302 hv h302), pf_fail h, za_bnd]
theorem pf_open {v : Nat} {w : Int32} (h : PF2 n l Cb Rb c0 d0 C R) (hv : v < 2 ^ 31) (h302 : v ≠ 302) : fX7_openWith C (nI v) w = some C := by
  unfold fX7_openWith
  rw [pf_tok h, if_neg (n302 hv h302), pf_fail h, za_bnd]
theorem pf_sign {v : Int32} (h : PF2 n l Cb Rb c0 d0 C R) : fX12_sign R v = some R := by
  unfold fX12_sign; rw [if_neg (pf_flt h).2.2]
theorem pf_emits {v w : Int32} (h : PF2 n l Cb Rb c0 d0 C R) : fX12_emits R v w = some R := by
  unfold fX12_emits; rw [if_neg (pf_flt h).2.2]
theorem pf_wrong {v w : Int32} (h : PF2 n l Cb Rb c0 d0 C R) : fX12_wrong R v w = some R := by
  unfold fX12_wrong; rw [if_neg (pf_flt h).2.2]
theorem pf_bracket (h : PF2 n l Cb Rb c0 d0 C R) : fX12_bracket R = some R := by
  unfold fX12_bracket; rw [if_neg (pf_flt h).2.2]
theorem pf_o {v : Int32} (h : PF2 n l Cb Rb c0 d0 C R) : PF2 n l Cb Rb c0 d0 C (wr R 127 14 v) := by
  obtain ⟨g1, f, p, f1, f2, f3, f4, f5, f6, f7, f8⟩ := h
  exact ⟨pfr_at g1 (fun b j hh => by rw [za_wr, if_neg (by omega)]), f, p, f1, f2, f3, f4, by rw [za_wri (by omega)]; exact f5, by rw [za_wri (by omega)]; exact f6, by rw [za_wri (by omega)]; exact f7, f8⟩
theorem pf_closes {v : Int32} (h : PF2 n l Cb Rb c0 d0 C R) : ∃ R', fX12_closes R v = some R' ∧ PF2 n l Cb Rb c0 d0 C R' := by
  unfold fX12_closes
  rw [pf_sign h, za_bnd, za_lt]
  exact ⟨_, rfl, pf_o h⟩
theorem pf_eat {i : Nat} (h : PF2 n l Cb Rb c0 d0 C R) : fX12_eat R i = some (0, R) := by
  unfold fX12_eat fX12_eat_J19 fX12_eat_J20
  rw [if_neg (pf_flt h).2.1, if_pos rfl, za_chp _ isz0]
/-- a sign that is wanted -/
theorem st_expect {ch : Nat} (he : EN T n l cnt s q Cb Rb) (hc : chS ch) (h : PH T n l cnt s Cb Rb c0 d0 T0 lo sl o Ts C R) : ∃ C' R', fX7_expect C (nI ch) = some C' ∧ fX12_sign R (nI ch) = some R' ∧ PH T n l cnt s Cb Rb c0 d0 T0 (lo + 1) (sl + 1) o Ts C' R' := by
  rcases h with ⟨a, p, c, d, k, h1, h2, h⟩ | h
  · obtain ⟨R1, r1, hx⟩ := px_bl he h
    obtain ⟨tk, _⟩ := tok_at he h.2.1
    obtain ⟨t1, t2, _⟩ := pf_txt he hx.1
    have hn := he.1
    have hsl := s_le he h.2.1
    have e11 := hx.2.2.2.2.2.2.2.1
    have hch := hc.1
    unfold fX7_expect fX12_sign fX12_sign_J48
    rw [h.2.2.2.2.1, h.2.2.2.2.2.2.2.2.2.2.1.1, if_pos (Int32.le_refl _), r1, za_bnd]
    by_cases z : Cb 115 a = nI ch
    · obtain ⟨z1, z2, z3⟩ := (chr_tok tk hc).1 z
      have hlt : a < cnt := tok_lt he h.2.1 (by rw [z]; exact fun y => by have := za_inj (by omega) (by omega) y; omega)
      obtain ⟨C', c1, c2⟩ := px_go he hx hlt
      rw [if_pos z, c1, za_bnd, t1, e11, if_neg (nI_ge z1 (by omega)), ← e11, px_byte he hx, za_bnd]
      unfold rI
      rw [if_pos z1, z2, if_pos rfl, za_lt]
      exact ⟨C', _, rfl, rfl, Or.inl ⟨a + 1, q a, c, d, k, by omega, by omega, c2 _ (fun b j hh => if_neg hh) (by rw [za_wrs, e11, nI_add, z3])⟩⟩
    · obtain ⟨C', R', f1, f2, f3⟩ := px_fail0 (f := 1) he hx (by omega) (by omega)
      rw [if_neg z, f1, za_bnd, t1]
      refine ⟨C', R', rfl, ?_, Or.inr f3⟩
      by_cases y : nI n ≤ R1 127 11
      · rw [if_pos y, f2, za_bnd]
      · rw [if_neg y, px_byte he hx, za_bnd, if_neg ((chr_tok tk hc).2 z), f2, za_bnd]
  · exact ⟨C, R, pf_expect h (by have := hc.1; omega) (by have := hc.1; omega), pf_sign h, Or.inr h⟩
theorem px_o {o' : Nat} {v : Int32} (h : PX T n l cnt s Cb Rb c0 d0 T0 a p c d k o Ts C R) (ho : o' ≤ 8) (hv : v = nI o') : PX T n l cnt s Cb Rb c0 d0 T0 a p c d k o' Ts C (wr R 127 14 v) := by
  obtain ⟨g1, g2, g3, g4, g5, g6, g7, g8, g9, g10, g11, g12, g13, g14, g15, g16⟩ := h
  refine ⟨pfr_at g1 (fun b j hh => by rw [za_wr, if_neg (by omega)]), g2, ho, g4, g5, g6, g7, ?_, g9, g10, ?_, ?_, ?_, g14, g15, ?_⟩
  · rw [za_wri (by omega)]; exact g8
  · rw [za_wri (by omega), za_wri (by omega)]; exact g11
  · rw [za_wrs]; exact hv
  · rw [za_wri (by omega)]; exact g13
  · rw [za_wrc (by omega), za_wrc (by omega)]; exact g16
theorem st_closes {ch : Nat} (he : EN T n l cnt s q Cb Rb) (hc : chS ch) (h : PH T n l cnt s Cb Rb c0 d0 T0 lo sl (o + 1) Ts C R) : ∃ C' R', fX7_expect C (nI ch) = some C' ∧ fX12_closes R (nI ch) = some R' ∧ PH T n l cnt s Cb Rb c0 d0 T0 (lo + 1) (sl + 1) o Ts C' R' := by
  obtain ⟨C1, R1, e1, e2, e3⟩ := st_expect he hc h
  unfold fX12_closes
  rw [e1, e2, za_bnd, za_lt]
  refine ⟨C1, _, rfl, rfl, ?_⟩
  rcases e3 with ⟨a, p, c, d, k, h1, h2, h3⟩ | h3
  · exact Or.inl ⟨a, p, c, d, k, h1, h2, px_o h3 (by have := h3.2.2.1; omega) (by rw [h3.2.2.2.2.2.2.2.2.2.2.2.1]; exact nis rfl)⟩
  · exact Or.inr (pf_o h3)
/-- what opens one more -/
theorem px_open {tc len : Nat} (he : EN T n l cnt s q Cb Rb) (h : PX T n l cnt s Cb Rb c0 d0 T0 a (s a) c d k o Ts C R) (htk : Cb 115 a = nI tc) (htc : tc < 2 ^ 31) (htc2 : tc ≠ 301) (hlen : q a = s a + len) (hl1 : lo ≤ a) (hl2 : c + sl ≤ a) : ∃ C' R', fX7_openWith C (nI tc) (nI o) = some C' ∧ fX12_opens R (nI len) = some R' ∧ PH T n l cnt s Cb Rb c0 d0 T0 (lo + 1) (sl + 1) (o + 1) Ts C' R' := by
  have hlt : a < cnt := tok_lt he h.2.1 (by rw [htk]; exact fun y => htc2 (za_inj htc (by omega) y))
  have e11 := h.2.2.2.2.2.2.2.1
  have e14 := h.2.2.2.2.2.2.2.2.2.2.2.1
  have ho := h.2.2.1
  have hq := (he.2.2.2.2.1.2.1 a (by omega) hlt).2.1
  unfold fX7_openWith fX12_opens fX12_opens_J18
  rw [h.2.2.2.2.1, htk, if_pos rfl, e14]
  by_cases z : o < 8
  · obtain ⟨C', c1, c2⟩ := px_go he h hlt
    rw [if_pos (nI_lt z (by omega)), c1, za_bnd, if_neg (show ¬ nI o = nI 8 from fun y => by have := za_inj (by omega) (by omega) y; omega), za_lt, za_lt, nI_add]
    refine ⟨C', _, rfl, rfl, Or.inl ⟨a + 1, q a, c, d, k, by omega, by omega, ?_⟩⟩
    have hw : wr (wr R 127 14 (nI (o + 1))) 127 11 (wr R 127 14 (nI (o + 1)) 127 11 + nI len) = wr (wr R 127 11 (nI (q a))) 127 14 (nI (o + 1)) := by
      rw [za_wri (by omega), e11, nI_add, ← hlen]
      funext b j
      simp only [za_wr]
      by_cases y1 : b = 127 ∧ j = 11
      · rw [if_pos y1, if_neg (by omega), if_pos y1]
      · rw [if_neg y1, if_neg y1]
    rw [hw]
    exact px_o (c2 _ (fun b j hh => if_neg hh) (za_wrs _ _ _ _)) (by omega) rfl
  · obtain rfl : o = 8 := by omega
    obtain ⟨C', R', f1, f2, f3, f4⟩ := px_fail (f := 3) he h (by omega) (by omega)
    rw [if_neg (nI_nlt (Nat.le_refl _) (by omega)), f1, za_bnd, if_pos rfl, f2, za_bnd, za_lt, za_lt]
    refine ⟨C', _, rfl, rfl, Or.inr (f4 _ (fun b j hh => by rw [za_wr, if_neg (by omega), za_wr, if_neg (by omega)]) ⟨q a, ?_, hq⟩)⟩
    rw [za_wrs, za_wri (by omega), f3, za_wri (by omega), za_wri (by omega), e11, nI_add, hlen]
theorem st_bracket (he : EN T n l cnt s q Cb Rb) (h : PH T n l cnt s Cb Rb c0 d0 T0 lo sl o Ts C R) : ∃ C' R', fX7_openWith C (nI 40) (nI o) = some C' ∧ fX12_bracket R = some R' ∧ PH T n l cnt s Cb Rb c0 d0 T0 (lo + 1) (sl + 1) (o + 1) Ts C' R' := by
  have hc : chS 40 := by unfold chS isLt isDg; omega
  rcases h with ⟨a, p, c, d, k, h1, h2, h⟩ | h
  · obtain ⟨R1, r1, hx⟩ := px_bl he h
    obtain ⟨tk, _⟩ := tok_at he h.2.1
    unfold fX12_bracket
    rw [h.2.2.2.2.2.2.2.2.2.2.1.1, if_pos (Int32.le_refl _), r1, za_bnd, px_byte he hx, za_bnd]
    by_cases z : Cb 115 a = nI 40
    · obtain ⟨z1, z2, z3⟩ := (chr_tok tk hc).1 z
      obtain ⟨C', R', o1, o2, o3⟩ := px_open (lo := lo) (sl := sl) (len := 1) he hx z (by omega) (by omega) z3 h1 h2
      unfold rI
      rw [o1, if_pos z1, z2, if_pos rfl, o2, za_bnd]
      exact ⟨C', R', rfl, rfl, o3⟩
    · obtain ⟨C', R', f1, f2, f3⟩ := px_fail0 (f := 1) he hx (by omega) (by omega)
      unfold fX7_openWith
      rw [h.2.2.2.2.1, if_neg z, f1, za_bnd, if_neg ((chr_tok tk hc).2 z), f2, za_bnd]
      exact ⟨C', R', rfl, rfl, Or.inr f3⟩
  · exact ⟨C, R, pf_open h (by omega) (by omega), pf_bracket h, Or.inr h⟩
/-- a cell of code -/
theorem px_put {x cd nu : Int32} (he : EN T n l cnt s q Cb Rb) (hd : d0 ≤ c0 + 10) (h : PX T n l cnt s Cb Rb c0 d0 T0 a p c d k o Ts C R) (hc : c < 300) (hs : cS x cd nu Ts Ts') : ∃ C' R', fX7_put C x = some C' ∧ fX12_emits R cd nu = some R' ∧ PX T n l cnt s Cb Rb c0 d0 T0 a p (c + 1) (d + 1) (k + 1) o Ts' C' R' ∧ (∀ b, b ≠ 118 → b ≠ 114 → C' b = C b) ∧ (∀ j, j ≠ 8 → C' 114 j = C 114 j) ∧ ∀ j, j ≠ 15 → R' 127 j = R 127 j := by
  obtain ⟨g1, g2, g3, g4, g5, g6, g7, g8, g9, g10, g11, g12, g13, g14, g15, g16⟩ := h
  obtain ⟨_, _, t3⟩ := pf_txt he g1
  have hl := he.2.2.2.2.2.2.2
  refine ⟨wr (wr C 118 c x) 114 8 (nI (c + 1)), wr (wr (wr R 135 (400 * l + d) cd) 136 (400 * l + d) nu) 127 15 (nI (d + 1)), ?_, ?_, ⟨⟨fun b b1 b2 => ?_, fun j j1 j2 j3 j4 j5 => ?_, fun b b1 b2 b3 => ?_, fun j j1 j2 j3 j4 j5 => ?_, fun i hi => ?_, fun j hj => ⟨?_, ?_⟩⟩, g2, g3, ?_, ?_, ?_, ?_, ?_, g9, g10, ?_, ?_, ?_, by omega, by omega, Ts, sg_con (fun i hi => ⟨?_, ?_, ?_⟩) g16, ?_⟩, fun b b1 b2 => ?_, fun j hj => ?_, fun j hj => ?_⟩
  · unfold fX7_put
    rw [g6, if_pos rfl, g7, za_inY hc (by omega), za_bnd, if_neg za_n10, za_chk _ hc (by omega), za_lt, za_lt, nI_clamp (by omega), za_wra (by omega), g7, nI_add]
  · unfold fX12_emits
    rw [g11.1, if_pos (Int32.le_refl _), t3, g13, za_mul, nI_add, za_chk _ (by omega) (by omega), za_lt, za_wra (by omega), za_wra (by omega), t3, g13, za_mul, nI_add, za_chk _ (by omega) (by omega), za_lt, za_lt, nI_clamp (by omega), za_wra (by omega), za_wra (by omega), g13, nI_add]
  · rw [za_wrc b1, za_wrc b2]; exact g1.1 b b1 b2
  · rw [za_wri j5, za_wra (by omega)]; exact g1.2.1 j j1 j2 j3 j4 j5
  · rw [za_wrc b1, za_wrc b3, za_wrc b2]; exact g1.2.2.1 b b1 b2 b3
  · rw [za_wri j5, za_wra (by omega), za_wra (by omega)]; exact g1.2.2.2.1 j j1 j2 j3 j4 j5
  · rw [za_wra (by omega), za_wri (by omega)]; exact g1.2.2.2.2.1 i hi
  · rw [za_wra (by omega), za_wra (by omega), za_wri (by omega)]; exact (g1.2.2.2.2.2 j hj).1
  · rw [za_wra (by omega), za_wri (by omega), za_wra (by omega)]; exact (g1.2.2.2.2.2 j hj).2
  · rw [za_wri (by omega), za_wra (by omega)]; exact g4
  · rw [za_wri (by omega), za_wra (by omega)]; exact g5
  · rw [za_wri (by omega), za_wra (by omega)]; exact g6
  · rw [za_wrs]
  · rw [za_wri (by omega), za_wra (by omega), za_wra (by omega)]; exact g8
  · rw [za_wri (by omega), za_wra (by omega), za_wra (by omega), za_wri (by omega), za_wra (by omega), za_wra (by omega)]; exact g11
  · rw [za_wri (by omega), za_wra (by omega), za_wra (by omega)]; exact g12
  · rw [za_wrs]
  · rw [za_wra (by omega), za_wri (by omega)]
  · rw [za_wra (by omega), za_wra (by omega), za_wri (by omega)]
  · rw [za_wra (by omega), za_wri (by omega), za_wra (by omega)]
  · rw [za_wra (by omega), ← g14, za_wrs, za_wra (by omega), za_wra (by omega), show 400 * l + d0 + k = 400 * l + d by omega, za_wrs, za_wra (by omega), za_wrs]; exact hs
  · rw [za_wrc b2, za_wrc b1]
  · rw [za_wri hj, za_wra (by omega)]
  · rw [za_wri hj, za_wra (by omega), za_wra (by omega)]
theorem st_put {x cd nu : Int32} (he : EN T n l cnt s q Cb Rb) (hd : d0 ≤ c0 + 10) (hs : cS x cd nu Ts Ts') (h : PH T n l cnt s Cb Rb c0 d0 T0 lo (sl + 1) o Ts C R) : ∃ C' R', fX7_put C x = some C' ∧ fX12_emits R cd nu = some R' ∧ PH T n l cnt s Cb Rb c0 d0 T0 lo sl o Ts' C' R' := by
  rcases h with ⟨a, p, c, d, k, h1, h2, h⟩ | h
  · have hc := he.2.2.2.2.2.1
    have ha := h.2.1
    obtain ⟨C', R', e1, e2, e3, _⟩ := px_put he hd h (by have := he.1; omega) hs
    exact ⟨C', R', e1, e2, Or.inl ⟨a, p, c + 1, d + 1, k + 1, h1, by omega, e3⟩⟩
  · exact ⟨C, R, pf_put h, pf_emits h, Or.inr h⟩
theorem st_bl (he : EN T n l cnt s q Cb Rb) (h : PH T n l cnt s Cb Rb c0 d0 T0 lo sl o Ts C R) : ∃ R', fX12_blanks R = some R' ∧ PH T n l cnt s Cb Rb c0 d0 T0 lo sl o Ts C R' := by
  rcases h with ⟨a, p, c, d, k, h1, h2, h⟩ | h
  · obtain ⟨R1, r1, hx⟩ := px_bl he h
    exact ⟨R1, r1, Or.inl ⟨a, s a, c, d, k, h1, h2, hx⟩⟩
  · obtain ⟨R1, r1, hx⟩ := pf_bl he h
    exact ⟨R1, r1, Or.inr hx⟩
end PXs
