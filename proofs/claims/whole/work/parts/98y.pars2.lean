/-! ===== the parser's recursion ===== -/
theorem pr_inj {A B : Type} {a a' : A} {b b' : B} (h : (some (a, b) : Option (A × B)) = some (a', b')) : a = a' ∧ b = b' := by cases h; exact ⟨rfl, rfl⟩
def PB2 (T : Nat → Nat) (n l cnt : Nat) (s : Nat → Nat) (Cb Rb : Mc) (c0 d0 : Nat) (T0 : List Bool) (lo sl o : Nat) (Ts : List Bool) (C R : Mc) : Prop := (∃ a c d k, lo ≤ a ∧ c + sl ≤ a ∧ PX T n l cnt s Cb Rb c0 d0 T0 a (s a) c d k o Ts C R) ∨ PF2 n l Cb Rb c0 d0 C R
def SPc (T : Nat → Nat) (n l cnt : Nat) (s : Nat → Nat) (Cb Rb : Mc) (c0 d0 : Nat) (T0 : List Bool) (i j : Nat) (b : Bool) (o F : Nat) : Prop := ∀ f g lo sl Ts C R, F ≤ f → F ≤ g → PH T n l cnt s Cb Rb c0 d0 T0 lo sl o Ts C R → ∃ C' R', FX7 f i C (nI o) 0 = some C' ∧ FX12 g j R = some R' ∧ PH T n l cnt s Cb Rb c0 d0 T0 (lo + 1) sl o (b :: Ts) C' R'
def dvR (T : Nat → Nat) (p : Nat) : Nat → Nat
  | 0 => 0
  | k + 1 => if dvR T p k ≤ 100000 then 10 * dvR T p k + T (p + k) - 48 else dvR T p k
theorem dv_eq {T : Nat → Nat} {p : Nat} : ∀ k, (∀ i, i < k → isDg (T (p + i))) → dvC T p k = min 10000 (dvR T p k) ∧ dvR T p k < 2000000
  | 0, _ => ⟨rfl, by unfold dvR; omega⟩
  | k + 1, h => by
    obtain ⟨h1, h2⟩ := dv_eq k (fun i hi => h i (by omega))
    have hd := h k (by omega)
    have ha := hd.1; have hb := hd.2
    rw [dvC, dvR, h1]
    by_cases q : dvR T p k ≤ 100000
    · rw [if_pos q]; omega
    · rw [if_neg q]; omega
section PYs
variable {T : Nat → Nat} {n l cnt : Nat} {s q : Nat → Nat} {Cb Rb C R : Mc} {c0 d0 : Nat} {T0 Ts Ts' : List Bool} {lo sl o a p c d k : Nat}
theorem st_bb (he : EN T n l cnt s q Cb Rb) (h : PH T n l cnt s Cb Rb c0 d0 T0 lo sl o Ts C R) : ∃ R', fX12_blanks R = some R' ∧ PB2 T n l cnt s Cb Rb c0 d0 T0 lo sl o Ts C R' := by
  rcases h with ⟨a, p, c, d, k, h1, h2, h⟩ | h
  · obtain ⟨R1, r1, hx⟩ := px_bl he h
    exact ⟨R1, r1, Or.inl ⟨a, c, d, k, h1, h2, hx⟩⟩
  · obtain ⟨R1, r1, hx⟩ := pf_bl he h
    exact ⟨R1, r1, Or.inr hx⟩
theorem hs_wk {lo' sl' : Nat} (h : PH T n l cnt s Cb Rb c0 d0 T0 lo sl o Ts C R) (h1 : lo' ≤ lo) (h2 : sl' ≤ sl) : PH T n l cnt s Cb Rb c0 d0 T0 lo' sl' o Ts C R := by
  rcases h with ⟨a, p, c, d, k, g1, g2, h⟩ | h
  · exact Or.inl ⟨a, p, c, d, k, by omega, by omega, h⟩
  · exact Or.inr h
theorem hb_hs (h : PB2 T n l cnt s Cb Rb c0 d0 T0 lo sl o Ts C R) : PH T n l cnt s Cb Rb c0 d0 T0 lo sl o Ts C R := by
  rcases h with ⟨a, c, d, k, g1, g2, h⟩ | h
  · exact Or.inl ⟨a, s a, c, d, k, g1, g2, h⟩
  · exact Or.inr h
theorem tok_w {p' w : Nat} {nu : Int32} {q' : Nat} (h : TokAt T n p' (nI (400 + w)) nu q') (hw : w < 22) : isWd T w p' q' ∧ WE T n p' q' ∧ p' < n := by
  rcases h with ⟨g1, e⟩ | ⟨g1, g2, g3, g4⟩ | ⟨g1, g2, g3, e, g5⟩ | ⟨g1, g2, g3, g4, g5, e, g7⟩
  · have := za_inj (by omega) (by omega) e; omega
  · rcases g4 with ⟨u, u1, u2, e⟩ | ⟨_, e⟩
    · obtain rfl : w = u := by have := za_inj (by omega) (by omega) e; omega
      exact ⟨u2, g3, g1⟩
    · have := za_inj (by omega) (by omega) e; omega
  · have := za_inj (by omega) (by omega) e; omega
  · have := za_inj (by omega) (by omega) e; omega
theorem isw_L {i : Nat} (he : EN T n l cnt s q Cb Rb) (h1 : 1 ≤ i) (h2 : i < 23) (h : PX T n l cnt s Cb Rb c0 d0 T0 a (s a) c d k o Ts C R) : ∀ m fu j, j + m = wlen (cwN i) → m < fu → (((∀ u, j ≤ u → u < wlen (cwN i) → s a + u < n ∧ T (s a + u) = wch (cwN i) u) ∧ ¬ (s a + wlen (cwN i) < n ∧ isLt (T (s a + wlen (cwN i))))) → fX12_isWord_L6 i fu R (nI j) = some (nI 1, R)) ∧ (¬ ((∀ u, j ≤ u → u < wlen (cwN i) → s a + u < n ∧ T (s a + u) = wch (cwN i) u) ∧ ¬ (s a + wlen (cwN i) < n ∧ isLt (T (s a + wlen (cwN i))))) → fX12_isWord_L6 i fu R (nI j) = some (0, R))
  | m, 0, _, _, hf => by omega
  | m, fu + 1, j, hj, hf => by
    obtain ⟨w22, slen, sch⟩ := str_ok h1 h2
    obtain ⟨t1, t2, _⟩ := pf_txt he h.1
    have hn := he.1
    have hs := s_le he h.2.1
    have wl := wlen_r _ w22
    have e11 := h.2.2.2.2.2.2.2.1
    rw [fX12_isWord_L6, slen, za_bnd]
    cases m with
    | zero =>
      obtain rfl : j = wlen (cwN i) := by omega
      rw [if_pos (nI_le (Nat.le_refl _) (by omega)), za_bnd, e11, nI_add, rb t1 hn t2 (by omega), za_bnd]
      unfold rI
      by_cases z : s a + wlen (cwN i) < n
      · have tb := he.2.1 _ z
        rw [if_pos z]
        by_cases z1 : T (s a + wlen (cwN i)) < 97
        · rw [if_pos (nI_lt z1 (by omega))]
          exact ⟨fun _ => rfl, fun y => absurd ⟨fun u h3 h4 => by omega, fun x => by have := x.2.1; omega⟩ y⟩
        · rw [if_neg (nI_nlt (by omega) (by omega))]
          by_cases z2 : T (s a + wlen (cwN i)) ≤ 122
          · rw [if_pos (nI_le z2 (by omega))]
            exact ⟨fun y => absurd ⟨z, by omega, z2⟩ y.2, fun _ => rfl⟩
          · rw [if_neg (nI_ge (by omega) (by omega))]
            exact ⟨fun _ => rfl, fun y => absurd ⟨fun u h3 h4 => by omega, fun x => by have := x.2.2; omega⟩ y⟩
      · rw [if_neg z, if_pos (by decide +kernel)]
        exact ⟨fun _ => rfl, fun y => absurd ⟨fun u h3 h4 => by omega, fun x => z x.1⟩ y⟩
    | succ m =>
      have ih := isw_L he h1 h2 h m fu (j + 1) (by omega) (by omega)
      have wr := wch_lt _ w22 j (by omega)
      rw [if_neg (nI_ge (by omega) (by omega)), e11, nI_add, rb t1 hn t2 (by omega), za_bnd, sch R j (by omega), za_bnd, nI_add]
      unfold rI
      by_cases z : s a + j < n
      · have tb := he.2.1 _ z
        rw [if_pos z]
        by_cases z1 : T (s a + j) = wch (cwN i) j
        · rw [if_pos (by rw [z1])]
          refine ⟨fun y => ih.1 ⟨fun u h3 h4 => y.1 u (by omega) h4, y.2⟩, fun y => ih.2 (fun x => y ⟨fun u h3 h4 => ?_, x.2⟩)⟩
          by_cases e : u = j
          · subst e; exact ⟨z, z1⟩
          · exact x.1 u (by omega) h4
        · rw [if_neg (show ¬ nI (T (s a + j)) = nI (wch (cwN i) j) from fun y => z1 (za_inj (by omega) (by omega) y))]
          exact ⟨fun y => absurd (y.1 j (Nat.le_refl _) (by omega)).2 z1, fun _ => rfl⟩
      · rw [if_neg z, if_neg (show ¬ (0 : Int32) = nI (wch (cwN i) j) from fun y => by have := (za_0eq (by omega)).mp y; omega)]
        exact ⟨fun y => absurd (y.1 j (Nat.le_refl _) (by omega)).1 z, fun _ => rfl⟩
theorem word_r {i : Nat} (he : EN T n l cnt s q Cb Rb) (h1 : 1 ≤ i) (h2 : i < 23) (h : PX T n l cnt s Cb Rb c0 d0 T0 a (s a) c d k o Ts C R) : fX12_isWord R i = some (if Cb 115 a = nI (400 + cwN i) then nI 1 else 0, R) := by
  obtain ⟨w22, slen, sch⟩ := str_ok h1 h2
  have wl := wlen_r _ w22
  obtain ⟨tk, _⟩ := tok_at he h.2.1
  have key := isw_L he h1 h2 h (wlen (cwN i)) FU 0 (by omega) (by rw [za_FU]; omega)
  unfold fX12_isWord
  rw [px_bl0 he h, za_bnd, ← nI_0]
  by_cases z : Cb 115 a = nI (400 + cwN i)
  · rw [z] at tk
    obtain ⟨w1, w2, w3⟩ := tok_w tk w22
    rw [if_pos z]
    refine key.1 ⟨fun u h3 h4 => ⟨(w2.2.1 (s a + u) (by omega) (by have := w1.1; omega)).1, w1.2 u h4⟩, ?_⟩
    rw [← w1.1]; exact w2.2.2
  · rw [if_neg z]
    rw [show (nI 0 : Int32) = 0 from nI_0] at *
    refine key.2 (fun y => z ?_)
    have y0 := y.1 0 (by omega) (by omega)
    have wr := wch_lt _ w22 0 (by omega)
    rw [Nat.add_zero] at y0
    have hWE : WE T n (s a) (s a + wlen (cwN i)) := ⟨by omega, fun u h3 h4 => by
      have := y.1 (u - s a) (by omega) (by omega)
      rw [show s a + (u - s a) = u by omega] at this
      have w2 := wch_lt _ w22 (u - s a) (by omega)
      exact ⟨this.1, by omega, by omega⟩, y.2⟩
    rcases tk with ⟨g1, e⟩ | ⟨g1, g2, g3, g4⟩ | ⟨g1, g2, g3, e, g5⟩ | ⟨g1, g2, g3, g4, g5, e, g7⟩
    · omega
    · have hq := WE_uni g3 hWE
      have hw : isWd T (cwN i) (s a) (q a) := ⟨hq, fun u hu => (y.1 u (by omega) hu).2⟩
      rcases g4 with ⟨u, u1, u2, e⟩ | ⟨u1, _⟩
      · rw [e, isW_uni u1 w22 u2 hw]
      · exact absurd hw (u1 _ w22)
    · have := g2.2; omega
    · exact absurd ⟨by omega, by omega⟩ g2
theorem isw_bl {i : Nat} {R1 : Mc} (h : fX12_blanks R = some R1) (h2 : fX12_blanks R1 = some R1) : fX12_isWord R i = fX12_isWord R1 i := by
  unfold fX12_isWord; rw [h, h2]
/-- a word that is eaten if it is there -/
theorem eat_r {i : Nat} (he : EN T n l cnt s q Cb Rb) (h1 : 1 ≤ i) (h2 : i < 23) (h : PX T n l cnt s Cb Rb c0 d0 T0 a (s a) c d k o Ts C R) : (Cb 115 a = nI (400 + cwN i) → a < cnt ∧ q a = s a + wlen (cwN i) ∧ fX12_eat R i = some (nI 1, wr R 127 11 (nI (q a)))) ∧ (Cb 115 a ≠ nI (400 + cwN i) → fX12_eat R i = some (0, R)) := by
  obtain ⟨w22, slen, sch⟩ := str_ok h1 h2
  obtain ⟨tk, _⟩ := tok_at he h.2.1
  have hn := he.1
  have hs := s_le he h.2.1
  have wl := wlen_r _ w22
  unfold fX12_eat fX12_eat_J19 fX12_eat_J20
  rw [h.2.2.2.2.2.2.2.2.2.2.1.1, if_pos rfl, word_r he h1 h2 h, za_bn2]
  refine ⟨fun z => ?_, fun z => ?_⟩
  · rw [z] at tk
    obtain ⟨w1, w2, w3⟩ := tok_w tk w22
    refine ⟨tok_lt he h.2.1 (by rw [z]; exact fun y => by have := za_inj (by omega) (by omega) y; omega), w1.1, ?_⟩
    rw [if_pos z, if_neg za_n10, if_neg za_n10, slen, za_bnd, za_lt, h.2.2.2.2.2.2.2.1, nI_add, ← w1.1, za_chp _ isz1]
  · rw [if_neg z, if_pos rfl, if_pos rfl, za_chp _ isz0]
/-- a cell of code, the reference being further on already -/
theorem put_go {x cd nu : Int32} {R2 : Mc} (he : EN T n l cnt s q Cb Rb) (hd : d0 ≤ c0 + 10) (h : PX T n l cnt s Cb Rb c0 d0 T0 a (s a) c d k o Ts C R) (ha : a < cnt) (hl1 : lo ≤ a) (hl2 : c + sl ≤ a) (hs : cS x cd nu Ts Ts') (e1 : ∀ b j, ¬ (b = 127 ∧ j = 11) → R2 b j = R b j) (e2 : R2 127 11 = nI (q a)) : ∃ C1 C' R', fX7_put C x = some C1 ∧ fX7_goOn C1 = some C' ∧ fX12_emits R2 cd nu = some R' ∧ PH T n l cnt s Cb Rb c0 d0 T0 (lo + 1) sl o Ts' C' R' := by
  have hn := he.1
  have hc := he.2.2.2.2.2.1
  obtain ⟨C1, R1, p1, p2, p3, p4, p5, p6⟩ := px_put he hd h (by omega) hs
  obtain ⟨C', g1, g2⟩ := px_go he p3 ha
  have em : ∀ Rx : Mc, (∀ b j, ¬ (b = 127 ∧ j = 11) → Rx b j = R b j) → fX12_emits Rx cd nu = some (wr (wr (wr Rx 135 (400 * l + d) cd) 136 (400 * l + d) nu) 127 15 (nI (d + 1))) := by
    intro Rx ex
    obtain ⟨_, _, t3⟩ := pf_txt he h.1
    have hl := he.2.2.2.2.2.2.2
    have z12 : Rx 127 12 = 0 := (ex 127 12 (by omega)).trans h.2.2.2.2.2.2.2.2.2.2.1.1
    have z15 : Rx 127 15 = nI d := (ex 127 15 (by omega)).trans h.2.2.2.2.2.2.2.2.2.2.2.2.1
    have z16 : Rx 127 16 = nI l := (ex 127 16 (by omega)).trans t3
    have hd2 : d = d0 + k := h.2.2.2.2.2.2.2.2.2.2.2.2.2.2.1
    have hc2 : c = c0 + k := h.2.2.2.2.2.2.2.2.2.2.2.2.2.1
    unfold fX12_emits
    rw [z12, if_pos (Int32.le_refl _), z16, z15, za_mul, nI_add, za_chk _ (by omega) (by omega), za_lt, za_wra (by omega), za_wra (by omega), z16, z15, za_mul, nI_add, za_chk _ (by omega) (by omega), za_lt, za_lt, nI_clamp (by omega), za_wra (by omega), za_wra (by omega), z15, nI_add]
  have hR1 : R1 = wr (wr (wr R 135 (400 * l + d) cd) 136 (400 * l + d) nu) 127 15 (nI (d + 1)) := Option.some.inj (p2.symm.trans (em R (fun _ _ _ => rfl)))
  refine ⟨C1, C', _, p1, g1, em R2 e1, Or.inl ⟨a + 1, q a, c + 1, d + 1, k + 1, by omega, by omega, g2 _ (fun b j hh => ?_) ?_⟩⟩
  · rw [hR1]
    simp only [za_wr]
    by_cases y1 : b = 127 ∧ j = 15
    · rw [if_pos y1, if_pos y1]
    · rw [if_neg y1, if_neg y1]
      by_cases y2 : b = 136 ∧ j = 400 * l + d
      · rw [if_pos y2, if_pos y2]
      · rw [if_neg y2, if_neg y2]
        by_cases y3 : b = 135 ∧ j = 400 * l + d
        · rw [if_pos y3, if_pos y3]
        · rw [if_neg y3, if_neg y3]; exact e1 b j hh
  · rw [za_wri (by omega), za_wra (by omega), za_wra (by omega)]; exact e2
-- behind a fault
theorem fs_unit {f g : Nat} {v : Int32} (h : PF2 n l Cb Rb c0 d0 C R) (hf : 1 ≤ f) (hg : 1 ≤ g) : FX7 f 2 C v 0 = some C ∧ FX12 g 2 R = some R := by
  obtain ⟨f, rfl⟩ : ∃ f', f = f' + 1 := ⟨f - 1, by omega⟩
  obtain ⟨g, rfl⟩ : ∃ g', g = g' + 1 := ⟨g - 1, by omega⟩
  have ht := pf_tok h
  refine ⟨?_, ?_⟩
  · show gX7_readUnit C (FX7 f) v = some C
    unfold gX7_readUnit gX7_readUnit_J58
    rw [ht, if_neg (n302 (by omega) (by omega)), if_pos (nI_lt (by omega) (by omega)), if_neg (n302 (by omega) (by omega)), if_neg (n302 (by omega) (by omega)), if_neg (n302 (by omega) (by omega)), if_neg (n302 (by omega) (by omega)), pf_fail h, za_bnd]
  · show gX12_one R (FX12 g) = some R
    unfold gX12_one
    rw [if_neg (pf_flt h).2.2]
theorem fs_prod {f g : Nat} {v : Int32} (he : EN T n l cnt s q Cb Rb) (h : PF2 n l Cb Rb c0 d0 C R) (hf : 2 ≤ f) (hg : 2 ≤ g) : FX7 f 1 C v 0 = some C ∧ ∃ R', FX12 g 1 R = some R' ∧ PF2 n l Cb Rb c0 d0 C R' := by
  obtain ⟨f, rfl⟩ : ∃ f', f = f' + 1 := ⟨f - 1, by omega⟩
  obtain ⟨g, rfl⟩ : ∃ g', g = g' + 1 := ⟨g - 1, by omega⟩
  have ht := pf_tok h
  obtain ⟨u1, u2⟩ := fs_unit (v := v) h (show 1 ≤ f by omega) (show 1 ≤ g by omega)
  obtain ⟨R', b1, b2⟩ := pf_bl he h
  refine ⟨?_, R', ?_, b2⟩
  · show gX7_readProduct C (FX7 f) v = some C
    unfold gX7_readProduct
    rw [u1, za_bnd, za_FU, gX7_readProduct_L7, if_neg (by decide +kernel), ht, if_neg (n302 (by omega) (by omega)), if_neg (n302 (by omega) (by omega)), if_neg (n302 (by omega) (by omega))]
  · show gX12_product R (FX12 g) = some R'
    unfold gX12_product
    rw [u2, za_bnd, b1, za_bnd, za_FU, gX12_product_L8, if_neg (pf_flt b2).2.1]
theorem fs_sum {f g : Nat} {v : Int32} (he : EN T n l cnt s q Cb Rb) (h : PF2 n l Cb Rb c0 d0 C R) (hf : 1 ≤ f) (hg : 3 ≤ g) : FX7 f 0 C v 0 = some C ∧ ∃ R', FX12 g 0 R = some R' ∧ PF2 n l Cb Rb c0 d0 C R' := by
  obtain ⟨f, rfl⟩ : ∃ f', f = f' + 1 := ⟨f - 1, by omega⟩
  obtain ⟨g, rfl⟩ : ∃ g', g = g' + 1 := ⟨g - 1, by omega⟩
  obtain ⟨u1, R1, u2, u3⟩ := fs_prod (f := 2) (v := v) he h (by omega) (show 2 ≤ g by omega)
  obtain ⟨R', b1, b2⟩ := pf_bl he u3
  refine ⟨?_, R', ?_, b2⟩
  · show gX7_readSum C (FX7 f) v = some C
    unfold gX7_readSum
    rw [if_neg (pf_flt h).1]
  · show gX12_sum R (FX12 g) = some R'
    unfold gX12_sum
    rw [u2, za_bnd, b1, za_bnd, za_FU, gX12_sum_L8, if_neg (pf_flt b2).2.1]
theorem fs_test {f g : Nat} {v : Int32} (h : PF2 n l Cb Rb c0 d0 C R) (hf : 1 ≤ f) (hg : 1 ≤ g) : FX7 f 7 C v 0 = some C ∧ FX12 g 5 R = some R := by
  obtain ⟨f, rfl⟩ : ∃ f', f = f' + 1 := ⟨f - 1, by omega⟩
  obtain ⟨g, rfl⟩ : ∃ g', g = g' + 1 := ⟨g - 1, by omega⟩
  refine ⟨?_, ?_⟩
  · show gX7_readTest C (FX7 f) v = some C
    unfold gX7_readTest
    rw [if_neg (pf_flt h).1]
  · show gX12_test R (FX12 g) = some R
    unfold gX12_test
    rw [if_neg (pf_flt h).2.2]
theorem fs_every {f g : Nat} {v : Int32} (h : PF2 n l Cb Rb c0 d0 C R) (hf : 2 ≤ f) (hg : 2 ≤ g) : FX7 f 6 C v 0 = some C ∧ FX12 g 4 R = some R := by
  obtain ⟨f, rfl⟩ : ∃ f', f = f' + 1 := ⟨f - 1, by omega⟩
  obtain ⟨g, rfl⟩ : ∃ g', g = g' + 1 := ⟨g - 1, by omega⟩
  obtain ⟨u1, u2⟩ := fs_test (v := v) h (show 1 ≤ f by omega) (show 1 ≤ g by omega)
  refine ⟨?_, ?_⟩
  · show gX7_readEvery C (FX7 f) v = some C
    unfold gX7_readEvery
    rw [u1, za_bnd, za_FU, gX7_readEvery_L7, if_neg (by decide +kernel), pf_tok h, if_neg (n302 (by omega) (by omega))]
  · show gX12_ands R (FX12 g) = some R
    unfold gX12_ands
    rw [u2, za_bnd, za_FU, gX12_ands_L4, pf_eat h, za_bn2, if_pos rfl]
theorem fs_any {f g : Nat} {v : Int32} (h : PF2 n l Cb Rb c0 d0 C R) (hf : 1 ≤ f) (hg : 3 ≤ g) : FX7 f 5 C v 0 = some C ∧ FX12 g 3 R = some R := by
  obtain ⟨f, rfl⟩ : ∃ f', f = f' + 1 := ⟨f - 1, by omega⟩
  obtain ⟨g, rfl⟩ : ∃ g', g = g' + 1 := ⟨g - 1, by omega⟩
  obtain ⟨u1, u2⟩ := fs_every (f := 2) (v := v) h (by omega) (show 2 ≤ g by omega)
  refine ⟨?_, ?_⟩
  · show gX7_readAny C (FX7 f) v = some C
    unfold gX7_readAny
    rw [if_neg (pf_flt h).1]
  · show gX12_ors R (FX12 g) = some R
    unfold gX12_ors
    rw [u2, za_bnd, za_FU, gX12_ors_L4, pf_eat h, za_bn2, if_pos rfl]
/-- the digits of a number (reference) -/
theorem fig_L {p' : Nat} (hn : n ≤ 300) : ∀ m fu u i R, u + m = n → m < fu → p' + i = u → R 127 10 = nI n → (∀ i, i < n → R 134 i &&& nI 255 = nI (T i)) → (∀ i, i < n → T i < 256) → R 127 11 = nI u → (∀ j, j < i → isDg (T (p' + j))) → ∃ q' R', DE T n u q' ∧ (∀ b j, ¬ (b = 127 ∧ j = 11) → R' b j = R b j) ∧ R' 127 11 = nI q' ∧ fX12_figures_L7 fu R (nI p') (nI (dvR T p' i)) = (if dvR T p' (q' - p') ≤ 9999 then fX12_figures_J75 R' (nI (dvR T p' (q' - p'))) else bnd (fX12_wrong R' (nI 2) (nI p')) fun M7 => fX12_figures_J75 M7 (nI (dvR T p' (q' - p'))))
  | m, 0, _, _, _, _, hf, _, _, _, _, _, _ => by omega
  | m, fu + 1, u, i, R, hu, hf, hi, t1, t2, hb, e11, hdg => by
    have hdv := (dv_eq i hdg).2
    rw [fX12_figures_L7, e11, rb t1 hn t2 (by omega), za_bnd, id_r hb, za_bnd]
    by_cases z : u < n ∧ isDg (T u)
    · rw [if_pos z, if_neg za_n10]
      have h1 := z.2.1; have h2 := z.2.2
      cases m with
      | zero => omega
      | succ m =>
        obtain ⟨q', R', j1, j2, j3, j4⟩ := fig_L (p' := p') hn m fu (u + 1) (i + 1) (wr R 127 11 (nI (u + 1))) (by omega) (by omega) (by omega) (by rw [za_wri (by omega)]; exact t1) (fun i hi => by rw [za_wra (by omega)]; exact t2 i hi) hb (za_wrs _ _ _ _) (fun j hj => by
          by_cases e : j = i
          · subst e; rw [hi]; exact z.2
          · exact hdg j (by omega))
        refine ⟨q', R', ⟨by have := j1.1; omega, fun x h3 h4 => ?_, j1.2.2⟩, fun b j hh => (j2 b j hh).trans (if_neg hh), j3, ?_⟩
        · by_cases e : x = u
          · subst e; exact z
          · exact j1.2.1 x (by omega) h4
        · rw [← j4]
          unfold fX12_figures_J48
          by_cases y : dvR T p' i ≤ 100000
          · rw [if_pos (nI_le y (by omega)), za_bnd, za_lt, e11, nI_add]
            unfold rI
            rw [if_pos z.1, za_mul, nI_add, za_sub (by omega), dvR, if_pos y, hi]
          · rw [if_neg (nI_ge (by omega) (by omega)), za_lt, e11, nI_add, dvR, if_neg y]
    · rw [if_neg z, if_pos rfl]
      refine ⟨u, R, ⟨Nat.le_refl _, fun x h3 h4 => by omega, z⟩, fun _ _ _ => rfl, e11, ?_⟩
      rw [show u - p' = i by omega]
      by_cases y : dvR T p' i ≤ 9999
      · rw [if_pos (nI_le y (by omega)), if_pos y]
      · rw [if_neg (nI_ge (by omega) (by omega)), if_neg y]
end PYs
