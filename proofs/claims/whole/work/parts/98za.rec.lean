/-! ===== products, sums, tests ===== -/
section PWs
variable {T : Nat → Nat} {n l cnt : Nat} {s q : Nat → Nat} {Cb Rb C R : Mc} {c0 d0 : Nat} {T0 Ts Ts' : List Bool} {lo sl o a p c d k F : Nat}
theorem chr_r {nu : Int32} {q' : Nat} (h : TokAt T n p (nI k) nu q') (hc : chS d) (hk : k < 500) : (k = d → rI T n p = nI d) ∧ (k ≠ d → rI T n p ≠ nI d) := by
  have hd := hc.1
  obtain ⟨x, y⟩ := chr_tok h hc
  refine ⟨fun z => ?_, fun z => y (ne_I hk (by omega) z)⟩
  obtain ⟨x1, x2, x3⟩ := x (by rw [z])
  unfold rI; rw [if_pos x1, x2]
/-- one more by a sign of its own -/
theorem op_ok {i j ch : Nat} {b r : Bool} {x cd : Int32} {f g : Nat} (he : EN T n l cnt s q Cb Rb) (hd : d0 ≤ c0 + 10) (hU : SPc T n l cnt s Cb Rb c0 d0 T0 i j b o F) (hf : F ≤ f) (hg : F ≤ g) (hcb : cB x cd b r) (hx : PX T n l cnt s Cb Rb c0 d0 T0 a (s a) c d k o (b :: Ts) C R) (h1 : lo ≤ a) (h2 : c + sl ≤ a) (hch : chS ch) (hv : Cb 115 a = nI ch) : a < cnt ∧ ∃ C1 C2 C3 R2 R3 R4, fX7_goOn C = some C1 ∧ FX7 f i C1 (nI o) 0 = some C2 ∧ fX7_put C2 x = some C3 ∧ FX12 g j (wr R 127 11 (R 127 11 + nI 1)) = some R2 ∧ fX12_emits R2 cd 0 = some R3 ∧ fX12_blanks R3 = some R4 ∧ PB2 T n l cnt s Cb Rb c0 d0 T0 (lo + 1) sl o (r :: Ts) C3 R4 := by
  obtain ⟨tk, _⟩ := tok_at he hx.2.1
  have hc := hch.1
  have hlt : a < cnt := tok_lt he hx.2.1 (by rw [hv]; exact ne_I (by omega) (by omega) (by omega))
  obtain ⟨z1, z2, z3⟩ := (chr_tok tk hch).1 hv
  obtain ⟨C1, g1, g2⟩ := px_go he hx hlt
  have hgo : PH T n l cnt s Cb Rb c0 d0 T0 (lo + 1) (sl + 1) o (b :: Ts) C1 (wr R 127 11 (R 127 11 + nI 1)) := Or.inl ⟨a + 1, q a, c, d, k, by omega, by omega, g2 _ (fun b j hh => if_neg hh) (by rw [za_wrs, hx.2.2.2.2.2.2.2.1, nI_add, z3])⟩
  obtain ⟨C2, R2, u1, u2, u3⟩ := hU f g _ _ _ C1 _ hf hg hgo
  obtain ⟨C3, R3, p1, p2, p3⟩ := st_put he hd (x := x) (cd := cd) (nu := 0) (show cS x cd 0 (b :: b :: Ts) (r :: Ts) from Or.inr (Or.inr (Or.inl ⟨b, r, Ts, hcb, rfl, rfl⟩))) u3
  obtain ⟨R4, b1, b2⟩ := st_bb he p3
  refine ⟨hlt, C1, C2, C3, R2, R3, R4, g1, u1, p1, u2, p2, b1, ?_⟩
  rcases b2 with ⟨a', c', d', k', x1, x2, x3⟩ | x
  · exact Or.inl ⟨a', c', d', k', by omega, x2, x3⟩
  · exact Or.inr x
theorem ch42 : chS 42 := by unfold chS isLt isDg; omega
theorem ch47 : chS 47 := by unfold chS isLt isDg; omega
theorem ch37 : chS 37 := by unfold chS isLt isDg; omega
theorem ch43 : chS 43 := by unfold chS isLt isDg; omega
theorem ch45 : chS 45 := by unfold chS isLt isDg; omega
theorem prod_L {f g : Nat} (he : EN T n l cnt s q Cb Rb) (hd : d0 ≤ c0 + 10) (hU : SPc T n l cnt s Cb Rb c0 d0 T0 2 2 false o F) (hf : F ≤ f) (hg : F ≤ g) : ∀ m fu gu i lo C R, cnt < lo + m → m < fu → m < gu → i ≤ lo → PB2 T n l cnt s Cb Rb c0 d0 T0 lo sl o (false :: Ts) C R → ∃ C' R', gX7_readProduct_L7 (FX7 f) fu C (nI o) (nI i) = some C' ∧ gX12_product_L8 (FX12 g) gu R = some R' ∧ PH T n l cnt s Cb Rb c0 d0 T0 lo sl o (false :: Ts) C' R'
  | m, 0, _, _, _, _, _, _, hf, _, _, _ => by omega
  | m, _, 0, _, _, _, _, _, _, hf, _, _ => by omega
  | m, fu + 1, gu + 1, i, lo, C, R, hm, hfu, hgu, hi, h => by
    rcases h with ⟨a, c, d, k, h1, h2, hx⟩ | h
    case inr =>
      refine ⟨C, R, ?_, ?_, Or.inr h⟩
      · rw [gX7_readProduct_L7, pf_tok h]
        by_cases y : nI 300 ≤ nI i
        · rw [if_pos y]
        · rw [if_neg y, if_neg (n302 (by omega) (by omega)), if_neg (n302 (by omega) (by omega)), if_neg (n302 (by omega) (by omega))]
      · rw [gX12_product_L8, if_neg (pf_flt h).2.1]
    obtain ⟨tk, _⟩ := tok_at he hx.2.1
    obtain ⟨v, v1, v2⟩ := tok_nat tk
    have hn := he.1
    have hcn := he.2.2.2.2.2.1
    have ha := hx.2.1
    have hC4 : C 114 4 = nI v := hx.2.2.2.2.1.trans v2
    have hF0 := hx.2.2.2.2.2.2.2.2.2.2.1.1
    cases m with
    | zero => omega
    | succ m =>
    rw [gX7_readProduct_L7, gX12_product_L8, hC4, hF0, if_pos rfl, px_byte he hx, za_bnd]
    have next : ∀ {C3 R4 : Mc}, PB2 T n l cnt s Cb Rb c0 d0 T0 (lo + 1) sl o (false :: Ts) C3 R4 → ∃ C' R', gX7_readProduct_L7 (FX7 f) fu C3 (nI o) (nI i + nI 1) = some C' ∧ gX12_product_L8 (FX12 g) gu R4 = some R' ∧ PH T n l cnt s Cb Rb c0 d0 T0 lo sl o (false :: Ts) C' R' := by
      intro C3 R4 hb
      rw [nI_add]
      obtain ⟨C', R', j1, j2, j3⟩ := prod_L he hd hU hf hg m fu gu (i + 1) (lo + 1) C3 R4 (by omega) (by omega) (by omega) (by omega) hb
      exact ⟨C', R', j1, j2, hs_wk j3 (by omega) (Nat.le_refl _)⟩
    rw [v2] at tk
    have q42 := chr_r tk ch42 v1
    have q47 := chr_r tk ch47 v1
    have q37 := chr_r tk ch37 v1
    by_cases z : v = 42
    · obtain ⟨hlt, C1, C2, C3, R2, R3, R4, e1, e2, e3, e4, e5, e6, e7⟩ := op_ok (i := 2) (j := 2) (b := false) (r := false) (x := -8) (cd := nI 3) he hd hU hf hg (by unfold cB; simp) hx h1 h2 ch42 (v2.trans (by rw [z]))
      obtain ⟨C', R', n1, n2, n3⟩ := next e7
      subst z
      rw [if_neg (nI_ge (by omega) (by omega)), if_pos rfl, if_pos (q42.1 rfl)]
      unfold gX7_readProduct_J41 gX7_readProduct_J80 gX12_product_J54 gX12_product_J99
      rw [hC4, za_lt, e1, za_bnd, e2, za_bnd, if_pos rfl, e3, za_bnd, px_byte he hx, za_bnd, za_lt, e4, za_bnd, if_pos (q42.1 rfl), e5, za_bnd, e6, za_bnd]
      exact ⟨C', R', n1, n2, n3⟩
    by_cases z2 : v = 47
    · obtain ⟨hlt, C1, C2, C3, R2, R3, R4, e1, e2, e3, e4, e5, e6, e7⟩ := op_ok (i := 2) (j := 2) (b := false) (r := false) (x := -9) (cd := nI 4) he hd hU hf hg (by unfold cB; simp) hx h1 h2 ch47 (v2.trans (by rw [z2]))
      obtain ⟨C', R', n1, n2, n3⟩ := next e7
      subst z2
      rw [if_neg (nI_ge (by omega) (by omega)), if_neg (ne_I v1 (by omega) z), if_pos rfl, if_neg (q42.2 z), za_bnd, if_pos (q47.1 rfl)]
      unfold gX7_readProduct_J41 gX7_readProduct_J80 gX12_product_J54 gX12_product_J99
      rw [hC4, za_lt, e1, za_bnd, e2, za_bnd, if_neg (ne_I v1 (by omega) z), if_pos rfl, e3, za_bnd, px_byte he hx, za_bnd, za_lt, e4, za_bnd, if_neg (q42.2 z), if_pos (q47.1 rfl), e5, za_bnd, e6, za_bnd]
      exact ⟨C', R', n1, n2, n3⟩
    by_cases z3 : v = 37
    · obtain ⟨hlt, C1, C2, C3, R2, R3, R4, e1, e2, e3, e4, e5, e6, e7⟩ := op_ok (i := 2) (j := 2) (b := false) (r := false) (x := -10) (cd := nI 5) he hd hU hf hg (by unfold cB; simp) hx h1 h2 ch37 (v2.trans (by rw [z3]))
      obtain ⟨C', R', n1, n2, n3⟩ := next e7
      subst z3
      rw [if_neg (nI_ge (by omega) (by omega)), if_neg (ne_I v1 (by omega) z), if_neg (ne_I v1 (by omega) z2), if_pos rfl, if_neg (q42.2 z), za_bnd, if_neg (q47.2 z2), za_bnd, if_pos (q37.1 rfl)]
      unfold gX7_readProduct_J41 gX7_readProduct_J80 gX12_product_J54 gX12_product_J99
      rw [hC4, za_lt, e1, za_bnd, e2, za_bnd, if_neg (ne_I v1 (by omega) z), if_neg (ne_I v1 (by omega) z2), e3, za_bnd, px_byte he hx, za_bnd, za_lt, e4, za_bnd, if_neg (q42.2 z), if_neg (q47.2 z2), e5, za_bnd, e6, za_bnd]
      exact ⟨C', R', n1, n2, n3⟩
    refine ⟨C, R, ?_, ?_, Or.inl ⟨a, s a, c, d, k, h1, h2, hx⟩⟩
    · by_cases y : nI 300 ≤ nI i
      · rw [if_pos y]
      · rw [if_neg y, if_neg (ne_I v1 (by omega) z), if_neg (ne_I v1 (by omega) z2), if_neg (ne_I v1 (by omega) z3)]
    · rw [if_neg (q42.2 z), za_bnd, if_neg (q47.2 z2), za_bnd, if_neg (q37.2 z3)]
theorem prod_ok (he : EN T n l cnt s q Cb Rb) (hd : d0 ≤ c0 + 10) (hF : 1 ≤ F) (hU : SPc T n l cnt s Cb Rb c0 d0 T0 2 2 false o F) : SPc T n l cnt s Cb Rb c0 d0 T0 1 1 false o (F + 1) := by
  intro f g lo sl Ts C R hf hg h
  obtain ⟨f, rfl⟩ : ∃ f', f = f' + 1 := ⟨f - 1, by omega⟩
  obtain ⟨g, rfl⟩ : ∃ g', g = g' + 1 := ⟨g - 1, by omega⟩
  have hn := he.1
  have hcn := he.2.2.2.2.2.1
  obtain ⟨C1, R1, u1, u2, u3⟩ := hU f g _ _ _ C R (by omega) (by omega) h
  obtain ⟨R2, b1, b2⟩ := st_bb he u3
  obtain ⟨C', R', l1, l2, l3⟩ := prod_L (f := f) (g := g) he hd hU (by omega) (by omega) (cnt + 1) FU FU 0 (lo + 1) C1 R2 (by omega) (by rw [za_FU]; omega) (by rw [za_FU]; omega) (by omega) b2
  refine ⟨C', R', ?_, ?_, l3⟩
  · show gX7_readProduct C (FX7 f) (nI o) = some C'
    unfold gX7_readProduct
    rw [u1, za_bnd]
    rw [nI_0] at l1
    exact l1
  · show gX12_product R (FX12 g) = some R'
    unfold gX12_product
    rw [u2, za_bnd, b1, za_bnd]
    exact l2
theorem sum_L {f g : Nat} (he : EN T n l cnt s q Cb Rb) (hd : d0 ≤ c0 + 10) (hU : SPc T n l cnt s Cb Rb c0 d0 T0 1 1 false o F) (hf : F ≤ f) (hg : F ≤ g) : ∀ m fu gu i lo C R, cnt < lo + m → m < fu → m < gu → i ≤ lo → PB2 T n l cnt s Cb Rb c0 d0 T0 lo sl o (false :: Ts) C R → ∃ C' R', gX7_readSum_L21 (FX7 f) fu C (nI o) (nI i) = some C' ∧ gX12_sum_L8 (FX12 g) gu R = some R' ∧ PH T n l cnt s Cb Rb c0 d0 T0 lo sl o (false :: Ts) C' R'
  | m, 0, _, _, _, _, _, _, hf, _, _, _ => by omega
  | m, _, 0, _, _, _, _, _, _, hf, _, _ => by omega
  | m, fu + 1, gu + 1, i, lo, C, R, hm, hfu, hgu, hi, h => by
    rcases h with ⟨a, c, d, k, h1, h2, hx⟩ | h
    case inr =>
      refine ⟨C, R, ?_, ?_, Or.inr h⟩
      · rw [gX7_readSum_L21, pf_tok h]
        by_cases y : nI 300 ≤ nI i
        · rw [if_pos y]
        · rw [if_neg y, if_neg (n302 (by omega) (by omega)), if_neg (n302 (by omega) (by omega))]
      · rw [gX12_sum_L8, if_neg (pf_flt h).2.1]
    obtain ⟨tk, _⟩ := tok_at he hx.2.1
    obtain ⟨v, v1, v2⟩ := tok_nat tk
    have hn := he.1
    have hcn := he.2.2.2.2.2.1
    have ha := hx.2.1
    have hC4 : C 114 4 = nI v := hx.2.2.2.2.1.trans v2
    have hF0 := hx.2.2.2.2.2.2.2.2.2.2.1.1
    cases m with
    | zero => omega
    | succ m =>
    rw [gX7_readSum_L21, gX12_sum_L8, hC4, hF0, if_pos rfl, px_byte he hx, za_bnd]
    have next : ∀ {C3 R4 : Mc}, PB2 T n l cnt s Cb Rb c0 d0 T0 (lo + 1) sl o (false :: Ts) C3 R4 → ∃ C' R', gX7_readSum_L21 (FX7 f) fu C3 (nI o) (nI i + nI 1) = some C' ∧ gX12_sum_L8 (FX12 g) gu R4 = some R' ∧ PH T n l cnt s Cb Rb c0 d0 T0 lo sl o (false :: Ts) C' R' := by
      intro C3 R4 hb
      rw [nI_add]
      obtain ⟨C', R', j1, j2, j3⟩ := sum_L he hd hU hf hg m fu gu (i + 1) (lo + 1) C3 R4 (by omega) (by omega) (by omega) (by omega) hb
      exact ⟨C', R', j1, j2, hs_wk j3 (by omega) (Nat.le_refl _)⟩
    rw [v2] at tk
    have q43 := chr_r tk ch43 v1
    have q45 := chr_r tk ch45 v1
    by_cases z : v = 43
    · obtain ⟨hlt, C1, C2, C3, R2, R3, R4, e1, e2, e3, e4, e5, e6, e7⟩ := op_ok (i := 1) (j := 1) (b := false) (r := false) (x := -6) (cd := nI 1) he hd hU hf hg (by unfold cB; simp) hx h1 h2 ch43 (v2.trans (by rw [z]))
      obtain ⟨C', R', n1, n2, n3⟩ := next e7
      subst z
      rw [if_neg (nI_ge (by omega) (by omega)), if_pos rfl, if_pos (q43.1 rfl)]
      unfold gX7_readSum_J46 gX7_readSum_J74 gX12_sum_J41 gX12_sum_J76
      rw [hC4, za_lt, e1, za_bnd, e2, za_bnd, if_pos rfl, e3, za_bnd, px_byte he hx, za_bnd, za_lt, e4, za_bnd, if_pos (q43.1 rfl), e5, za_bnd, e6, za_bnd]
      exact ⟨C', R', n1, n2, n3⟩
    by_cases z2 : v = 45
    · obtain ⟨hlt, C1, C2, C3, R2, R3, R4, e1, e2, e3, e4, e5, e6, e7⟩ := op_ok (i := 1) (j := 1) (b := false) (r := false) (x := -7) (cd := nI 2) he hd hU hf hg (by unfold cB; simp) hx h1 h2 ch45 (v2.trans (by rw [z2]))
      obtain ⟨C', R', n1, n2, n3⟩ := next e7
      subst z2
      rw [if_neg (nI_ge (by omega) (by omega)), if_neg (ne_I v1 (by omega) z), if_pos rfl, if_neg (q43.2 z), za_bnd, if_pos (q45.1 rfl)]
      unfold gX7_readSum_J46 gX7_readSum_J74 gX12_sum_J41 gX12_sum_J76
      rw [hC4, za_lt, e1, za_bnd, e2, za_bnd, if_neg (ne_I v1 (by omega) z), e3, za_bnd, px_byte he hx, za_bnd, za_lt, e4, za_bnd, if_neg (q43.2 z), e5, za_bnd, e6, za_bnd]
      exact ⟨C', R', n1, n2, n3⟩
    refine ⟨C, R, ?_, ?_, Or.inl ⟨a, s a, c, d, k, h1, h2, hx⟩⟩
    · by_cases y : nI 300 ≤ nI i
      · rw [if_pos y]
      · rw [if_neg y, if_neg (ne_I v1 (by omega) z), if_neg (ne_I v1 (by omega) z2)]
    · rw [if_neg (q43.2 z), za_bnd, if_neg (q45.2 z2)]
theorem sum_ok (he : EN T n l cnt s q Cb Rb) (hd : d0 ≤ c0 + 10) (hF : 3 ≤ F) (ho : o ≤ 8) (hU : SPc T n l cnt s Cb Rb c0 d0 T0 1 1 false o F) : SPc T n l cnt s Cb Rb c0 d0 T0 0 0 false o (F + 1) := by
  intro f g lo sl Ts C R hf hg h
  have hn := he.1
  have hcn := he.2.2.2.2.2.1
  rcases h with h | h
  case inr => obtain ⟨u1, R', u2, u3⟩ := fs_sum (f := f) (g := g) (v := nI o) he h (by omega) (by omega); exact ⟨C, R', u1, u2, Or.inr u3⟩
  obtain ⟨f, rfl⟩ : ∃ f', f = f' + 1 := ⟨f - 1, by omega⟩
  obtain ⟨g, rfl⟩ : ∃ g', g = g' + 1 := ⟨g - 1, by omega⟩
  obtain ⟨C1, R1, u1, u2, u3⟩ := hU f g _ _ _ C R (by omega) (by omega) (Or.inl h)
  obtain ⟨R2, b1, b2⟩ := st_bb he u3
  obtain ⟨C', R', l1, l2, l3⟩ := sum_L (f := f) (g := g) he hd hU (by omega) (by omega) (cnt + 1) FU FU 0 (lo + 1) C1 R2 (by omega) (by rw [za_FU]; omega) (by rw [za_FU]; omega) (by omega) b2
  obtain ⟨a, p, c, d, k, h1, h2, hx⟩ := h
  refine ⟨C', R', ?_, ?_, l3⟩
  · show gX7_readSum C (FX7 f) (nI o) = some C'
    unfold gX7_readSum
    rw [hx.2.2.2.2.2.1, if_pos rfl, if_pos (nI_le ho (by omega)), u1, za_bnd]
    rw [nI_0] at l1
    exact l1
  · show gX12_sum R (FX12 g) = some R'
    unfold gX12_sum
    rw [u2, za_bnd, b1, za_bnd]
    exact l2
/-- one more by a word -/
theorem opw_ok {i j w : Nat} {x cd : Int32} {f g : Nat} (he : EN T n l cnt s q Cb Rb) (hd : d0 ≤ c0 + 10) (hU : SPc T n l cnt s Cb Rb c0 d0 T0 i j true o F) (hf : F ≤ f) (hg : F ≤ g) (hcb : cB x cd true true) (hx : PX T n l cnt s Cb Rb c0 d0 T0 a (s a) c d k o (true :: Ts) C R) (h1 : lo ≤ a) (h2 : c + sl ≤ a) (hlt : a < cnt) : ∃ C1 C2 C3 R2 R3, fX7_goOn C = some C1 ∧ FX7 f i C1 (nI o) 0 = some C2 ∧ fX7_put C2 x = some C3 ∧ FX12 g j (wr R 127 11 (nI (q a))) = some R2 ∧ fX12_emits R2 cd 0 = some R3 ∧ PH T n l cnt s Cb Rb c0 d0 T0 (lo + 1) sl o (true :: Ts) C3 R3 := by
  obtain ⟨C1, g1, g2⟩ := px_go he hx hlt
  have hgo : PH T n l cnt s Cb Rb c0 d0 T0 (lo + 1) (sl + 1) o (true :: Ts) C1 (wr R 127 11 (nI (q a))) := Or.inl ⟨a + 1, q a, c, d, k, by omega, by omega, g2 _ (fun b j hh => if_neg hh) (za_wrs _ _ _ _)⟩
  obtain ⟨C2, R2, u1, u2, u3⟩ := hU f g _ _ _ C1 _ hf hg hgo
  obtain ⟨C3, R3, p1, p2, p3⟩ := st_put he hd (x := x) (cd := cd) (nu := 0) (show cS x cd 0 (true :: true :: Ts) (true :: Ts) from Or.inr (Or.inr (Or.inl ⟨true, true, Ts, hcb, rfl, rfl⟩))) u3
  exact ⟨C1, C2, C3, R2, R3, g1, u1, p1, u2, p2, hs_wk p3 (by omega) (Nat.le_refl _)⟩
theorem eat_bl {i : Nat} {R1 : Mc} (h : fX12_blanks R = some R1) (h2 : fX12_blanks R1 = some R1) (h3 : R 127 12 = 0) (h4 : R1 127 12 = 0) : fX12_eat R i = fX12_eat R1 i := by
  unfold fX12_eat fX12_eat_J19
  rw [h3, h4, isw_bl h h2, if_pos rfl, if_pos rfl]
theorem every_L {f g : Nat} (he : EN T n l cnt s q Cb Rb) (hd : d0 ≤ c0 + 10) (hU : SPc T n l cnt s Cb Rb c0 d0 T0 7 5 true o F) (hf : F ≤ f) (hg : F ≤ g) : ∀ m fu gu i lo C R, cnt < lo + m → m < fu → m < gu → i ≤ lo → PH T n l cnt s Cb Rb c0 d0 T0 lo sl o (true :: Ts) C R → ∃ C' R', gX7_readEvery_L7 (FX7 f) fu C (nI o) (nI i) = some C' ∧ gX12_ands_L4 (FX12 g) gu R = some R' ∧ PH T n l cnt s Cb Rb c0 d0 T0 lo sl o (true :: Ts) C' R'
  | m, 0, _, _, _, _, _, _, hf, _, _, _ => by omega
  | m, _, 0, _, _, _, _, _, _, hf, _, _ => by omega
  | m, fu + 1, gu + 1, i, lo, C, R, hm, hfu, hgu, hi, h => by
    rcases h with ⟨a, p, c, d, k, h1, h2, h⟩ | h
    case inr =>
      refine ⟨C, R, ?_, ?_, Or.inr h⟩
      · rw [gX7_readEvery_L7, pf_tok h]
        by_cases y : nI 300 ≤ nI i
        · rw [if_pos y]
        · rw [if_neg y, if_neg (n302 (by omega) (by omega))]
      · rw [gX12_ands_L4, pf_eat h, za_bn2, if_pos rfl]
    obtain ⟨R1, r1, hx⟩ := px_bl he h
    obtain ⟨tk, _⟩ := tok_at he hx.2.1
    obtain ⟨v, v1, v2⟩ := tok_nat tk
    have hn := he.1
    have hcn := he.2.2.2.2.2.1
    have ha := hx.2.1
    have hC4 : C 114 4 = nI v := hx.2.2.2.2.1.trans v2
    cases m with
    | zero => omega
    | succ m =>
    obtain ⟨ea, eb⟩ := eat_r (i := 19) he (by omega) (by omega) hx
    rw [gX7_readEvery_L7, gX12_ands_L4, hC4, eat_bl r1 (px_bl0 he hx) h.2.2.2.2.2.2.2.2.2.2.1.1 hx.2.2.2.2.2.2.2.2.2.2.1.1]
    by_cases z : v = 420
    · subst z
      obtain ⟨x1, x2, x3⟩ := ea v2
      obtain ⟨C1, C2, C3, R2, R3, e1, e2, e3, e4, e5, e6⟩ := opw_ok (i := 7) (j := 5) (w := 0) (x := -16) (cd := nI 9) he hd hU hf hg (by unfold cB; simp) hx h1 h2 x1
      obtain ⟨C', R', n1, n2, n3⟩ := every_L he hd hU hf hg m fu gu (i + 1) (lo + 1) C3 R3 (by omega) (by omega) (by omega) (by omega) e6
      rw [if_neg (nI_ge (by omega) (by omega)), if_pos rfl, e1, za_bnd, e2, za_bnd, e3, za_bnd, nI_add, x3, za_bn2, if_neg za_n10, e4, za_bnd, e5, za_bnd]
      exact ⟨C', R', n1, n2, hs_wk n3 (by omega) (Nat.le_refl _)⟩
    · refine ⟨C, R1, ?_, ?_, Or.inl ⟨a, s a, c, d, k, h1, h2, hx⟩⟩
      · by_cases y : nI 300 ≤ nI i
        · rw [if_pos y]
        · rw [if_neg y, if_neg (ne_I v1 (by omega) z)]
      · rw [eb (by rw [v2]; exact ne_I v1 (by decide) z), za_bn2, if_pos rfl]
theorem every_ok (he : EN T n l cnt s q Cb Rb) (hd : d0 ≤ c0 + 10) (hU : SPc T n l cnt s Cb Rb c0 d0 T0 7 5 true o F) : SPc T n l cnt s Cb Rb c0 d0 T0 6 4 true o (F + 1) := by
  intro f g lo sl Ts C R hf hg h
  obtain ⟨f, rfl⟩ : ∃ f', f = f' + 1 := ⟨f - 1, by omega⟩
  obtain ⟨g, rfl⟩ : ∃ g', g = g' + 1 := ⟨g - 1, by omega⟩
  have hn := he.1
  have hcn := he.2.2.2.2.2.1
  obtain ⟨C1, R1, u1, u2, u3⟩ := hU f g _ _ _ C R (by omega) (by omega) h
  obtain ⟨C', R', l1, l2, l3⟩ := every_L (f := f) (g := g) he hd hU (by omega) (by omega) (cnt + 1) FU FU 0 (lo + 1) C1 R1 (by omega) (by rw [za_FU]; omega) (by rw [za_FU]; omega) (by omega) u3
  refine ⟨C', R', ?_, ?_, l3⟩
  · show gX7_readEvery C (FX7 f) (nI o) = some C'
    unfold gX7_readEvery
    rw [u1, za_bnd]
    rw [nI_0] at l1
    exact l1
  · show gX12_ands R (FX12 g) = some R'
    unfold gX12_ands
    rw [u2, za_bnd]
    exact l2
theorem any_L {f g : Nat} (he : EN T n l cnt s q Cb Rb) (hd : d0 ≤ c0 + 10) (hU : SPc T n l cnt s Cb Rb c0 d0 T0 6 4 true o F) (hf : F ≤ f) (hg : F ≤ g) : ∀ m fu gu i lo C R, cnt < lo + m → m < fu → m < gu → i ≤ lo → PH T n l cnt s Cb Rb c0 d0 T0 lo sl o (true :: Ts) C R → ∃ C' R', gX7_readAny_L21 (FX7 f) fu C (nI o) (nI i) = some C' ∧ gX12_ors_L4 (FX12 g) gu R = some R' ∧ PH T n l cnt s Cb Rb c0 d0 T0 lo sl o (true :: Ts) C' R'
  | m, 0, _, _, _, _, _, _, hf, _, _, _ => by omega
  | m, _, 0, _, _, _, _, _, _, hf, _, _ => by omega
  | m, fu + 1, gu + 1, i, lo, C, R, hm, hfu, hgu, hi, h => by
    rcases h with ⟨a, p, c, d, k, h1, h2, h⟩ | h
    case inr =>
      refine ⟨C, R, ?_, ?_, Or.inr h⟩
      · rw [gX7_readAny_L21, pf_tok h]
        by_cases y : nI 300 ≤ nI i
        · rw [if_pos y]
        · rw [if_neg y, if_neg (n302 (by omega) (by omega))]
      · rw [gX12_ors_L4, pf_eat h, za_bn2, if_pos rfl]
    obtain ⟨R1, r1, hx⟩ := px_bl he h
    obtain ⟨tk, _⟩ := tok_at he hx.2.1
    obtain ⟨v, v1, v2⟩ := tok_nat tk
    have hn := he.1
    have hcn := he.2.2.2.2.2.1
    have ha := hx.2.1
    have hC4 : C 114 4 = nI v := hx.2.2.2.2.1.trans v2
    cases m with
    | zero => omega
    | succ m =>
    obtain ⟨ea, eb⟩ := eat_r (i := 20) he (by omega) (by omega) hx
    rw [gX7_readAny_L21, gX12_ors_L4, hC4, eat_bl r1 (px_bl0 he hx) h.2.2.2.2.2.2.2.2.2.2.1.1 hx.2.2.2.2.2.2.2.2.2.2.1.1]
    by_cases z : v = 419
    · subst z
      obtain ⟨x1, x2, x3⟩ := ea v2
      obtain ⟨C1, C2, C3, R2, R3, e1, e2, e3, e4, e5, e6⟩ := opw_ok (i := 6) (j := 4) (w := 0) (x := -17) (cd := nI 10) he hd hU hf hg (by unfold cB; simp) hx h1 h2 x1
      obtain ⟨C', R', n1, n2, n3⟩ := any_L he hd hU hf hg m fu gu (i + 1) (lo + 1) C3 R3 (by omega) (by omega) (by omega) (by omega) e6
      rw [if_neg (nI_ge (by omega) (by omega)), if_pos rfl, e1, za_bnd, e2, za_bnd, e3, za_bnd, nI_add, x3, za_bn2, if_neg za_n10, e4, za_bnd, e5, za_bnd]
      exact ⟨C', R', n1, n2, hs_wk n3 (by omega) (Nat.le_refl _)⟩
    · refine ⟨C, R1, ?_, ?_, Or.inl ⟨a, s a, c, d, k, h1, h2, hx⟩⟩
      · by_cases y : nI 300 ≤ nI i
        · rw [if_pos y]
        · rw [if_neg y, if_neg (ne_I v1 (by omega) z)]
      · rw [eb (by rw [v2]; exact ne_I v1 (by decide) z), za_bn2, if_pos rfl]
theorem any_ok (he : EN T n l cnt s q Cb Rb) (hd : d0 ≤ c0 + 10) (hF : 3 ≤ F) (ho : o ≤ 8) (hU : SPc T n l cnt s Cb Rb c0 d0 T0 6 4 true o F) : SPc T n l cnt s Cb Rb c0 d0 T0 5 3 true o (F + 1) := by
  intro f g lo sl Ts C R hf hg h
  have hn := he.1
  have hcn := he.2.2.2.2.2.1
  rcases h with h | h
  case inr => obtain ⟨u1, u2⟩ := fs_any (f := f) (g := g) (v := nI o) h (by omega) (by omega); exact ⟨C, R, u1, u2, Or.inr h⟩
  obtain ⟨f, rfl⟩ : ∃ f', f = f' + 1 := ⟨f - 1, by omega⟩
  obtain ⟨g, rfl⟩ : ∃ g', g = g' + 1 := ⟨g - 1, by omega⟩
  obtain ⟨C1, R1, u1, u2, u3⟩ := hU f g _ _ _ C R (by omega) (by omega) (Or.inl h)
  obtain ⟨C', R', l1, l2, l3⟩ := any_L (f := f) (g := g) he hd hU (by omega) (by omega) (cnt + 1) FU FU 0 (lo + 1) C1 R1 (by omega) (by rw [za_FU]; omega) (by rw [za_FU]; omega) (by omega) u3
  obtain ⟨a, p, c, d, k, h1, h2, hx⟩ := h
  refine ⟨C', R', ?_, ?_, l3⟩
  · show gX7_readAny C (FX7 f) (nI o) = some C'
    unfold gX7_readAny
    rw [hx.2.2.2.2.2.1, if_pos rfl, if_pos (nI_le ho (by omega)), u1, za_bnd]
    rw [nI_0] at l1
    exact l1
  · show gX12_ors R (FX12 g) = some R'
    unfold gX12_ors
    rw [u2, za_bnd]
    exact l2
theorem ch60 : chS 60 := by unfold chS isLt isDg; omega
theorem ch61 : chS 61 := by unfold chS isLt isDg; omega
theorem ch62 : chS 62 := by unfold chS isLt isDg; omega
theorem test_ok (he : EN T n l cnt s q Cb Rb) (hd : d0 ≤ c0 + 10) (hF : 4 ≤ F) (ho : o ≤ 8) (hS : SPc T n l cnt s Cb Rb c0 d0 T0 0 0 false o F) (hT : SPc T n l cnt s Cb Rb c0 d0 T0 7 5 true (o + 1) F) (hA : SPc T n l cnt s Cb Rb c0 d0 T0 5 3 true (o + 1) F) : SPc T n l cnt s Cb Rb c0 d0 T0 7 5 true o (F + 2) := by
  intro f g lo sl Ts C R hf hg h
  rcases h with ⟨a, p, c, d, k, h1, h2, h⟩ | h
  case inr => obtain ⟨u1, u2⟩ := fs_test (f := f) (g := g) (v := nI o) h (by omega) (by omega); exact ⟨C, R, u1, u2, Or.inr h⟩
  obtain ⟨f, rfl⟩ : ∃ f', f = f' + 1 + 1 := ⟨f - 2, by omega⟩
  obtain ⟨g, rfl⟩ : ∃ g', g = g' + 1 := ⟨g - 1, by omega⟩
  obtain ⟨R1, r1, hx⟩ := px_bl he h
  obtain ⟨tk, _⟩ := tok_at he h.2.1
  obtain ⟨v, v1, v2⟩ := tok_nat tk
  have hC4 : C 114 4 = nI v := h.2.2.2.2.1.trans v2
  show ∃ C' R', gX7_readTest C (FX7 (f + 1)) (nI o) = some C' ∧ gX12_test R (FX12 g) = some R' ∧ _
  unfold gX7_readTest gX12_test
  rw [h.2.2.2.2.2.1, if_pos rfl, if_pos (nI_le ho (by omega)), hC4, h.2.2.2.2.2.2.2.2.2.2.1.1, if_pos (Int32.le_refl _), r1, za_bnd, word_r (i := 18) he (by omega) (by omega) hx, za_bn2, show cwN 18 = 21 from rfl, v2]
  by_cases z : v = 421
  · subst z
    obtain ⟨x1, x2, x3⟩ := (eat_r (i := 18) he (by omega) (by omega) hx).1 v2
    obtain ⟨C1, R2, o1, o2, o3⟩ := px_open (lo := lo) (sl := sl) (len := 3) he hx v2 (by omega) (by omega) x2 h1 h2
    obtain ⟨C2, R3, u1, u2, u3⟩ := hT (f + 1) g _ _ _ C1 R2 (by omega) (by omega) o3
    have hd1 : PH T n l cnt s Cb Rb c0 d0 T0 (lo + 1 + 1) (sl + 1) o (true :: Ts) C2 (wr R3 127 14 (R3 127 14 - nI 1)) := by
      rcases u3 with ⟨a', p', c', d', k', y1, y2, y3⟩ | y
      · exact Or.inl ⟨a', p', c', d', k', y1, y2, px_o y3 ho (by rw [y3.2.2.2.2.2.2.2.2.2.2.2.1]; exact nis rfl)⟩
      · exact Or.inr (pf_o y)
    obtain ⟨C3, R4, p1, p2, p3⟩ := st_put he hd (x := -18) (cd := nI 11) (nu := 0) (show cS (-18) (nI 11) 0 (true :: Ts) (true :: Ts) from Or.inr (Or.inr (Or.inr (Or.inl ⟨rfl, rfl, Ts, rfl, rfl⟩)))) hd1
    rw [if_pos rfl, o1, za_bnd, nI_add, u1, za_bnd, p1, za_bnd, if_pos rfl, if_neg za_n10, o2, za_bnd, u2, za_bnd, za_lt, p2, za_bnd]
    exact ⟨C3, R4, rfl, rfl, hs_wk p3 (by omega) (Nat.le_refl _)⟩
  rw [if_neg (ne_I v1 (by omega) z), if_neg (show ¬ nI v = nI (400 + 21) from ne_I v1 (by omega) z), if_pos rfl, px_byte he hx, za_bnd]
  by_cases z91 : v = 91
  · subst z91
    obtain ⟨x1, x2, x3⟩ := (chr_tok tk ch91).1 v2
    obtain ⟨C1, R2, o1, o2, o3⟩ := px_open (lo := lo) (sl := sl) (len := 1) he hx v2 (by omega) (by omega) x3 h1 h2
    obtain ⟨C2, R3, u1, u2, u3⟩ := hA (f + 1) g _ _ _ C1 R2 (by omega) (by omega) o3
    obtain ⟨C3, R4, e1, e2, e3⟩ := st_closes he ch93 u3
    unfold rI
    rw [if_pos rfl, o1, za_bnd, nI_add, u1, za_bnd, e1, za_bnd, if_pos x1, x2, if_pos rfl, o2, za_bnd, u2, za_bnd, e2, za_bnd]
    exact ⟨C3, R4, rfl, rfl, hs_wk e3 (by omega) (by omega)⟩
  rw [if_neg (ne_I v1 (by omega) z91), if_neg ((chr_tok tk ch91).2 (by rw [v2]; exact ne_I v1 (by omega) z91))]
  -- a comparison
  obtain ⟨C1, R2, u1, u2, u3⟩ := hS f g _ _ _ C R1 (by omega) (by omega) (Or.inl ⟨a, s a, c, d, k, h1, h2, hx⟩)
  show ∃ C' R', (bnd (gX7_readComparison C (FX7 f) (nI o)) fun M2 => some M2) = some C' ∧ _ ∧ _
  unfold gX7_readComparison
  rw [u1, za_bnd, za_lt, u2, za_bnd]
  have hfs : ∀ {C2 R3 : Mc} {v' : Int32}, PF2 n l Cb Rb c0 d0 C2 R3 → (bnd (gX7_readComparison_J40 (FX7 f) C2 (nI o) v') fun M2 => some M2) = some C2 := by
    intro C2 R3 v' y
    unfold gX7_readComparison_J40 gX7_readComparison_J70
    rw [(fs_sum (f := f) (g := 3) (v := nI o) he y (by omega) (by omega)).1, za_bnd, pf_put y, pf_put y, pf_put y]
    simp only [za_bnd]
    by_cases w1 : v' = nI 60
    · rw [if_pos w1, za_bnd]
    · rw [if_neg w1]
      by_cases w2 : v' = nI 62
      · rw [if_pos w2, za_bnd]
      · rw [if_neg w2, za_bnd]
  rcases u3 with ⟨a', p', c', d', k', y1, y2, y3⟩ | y
  case inr =>
    rw [pf_tok y, if_neg (n302 (by omega) (by omega)), if_neg (n302 (by omega) (by omega)), if_neg (n302 (by omega) (by omega)), pf_fail y, za_bnd, hfs y, if_neg (pf_flt y).2.2]
    exact ⟨C1, R2, rfl, rfl, Or.inr y⟩
  obtain ⟨R3, s1, hy⟩ := px_bl he y3
  obtain ⟨tk2, _⟩ := tok_at he hy.2.1
  obtain ⟨w, w1, w2⟩ := tok_nat tk2
  have hC42 : C1 114 4 = nI w := hy.2.2.2.2.1.trans w2
  rw [hC42, y3.2.2.2.2.2.2.2.2.2.2.1.1, if_pos (Int32.le_refl _), s1, za_bnd, px_byte he hy, za_bnd]
  have hcmp : ∀ ch x cd, chS ch → cB x cd false true → w = ch → ∃ C2 C3 C4 R4 R5, fX7_goOn C1 = some C2 ∧ FX7 f 0 C2 (nI o) 0 = some C3 ∧ fX7_put C3 x = some C4 ∧ FX12 g 0 (wr R3 127 11 (R3 127 11 + nI 1)) = some R4 ∧ fX12_emits R4 cd 0 = some R5 ∧ PH T n l cnt s Cb Rb c0 d0 T0 (lo + 1) sl o (true :: Ts) C4 R5 := by
    intro ch x cd hch hcb hw
    obtain ⟨_, C2, C3, C4, R4, R5, R6, e1, e2, e3, e4, e5, e6, e7⟩ := op_ok (i := 0) (j := 0) (b := false) (r := true) (x := x) (cd := cd) (lo := lo + 1) (sl := sl) he hd hS (show F ≤ f by omega) (show F ≤ g by omega) hcb hy y1 y2 hch (by rw [w2, hw])
    obtain ⟨D1, R2', u1', u2', u3'⟩ : ∃ D1 R2', fX7_put C3 x = some D1 ∧ fX12_emits R4 cd 0 = some R2' ∧ PH T n l cnt s Cb Rb c0 d0 T0 (lo + 1) sl o (true :: Ts) D1 R2' := by
      obtain ⟨tk3, _⟩ := tok_at he hy.2.1
      have hc := hch.1
      have hlt : a' < cnt := tok_lt he hy.2.1 (by rw [w2, hw]; exact ne_I (by omega) (by omega) (by omega))
      obtain ⟨z1, z2, z3⟩ := (chr_tok tk3 hch).1 (by rw [w2, hw])
      obtain ⟨D1, g1, g2⟩ := px_go he hy hlt
      have hgo : PH T n l cnt s Cb Rb c0 d0 T0 (lo + 1 + 1) (sl + 1) o (false :: Ts) D1 (wr R3 127 11 (R3 127 11 + nI 1)) := Or.inl ⟨a' + 1, q a', c', d', k', by omega, by omega, g2 _ (fun b j hh => if_neg hh) (by rw [za_wrs, hy.2.2.2.2.2.2.2.1, nI_add, z3])⟩
      obtain ⟨D2, S2, x1, x2, x3⟩ := hS f g _ _ _ D1 _ (by omega) (by omega) hgo
      obtain ⟨D3, S3, q1, q2, q3⟩ := st_put he hd (x := x) (cd := cd) (nu := 0) (show cS x cd 0 (false :: false :: Ts) (true :: Ts) from Or.inr (Or.inr (Or.inl ⟨false, true, Ts, hcb, rfl, rfl⟩))) x3
      have hD1 : D1 = C2 := Option.some.inj (g1.symm.trans e1)
      subst hD1
      have hD2 : D2 = C3 := Option.some.inj (x1.symm.trans e2)
      subst hD2
      have hS2 : S2 = R4 := Option.some.inj (x2.symm.trans e4)
      subst hS2
      exact ⟨D3, S3, q1, q2, hs_wk q3 (by omega) (Nat.le_refl _)⟩
    exact ⟨C2, C3, D1, R4, R2', e1, e2, u1', e4, u2', u3'⟩
  rw [w2] at tk2
  have q60 := chr_r tk2 ch60 w1
  have q61 := chr_r tk2 ch61 w1
  have q62 := chr_r tk2 ch62 w1
  by_cases z60 : w = 60
  · obtain ⟨C2, C3, C4, R4, R5, e1, e2, e3, e4, e5, e6⟩ := hcmp 60 (-13) (nI 12) ch60 (by unfold cB; simp) z60
    rw [z60, if_pos rfl, if_pos (q60.1 z60)]
    unfold gX7_readComparison_J28 gX7_readComparison_J40 gX7_readComparison_J70 gX12_test_J131 gX12_test_J170
    rw [e1, za_bnd, e2, za_bnd, if_pos rfl, e3, za_bnd, za_bnd, za_lt, e4, za_bnd, if_pos (q60.1 z60), e5, za_bnd]
    exact ⟨C4, R5, rfl, rfl, e6⟩
  rw [if_neg (ne_I w1 (by omega) z60), if_neg (q60.2 z60)]
  by_cases z62 : w = 62
  · obtain ⟨C2, C3, C4, R4, R5, e1, e2, e3, e4, e5, e6⟩ := hcmp 62 (-14) (nI 13) ch62 (by unfold cB; simp) z62
    rw [z62, if_pos rfl, if_pos (q62.1 z62)]
    unfold gX7_readComparison_J28 gX7_readComparison_J40 gX7_readComparison_J70 gX12_test_J131 gX12_test_J170
    rw [e1, za_bnd, e2, za_bnd, if_neg (ne_I (by omega) (by omega) (by omega)), if_pos rfl, e3, za_bnd, za_bnd, za_lt, e4, za_bnd, if_neg (q60.2 z60), if_pos (q62.1 z62), e5, za_bnd]
    exact ⟨C4, R5, rfl, rfl, e6⟩
  rw [if_neg (ne_I w1 (by omega) z62), if_neg (q62.2 z62)]
  by_cases z61 : w = 61
  · obtain ⟨C2, C3, C4, R4, R5, e1, e2, e3, e4, e5, e6⟩ := hcmp 61 (-15) (nI 14) ch61 (by unfold cB; simp) z61
    rw [z61, if_pos rfl, if_pos (q61.1 z61)]
    unfold gX7_readComparison_J28 gX7_readComparison_J40 gX7_readComparison_J70 gX12_test_J131 gX12_test_J170
    rw [e1, za_bnd, e2, za_bnd, if_neg (ne_I (by omega) (by omega) (by omega)), if_neg (ne_I (by omega) (by omega) (by omega)), e3, za_bnd, za_bnd, za_lt, e4, za_bnd, if_neg (q60.2 z60), if_neg (q62.2 z62), e5, za_bnd]
    exact ⟨C4, R5, rfl, rfl, e6⟩
  obtain ⟨C', R', f1, f2, f3⟩ := px_fail0 (f := 1) he hy (by omega) (by omega)
  rw [if_neg (ne_I w1 (by omega) z61), if_neg (q61.2 z61), f1, za_bnd, hfs f3, f2, za_bnd]
  exact ⟨C', R', rfl, rfl, Or.inr f3⟩
theorem lev (he : EN T n l cnt s q Cb Rb) (hd : d0 ≤ c0 + 10) : ∀ D o, o + D = 9 → SPc T n l cnt s Cb Rb c0 d0 T0 0 0 false o (10 * D + 10) ∧ SPc T n l cnt s Cb Rb c0 d0 T0 5 3 true o (10 * D + 10) ∧ SPc T n l cnt s Cb Rb c0 d0 T0 7 5 true o (10 * D + 10)
  | 0, o, ho => by
    have hno : ∀ {lo sl Ts C R}, PH T n l cnt s Cb Rb c0 d0 T0 lo sl o Ts C R → PF2 n l Cb Rb c0 d0 C R := by
      intro lo sl Ts C R h
      rcases h with ⟨a, p, c, d, k, h1, h2, h⟩ | h
      · have := h.2.2.1; omega
      · exact h
    refine ⟨fun f g lo sl Ts C R hf hg h => ?_, fun f g lo sl Ts C R hf hg h => ?_, fun f g lo sl Ts C R hf hg h => ?_⟩
    · obtain ⟨u1, R', u2, u3⟩ := fs_sum (f := f) (g := g) (v := nI o) he (hno h) (by omega) (by omega)
      exact ⟨C, R', u1, u2, Or.inr u3⟩
    · obtain ⟨u1, u2⟩ := fs_any (f := f) (g := g) (v := nI o) (hno h) (by omega) (by omega)
      exact ⟨C, R, u1, u2, Or.inr (hno h)⟩
    · obtain ⟨u1, u2⟩ := fs_test (f := f) (g := g) (v := nI o) (hno h) (by omega) (by omega)
      exact ⟨C, R, u1, u2, Or.inr (hno h)⟩
  | D + 1, o, ho => by
    obtain ⟨hS, hA, hT⟩ := lev he hd D (o + 1) (by omega)
    have s4 := sum_ok he hd (by omega) (by omega) (prod_ok he hd (by omega) (unit_ok he hd hS hA))
    have t6 := test_ok he hd (by omega) (by omega) s4 (sp_mono hT (by omega)) (sp_mono hA (by omega))
    have a8 := any_ok he hd (by omega) (by omega) (every_ok he hd t6)
    exact ⟨sp_mono s4 (by omega), sp_mono a8 (by omega), sp_mono t6 (by omega)⟩
/-- a sum from its outside -/
theorem sum_top (he : EN T n l cnt s q Cb Rb) (hd : d0 ≤ c0 + 10) (h : PH T n l cnt s Cb Rb c0 d0 T0 lo sl 0 Ts C R) : ∃ C' R', fX7_readSum C 0 = some C' ∧ fX12_sum R = some R' ∧ PH T n l cnt s Cb Rb c0 d0 T0 (lo + 1) sl 0 (false :: Ts) C' R' := by
  obtain ⟨C', R', h1, h2, h3⟩ := (lev he hd 9 0 rfl).1 120 120 lo sl Ts C R (by omega) (by omega) h
  rw [nI_0] at h1
  exact ⟨C', R', h1, h2, h3⟩
end PWs
