/-! ===== sums, products, units ===== -/
section PZs
variable {T : Nat → Nat} {n l cnt : Nat} {s q : Nat → Nat} {Cb Rb C R : Mc} {c0 d0 : Nat} {T0 Ts Ts' : List Bool} {lo sl o a p c d k F : Nat}
theorem DE_uni {p' u v : Nat} (h1 : DE T n p' u) (h2 : DE T n p' v) : u = v := by
  rcases Nat.lt_trichotomy u v with h | h | h
  · exact absurd (h2.2.1 u h1.1 h) h1.2.2
  · exact h
  · exact absurd (h1.2.1 v h2.1 h) h2.2.2
theorem tok_nat {p' : Nat} {tk nu : Int32} {q' : Nat} (h : TokAt T n p' tk nu q') : ∃ v, v < 500 ∧ tk = nI v := by
  rcases h with ⟨g1, e⟩ | ⟨g1, g2, g3, g4⟩ | ⟨g1, g2, g3, e, g5⟩ | ⟨g1, g2, g3, g4, g5, e, g7⟩
  · exact ⟨301, by omega, e⟩
  · rcases g4 with ⟨w, w1, w2, e⟩ | ⟨_, e⟩
    · exact ⟨400 + w, by omega, e⟩
    · exact ⟨302, by omega, e⟩
  · exact ⟨300, by omega, e⟩
  · exact ⟨T p', by omega, e⟩
theorem toldOf_t : ∀ j, j < 5 → fX12_toldOf (nI j) = some (10 + j) ∧ cwN (10 + j) = 11 + j := by decide +kernel
theorem ne_I {u v : Nat} (hu : u < 500) (hv : v < 500) (h : u ≠ v) : ¬ nI u = nI v := fun z => h (za_inj (by omega) (by omega) z)
theorem factP_L {K : Nat → Mc → Option Mc} {v : Nat} (he : EN T n l cnt s q Cb Rb) (h : PX T n l cnt s Cb Rb c0 d0 T0 a (s a) c d k o Ts C R) (hv : Cb 115 a = nI v) (hv2 : v < 500) : ∀ m fu j, j + m = 5 → m < fu → ((411 + j ≤ v ∧ v ≤ 415) → gX12_one_L33 K fu R (nI j) = bnd (fX12_emits (wr R 127 11 (nI (q a))) (nI 15) (nI (v - 411))) fun M51 => some M51) ∧ (¬ (411 + j ≤ v ∧ v ≤ 415) → ∃ fu', gX12_one_L33 K fu R (nI j) = gX12_one_L33 K (fu' + 1) R (nI 5))
  | m, 0, _, _, hf => by omega
  | 0, fu + 1, j, hj, _ => by
    obtain rfl : j = 5 := by omega
    exact ⟨fun z => by omega, fun _ => ⟨fu, rfl⟩⟩
  | m + 1, fu + 1, j, hj, hf => by
    obtain ⟨t1, t2⟩ := toldOf_t j (by omega)
    have ih := factP_L (K := K) he h hv hv2 m fu (j + 1) (by omega) (by omega)
    obtain ⟨ea, eb⟩ := eat_r (i := 10 + j) he (by omega) (by omega) h
    rw [t2, hv] at ea eb
    have hstep : gX12_one_L33 K (fu + 1) R (nI j) = bn2 (fX12_eat R (10 + j)) fun v48 M49 => (if v48 = 0 then (gX12_one_L33 K fu M49 (nI j + nI 1)) else bnd (fX12_emits M49 (nI 15) (nI j)) fun M51 => (some (M51))) := by
      rw [gX12_one_L33, if_neg (nI_ge (by omega) (by omega)), t1, za_bnd, za_chp _ (by omega)]
    rw [hstep]
    by_cases z : v = 411 + j
    · obtain ⟨_, _, e3⟩ := ea (by rw [z]; congr 1; omega)
      rw [e3, za_bn2, if_neg za_n10]
      exact ⟨fun _ => by rw [show v - 411 = j by omega], fun y => absurd ⟨by omega, by omega⟩ y⟩
    · rw [eb (ne_I hv2 (by omega) (by omega)), za_bn2, if_pos rfl, nI_add]
      exact ⟨fun y => ih.1 ⟨by omega, y.2⟩, fun y => ih.2 (fun x => y ⟨by omega, x.2⟩)⟩
theorem sp_mono {i j : Nat} {b : Bool} {F' : Nat} (h : SPc T n l cnt s Cb Rb c0 d0 T0 i j b o F) (hF : F ≤ F') : SPc T n l cnt s Cb Rb c0 d0 T0 i j b o F' :=
  fun f g lo sl Ts C R hf hg hh => h f g lo sl Ts C R (by omega) (by omega) hh
theorem ch44 : chS 44 := by unfold chS isLt isDg; omega
theorem ch41 : chS 41 := by unfold chS isLt isDg; omega
theorem ch93 : chS 93 := by unfold chS isLt isDg; omega
theorem ch91 : chS 91 := by unfold chS isLt isDg; omega
theorem ch40 : chS 40 := by unfold chS isLt isDg; omega
/-- least and most -/
theorem pair_ok {x cd : Int32} {f g : Nat} (he : EN T n l cnt s q Cb Rb) (hd : d0 ≤ c0 + 10) (hS : SPc T n l cnt s Cb Rb c0 d0 T0 0 0 false (o + 1) F) (hf : F ≤ f) (hg : F ≤ g) (hx : cB x cd false false) (h : PH T n l cnt s Cb Rb c0 d0 T0 lo sl o Ts C R) : ∃ C' R', (bnd (fX7_openWith C (nI 40) (nI o)) fun M4 => bnd (FX7 f 0 M4 (nI o + nI 1) 0) fun M6 => bnd (fX7_expect M6 (nI 44)) fun M8 => bnd (FX7 f 0 M8 (nI o + nI 1) 0) fun M10 => bnd (fX7_expect M10 (nI 41)) fun M12 => bnd (fX7_put M12 x) fun M14 => some M14) = some C' ∧ (bnd (fX12_bracket R) fun M54 => bnd (FX12 g 0 M54) fun M56 => bnd (fX12_sign M56 (nI 44)) fun M58 => bnd (FX12 g 0 M58) fun M60 => bnd (fX12_closes M60 (nI 41)) fun M62 => bnd (fX12_emits M62 cd 0) fun M64 => some M64) = some R' ∧ PH T n l cnt s Cb Rb c0 d0 T0 lo sl o (false :: Ts) C' R' := by
  obtain ⟨C1, R1, a1, a2, a3⟩ := st_bracket he h
  obtain ⟨C2, R2, b1, b2, b3⟩ := hS f g _ _ _ C1 R1 hf hg a3
  obtain ⟨C3, R3, e1, e2, e3⟩ := st_expect he ch44 b3
  obtain ⟨C4, R4, f1, f2, f3⟩ := hS f g _ _ _ C3 R3 hf hg e3
  obtain ⟨C5, R5, g1, g2, g3⟩ := st_closes he ch41 f3
  obtain ⟨C6, R6, h1, h2, h3⟩ := st_put he hd (cd := cd) (nu := 0) (show cS x cd 0 (false :: false :: Ts) (false :: Ts) from Or.inr (Or.inr (Or.inl ⟨false, false, Ts, hx, rfl, rfl⟩))) g3
  rw [nI_add, a1, za_bnd, b1, za_bnd, e1, za_bnd, f1, za_bnd, g1, za_bnd, h1, za_bnd, a2, za_bnd, b2, za_bnd, e2, za_bnd, f2, za_bnd, g2, za_bnd, h2]
  exact ⟨C6, R6, rfl, rfl, hs_wk h3 (by omega) (by omega)⟩
theorem if_ok {f g : Nat} (he : EN T n l cnt s q Cb Rb) (hd : d0 ≤ c0 + 10) (hS : SPc T n l cnt s Cb Rb c0 d0 T0 0 0 false (o + 1) F) (hA : SPc T n l cnt s Cb Rb c0 d0 T0 5 3 true (o + 1) F) (hf : F ≤ f) (hg : F ≤ g) (h : PH T n l cnt s Cb Rb c0 d0 T0 lo sl o Ts C R) : ∃ C' R', (bnd (fX7_openWith C (nI 40) (nI o)) fun M4 => bnd (FX7 f 5 M4 (nI o + nI 1) 0) fun M6 => bnd (fX7_expect M6 (nI 44)) fun M8 => bnd (FX7 f 0 M8 (nI o + nI 1) 0) fun M10 => bnd (fX7_expect M10 (nI 44)) fun M12 => bnd (FX7 f 0 M12 (nI o + nI 1) 0) fun M14 => bnd (fX7_expect M14 (nI 41)) fun M16 => bnd (fX7_put M16 (-19)) fun M18 => some M18) = some C' ∧ (bnd (fX12_bracket R) fun M21 => bnd (FX12 g 3 M21) fun M23 => bnd (fX12_sign M23 (nI 44)) fun M25 => bnd (FX12 g 0 M25) fun M27 => bnd (fX12_sign M27 (nI 44)) fun M29 => bnd (FX12 g 0 M29) fun M31 => bnd (fX12_closes M31 (nI 41)) fun M33 => bnd (fX12_emits M33 (nI 8) 0) fun M35 => some M35) = some R' ∧ PH T n l cnt s Cb Rb c0 d0 T0 lo sl o (false :: Ts) C' R' := by
  obtain ⟨C1, R1, a1, a2, a3⟩ := st_bracket he h
  obtain ⟨C2, R2, b1, b2, b3⟩ := hA f g _ _ _ C1 R1 hf hg a3
  obtain ⟨C3, R3, e1, e2, e3⟩ := st_expect he ch44 b3
  obtain ⟨C4, R4, f1, f2, f3⟩ := hS f g _ _ _ C3 R3 hf hg e3
  obtain ⟨C5, R5, g1, g2, g3⟩ := st_expect he ch44 f3
  obtain ⟨C6, R6, i1, i2, i3⟩ := hS f g _ _ _ C5 R5 hf hg g3
  obtain ⟨C7, R7, j1, j2, j3⟩ := st_closes he ch41 i3
  obtain ⟨C8, R8, h1, h2, h3⟩ := st_put he hd (x := -19) (cd := nI 8) (nu := 0) (show cS (-19) (nI 8) 0 (false :: false :: true :: Ts) (false :: Ts) from Or.inr (Or.inr (Or.inr (Or.inr ⟨rfl, rfl, Ts, rfl, rfl⟩)))) j3
  rw [nI_add, a1, za_bnd, b1, za_bnd, e1, za_bnd, f1, za_bnd, g1, za_bnd, i1, za_bnd, j1, za_bnd, h1, za_bnd, a2, za_bnd, b2, za_bnd, e2, za_bnd, f2, za_bnd, g2, za_bnd, i2, za_bnd, j2, za_bnd, h2]
  exact ⟨C8, R8, rfl, rfl, hs_wk h3 (by omega) (by omega)⟩
theorem fact_x : ∀ k, k < 5 → (nI 411 - nI (411 + k)) - nI 1 = -1 - nI k := by decide +kernel
theorem unit_ok (he : EN T n l cnt s q Cb Rb) (hd : d0 ≤ c0 + 10) (hS : SPc T n l cnt s Cb Rb c0 d0 T0 0 0 false (o + 1) F) (hA : SPc T n l cnt s Cb Rb c0 d0 T0 5 3 true (o + 1) F) : SPc T n l cnt s Cb Rb c0 d0 T0 2 2 false o (F + 2) := by
  intro f g lo sl Ts C R hf hg h
  obtain ⟨f, rfl⟩ : ∃ f', f = f' + 1 + 1 := ⟨f - 2, by omega⟩
  obtain ⟨g, rfl⟩ : ∃ g', g = g' + 1 := ⟨g - 1, by omega⟩
  rcases h with ⟨a, p, c, d, k, h1, h2, h⟩ | h
  case inr => obtain ⟨u1, u2⟩ := fs_unit (f := f + 1 + 1) (g := g + 1) (v := nI o) h (by omega) (by omega); exact ⟨C, R, u1, u2, Or.inr h⟩
  obtain ⟨R1, r1, hx⟩ := px_bl he h
  obtain ⟨tk, _⟩ := tok_at he h.2.1
  obtain ⟨t1, t2, t3⟩ := pf_txt he hx.1
  obtain ⟨v, v1, v2⟩ := tok_nat tk
  have hn := he.1
  have hcn := he.2.2.2.2.2.1
  have hs := s_le he h.2.1
  have hC4 : C 114 4 = nI v := h.2.2.2.2.1.trans v2
  show ∃ C' R', gX7_readUnit C (FX7 (f + 1)) (nI o) = some C' ∧ gX12_one R (FX12 g) = some R' ∧ _
  have hR : gX12_one R (FX12 g) = if s a < n ∧ isDg (T (s a)) then fX12_figures R1 else gX12_one_L33 (FX12 g) FU R1 0 := by
    unfold gX12_one
    rw [h.2.2.2.2.2.2.2.2.2.2.1.1, if_pos (Int32.le_refl _), r1, za_bnd, px_byte he hx, za_bnd, id_r he.2.1, za_bnd]
    by_cases z : s a < n ∧ isDg (T (s a))
    · rw [if_pos z, if_pos z, if_neg za_n10]
      cases fX12_figures R1 <;> rfl
    · rw [if_neg z, if_neg z, if_pos rfl]
  rw [hR]
  unfold gX7_readUnit
  rw [hC4]
  by_cases z300 : v = 300
  · -- a number
    subst z300
    obtain ⟨z1, z2, z3, z4⟩ := (dig_tok tk).1 v2
    have hlt : a < cnt := tok_lt he h.2.1 (by rw [v2]; exact ne_I (by omega) (by omega) (by omega))
    obtain ⟨q', R2, y1, y2, y3, y4⟩ := fig_L (T := T) (p' := s a) hn (n - s a) FU (s a) 0 R1 (by omega) (by rw [za_FU]; omega) (by omega) t1 t2 he.2.1 hx.2.2.2.2.2.2.2.1 (fun j hj => by omega)
    obtain rfl : q' = q a := DE_uni y1 z3
    have hdig : ∀ i, i < q a - s a → isDg (T (s a + i)) := fun i hi => (z3.2.1 (s a + i) (by omega) (by omega)).2
    obtain ⟨w1, w2⟩ := dv_eq (q a - s a) hdig
    have e117 : C 117 a = nI (dvC T (s a) (q a - s a)) := (congrFun (h.1.1 117 (by omega) (by omega)) a).trans z4
    have e3 := h.2.2.2.1
    have ha := h.2.1
    rw [if_pos (show s a < n ∧ isDg (T (s a)) from ⟨z1, z2⟩), if_pos rfl]
    unfold fX7_readNumber fX12_figures
    rw [e3, za_inY (by omega) (by omega), za_bnd, if_neg za_n10, za_chk _ (by omega) (by omega), nI_clamp (by omega), e117, za_lt, hx.2.2.2.2.2.2.2.1]
    rw [show dvR T (s a) 0 = 0 from rfl, nI_0] at y4
    rw [y4]
    unfold fX7_readNumber_J28 fX7_readNumber_J41 fX12_figures_J75
    by_cases y : dvR T (s a) (q a - s a) ≤ 9999
    · rw [if_pos y, w1, Nat.min_eq_right (by omega), if_pos (nI_le y (by omega))]
      obtain ⟨C1, C', R', p1, p2, p3, p4⟩ := put_go (x := nI (dvR T (s a) (q a - s a))) (cd := 0) (nu := nI (dvR T (s a) (q a - s a))) he hd hx hlt h1 h2 (show cS _ _ _ Ts (false :: Ts) from Or.inl ⟨_, by omega, rfl, rfl, rfl, rfl⟩) y2 y3
      rw [p1, za_bnd, p2, za_bnd, za_bnd, p3, za_bnd]
      exact ⟨C', R', rfl, rfl, p4⟩
    · rw [if_neg y, w1, Nat.min_eq_left (by omega), if_neg (nI_ge (by omega) (by omega))]
      obtain ⟨C', R', f1, f2, f3, f4⟩ := px_fail (f := 2) he hx (by omega) (by omega)
      have hw : fX12_wrong R2 (nI 2) (nI (s a)) = some (wr (wr R2 127 12 (nI 2)) 127 13 (nI (s a))) := by
        unfold fX12_wrong
        rw [y2 127 12 (by omega), hx.2.2.2.2.2.2.2.2.2.2.1.1, if_pos (Int32.le_refl _), za_lt, za_lt]
      have hfs := f4 (wr (wr R2 127 12 (nI 2)) 127 13 (nI (s a))) (fun b j hh => by
        rw [f3]
        simp only [za_wr]
        by_cases x1 : b = 127 ∧ j = 13
        · rw [if_pos x1, if_pos x1]
        · rw [if_neg x1, if_neg x1]
          by_cases x2 : b = 127 ∧ j = 12
          · rw [if_pos x2, if_pos x2]
          · rw [if_neg x2, if_neg x2]; exact y2 b j (by omega)) ⟨q a, by rw [za_wri (by omega), za_wri (by omega)]; exact y3, (he.2.2.2.2.1.2.1 a (by omega) hlt).2.1⟩
      rw [f1, za_bnd, pf_put hfs, za_bnd, pf_go hfs, za_bnd, za_bnd, hw, za_bnd, pf_emits hfs, za_bnd]
      exact ⟨C', _, rfl, rfl, Or.inr hfs⟩
  rw [if_neg (ne_I v1 (by omega) z300), if_neg ((dig_tok tk).2 (by rw [v2]; exact ne_I v1 (by omega) z300))]
  obtain ⟨fa, fb⟩ := factP_L (K := FX12 g) he hx v2 v1 5 FU 0 (by omega) (by rw [za_FU]; omega)
  rw [nI_0] at fa fb
  by_cases zf : 411 ≤ v ∧ v ≤ 415
  · -- a fact
    have hlt : a < cnt := tok_lt he h.2.1 (by rw [v2]; exact ne_I (by omega) (by omega) (by omega))
    rw [fa ⟨by omega, zf.2⟩, if_neg (nI_nlt zf.1 (by omega)), if_neg (nI_nlt zf.2 (by omega))]
    have hxx := fact_x (v - 411) (by omega)
    rw [show 411 + (v - 411) = v by omega] at hxx
    rw [hxx]
    obtain ⟨C1, C', R', p1, p2, p3, p4⟩ := put_go (x := -1 - nI (v - 411)) (cd := nI 15) (nu := nI (v - 411)) (R2 := wr R1 127 11 (nI (q a))) he hd hx hlt h1 h2 (show cS _ _ _ Ts (false :: Ts) from Or.inr (Or.inl ⟨v - 411, by omega, rfl, rfl, rfl, rfl⟩)) (fun b j hh => if_neg hh) (za_wrs _ _ _ _)
    rw [p1, za_bnd, p2, za_bnd, p3, za_bnd]
    exact ⟨C', R', rfl, rfl, p4⟩
  obtain ⟨fu', fe⟩ := fb (fun y => zf ⟨by omega, y.2⟩)
  have hJ : (if nI v < nI 411 then (gX7_readUnit_J58 (FX7 (f + 1)) C (nI o)) else (if nI 415 < nI v then (gX7_readUnit_J58 (FX7 (f + 1)) C (nI o)) else bnd (fX7_put C ((nI 411 - nI v) - nI 1)) fun M2 => bnd (fX7_goOn M2) fun M4 => some M4)) = gX7_readUnit_J58 (FX7 (f + 1)) C (nI o) := by
    by_cases y : v < 411
    · rw [if_pos (nI_lt y (by omega))]
    · rw [if_neg (nI_nlt (by omega) (by omega)), if_pos (nI_lt (by omega) (by omega))]
  rw [hJ, fe, gX12_one_L33, if_pos (nI_le (Nat.le_refl _) (by omega)), px_byte he hx, za_bnd]
  unfold gX7_readUnit_J58
  rw [hC4]
  by_cases z40 : v = 40
  · -- a bracket
    subst z40
    obtain ⟨z1, z2, z3⟩ := (chr_tok tk ch40).1 v2
    obtain ⟨C1, R2, o1, o2, o3⟩ := px_open (lo := lo) (sl := sl) (len := 1) he hx v2 (by omega) (by omega) z3 h1 h2
    obtain ⟨C2, R3, b1, b2, b3⟩ := hS (f + 1) g _ _ _ C1 R2 (by omega) (by omega) o3
    obtain ⟨C3, R4, e1, e2, e3⟩ := st_closes he ch41 b3
    unfold rI
    rw [if_pos rfl, o1, za_bnd, nI_add, b1, za_bnd, e1, za_bnd, if_pos z1, z2, if_pos rfl, o2, za_bnd, b2, za_bnd, e2, za_bnd]
    exact ⟨C3, R4, rfl, rfl, hs_wk e3 (by omega) (by omega)⟩
  rw [if_neg (ne_I v1 (by omega) z40), if_neg ((chr_tok tk ch40).2 (by rw [v2]; exact ne_I v1 (by omega) z40)), word_r (i := 15) he (by omega) (by omega) hx, za_bn2, show cwN 15 = 16 from rfl, v2]
  have hq416 : ∀ i, 1 ≤ i → i < 23 → v = 400 + cwN i → a < cnt ∧ q a = s a + wlen (cwN i) := fun i i1 i2 i3 => by
    obtain ⟨x1, x2, _⟩ := (eat_r he i1 i2 hx).1 (by rw [v2, i3])
    exact ⟨x1, x2⟩
  by_cases z416 : v = 416
  · subst z416
    obtain ⟨x1, x2⟩ := hq416 15 (by omega) (by omega) rfl
    obtain ⟨C1, g1, g2⟩ := px_go he hx x1
    have hgo : PH T n l cnt s Cb Rb c0 d0 T0 (lo + 1) (sl + 1) o Ts C1 (wr R1 127 11 (nI (q a))) := Or.inl ⟨a + 1, q a, c, d, k, by omega, by omega, g2 _ (fun b j hh => if_neg hh) (za_wrs _ _ _ _)⟩
    obtain ⟨C2, R2, p1, p2, p3⟩ := pair_ok (x := -11) (cd := nI 6) he hd hS (show F ≤ f by omega) (show F ≤ g by omega) (by unfold cB; simp) hgo
    refine ⟨C2, R2, ?_, ?_, hs_wk p3 (by omega) (by omega)⟩
    · rw [if_pos rfl]
      unfold gX7_readUnit_J110 gX7_readUnit_J128
      rw [hC4, if_pos rfl]
      show (bnd (gX7_readPair C (FX7 f) (-11) (nI o)) fun M18 => some M18) = some C2
      unfold gX7_readPair
      rw [g1, za_bnd, p1, za_bnd]
    · rw [if_pos rfl, if_neg za_n10]
      unfold gX12_one_J117 gX12_one_J131 gX12_one_J171
      rw [if_neg za_n10, za_lt, hx.2.2.2.2.2.2.2.1, nI_add, show s a + 5 = q a from x2.symm]
      simp only [if_neg za_n10]
      exact p2
  rw [if_neg (ne_I v1 (by omega) z416), if_neg (show ¬ nI v = nI (400 + 16) from ne_I v1 (by omega) z416), if_pos rfl, word_r (i := 16) he (by omega) (by omega) hx, za_bn2, show cwN 16 = 17 from rfl, v2]
  by_cases z417 : v = 417
  · subst z417
    obtain ⟨x1, x2⟩ := hq416 16 (by omega) (by omega) rfl
    obtain ⟨C1, g1, g2⟩ := px_go he hx x1
    have hgo : PH T n l cnt s Cb Rb c0 d0 T0 (lo + 1) (sl + 1) o Ts C1 (wr R1 127 11 (nI (q a))) := Or.inl ⟨a + 1, q a, c, d, k, by omega, by omega, g2 _ (fun b j hh => if_neg hh) (za_wrs _ _ _ _)⟩
    obtain ⟨C2, R2, p1, p2, p3⟩ := pair_ok (x := -12) (cd := nI 7) he hd hS (show F ≤ f by omega) (show F ≤ g by omega) (by unfold cB; simp) hgo
    refine ⟨C2, R2, ?_, ?_, hs_wk p3 (by omega) (by omega)⟩
    · rw [if_pos rfl]
      unfold gX7_readUnit_J110 gX7_readUnit_J128
      rw [hC4, if_neg (ne_I (by omega) (by omega) (by omega))]
      show (bnd (gX7_readPair C (FX7 f) (-12) (nI o)) fun M18 => some M18) = some C2
      unfold gX7_readPair
      rw [g1, za_bnd, p1, za_bnd]
    · rw [if_pos rfl, if_neg za_n10]
      unfold gX12_one_J117 gX12_one_J131 gX12_one_J171
      rw [if_pos rfl, za_lt, hx.2.2.2.2.2.2.2.1, nI_add, show s a + 4 = q a from x2.symm]
      simp only [if_true]
      exact p2
  rw [if_neg (ne_I v1 (by omega) z417), if_neg (show ¬ nI v = nI (400 + 17) from ne_I v1 (by omega) z417), if_pos rfl]
  obtain ⟨ea, eb⟩ := eat_r (i := 17) he (by omega) (by omega) hx
  by_cases z418 : v = 418
  · subst z418
    obtain ⟨x1, x2, x3⟩ := ea v2
    obtain ⟨C1, g1, g2⟩ := px_go he hx x1
    have hgo : PH T n l cnt s Cb Rb c0 d0 T0 (lo + 1) (sl + 1) o Ts C1 (wr R1 127 11 (nI (q a))) := Or.inl ⟨a + 1, q a, c, d, k, by omega, by omega, g2 _ (fun b j hh => if_neg hh) (za_wrs _ _ _ _)⟩
    obtain ⟨C2, R2, p1, p2, p3⟩ := if_ok he hd hS hA (show F ≤ f by omega) (show F ≤ g by omega) hgo
    refine ⟨C2, R2, ?_, ?_, hs_wk p3 (by omega) (by omega)⟩
    · rw [if_pos rfl]
      show (bnd (gX7_readIf C (FX7 f) (nI o)) fun M10 => some M10) = some C2
      unfold gX7_readIf
      rw [g1, za_bnd, p1, za_bnd]
    · rw [x3, za_bn2, if_neg za_n10]
      exact p2
  · obtain ⟨C', R', f1, f2, f3⟩ := px_fail0 (f := 1) he hx (by omega) (by omega)
    rw [if_neg (ne_I v1 (by omega) z418), f1, za_bnd, eb (by rw [v2]; exact ne_I v1 (by decide) z418), za_bn2, if_pos rfl, f2, za_bnd]
    exact ⟨C', R', rfl, rfl, Or.inr f3⟩
end PZs
