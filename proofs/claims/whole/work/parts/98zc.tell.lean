/-! ===== clauses, one by one ===== -/
section PLs
variable {T : Nat → Nat} {n l cnt : Nat} {s q : Nat → Nat} {C R C0 R0 : Mc} {a c d i v : Nat}
theorem em_x {cd nu : Int32} {d' : Nat} (h12 : R 127 12 = 0) (h15 : R 127 15 = nI d') (h16 : R 127 16 = nI l) (hl : l < 12) (hd : d' < 400) : fX12_emits R cd nu = some (wr (wr (wr R 135 (400 * l + d') cd) 136 (400 * l + d') nu) 127 15 (nI (d' + 1))) := by
  unfold fX12_emits
  rw [h12, if_pos (Int32.le_refl _), h16, h15, za_mul, nI_add, za_chk _ (by omega) (by omega), za_lt, za_wra (by omega), za_wra (by omega), h16, h15, za_mul, nI_add, za_chk _ (by omega) (by omega), za_lt, za_lt, nI_clamp (by omega), za_wra (by omega), za_wra (by omega), h15, nI_add]
theorem ch59 : chS 59 := by unfold chS isLt isDg; omega
theorem tell_ok (h : KL T n l cnt s q C0 R0 i a c d C R) (hi : i < 10) (hv : C 115 a = nI v) (h1 : 400 ≤ v) (h2 : v < 408) : ∃ C' R' R'', fX7_readClause C (nI i) = some C' ∧ fX12_clause R = some R' ∧ fX12_blanks R' = some R'' ∧ ((∃ a' c' d', a < a' ∧ KL T n l cnt s q C0 R0 (i + 1) a' c' d' C' R'') ∨ ∃ f, KF n l C0 R0 f C' R'') := by
  have hx := kl_px h
  obtain ⟨k1, he, k3, k4, k5, k6, k7, k8, k9, k10, k11, k12, k13, k14, k15, k16, k17, k18⟩ := h
  have hn := he.1
  have hcn := he.2.2.2.2.2.1
  have hl12 := he.2.2.2.2.2.2.2
  have h16 : R 127 16 = nI l := he.2.2.2.2.2.2.1
  obtain ⟨w, rfl⟩ : ∃ w, v = 400 + w := ⟨v - 400, by omega⟩
  have hw : w < 8 := by omega
  have hlt : a < cnt := tok_lt he k3 (by rw [hv]; exact ne_I (by omega) (by omega) (by omega))
  obtain ⟨tk, _⟩ := tok_at he k3
  rw [hv] at tk
  obtain ⟨tw1, tw2, tw3⟩ := tok_w tk (show w < 22 by omega)
  obtain ⟨C1, g1, g2⟩ := px_go he hx hlt
  have hgo : PH T n l cnt s C R c d [] (a + 1) 1 0 [] C1 (wr R 127 11 (nI (q a))) := Or.inl ⟨a + 1, q a, c, d, 0, by omega, by omega, g2 _ (fun b j hh => if_neg hh) (za_wrs _ _ _ _)⟩
  obtain ⟨C2, R3, e1, e2, e3⟩ := st_expect he ch61 hgo
  obtain ⟨nm1, nm2⟩ := names_t w hw
  obtain ⟨_, slen, _⟩ := str_ok (i := w + 1) (by omega) (by omega)
  -- the state behind the sign is a new beginning
  have hfr : PFr l c d C R C2 R3 := by
    rcases e3 with ⟨_, _, _, _, _, _, _, y⟩ | y
    · exact y.1
    · exact y.1
  have h15 : ∃ v15, R3 127 15 = v15 ∧ (PF2 n l C R c d C2 R3 ∨ v15 = nI d) := by
    rcases e3 with ⟨a', p', c', d', k', x1, x2, y⟩ | y
    · have := sg_nil y.2.2.2.2.2.2.2.2.2.2.2.2.2.2.2
      subst this
      exact ⟨_, rfl, Or.inr (y.2.2.2.2.2.2.2.2.2.2.2.2.1.trans (by rw [y.2.2.2.2.2.2.2.2.2.2.2.2.2.2.1]; rfl))⟩
    · exact ⟨_, rfl, Or.inl y⟩
  have hR4 : ∃ R4, R4 = wr R3 137 (8 * l + w) (R3 127 15) := ⟨_, rfl⟩
  obtain ⟨R4, hR4⟩ := hR4
  have he2 : EN T n l cnt s q C2 R4 := by
    rw [hR4]
    exact en_cg (en_pfr he hfr) rfl rfl rfl (za_wrc (by omega)) (za_wra (by omega)) (za_wra (by omega))
  have hl2 : LFr l C0 R0 C2 R4 := by rw [hR4]; exact lfr_r137 (lfr_pfr k1 hfr) hw
  have hn2 : PH T n l cnt s C2 R4 c d [] (a + 2) 2 0 [] C2 R4 := by
    rw [hR4]
    rcases e3 with ⟨a', p', c', d', k', x1, x2, y⟩ | y
    · have hk0 := sg_nil y.2.2.2.2.2.2.2.2.2.2.2.2.2.2.2
      subst hk0
      obtain rfl : c' = c := y.2.2.2.2.2.2.2.2.2.2.2.2.2.1
      have hd' : d' = d := y.2.2.2.2.2.2.2.2.2.2.2.2.2.2.1
      subst hd'
      exact Or.inl ⟨a', p', c', d', 0, x1, x2, px_new y rfl rfl (hfr.1 115 (by omega) (by omega)) rfl rfl (za_wra (by omega)) (za_wra (by omega)) (za_wra (by omega)) ((za_wra (by omega)).trans y.2.2.2.2.2.2.2.2.2.2.2.2.1)⟩
    · exact Or.inr (pf_new y rfl rfl rfl (za_wra (by omega)) (za_wra (by omega)) (za_wra (by omega)))
  obtain ⟨C5, R5, s1, s2, s3⟩ := sum_top he2 (by omega) hn2
  have hfr5 : PFr l c d C2 R4 C5 R5 := by
    rcases s3 with ⟨_, _, _, _, _, _, _, y⟩ | y
    · exact y.1
    · exact y.1
  have he5 := en_pfr he2 hfr5
  have hl5 := lfr_pfr hl2 hfr5
  have hcls : fX7_readClause C (nI i) = fX7_expect (wr (wr C5 119 w (C2 114 8)) 120 w (C5 114 8)) (nI 59) := by
    unfold fX7_readClause fX7_readClause_J36 fX7_readClause_J72 fX7_readTelling
    rw [k7, hv, za_sub (by omega), show 400 + w - 400 = w by omega, za_lt, if_neg (ne_I (by omega) (by omega) (by omega)), za_inY hw (by omega), za_bnd, if_neg za_n10, if_pos (nI_lt hi (by omega)), g1, za_bnd, e1, za_bnd, za_lt, s1, za_bnd, za_bnd, if_neg za_n10, za_bnd, if_neg za_n10, za_chk _ hw (by omega), za_lt, za_chk _ hw (by omega), za_lt, nI_clamp (by omega), za_bnd, za_wra (by omega)]
    rw [if_neg (show ¬ nI (400 + w) = nI 408 from ne_I (by omega) (by omega) (by omega))]
    cases fX7_expect (wr (wr C5 119 w (C2 114 8)) 120 w (C5 114 8)) (nI 59) <;> rfl
  have hrf : fX12_clause R = bnd (fX12_emits R5 (nI 16) 0) fun M30 => bnd (fX12_sign M30 (nI 59)) fun M32 => some M32 := by
    unfold fX12_clause fX12_clause_J132
    have z16 : R3 127 16 = nI l := (hfr.2.2.2.1 16 (by omega) (by omega) (by omega) (by omega) (by omega)).trans h16
    rw [(name_r he hx hv (by omega)).1 ⟨h1, h2⟩, za_bn2, show 400 + w - 400 = w by omega, if_neg (nI_pos (by omega)), nm1, za_bnd, za_chp _ (by omega), slen R, za_bnd, za_lt, k12, nm2, nI_add, ← tw1.1, e2, za_bnd, z16, za_mul, nI_add, za_chk _ (by omega) (by omega), za_lt, nI_clamp (by omega), ← hR4, s2, za_bnd]
  rw [hcls, hrf]
  rcases s3 with ⟨a5, p5, c5, d5, k5', x1, x2, y⟩ | y
  · have y2 := y
    obtain ⟨g1', g2', g3', g4', g5', g6', g7', g8', g9', g10', g11', g12', g13', g14', g15', g16'⟩ := y
    have hC28 : C2 114 8 = nI c := by
      rcases hn2 with ⟨_, _, c', _, k', _, _, z⟩ | z
      · have := sg_nil z.2.2.2.2.2.2.2.2.2.2.2.2.2.2.2
        have h3 := z.2.2.2.2.2.2.1
        have h4 := z.2.2.2.2.2.2.2.2.2.2.2.2.2.1
        rw [h3]; congr 1; omega
      · exfalso
        have hf := pf_flt z
        obtain ⟨D1, S1, t1, t2⟩ := fs_sum (f := 120) (g := 120) (v := 0) he2 z (by omega) (by omega)
        have : C5 = C2 := by
          have : fX7_readSum C2 0 = some C2 := D1
          exact Option.some.inj (s1.symm.trans this)
        rw [this] at g6'
        exact hf.1 g6'
    have h16' : R5 127 16 = nI l := he5.2.2.2.2.2.2.1
    have hd5 : d5 < 400 := by omega
    have hem := em_x (cd := nI 16) (nu := 0) g11'.1 g13' h16' hl12 hd5
    rw [hem, za_bnd]
    have h137 : R3 127 15 = nI d := by
      obtain ⟨v15, w1, w2⟩ := h15
      rcases w2 with w2 | w2
      · exfalso
        have hf := pf_flt w2
        have hz : PF2 n l C2 R4 c d C2 R4 := by rw [hR4]; exact pf_new w2 rfl rfl rfl (za_wra (by omega)) (za_wra (by omega)) (za_wra (by omega))
        obtain ⟨D1, S1, t1, t2⟩ := fs_sum (f := 120) (g := 120) (v := 0) he2 hz (by omega) (by omega)
        have : C5 = C2 := Option.some.inj (s1.symm.trans D1)
        rw [this] at g6'
        exact hf.1 g6'
      · exact w1.trans w2
    -- the end
    obtain ⟨C', R', R'', f1, f2, f3, f4⟩ := cl_end (C := wr (wr C5 119 w (C2 114 8)) 120 w (C5 114 8)) (R := wr (wr (wr R5 135 (400 * l + d5) (nI 16)) 136 (400 * l + d5) 0) 127 15 (nI (d5 + 1))) (i := i) (c := c5) (d := d5 + 1) (a := a5) (p := p5) (C0 := C0) (R0 := R0) (q := q) (T := T) (n := n) (l := l) (cnt := cnt) (s := s) (lfr_em (lfr_c120 (lfr_c119 hl5)) (by omega)) (en_cg he5 (by rw [za_wrc (by omega), za_wrc (by omega)]) (by rw [za_wrc (by omega), za_wrc (by omega)]) (by rw [za_wrc (by omega), za_wrc (by omega)]) (by rw [za_wrc (by omega), za_wrc (by omega), za_wrc (by omega)]) (by rw [za_wri (by omega), za_wra (by omega), za_wra (by omega)]) (by rw [za_wri (by omega), za_wra (by omega), za_wra (by omega)])) (by omega) (px_new y2 (by rw [za_wra (by omega), za_wra (by omega)]) (by rw [za_wra (by omega), za_wra (by omega)]) (by rw [za_wrc (by omega), za_wrc (by omega)]; exact g1'.1 115 (by omega) (by omega)) (by rw [za_wra (by omega), za_wra (by omega)]) (by rw [za_wra (by omega), za_wra (by omega)]) (by rw [za_wri (by omega), za_wra (by omega), za_wra (by omega)]) (by rw [za_wri (by omega), za_wra (by omega), za_wra (by omega)]) (by rw [za_wri (by omega), za_wra (by omega), za_wra (by omega)]) (za_wrs _ _ _ _)) (by omega) (by
        rw [za_wri (by omega), za_wra (by omega), za_wra (by omega), g11'.2, hR4, za_wra (by omega)]
        rcases e3 with ⟨_, _, _, _, _, _, _, z⟩ | z
        · exact z.2.2.2.2.2.2.2.2.2.2.1.2.trans k15
        · exfalso
          have hz : PF2 n l C2 R4 c d C2 R4 := by rw [hR4]; exact pf_new z rfl rfl rfl (za_wra (by omega)) (za_wra (by omega)) (za_wra (by omega))
          obtain ⟨D1, S1, t1, t2⟩ := fs_sum (f := 120) (g := 120) (v := 0) he2 hz (by omega) (by omega)
          have : C5 = C2 := Option.some.inj (s1.symm.trans D1)
          rw [this] at g6'
          exact (pf_flt z).1 g6') (by
        rw [za_wra (by omega), za_wra (by omega), hfr5.2.1 11 (by omega) (by omega) (by omega) (by omega) (by omega), hfr.2.1 11 (by omega) (by omega) (by omega) (by omega) (by omega)]; exact k10) (by
        rw [za_wra (by omega), za_wra (by omega), za_wra (by omega), za_wra (by omega), za_wra (by omega), hfr5.2.1 11 (by omega) (by omega) (by omega) (by omega) (by omega), hfr.2.1 11 (by omega) (by omega) (by omega) (by omega) (by omega), hfr5.2.2.1 138 (by omega) (by omega) (by omega), hR4, za_wra (by omega), hfr.2.2.1 138 (by omega) (by omega) (by omega)]; exact k11) (fun k hk => by
        by_cases ek : k = w
        · subst ek
          refine Or.inr ⟨c, k5', d, ?_, ?_, by omega, ?_, by omega, sg_con (fun j hj => ⟨?_, ?_, ?_⟩) g16', ?_⟩
          · rw [za_wra (by omega), za_wrs]; exact hC28
          · rw [za_wrs, g7', g14']
          · rw [za_wra (by omega), za_wra (by omega), za_wra (by omega), hfr5.2.2.1 137 (by omega) (by omega) (by omega), hR4, za_wrs, h137]
          · rw [za_wra (by omega), za_wra (by omega)]
          · rw [za_wra (by omega), za_wra (by omega), za_wri (by omega)]
          · rw [za_wra (by omega), za_wri (by omega), za_wra (by omega)]
          · rw [za_wra (by omega), za_wra (by omega), show 400 * l + d + k5' = 400 * l + d5 by omega, za_wrs]
        · have kt1 : KT l c d C2 R4 k := kt_pfr (k18 k hk) hfr (Nat.le_refl _) (Nat.le_refl _) (Nat.le_refl _) (Nat.le_refl _) rfl rfl rfl (by rw [hR4, za_wri (by omega)]) (fun j hj => by rw [hR4, za_wra (by omega)]) (fun j hj => by rw [hR4, za_wra (by omega)])
          exact kt_pfr kt1 hfr5 (Nat.le_refl _) (Nat.le_refl _) (by omega) (by omega) (by rw [za_wra (by omega), za_wri ek]) (by rw [za_wri ek, za_wra (by omega)]) (by rw [za_wrc (by omega), za_wrc (by omega)]) (by rw [za_wra (by omega), za_wra (by omega), za_wra (by omega)]) (fun j hj => by rw [za_wra (by omega), za_wra (by omega), za_wri (by omega)]) (fun j hj => by rw [za_wra (by omega), za_wri (by omega), za_wra (by omega)]))
    refine ⟨C', R', R'', f1, by rw [f2, za_bnd], f3, ?_⟩
    rcases f4 with ⟨a', x3, x4⟩ | x
    · exact Or.inl ⟨a', c5, d5 + 1, by omega, x4⟩
    · exact Or.inr x
  · rw [pf_emits y, za_bnd]
    have y3 : PF2 n l (wr (wr C5 119 w (C2 114 8)) 120 w (C5 114 8)) R5 c d (wr (wr C5 119 w (C2 114 8)) 120 w (C5 114 8)) R5 := pf_new y (by rw [za_wra (by omega), za_wra (by omega)]) (by rw [za_wra (by omega), za_wra (by omega)]) (by rw [za_wra (by omega), za_wra (by omega)]) rfl rfl rfl
    obtain ⟨R'', f1, f2, f3, f4⟩ := cl_endF (C0 := C0) (R0 := R0) (lfr_c120 (lfr_c119 hl5)) (en_cg he5 (by rw [za_wrc (by omega), za_wrc (by omega)]) (by rw [za_wrc (by omega), za_wrc (by omega)]) (by rw [za_wrc (by omega), za_wrc (by omega)]) rfl rfl rfl) y3
    exact ⟨_, R5, R'', f1, by rw [f2, za_bnd], f3, Or.inr f4⟩
theorem undo_ok (h : KL T n l cnt s q C0 R0 i a c d C R) (hi : i < 10) (hv : C 115 a = nI 408) : ∃ C' R' R'', fX7_readClause C (nI i) = some C' ∧ fX12_clause R = some R' ∧ fX12_blanks R' = some R'' ∧ ((∃ a' c' d', a < a' ∧ KL T n l cnt s q C0 R0 (i + 1) a' c' d' C' R'') ∨ ∃ f, KF n l C0 R0 f C' R'') := by
  have hx := kl_px h
  obtain ⟨k1, he, k3, k4, k5, k6, k7, k8, k9, k10, k11, k12, k13, k14, k15, k16, k17, k18⟩ := h
  have hn := he.1
  have hcn := he.2.2.2.2.2.1
  have hl12 := he.2.2.2.2.2.2.2
  have h16 : R 127 16 = nI l := he.2.2.2.2.2.2.1
  obtain ⟨hlt, hq, he9⟩ := (eat_r (i := 9) he (by omega) (by omega) hx).1 hv
  obtain ⟨C1, g1, g2⟩ := px_go he hx hlt
  have hy := g2 (wr R 127 11 (nI (q a))) (fun b j hh => if_neg hh) (za_wrs _ _ _ _)
  obtain ⟨R3, r1, hz⟩ := px_bl he hy
  have hfr : PFr l c d C R C1 R3 := hz.1
  have he3 := en_pfr he hfr
  have hl3 := lfr_pfr k1 hfr
  obtain ⟨tk, _⟩ := tok_at he hz.2.1
  obtain ⟨u, u1, u2⟩ := tok_nat tk
  have e115 : C1 115 = C 115 := hfr.1 115 (by omega) (by omega)
  have ht1 : C1 114 4 = nI u := hz.2.2.2.2.1.trans u2
  have h16' : R3 127 16 = nI l := he3.2.2.2.2.2.2.1
  have hnm := (name_r he hx hv (by omega)).2 (by omega)
  have heat : ∀ j, fX12_eat (wr R 127 11 (nI (q a))) j = fX12_eat R3 j := fun j => eat_bl r1 (px_bl0 he hz) hy.2.2.2.2.2.2.2.2.2.2.1.1 hz.2.2.2.2.2.2.2.2.2.2.1.1
  have hw16 : wr R 127 11 (nI (q a)) 127 16 = nI l := (za_wri (by omega)).trans h16
  -- a new beginning with what is told of falling
  have base : ∀ z : Int32, isZ z → LFr l C0 R0 (wr C1 114 11 z) (wr R3 138 l z) ∧ EN T n l cnt s q (wr C1 114 11 z) (wr R3 138 l z) ∧ PX T n l cnt s (wr C1 114 11 z) (wr R3 138 l z) c d [] (a + 1) (s (a + 1)) c d 0 0 [] (wr C1 114 11 z) (wr R3 138 l z) := by
    intro z hz1
    refine ⟨lfr_r138 (lfr_c11 hl3), en_cg he3 (za_wrc (by omega)) (za_wrc (by omega)) (za_wrc (by omega)) (za_wrc (by omega)) (za_wra (by omega)) (za_wra (by omega)), px_new hz (za_wri (by omega)) (za_wri (by omega)) (by rw [za_wrc (by omega)]; exact e115) (za_wri (by omega)) (za_wri (by omega)) (za_wra (by omega)) (za_wra (by omega)) (za_wra (by omega)) ((za_wra (by omega)).trans hz.2.2.2.2.2.2.2.2.2.2.2.2.1)⟩
  -- behind the word: the sign
  have fin : ∀ z : Int32, isZ z → ∀ D S, PX T n l cnt s (wr C1 114 11 z) (wr R3 138 l z) c d [] (a + 1 + 1) (q (a + 1)) c d 0 0 [] D S → ∃ C' R' R'', fX7_expect D (nI 59) = some C' ∧ fX12_sign S (nI 59) = some R' ∧ fX12_blanks R' = some R'' ∧ ((∃ a' c' d', a < a' ∧ KL T n l cnt s q C0 R0 (i + 1) a' c' d' C' R'') ∨ ∃ f, KF n l C0 R0 f C' R'') := by
    intro z hz1 D S hD
    obtain ⟨b1, b2, b3⟩ := base z hz1
    have hD2 := px_new (Cn := D) (Rn := S) hD rfl rfl (hD.1.1 115 (by omega) (by omega)) rfl rfl rfl rfl rfl hD.2.2.2.2.2.2.2.2.2.2.2.2.1
    obtain ⟨C', R', R'', f1, f2, f3, f4⟩ := cl_end (i := i) (lfr_pfr b1 hD.1) (en_pfr b2 hD.1) (by omega) hD2 (by omega) (by
      rw [hD.2.2.2.2.2.2.2.2.2.2.1.2, za_wra (by omega), hz.2.2.2.2.2.2.2.2.2.2.1.2]; exact k15) (by
      rw [hD.1.2.1 11 (by omega) (by omega) (by omega) (by omega) (by omega), za_wrs]; exact hz1) (by
      rw [hD.1.2.1 11 (by omega) (by omega) (by omega) (by omega) (by omega), za_wrs, hD.1.2.2.1 138 (by omega) (by omega) (by omega), za_wrs]) (fun k hk => by
      have kt1 : KT l c d (wr C1 114 11 z) (wr R3 138 l z) k := kt_pfr (k18 k hk) hfr (Nat.le_refl _) (Nat.le_refl _) (Nat.le_refl _) (Nat.le_refl _) (za_wra (by omega)) (za_wra (by omega)) (za_wrc (by omega)) (za_wra (by omega)) (fun j hj => za_wra (by omega)) (fun j hj => za_wra (by omega))
      exact kt_pfr kt1 hD.1 (Nat.le_refl _) (Nat.le_refl _) (Nat.le_refl _) (Nat.le_refl _) rfl rfl rfl rfl (fun _ _ => rfl) (fun _ _ => rfl))
    refine ⟨C', R', R'', f1, f2, f3, ?_⟩
    rcases f4 with ⟨a', x3, x4⟩ | x
    · exact Or.inl ⟨a', c, d, by omega, x4⟩
    · exact Or.inr x
  have hcl0 : fX7_readClause C (nI i) = bnd (fX7_readUndo C) fun M9 => bnd (fX7_expect M9 (nI 59)) fun M13 => some M13 := by
    unfold fX7_readClause fX7_readClause_J36 fX7_readClause_J72
    rw [k7, hv, za_lt, if_pos rfl, if_pos (nI_lt hi (by omega)), if_pos rfl]
  have hrf0 : fX12_clause R = bn2 (fX12_eat R3 21) fun v10 M11 => (lt (wr M11 (138) l (vp_nar .boolean v10)) fun M12 => chk (M12 (127) 16) (12) ((if (M12 (138) (M12 (127) 16).toNatClampNeg) = 0 then bn2 (fX12_eat M12 (22)) fun v14 M15 => (if v14 = 0 then bnd (fX12_wrong M15 (nI 1) (M15 (127) 11)) fun M17 => (fX12_clause_J132 M17) else (fX12_clause_J132 M15)) else (fX12_clause_J132 M12)))) := by
    unfold fX12_clause
    rw [hnm, za_bn2, if_pos za_m1lt0, he9, za_bn2, if_neg za_n10, heat 21, hw16]
    simp only [za_chk _ hl12 (show 12 < 2 ^ 31 by omega), nI_clamp (show l < 2 ^ 31 by omega)]
  rw [hcl0, hrf0]
  unfold fX7_readUndo
  rw [g1, za_bnd, ht1]
  obtain ⟨ea, eb⟩ := eat_r (i := 21) he (by omega) (by omega) hz
  by_cases z410 : u = 410
  · -- it falls
    subst z410
    obtain ⟨x1, x2, x3⟩ := ea u2
    obtain ⟨b1, b2, b3⟩ := base (nI 1) isz1
    obtain ⟨C3, g3, g4⟩ := px_go b2 b3 x1
    have hS := g4 (wr (wr R3 127 11 (nI (q (a + 1)))) 138 l (nI 1)) (fun b j hh => by
      simp only [za_wr]
      by_cases y1 : b = 138 ∧ j = l
      · rw [if_pos y1, if_pos y1]
      · rw [if_neg y1, if_neg y1, if_neg hh]) (by rw [za_wra (by omega), za_wrs])
    obtain ⟨C', R', R'', f1, f2, f3, f4⟩ := fin (nI 1) isz1 _ _ hS
    refine ⟨C', R', R'', ?_, ?_, f3, f4⟩
    · unfold fX7_readUndo_J20 fX7_readUndo_J43
      rw [if_pos rfl, za_chp _ isz1, za_lt, za_wri (by omega), ht1, if_neg (ne_I (by omega) (by omega) (by omega)), if_pos rfl, g3, za_bnd, za_bnd, f1, za_bnd]
    · unfold fX12_clause_J132
      rw [x3, za_bn2, za_lt, show vp_nar .boolean (nI 1) = nI 1 from narz isz1, za_wra (by omega), za_wri (by omega), h16', za_chk _ hl12 (by omega), nI_clamp (by omega), za_wrs, if_neg za_n10, f2, za_bnd]
  obtain ⟨b1, b2, b3⟩ := base 0 isz0
  have hne : fX12_eat R3 21 = some (0, R3) := eb (by rw [u2]; exact ne_I u1 (by decide) z410)
  obtain ⟨fa, fb⟩ := eat_r (i := 22) b2 (by omega) (by omega) b3
  have ht2 : (wr C1 114 11 0) 115 (a + 1) = nI u := by rw [za_wra (by omega), e115]; exact u2
  have hrf1 : (bn2 (fX12_eat R3 21) fun v10 M11 => (lt (wr M11 (138) l (vp_nar .boolean v10)) fun M12 => chk (M12 (127) 16) (12) ((if (M12 (138) (M12 (127) 16).toNatClampNeg) = 0 then bn2 (fX12_eat M12 (22)) fun v14 M15 => (if v14 = 0 then bnd (fX12_wrong M15 (nI 1) (M15 (127) 11)) fun M17 => (fX12_clause_J132 M17) else (fX12_clause_J132 M15)) else (fX12_clause_J132 M12))))) = bn2 (fX12_eat (wr R3 138 l 0) (22)) fun v14 M15 => (if v14 = 0 then bnd (fX12_wrong M15 (nI 1) (M15 (127) 11)) fun M17 => (fX12_clause_J132 M17) else (fX12_clause_J132 M15)) := by
    rw [hne, za_bn2, za_lt, show vp_nar .boolean (0 : Int32) = 0 from narz isz0, za_wra (by omega), h16', za_chk _ hl12 (by omega), nI_clamp (by omega), za_wrs, if_pos rfl]
  rw [hrf1, if_neg (ne_I u1 (by omega) z410)]
  unfold fX7_readUndo_J20 fX7_readUndo_J43
  rw [za_chp _ isz0, za_lt, za_wri (by omega), ht1]
  by_cases z409 : u = 409
  · subst z409
    obtain ⟨x1, x2, x3⟩ := fa ht2
    obtain ⟨C3, g3, g4⟩ := px_go b2 b3 x1
    have hS := g4 (wr (wr R3 138 l 0) 127 11 (nI (q (a + 1)))) (fun b j hh => if_neg hh) (za_wrs _ _ _ _)
    obtain ⟨C', R', R'', f1, f2, f3, f4⟩ := fin 0 isz0 _ _ hS
    refine ⟨C', R', R'', ?_, ?_, f3, f4⟩
    · rw [if_pos rfl, g3, za_bnd, za_bnd, f1, za_bnd]
    · unfold fX12_clause_J132
      rw [x3, za_bn2, if_neg za_n10, f2, za_bnd]
  · obtain ⟨C', R', f1, f2, f3⟩ := px_fail0 (f := 1) b2 b3 (by omega) (by omega)
    obtain ⟨R'', y1, y2, y3, y4⟩ := cl_endF (C0 := C0) (R0 := R0) b1 b2 f3
    refine ⟨C', R', R'', ?_, ?_, y3, Or.inr y4⟩
    · rw [if_neg (ne_I u1 (by omega) z409), if_neg (ne_I u1 (by omega) z410), f1, za_bnd, za_bnd, y1, za_bnd]
    · unfold fX12_clause_J132
      rw [fb (by rw [ht2]; exact ne_I u1 (by decide) z409), za_bn2, if_pos rfl, f2, za_bnd, y2, za_bnd]
def insB : Bool := (List.range 500).all fun v => decide (fX11_inside (nI v - nI 400) (nI 8) = if 400 ≤ v ∧ v < 408 then some (nI 1) else some 0)
theorem insB_t : insB = true := by decide +kernel
theorem ins_w {v : Nat} (hv : v < 500) : fX11_inside (nI v - nI 400) (nI 8) = if 400 ≤ v ∧ v < 408 then some (nI 1) else some 0 := by
  have h := insB_t
  unfold insB at h
  exact of_decide_eq_true (List.all_eq_true.mp h v (List.mem_range.mpr hv))
theorem none_ok (h : KL T n l cnt s q C0 R0 i a c d C R) (hv : C 115 a = nI v) (hv2 : v < 500) (h1 : ¬ (400 ≤ v ∧ v < 409)) : ∃ C' R' R'', fX7_readClause C (nI i) = some C' ∧ fX12_clause R = some R' ∧ fX12_blanks R' = some R'' ∧ ∃ f, KF n l C0 R0 f C' R'' := by
  have hx := kl_px h
  obtain ⟨k1, he, k3, k4, k5, k6, k7, k8, k9, k10, k11, k12, k13, k14, k15, k16, k17, k18⟩ := h
  obtain ⟨C', R', f1, f2, f3⟩ := px_fail0 (f := 1) he hx (by omega) (by omega)
  obtain ⟨R'', y1, y2, y3, y4⟩ := cl_endF (C0 := C0) (R0 := R0) k1 he f3
  refine ⟨C', R', R'', ?_, ?_, y3, y4⟩
  · unfold fX7_readClause fX7_readClause_J72
    rw [k7, hv, za_lt, if_neg (ne_I hv2 (by omega) (by omega)), ins_w hv2, if_neg (by omega), za_bnd, if_pos rfl, f1, za_bnd, y1, za_bnd]
  · unfold fX12_clause fX12_clause_J132
    rw [(name_r he hx hv hv2).2 (by omega), za_bn2, if_pos za_m1lt0, (eat_r (i := 9) he (by omega) (by omega) hx).2 (by rw [hv]; exact ne_I hv2 (by decide) (show v ≠ 408 by omega)), za_bn2, if_pos rfl, f2, za_bnd, y2, za_bnd]
/-- one clause too many -/
theorem many_ok {v : Nat} (h : KL T n l cnt s q C0 R0 10 a c d C R) (hv : C 115 a = nI v) (hv2 : v < 500) : ∃ C' R' f, fX7_readClause C (nI 10) = some C' ∧ (∀ K : Mc → Int32 → Option (Int32 × Mc), (bn2 (fX12_isClause R) fun v22 M23 => (if v22 = 0 then (fX12_law_J176 K M23 (nI 10) (nI 1)) else (fX12_law_J176 K M23 (nI 10) (nI 3)))) = K R' (nI 10)) ∧ KF n l C0 R0 f C' R' := by
  have hx := kl_px h
  obtain ⟨k1, he, k3, k4, k5, k6, k7, k8, k9, k10, k11, k12, k13, k14, k15, k16, k17, k18⟩ := h
  have hw := word_r (i := 9) he (by omega) (by omega) hx
  rw [hv, show cwN 9 = 8 from rfl] at hw
  have go : ∀ f, (f = 1 ∨ f = 3) → ∃ C' R', fX7_fail C (nI f) = some C' ∧ fX12_wrong R (nI f) (R 127 11) = some R' ∧ fX7_expect C' (nI 59) = some C' ∧ KF n l C0 R0 f C' R' := by
    intro f hf
    obtain ⟨C', R', f1, f2, f3⟩ := px_fail0 (f := f) he hx (by omega) (by omega)
    refine ⟨C', R', f1, f2, pf_expect f3 (by omega) (by omega), ?_⟩
    obtain ⟨g1, f', p', z1, z2, z3, z4, z5, z6, z7, z8⟩ := f3
    have hff : f' = f := by
      have h6 := f2
      unfold fX12_wrong at h6
      rw [k14, if_pos (Int32.le_refl _), za_lt, za_lt] at h6
      have h7 : R' 127 12 = nI f := by rw [← Option.some.inj h6, za_wri (by omega), za_wrs]
      exact za_inj (by omega) (by omega) (z5.symm.trans h7)
    subst hff
    exact ⟨lfr_pfr k1 g1, z1, z2, z3, z5, z6⟩
  by_cases hw8 : 400 ≤ v ∧ v < 409
  · obtain ⟨C', R', f1, f2, f3, f4⟩ := go 3 (by omega)
    refine ⟨C', R', 3, ?_, fun K => ?_, f4⟩
    · unfold fX7_readClause fX7_readClause_J36 fX7_readClause_J72
      rw [k7, hv, za_lt]
      by_cases z : v = 408
      · subst z
        rw [if_pos rfl, if_neg (nI_nlt (Nat.le_refl _) (by omega)), f1, za_bnd, f3, za_bnd]
      · rw [if_neg (ne_I hv2 (by omega) z), ins_w hv2, if_pos (by omega), za_bnd, if_neg za_n10, if_neg (nI_nlt (Nat.le_refl _) (by omega)), f1, za_bnd, f3, za_bnd]
    · have : fX12_isClause R = some (nI 1, R) := by
        unfold fX12_isClause
        by_cases z : v = 408
        · subst z
          rw [(name_r he hx hv hv2).2 (by omega), za_bn2, if_neg (by decide +kernel), hw, za_bn2, if_pos rfl, if_neg za_n10]
        · rw [(name_r he hx hv hv2).1 (by omega), za_bn2, if_pos (nI_pos' (by omega))]
      unfold fX12_law_J176
      rw [this, za_bn2, if_neg za_n10, f2, za_bnd]
  · obtain ⟨C', R', f1, f2, f3, f4⟩ := go 1 (by omega)
    refine ⟨C', R', 1, ?_, fun K => ?_, f4⟩
    · unfold fX7_readClause fX7_readClause_J72
      rw [k7, hv, za_lt, if_neg (ne_I hv2 (by omega) (by omega)), ins_w hv2, if_neg (by omega), za_bnd, if_pos rfl, f1, za_bnd, f3, za_bnd]
    · have : fX12_isClause R = some (0, R) := by
        unfold fX12_isClause
        rw [(name_r he hx hv hv2).2 (by omega), za_bn2, if_neg (by decide +kernel), hw, za_bn2, if_neg (show ¬ nI v = nI (400 + 8) from ne_I hv2 (by omega) (by omega)), if_pos rfl]
      unfold fX12_law_J176
      rw [this, za_bn2, if_pos rfl, f2, za_bnd]
theorem kf_read {f fu : Nat} {x : Int32} (h : KF n l C0 R0 f C R) : fX7_read_L82 (fu + 1) C x = some (nI f, C) := by
  obtain ⟨_, h1, h2, h3, _⟩ := h
  rw [fX7_read_L82, h3]
  by_cases q1 : nI 10 < x
  · rw [if_pos q1]
  · rw [if_neg q1]
    by_cases q2 : C 114 4 = nI 301
    · rw [if_pos q2]
    · rw [if_neg q2, if_neg (fun z => by have := (za_eq0 (by omega)).mp z; omega)]
theorem kf_law {f fu : Nat} {x : Int32} (h : KF n l C0 R0 f C R) : fX12_law_L139 (fu + 1) R x = fX12_law_J200 R := by
  obtain ⟨_, h1, h2, h3, h4, _⟩ := h
  rw [fX12_law_L139, h4, if_neg (fun z => by have := (za_eq0 (by omega)).mp z; omega)]
/-- all clauses -/
theorem law_main : ∀ m fu fr i a c d C R, i + m = 10 → m + 1 < fu → m + 1 < fr → KL T n l cnt s q C0 R0 i a c d C R → ∃ C' R', (∃ a' c' d' i', i' ≤ 10 ∧ fX7_read_L82 fu C (nI i) = some (0, C') ∧ fX12_law_L139 fr R (nI i) = fX12_law_J200 R' ∧ KL T n l cnt s q C0 R0 i' a' c' d' C' R') ∨ (∃ f, fX7_read_L82 fu C (nI i) = some (nI f, C') ∧ fX12_law_L139 fr R (nI i) = fX12_law_J200 R' ∧ KF n l C0 R0 f C' R')
  | m, 0, _, _, _, _, _, _, _, _, hf, _, _ => by omega
  | m, _, 0, _, _, _, _, _, _, _, _, hf, _ => by omega
  | m, fu + 1, fr + 1, i, a, c, d, C, R, hi, hfu, hfr, h => by
    have h0 := h
    obtain ⟨k1, he, k3, k4, k5, k6, k7, k8, k9, k10, k11, k12, k13, k14, k15, k16, k17, k18⟩ := h0
    have hn := he.1
    have hsn := s_le he k3
    obtain ⟨tk, _⟩ := tok_at he k3
    obtain ⟨v, v1, v2⟩ := tok_nat tk
    have h10 : R 127 10 = nI n := he.2.2.2.1
    rw [fX7_read_L82, fX12_law_L139, if_neg (nI_nlt (by omega) (by omega)), k7, v2, k8, k14, if_pos rfl, h10, k12]
    by_cases z : v = 301
    · subst z
      have hsa : n ≤ s a := by
        rw [v2] at tk
        rcases tk with ⟨g1, _⟩ | ⟨g1, g2, g3, g4⟩ | ⟨g1, g2, g3, e, g5⟩ | ⟨g1, g2, g3, g4, g5, e, g7⟩
        · exact g1
        · rcases g4 with ⟨w, w1, w2, e⟩ | ⟨_, e⟩
          · have := za_inj (by omega) (by omega) e; omega
          · have := za_inj (by omega) (by omega) e; omega
        · have := za_inj (by omega) (by omega) e; omega
        · have := za_inj (by omega) (by omega) e; omega
      rw [if_pos rfl, if_pos (nI_le hsa (by omega))]
      exact ⟨C, R, Or.inl ⟨a, c, d, i, by omega, rfl, rfl, h⟩⟩
    have hlt : a < cnt := tok_lt he k3 (by rw [v2]; exact ne_I v1 (by omega) z)
    have hsl := (he.2.2.2.2.1.2.1 a (by omega) hlt).1
    rw [if_neg (ne_I v1 (by omega) z), if_pos rfl, if_neg (nI_ge hsl (by omega))]
    cases m with
    | zero =>
      obtain rfl : i = 10 := by omega
      obtain ⟨C', R', f, m1, m2, m3⟩ := many_ok h v2 v1
      obtain ⟨fu, rfl⟩ : ∃ f', fu = f' + 1 := ⟨fu - 1, by omega⟩
      obtain ⟨fr, rfl⟩ : ∃ f', fr = f' + 1 := ⟨fr - 1, by omega⟩
      rw [m1, za_bnd, if_pos rfl, m2, kf_read m3, kf_law m3]
      exact ⟨C', R', Or.inr ⟨f, rfl, rfl, m3⟩⟩
    | succ m =>
      have hcl : ∃ C' R' R'', fX7_readClause C (nI i) = some C' ∧ fX12_clause R = some R' ∧ fX12_blanks R' = some R'' ∧ ((∃ a' c' d', a < a' ∧ KL T n l cnt s q C0 R0 (i + 1) a' c' d' C' R'') ∨ ∃ f, KF n l C0 R0 f C' R'') := by
        by_cases y1 : 400 ≤ v ∧ v < 408
        · exact tell_ok h (by omega) v2 y1.1 y1.2
        by_cases y2 : v = 408
        · exact undo_ok h (by omega) (by rw [v2, y2])
        obtain ⟨C', R', R'', x1, x2, x3, x4⟩ := none_ok h v2 v1 (by omega)
        exact ⟨C', R', R'', x1, x2, x3, Or.inr x4⟩
      obtain ⟨C', R', R'', x1, x2, x3, x4⟩ := hcl
      rw [x1, za_bnd, if_neg (ne_I (by omega) (by omega) (by omega)), x2, za_bnd, x3, za_bnd, nI_add]
      rcases x4 with ⟨a', c', d', y1, y2⟩ | ⟨f, y⟩
      · exact law_main m fu fr (i + 1) a' c' d' C' R'' (by omega) (by omega) (by omega) y2
      · obtain ⟨fu, rfl⟩ : ∃ f', fu = f' + 1 := ⟨fu - 1, by omega⟩
        obtain ⟨fr, rfl⟩ : ∃ f', fr = f' + 1 := ⟨fr - 1, by omega⟩
        rw [kf_read y, kf_law y]
        exact ⟨C', R'', Or.inr ⟨f, rfl, rfl, y⟩⟩
end PLs
