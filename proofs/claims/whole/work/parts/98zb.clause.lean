/-! ===== clauses ===== -/
/-- what a law that is read leaves alone, from its start on -/
def LFr (l : Nat) (C0 R0 C R : Mc) : Prop := (∀ b, b ≠ 114 → b ≠ 118 → b ≠ 119 → b ≠ 120 → C b = C0 b) ∧ (∀ j, j ≠ 3 → j ≠ 4 → j ≠ 5 → j ≠ 6 → j ≠ 8 → j ≠ 11 → C 114 j = C0 114 j) ∧ (∀ b, b ≠ 127 → b ≠ 135 → b ≠ 136 → b ≠ 137 → b ≠ 138 → R b = R0 b) ∧ (∀ j, j ≠ 11 → j ≠ 12 → j ≠ 13 → j ≠ 14 → j ≠ 15 → R 127 j = R0 127 j) ∧ (∀ j, j < 400 * l → R 135 j = R0 135 j ∧ R 136 j = R0 136 j) ∧ (∀ j, j < 8 * l ∨ 8 * l + 8 ≤ j → R 137 j = R0 137 j) ∧ ∀ j, j ≠ l → R 138 j = R0 138 j
/-- what a law tells so far of name k -/
def KT (l c d : Nat) (C R : Mc) (k : Nat) : Prop := (C 119 k = -1 ∧ R 137 (8 * l + k) = -1) ∨ ∃ f m r, C 119 k = nI f ∧ C 120 k = nI (f + m) ∧ f + m ≤ c ∧ R 137 (8 * l + k) = nI r ∧ r + m < d ∧ sg (C 118) (R 135) (R 136) f (400 * l + r) m [] [false] ∧ R 135 (400 * l + r + m) = nI 16
/-- between two clauses; i of them are read -/
def KL (T : Nat → Nat) (n l cnt : Nat) (s q : Nat → Nat) (C0 R0 : Mc) (i a c d : Nat) (C R : Mc) : Prop := LFr l C0 R0 C R ∧ EN T n l cnt s q C R ∧ a ≤ cnt ∧ c ≤ a ∧ d ≤ c + i ∧ C 114 3 = nI a ∧ C 114 4 = C 115 a ∧ C 114 5 = 0 ∧ C 114 8 = nI c ∧ isZ (C 114 11) ∧ C 114 11 = R 138 l ∧ R 127 11 = nI (s a) ∧ SK T n (s a) (s a) ∧ R 127 12 = 0 ∧ R 127 13 = -1 ∧ R 127 14 = 0 ∧ R 127 15 = nI d ∧ ∀ k, k < 8 → KT l c d C R k
/-- behind a fault -/
def KF (n l : Nat) (C0 R0 : Mc) (f : Nat) (C R : Mc) : Prop := LFr l C0 R0 C R ∧ 1 ≤ f ∧ f ≤ 3 ∧ C 114 5 = nI f ∧ R 127 12 = nI f ∧ R 127 13 = C 114 6
section PKs
variable {T : Nat → Nat} {n l cnt : Nat} {s q : Nat → Nat} {Cb Rb C R C' R' C0 R0 C2 R2 : Mc} {c0 d0 : Nat} {T0 Ts : List Bool} {lo sl o a p c d k i : Nat}
theorem sg_nil {cc rc rn : Nat → Int32} {f r k : Nat} {U : List Bool} (h : sg cc rc rn f r k U []) : k = 0 := by
  cases k with
  | zero => rfl
  | succ k =>
    obtain ⟨T1, _, h2⟩ := h
    unfold cS at h2
    rcases h2 with ⟨_, _, _, _, _, h⟩ | ⟨_, _, _, _, _, h⟩ | ⟨_, _, _, _, _, h⟩ | ⟨_, _, _, _, h⟩ | ⟨_, _, _, _, h⟩ <;> cases h
theorem lfr_pfr (h : LFr l C0 R0 Cb Rb) (h2 : PFr l c0 d0 Cb Rb C R) : LFr l C0 R0 C R :=
  ⟨fun b b1 b2 b3 b4 => (h2.1 b b1 b2).trans (h.1 b b1 b2 b3 b4), fun j j1 j2 j3 j4 j5 j6 => (h2.2.1 j j1 j2 j3 j4 j5).trans (h.2.1 j j1 j2 j3 j4 j5 j6), fun b b1 b2 b3 b4 b5 => (h2.2.2.1 b b1 b2 b3).trans (h.2.2.1 b b1 b2 b3 b4 b5), fun j j1 j2 j3 j4 j5 => (h2.2.2.2.1 j j1 j2 j3 j4 j5).trans (h.2.2.2.1 j j1 j2 j3 j4 j5), fun j hj => ⟨(h2.2.2.2.2.2 j (by omega)).1.trans (h.2.2.2.2.1 j hj).1, (h2.2.2.2.2.2 j (by omega)).2.trans (h.2.2.2.2.1 j hj).2⟩, fun j hj => (congrFun (h2.2.2.1 137 (by omega) (by omega) (by omega)) j).trans (h.2.2.2.2.2.1 j hj), fun j hj => (congrFun (h2.2.2.1 138 (by omega) (by omega) (by omega)) j).trans (h.2.2.2.2.2.2 j hj)⟩
theorem en_cg {C1 R1 : Mc} (h : EN T n l cnt s q C R) (e1 : C1 115 = C 115) (e2 : C1 116 = C 116) (e3 : C1 117 = C 117) (e4 : R1 134 = R 134) (e5 : R1 127 10 = R 127 10) (e6 : R1 127 16 = R 127 16) : EN T n l cnt s q C1 R1 := by
  obtain ⟨h1, h2, h3, h4, h5, h6, h7, h8⟩ := h
  exact ⟨h1, h2, fun i hi => by rw [e4]; exact h3 i hi, e5.trans h4, ⟨fun i i1 i2 => by rw [e1, e2, e3]; exact h5.1 i i1 i2, h5.2⟩, h6, e6.trans h7, h8⟩
theorem en_pfr (h : EN T n l cnt s q Cb Rb) (h2 : PFr l c0 d0 Cb Rb C R) : EN T n l cnt s q C R :=
  en_cg h (h2.1 115 (by omega) (by omega)) (h2.1 116 (by omega) (by omega)) (h2.1 117 (by omega) (by omega)) (h2.2.2.1 134 (by omega) (by omega) (by omega)) (h2.2.2.2.1 10 (by omega) (by omega) (by omega) (by omega) (by omega)) (h2.2.2.2.1 16 (by omega) (by omega) (by omega) (by omega) (by omega))
theorem pfr_rf : PFr l c0 d0 C R C R := ⟨fun _ _ _ => rfl, fun _ _ _ _ _ _ => rfl, fun _ _ _ _ => rfl, fun _ _ _ _ _ _ => rfl, fun _ _ => rfl, fun _ _ => ⟨rfl, rfl⟩⟩
/-- what was told before stays -/
theorem kt_pfr {c1 d1 : Nat} (h : KT l c d Cb Rb k) (h2 : PFr l c0 d0 Cb Rb C R) (hc : c ≤ c0) (hd : d ≤ d0) (hc1 : c ≤ c1) (hd1 : d ≤ d1) (e119 : C2 119 k = C 119 k) (e120 : C2 120 k = C 120 k) (e118 : C2 118 = C 118) (e137 : R2 137 (8 * l + k) = R 137 (8 * l + k)) (e135 : ∀ j, j < 400 * l + d → R2 135 j = R 135 j) (e136 : ∀ j, j < 400 * l + d → R2 136 j = R 136 j) : KT l c1 d1 C2 R2 k := by
  rcases h with ⟨g1, g2⟩ | ⟨f, m, r, g1, g2, g3, g4, g5, g6, g7⟩
  · exact Or.inl ⟨by rw [e119, h2.1 119 (by omega) (by omega)]; exact g1, by rw [e137, h2.2.2.1 137 (by omega) (by omega) (by omega)]; exact g2⟩
  · refine Or.inr ⟨f, m, r, by rw [e119, h2.1 119 (by omega) (by omega)]; exact g1, by rw [e120, h2.1 120 (by omega) (by omega)]; exact g2, by omega, by rw [e137, h2.2.2.1 137 (by omega) (by omega) (by omega)]; exact g4, by omega, sg_con (fun i hi => ⟨?_, ?_, ?_⟩) g6, ?_⟩
    · rw [e118]; exact h2.2.2.2.2.1 _ (by omega)
    · rw [e135 _ (by omega)]; exact (h2.2.2.2.2.2 _ (by omega)).1
    · rw [e136 _ (by omega)]; exact (h2.2.2.2.2.2 _ (by omega)).2
    · rw [e135 _ (by omega), (h2.2.2.2.2.2 _ (by omega)).1]; exact g7
theorem kl_px (h : KL T n l cnt s q C0 R0 i a c d C R) : PX T n l cnt s C R c d [] a (s a) c d 0 0 [] C R := by
  obtain ⟨h1, h2, h3, h4, h5, h6, h7, h8, h9, h10, h11, h12, h13, h14, h14b, h15, h16, h17⟩ := h
  exact ⟨pfr_rf, h3, by omega, h6, h7, h8, h9, h12, h13, s_le h2 h3, ⟨h14, rfl⟩, h15.trans nI_0.symm, h16, rfl, rfl, rfl⟩
/-- the end of a clause: its sign, and blanks -/
theorem cl_end (hl : LFr l C0 R0 C R) (he : EN T n l cnt s q C R) (hd : d ≤ c + (i + 1)) (hx : PX T n l cnt s C R c d [] a p c d 0 0 [] C R) (hca : c ≤ a) (h13 : R 127 13 = -1) (hz : isZ (C 114 11)) (hf : C 114 11 = R 138 l) (hk : ∀ k, k < 8 → KT l c d C R k) : ∃ C' R' R'', fX7_expect C (nI 59) = some C' ∧ fX12_sign R (nI 59) = some R' ∧ fX12_blanks R' = some R'' ∧ ((∃ a', a < a' ∧ KL T n l cnt s q C0 R0 (i + 1) a' c d C' R'') ∨ ∃ f, KF n l C0 R0 f C' R'') := by
  have hc59 : chS 59 := by unfold chS isLt isDg; omega
  obtain ⟨C1, R1, e1, e2, e3⟩ := st_expect (lo := a) (sl := 0) he hc59 (Or.inl ⟨a, p, c, d, 0, Nat.le_refl _, by omega, hx⟩)
  obtain ⟨R2, b1, b2⟩ := st_bb he e3
  refine ⟨C1, R1, R2, e1, e2, b1, ?_⟩
  rcases b2 with ⟨a', c', d', k', x1, x2, x3⟩ | x
  · left
    obtain ⟨g1, g2, g3, g4, g5, g6, g7, g8, g9, g10, g11, g12, g13, g14, g15, g16⟩ := x3
    have hk0 := sg_nil g16
    subst hk0
    obtain rfl : c' = c := by omega
    obtain rfl : d' = d := by omega
    exact ⟨a', by omega, lfr_pfr hl g1, en_pfr he g1, g2, by omega, hd, g4, by rw [g1.1 115 (by omega) (by omega)]; exact g5, g6, g7, by rw [g1.2.1 11 (by omega) (by omega) (by omega) (by omega) (by omega)]; exact hz, by rw [g1.2.1 11 (by omega) (by omega) (by omega) (by omega) (by omega), g1.2.2.1 138 (by omega) (by omega) (by omega)]; exact hf, g8, SK_rf g9.2.2, g11.1, g11.2.trans h13, g12.trans nI_0, g13, fun k hk8 => kt_pfr (hk k hk8) g1 (Nat.le_refl _) (Nat.le_refl _) (Nat.le_refl _) (Nat.le_refl _) rfl rfl rfl rfl (fun _ _ => rfl) (fun _ _ => rfl)⟩
  · right
    obtain ⟨g1, f, p', f1, f2, f3, f4, f5, f6, f7, f8⟩ := x
    exact ⟨f, lfr_pfr hl g1, f1, f2, f3, f5, f6⟩
/-- behind a fault a clause ends at once -/
theorem cl_endF (hl : LFr l C0 R0 Cb Rb) (he : EN T n l cnt s q Cb Rb) (h : PF2 n l Cb Rb c0 d0 C R) : ∃ R'', fX7_expect C (nI 59) = some C ∧ fX12_sign R (nI 59) = some R ∧ fX12_blanks R = some R'' ∧ ∃ f, KF n l C0 R0 f C R'' := by
  obtain ⟨R2, b1, b2⟩ := pf_bl he h
  refine ⟨R2, pf_expect h (by omega) (by omega), pf_sign h, b1, ?_⟩
  obtain ⟨g1, f, p', f1, f2, f3, f4, f5, f6, f7, f8⟩ := b2
  exact ⟨f, lfr_pfr hl g1, f1, f2, f3, f5, f6⟩
/-- a state taken as a new beginning -/
theorem px_new {Cn Rn : Mc} (h : PX T n l cnt s Cb Rb c0 d0 T0 a p c d k o Ts C R) (e3 : Cn 114 3 = C 114 3) (e4 : Cn 114 4 = C 114 4) (e115 : Cn 115 = Cb 115) (e5 : Cn 114 5 = C 114 5) (e8 : Cn 114 8 = C 114 8) (r11 : Rn 127 11 = R 127 11) (r12 : Rn 127 12 = R 127 12) (r14 : Rn 127 14 = R 127 14) {d' : Nat} (r15 : Rn 127 15 = nI d') : PX T n l cnt s Cn Rn c d' [] a p c d' 0 o [] Cn Rn := by
  obtain ⟨g1, g2, g3, g4, g5, g6, g7, g8, g9, g10, g11, g12, g13, g14, g15, g16⟩ := h
  exact ⟨pfr_rf, g2, g3, e3.trans g4, by rw [e4, e115]; exact g5, e5.trans g6, e8.trans g7, r11.trans g8, g9, g10, ⟨r12.trans g11.1, rfl⟩, r14.trans g12, r15, rfl, rfl, rfl⟩
theorem pf_new {Cn Rn : Mc} (h : PF2 n l Cb Rb c0 d0 C R) (e4 : Cn 114 4 = C 114 4) (e5 : Cn 114 5 = C 114 5) (e6 : Cn 114 6 = C 114 6) (r11 : Rn 127 11 = R 127 11) (r12 : Rn 127 12 = R 127 12) (r13 : Rn 127 13 = R 127 13) {c1 d1 : Nat} : PF2 n l Cn Rn c1 d1 Cn Rn := by
  obtain ⟨g1, f, p', f1, f2, f3, f4, f5, f6, f7, f8⟩ := h
  exact ⟨pfr_rf, f, p', f1, f2, e5.trans f3, e4.trans f4, r12.trans f5, by rw [r13, e6]; exact f6, r11.trans f7, f8⟩
theorem lfr_c119 {w : Nat} {v : Int32} (h : LFr l C0 R0 C R) : LFr l C0 R0 (wr C 119 w v) R := by
  obtain ⟨h1, h2, h3⟩ := h
  exact ⟨fun b b1 b2 b3 b4 => (za_wrc b3).trans (h1 b b1 b2 b3 b4), fun j j1 j2 j3 j4 j5 j6 => (za_wra (by omega)).trans (h2 j j1 j2 j3 j4 j5 j6), h3⟩
theorem lfr_c120 {w : Nat} {v : Int32} (h : LFr l C0 R0 C R) : LFr l C0 R0 (wr C 120 w v) R := by
  obtain ⟨h1, h2, h3⟩ := h
  exact ⟨fun b b1 b2 b3 b4 => (za_wrc b4).trans (h1 b b1 b2 b3 b4), fun j j1 j2 j3 j4 j5 j6 => (za_wra (by omega)).trans (h2 j j1 j2 j3 j4 j5 j6), h3⟩
theorem lfr_c11 {v : Int32} (h : LFr l C0 R0 C R) : LFr l C0 R0 (wr C 114 11 v) R := by
  obtain ⟨h1, h2, h3⟩ := h
  exact ⟨fun b b1 b2 b3 b4 => (za_wrc b1).trans (h1 b b1 b2 b3 b4), fun j j1 j2 j3 j4 j5 j6 => (za_wri j6).trans (h2 j j1 j2 j3 j4 j5 j6), h3⟩
theorem lfr_r137 {w : Nat} {v : Int32} (h : LFr l C0 R0 C R) (hw : w < 8) : LFr l C0 R0 C (wr R 137 (8 * l + w) v) := by
  obtain ⟨h1, h2, h3, h4, h5, h6, h7⟩ := h
  exact ⟨h1, h2, fun b b1 b2 b3 b4 b5 => (za_wrc b4).trans (h3 b b1 b2 b3 b4 b5), fun j j1 j2 j3 j4 j5 => (za_wra (by omega)).trans (h4 j j1 j2 j3 j4 j5), fun j hj => ⟨(za_wra (by omega)).trans (h5 j hj).1, (za_wra (by omega)).trans (h5 j hj).2⟩, fun j hj => (za_wri (by omega)).trans (h6 j hj), fun j hj => (za_wra (by omega)).trans (h7 j hj)⟩
theorem lfr_r138 {v : Int32} (h : LFr l C0 R0 C R) : LFr l C0 R0 C (wr R 138 l v) := by
  obtain ⟨h1, h2, h3, h4, h5, h6, h7⟩ := h
  exact ⟨h1, h2, fun b b1 b2 b3 b4 b5 => (za_wrc b5).trans (h3 b b1 b2 b3 b4 b5), fun j j1 j2 j3 j4 j5 => (za_wra (by omega)).trans (h4 j j1 j2 j3 j4 j5), fun j hj => ⟨(za_wra (by omega)).trans (h5 j hj).1, (za_wra (by omega)).trans (h5 j hj).2⟩, fun j hj => (za_wra (by omega)).trans (h6 j hj), fun j hj => (za_wri hj).trans (h7 j hj)⟩
theorem lfr_em {cd nu v : Int32} {j0 : Nat} (h : LFr l C0 R0 C R) (hj : 400 * l ≤ j0) : LFr l C0 R0 C (wr (wr (wr R 135 j0 cd) 136 j0 nu) 127 15 v) := by
  obtain ⟨h1, h2, h3, h4, h5, h6, h7⟩ := h
  refine ⟨h1, h2, fun b b1 b2 b3 b4 b5 => ?_, fun j j1 j2 j3 j4 j5 => ?_, fun j hj => ⟨?_, ?_⟩, fun j hj => ?_, fun j hj => ?_⟩
  · rw [za_wrc b1, za_wrc b3, za_wrc b2]; exact h3 b b1 b2 b3 b4 b5
  · rw [za_wri j5, za_wra (by omega), za_wra (by omega)]; exact h4 j j1 j2 j3 j4 j5
  · rw [za_wra (by omega), za_wra (by omega), za_wri (by omega)]; exact (h5 j hj).1
  · rw [za_wra (by omega), za_wri (by omega), za_wra (by omega)]; exact (h5 j hj).2
  · rw [za_wra (by omega), za_wra (by omega), za_wra (by omega)]; exact h6 j hj
  · rw [za_wra (by omega), za_wra (by omega), za_wra (by omega)]; exact h7 j hj
theorem names_t : ∀ w, w < 8 → fX12_nameOf (nI w) = some (w + 1) ∧ cwN (w + 1) = w := by decide +kernel
theorem name_L {v : Nat} (he : EN T n l cnt s q Cb Rb) (h : PX T n l cnt s Cb Rb c0 d0 T0 a (s a) c d k o Ts C R) (hv : Cb 115 a = nI v) (hv2 : v < 500) : ∀ m fu j, j + m = 8 → m < fu → ((400 + j ≤ v ∧ v < 408) → fX12_nameHere_L2 fu R (nI j) = some (nI (v - 400), R)) ∧ (¬ (400 + j ≤ v ∧ v < 408) → fX12_nameHere_L2 fu R (nI j) = some (-1, R))
  | m, 0, _, _, hf => by omega
  | 0, fu + 1, j, hj, _ => by
    obtain rfl : j = 8 := by omega
    rw [fX12_nameHere_L2, if_pos (nI_le (Nat.le_refl _) (by omega))]
    exact ⟨fun z => by omega, fun _ => rfl⟩
  | m + 1, fu + 1, j, hj, hf => by
    obtain ⟨t1, t2⟩ := names_t j (by omega)
    have ih := name_L he h hv hv2 m fu (j + 1) (by omega) (by omega)
    rw [fX12_nameHere_L2, if_neg (nI_ge (by omega) (by omega)), t1, za_bnd, za_chp _ (by omega), word_r (i := j + 1) he (by omega) (by omega) h, za_bn2, t2, hv]
    by_cases z : v = 400 + j
    · rw [if_pos (show nI v = nI (400 + j) by rw [z]), if_neg za_n10]
      exact ⟨fun _ => by rw [show v - 400 = j by omega], fun y => absurd ⟨by omega, by omega⟩ y⟩
    · rw [if_neg (show ¬ nI v = nI (400 + j) from ne_I hv2 (by omega) z), if_pos rfl, nI_add]
      exact ⟨fun y => ih.1 ⟨by omega, y.2⟩, fun y => ih.2 (fun x => y ⟨by omega, x.2⟩)⟩
theorem name_r {v : Nat} (he : EN T n l cnt s q Cb Rb) (h : PX T n l cnt s Cb Rb c0 d0 T0 a (s a) c d k o Ts C R) (hv : Cb 115 a = nI v) (hv2 : v < 500) : ((400 ≤ v ∧ v < 408) → fX12_nameHere R = some (nI (v - 400), R)) ∧ (¬ (400 ≤ v ∧ v < 408) → fX12_nameHere R = some (-1, R)) := by
  have := name_L he h hv hv2 8 FU 0 (by omega) (by rw [za_FU]; omega)
  rw [nI_0] at this
  exact this
end PKs
