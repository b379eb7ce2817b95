/-! ===== all that holds between the class's object and the reference's ===== -/
def IH (C R : Mc) : Prop := R 128 2120 = C 0 11 ∧ R 128 2121 = C 0 12 ∧ ∃ k, k ≤ 20 ∧ C 0 10 = nI k ∧ R 128 2129 = nI k
def IR (t m : Nat) (C R : Mc) : Prop := ∀ r, r < t → (∀ k, k < 7 → R 141 (7 * r + k) = C (9 + k) r) ∧ ∀ l, l < 12 → bit (C 15 r) l → l < m
/-- orders: of person p, and of number k -/
def IO (n : Nat) (C R : Mc) : Prop := ∃ no, C 32 3 = nI no ∧ no = cn n (fun p => decide (C 39 p ≠ -1)) ∧ (∀ p, p < n → (C 39 p = -1 ∧ C 41 p = 0) ∨ ∃ k, k < no ∧ C 39 p = nI k ∧ R 128 (1780 + 3 * k) = nI p ∧ R 128 (1780 + 3 * k + 1) = C 40 p ∧ R 128 (1780 + 3 * k + 2) = C 41 p ∧ isZ (C 41 p) ∧ ∃ v, v ≤ 1000 ∧ C 40 p = nI v) ∧ ∀ k, k < no → ∃ p, p < n ∧ C 39 p = nI k ∧ R 128 (1780 + 3 * k) = nI p
def IT (C R : Mc) : Prop := ∃ dr wt, dr + wt ≤ 12 ∧ C 111 2 = nI dr ∧ R 128 2131 = nI dr ∧ C 111 3 = nI wt ∧ R 128 2130 = nI wt ∧ (∀ k, k < dr → R 128 (2080 + k) = C 112 k) ∧ (∀ k, dr ≤ k → k < 12 → R 128 (2080 + k) = -1) ∧ ∀ k, k < wt → R 128 (2092 + k) = C 113 k
def IP (C R : Mc) : Prop := ∃ k, k ≤ 300 ∧ C 0 8 = nI k ∧ R 127 9 = nI k ∧ ∀ i, i < k → ∃ b, b < 256 ∧ C 123 i = nI b ∧ R 134 i &&& nI 255 = nI b
def IW (m : Nat) (C R : Mc) : Prop := (∀ l, l < 12 → R 128 (1568 + 6 * l + 1) = C 59 l ∧ R 128 (1568 + 6 * l + 2) = C 60 l) ∧ (∀ j, j < 1200 → R 139 j = C 61 j ∧ isZ (C 61 j)) ∧ ∀ l, m ≤ l → l < 12 → R 128 (1568 + 6 * l + 4) = 0
def IC (C R : Mc) : Prop := R 127 28 = C 0 14 ∧ isZ (C 0 14) ∧ R 127 29 = C 0 16 ∧ (∃ k, k ≤ 3 ∧ C 0 16 = nI k ∧ (k ≠ 0 → ∀ i, i < 3 → ∃ v, v ≤ 500 ∧ C 125 i = nI v ∧ R 143 i = nI v)) ∧ (C 0 14 ≠ 0 → ∀ i, i < 3 → ∃ v, 1 ≤ v ∧ v ≤ 1000 ∧ C 124 i = nI v ∧ R 142 i = nI v)
def II (C R : Mc) (N L : Md) : Prop := ∃ k, k ≤ 196 ∧ C 121 1 = nI k ∧ R 127 31 = nI k ∧ (∀ i, i < k → R 144 i = C 122 i) ∧ L 127 32 = N 121 2 ∧ L 127 33 = N 121 3
def IZ (C : Mc) : Prop := C 17 10 = 0 ∧ C 17 11 = -1 ∧ C 17 12 = -1
/-- all: n people, week t, m laws; N, L: the longs of the class and of the reference -/
def IV (n t m : Nat) (C R : Mc) (N L : Md) : Prop := RV 17 n t n (ab t) (t / 52) m C R ∧ AL C R ∧ IH C R ∧ IR t m C R ∧ IO n C R ∧ IT C R ∧ IP C R ∧ C 0 9 = R 127 13 ∧ IW m C R ∧ IC C R ∧ II C R N L ∧ IZ C
/-- the class writes its own cells alone, the reference its own -/
def GC (C C' : Mc) : Prop := ∀ a, 127 ≤ a → a < 145 → C' a = C a
def GR2 (R R' : Mc) : Prop := ∀ a, a < 127 ∨ 145 ≤ a → R' a = R a
theorem GC.rf {C : Mc} : GC C C := fun _ _ _ => rfl
theorem GR2.rf {R : Mc} : GR2 R R := fun _ _ => rfl
theorem GC.tr {C C1 C2 : Mc} (h : GC C C1) (h2 : GC C1 C2) : GC C C2 := fun a h3 h4 => (h2 a h3 h4).trans (h a h3 h4)
theorem GR2.tr {C C1 C2 : Mc} (h : GR2 C C1) (h2 : GR2 C1 C2) : GR2 C C2 := fun a h3 => (h2 a h3).trans (h a h3)
theorem gc_wr {C C1 : Mc} {c i : Nat} {v : Int32} (h : GC C C1) (hc : c < 127 ∨ 145 ≤ c) : GC C (wr C1 c i v) := fun a h1 h2 => by rw [za_wrc (by omega)]; exact h a h1 h2
theorem gr_wr {C C1 : Mc} {c i : Nat} {v : Int32} (h : GR2 C C1) (hc : 127 ≤ c ∧ c < 145) : GR2 C (wr C1 c i v) := fun a h1 => by rw [za_wrc (by omega)]; exact h a h1
section IS
variable {n t m : Nat} {C R : Mc} {N L : Md}
/-- the reference's own notes change nothing -/
theorem rv_R {w x a y : Nat} {R' : Mc} (h : RV w n t x a y m C R) (h1 : ∀ b, b ≠ 127 → b ≠ 129 → b ≠ 140 → R' b = R b) (h2 : R' 127 7 = R 127 7 ∧ R' 127 23 = R 127 23 ∧ R' 127 24 = R 127 24) : RV w n t x a y m C R' := by
  refine ⟨?_, h.2.1, h.2.2.1, BK_cg h.2.2.2.1 (fun _ _ => rfl) (fun b b1 b2 => h1 b (by omega) (by omega) (by omega)), h.2.2.2.2⟩
  obtain ⟨hA, hN, hS, hP, hH, hO, hC, hZ, hQ, hB, hL, hE, hq, hl⟩ := h.1
  have e128 : R' 128 = R 128 := h1 128 (by omega) (by omega) (by omega)
  refine ⟨fun f i hf hi => ?_, hN, hS, hP, hH, hO, hC, hZ, hQ, hB, hL, RE_cg hE (fun _ _ _ => rfl) (fun c _ => by rw [e128]; exact ⟨rfl, rfl, congrFun (h1 131 (by omega) (by omega) (by omega)) c⟩), RQ_cg hq rfl rfl (fun _ _ _ _ => by rw [e128]), RY_cg hl rfl rfl rfl (fun _ _ => by rw [e128]; exact ⟨rfl, rfl⟩)⟩
  have h0 := hA f i hf hi
  have hc : (fC f = 127 ∧ (f = 38 ∨ f = 39 ∨ f = 40)) ∨ (fC f ≠ 127 ∧ fC f ≠ 129 ∧ fC f ≠ 140) := by
    clear hi h0
    revert f
    decide +kernel
  rcases hc with ⟨g1, rfl | rfl | rfl⟩ | ⟨g1, g2, g3⟩
  · have hi0 : i = 0 := by have : fN 38 = 1 := by decide
                           omega
    subst hi0
    exact h2.2.1.trans h0
  · have hi0 : i = 0 := by have : fN 39 = 1 := by decide
                           omega
    subst hi0
    exact h2.2.2.trans h0
  · have hi0 : i = 0 := by have : fN 40 = 1 := by decide
                           omega
    subst hi0
    exact h2.1.trans h0
  · rw [h1 _ g1 g2 g3]; exact h0
theorem iv_R {R' : Mc} (h : IV n t m C R N L) (h1 : ∀ b, b ≠ 127 → b ≠ 129 → b ≠ 140 → R' b = R b) (h2 : ∀ j, j = 7 ∨ j = 9 ∨ j = 13 ∨ j = 23 ∨ j = 24 ∨ j = 28 ∨ j = 29 ∨ j = 31 → R' 127 j = R 127 j) : IV n t m C R' N L := by
  obtain ⟨a1, a2, a3, a4, a5, a6, a7, a8, a9, a10, a11, a12⟩ := h
  have e : ∀ b, 128 ≤ b → b ≠ 129 → b ≠ 140 → R' b = R b := fun b b1 b2 b3 => h1 b (by omega) b2 b3
  refine ⟨rv_R a1 h1 ⟨h2 7 (by omega), h2 23 (by omega), h2 24 (by omega)⟩, ?_, ?_, ?_, ?_, ?_, ?_, ?_, ?_, ?_, ?_, a12⟩
  · intro z hz; have := a2 z hz; rw [e 133 (by omega) (by omega) (by omega), e 132 (by omega) (by omega) (by omega)]; exact this
  · unfold IH at *; rw [e 128 (by omega) (by omega) (by omega)]; exact a3
  · intro r hr; have := a4 r hr; rw [e 141 (by omega) (by omega) (by omega)]; exact this
  · unfold IO at *; rw [e 128 (by omega) (by omega) (by omega)]; exact a5
  · unfold IT at *; rw [e 128 (by omega) (by omega) (by omega)]; exact a6
  · unfold IP at *; rw [h2 9 (by omega), e 134 (by omega) (by omega) (by omega)]; exact a7
  · rw [h2 13 (by omega)]; exact a8
  · unfold IW at *; rw [e 128 (by omega) (by omega) (by omega), e 139 (by omega) (by omega) (by omega)]; exact a9
  · unfold IC at *; rw [h2 28 (by omega), h2 29 (by omega), e 142 (by omega) (by omega) (by omega), e 143 (by omega) (by omega) (by omega)]; exact a10
  · unfold II at *; rw [h2 31 (by omega), e 144 (by omega) (by omega) (by omega)]; exact a11
/-- all but rows, under the frames of a week -/
theorem iv_fe {t' m' : Nat} {C' R' : Mc} (h : IV n t m C R N L) (h2 : RV 17 n t' n (ab t') (t' / 52) m' C' R') (fc : FC 17 C C') (fe : FE R R') (hr : IR t' m' C' R') (hz : IZ C') (hw : IW m' C' R') : IV n t' m' C' R' N L := by
  obtain ⟨a1, a2, a3, a4, a5, a6, a7, a8, a9, a10, a11, a12⟩ := h
  have ec : ∀ b, b < 17 ∨ 63 < b → C' b = C b := fun b hb => fc.1 b (by omega)
  have er : ∀ b, b ≠ 128 → b ≠ 140 → b ≠ 141 → R' b = R b := fe.1
  have ep : ∀ j, pz j → R' 128 j = R 128 j := fe.2
  have n100 := rw_n100 a1.1
  refine ⟨h2, ?_, ?_, hr, ?_, ?_, ?_, ?_, hw, ?_, ?_, hz⟩
  · intro z hz; have := a2 z hz; rw [er 133 (by omega) (by omega) (by omega), er 132 (by omega) (by omega) (by omega), ec 7 (by omega), ec (3 + z) (by omega)]; exact this
  · unfold IH at *; rw [ep 2120 (by unfold pz; omega), ep 2121 (by unfold pz; omega), ep 2129 (by unfold pz; omega), ec 0 (by omega)]; exact a3
  · obtain ⟨no, i1, i2, i3, i4⟩ := a5
    have e32 : C' 32 3 = C 32 3 := fc.2.2
    have e39 : C' 39 = C 39 := fc.2.1 22 (by omega)
    have e40 : C' 40 = C 40 := fc.2.1 23 (by omega)
    have e41 : C' 41 = C 41 := fc.2.1 24 (by omega)
    have hno : no ≤ n := by rw [i2]; exact cn_le _ _
    refine ⟨no, by rw [e32]; exact i1, by rw [e39]; exact i2, fun p hp => ?_, fun k hk => ?_⟩
    · rw [e39, e40, e41]
      rcases i3 p hp with q | ⟨k, k1, k2, k3, k4, k5, k6⟩
      · exact Or.inl q
      · exact Or.inr ⟨k, k1, k2, by rw [ep _ (by unfold pz; omega)]; exact k3, by rw [ep _ (by unfold pz; omega)]; exact k4, by rw [ep _ (by unfold pz; omega)]; exact k5, k6⟩
    · obtain ⟨p, p1, p2, p3⟩ := i4 k hk
      exact ⟨p, p1, by rw [e39]; exact p2, by rw [ep _ (by unfold pz; omega)]; exact p3⟩
  · obtain ⟨dr, wt, i0, i1, i2, i3, i4, i5, i6, i7⟩ := a6
    exact ⟨dr, wt, i0, by rw [ec 111 (by omega)]; exact i1, by rw [ep _ (by unfold pz; omega)]; exact i2, by rw [ec 111 (by omega)]; exact i3, by rw [ep _ (by unfold pz; omega)]; exact i4, fun k hk => by rw [ep _ (by unfold pz; omega), ec 112 (by omega)]; exact i5 k hk, fun k h1 h2 => by rw [ep _ (by unfold pz; omega)]; exact i6 k h1 h2, fun k hk => by rw [ep _ (by unfold pz; omega), ec 113 (by omega)]; exact i7 k hk⟩
  · unfold IP at *; rw [er 127 (by omega) (by omega) (by omega), er 134 (by omega) (by omega) (by omega), ec 0 (by omega), ec 123 (by omega)]; exact a7
  · rw [er 127 (by omega) (by omega) (by omega), ec 0 (by omega)]; exact a8
  · unfold IC at *; rw [er 127 (by omega) (by omega) (by omega), er 142 (by omega) (by omega) (by omega), er 143 (by omega) (by omega) (by omega), ec 0 (by omega), ec 124 (by omega), ec 125 (by omega)]; exact a10
  · unfold II at *; rw [er 127 (by omega) (by omega) (by omega), er 144 (by omega) (by omega) (by omega), ec 121 (by omega), ec 122 (by omega)]; exact a11
theorem iv_fd {C' R' : Mc} (h : IV n t m C R N L) (h2 : RV 17 n t n (ab t) (t / 52) m C' R') (fc : FC 17 C C') (fd : FD R R') (hz : ∀ j, 10 ≤ j → j ≤ 12 → C' 17 j = C 17 j) : IV n t m C' R' N L := by
  refine iv_fe h h2 fc (FE.of fd) (fun r hr => ?_) ?_ ?_
  · have := h.2.2.2.1 r hr
    refine ⟨fun k hk => ?_, ?_⟩
    · rw [fd.1 141 (by omega) (by omega), fc.1 _ (by omega)]; exact this.1 k hk
    · rw [fc.1 15 (by omega)]; exact this.2
  · obtain ⟨q1, q2, q3⟩ := h.2.2.2.2.2.2.2.2.2.2.2
    exact ⟨(hz 10 (by omega) (by omega)).trans q1, (hz 11 (by omega) (by omega)).trans q2, (hz 12 (by omega) (by omega)).trans q3⟩
  · obtain ⟨q1, q2, q3⟩ := h.2.2.2.2.2.2.2.2.1
    have e59 : C' 59 = C 59 := fc.2.1 42 (by omega)
    have e60 : C' 60 = C 60 := fc.2.1 43 (by omega)
    have e61 : C' 61 = C 61 := fc.2.1 44 (by omega)
    unfold IW
    rw [e59, e60, e61, fd.1 139 (by omega) (by omega)]
    exact ⟨fun l hl => ⟨by rw [fd.2 _ (by unfold pz; omega)]; exact (q1 l hl).1, by rw [fd.2 _ (by unfold pz; omega)]; exact (q1 l hl).2⟩, q2, fun l h1 h2 => by rw [fd.2 _ (by unfold pz; omega)]; exact q3 l h1 h2⟩
/-- no more than the two stacks of the evaluators -/
theorem iv_junk {C' R' : Mc} (h : IV n t m C R N L) (hc : ∀ b, b ≠ 17 + 45 → b ≠ 17 + 46 → C' b = C b) (hr : ∀ b, b ≠ 140 → R' b = R b) : IV n t m C' R' N L :=
  iv_fd h (h.1.junk hc hr) (fc_of hc) (fd_of hr) (fun j _ _ => by rw [hc 17 (by omega) (by omega)])
theorem iv_thr {v : Int32} (h : IV n t m C R N L) : IV n t m C (wr R 127 0 v) N L := iv_R h (fun b h1 _ _ => za_wrc h1) (fun j hj => za_wri (by omega))
/-- what needs say of a number -/
theorem bad_0 {k : Int32} : fX12_bad R 0 k = some (0, R) := by unfold fX12_bad; rw [if_pos rfl, za_chp _ isz0]
theorem bad_1 {k : Int32} : fX12_bad R (nI 1) k = some (nI 1, wr R 127 0 k) := by unfold fX12_bad; rw [if_neg za_n10, za_lt, za_chp _ isz1]
theorem need_0 : fX11_needThat 0 = some (.inl 2) := by unfold fX11_needThat; rw [if_pos rfl]
theorem need_1 : fX11_needThat (nI 1) = some (.inr ()) := by unfold fX11_needThat; rw [if_neg za_n10]
theorem secs (p0 : Int32) : (fX11_needSection p0 = some (.inl 1) ∧ fX12_isSection p0 = some 0) ∨ ∃ c, c < 96 ∧ p0 = nI c ∧ fX11_needSection p0 = some (.inr ()) ∧ fX12_isSection p0 = some (nI 1) := by
  unfold fX11_needSection fX11_inside fX12_isSection
  rcases pk_ix p0 (n := 96) (by omega) with h | h | ⟨c, c1, rfl⟩
  · left; rw [if_pos h]; exact ⟨by rw [za_bnd, if_pos rfl], rfl⟩
  · by_cases h0 : p0 < 0
    · left; rw [if_pos h0]; exact ⟨by rw [za_bnd, if_pos rfl], rfl⟩
    · left; rw [if_neg h0, if_pos h]; exact ⟨by rw [za_bnd, if_pos rfl], rfl⟩
  · right
    refine ⟨c, c1, rfl, ?_, ?_⟩
    · rw [if_neg (nI_pos (by omega)), if_neg (nI_ge c1 (by omega)), za_bnd, if_neg za_n10]
    · rw [if_neg (nI_pos (by omega)), if_neg (nI_ge c1 (by omega))]
theorem zones (p0 : Int32) : (fX11_needZone p0 = some (.inl 1) ∧ fX12_isZone p0 = some 0) ∨ ∃ c, c < 4 ∧ p0 = nI c ∧ fX11_needZone p0 = some (.inr ()) ∧ fX12_isZone p0 = some (nI 1) := by
  unfold fX11_needZone fX11_inside fX12_isZone
  rcases pk_ix p0 (n := 4) (by omega) with h | h | ⟨c, c1, rfl⟩
  · left; rw [if_pos h]; exact ⟨by rw [za_bnd, if_pos rfl], rfl⟩
  · by_cases h0 : p0 < 0
    · left; rw [if_pos h0]; exact ⟨by rw [za_bnd, if_pos rfl], rfl⟩
    · left; rw [if_neg h0, if_pos h]; exact ⟨by rw [za_bnd, if_pos rfl], rfl⟩
  · right
    refine ⟨c, c1, rfl, ?_, ?_⟩
    · rw [if_neg (nI_pos (by omega)), if_neg (nI_ge c1 (by omega)), za_bnd, if_neg za_n10]
    · rw [if_neg (nI_pos (by omega)), if_neg (nI_ge c1 (by omega))]
theorem ins_c {K : Nat} (hK : K < 2 ^ 31) (p0 v : Int32) (hv : v = nI K) : fX11_inside p0 v = some 0 ∨ ∃ c, c < K ∧ p0 = nI c ∧ fX11_inside p0 v = some (nI 1) := by
  subst hv
  unfold fX11_inside
  rcases pk_ix p0 hK with h | h | ⟨c, c1, rfl⟩
  · left; rw [if_pos h]
  · left; by_cases h0 : p0 < 0
    · rw [if_pos h0]
    · rw [if_neg h0, if_pos h]
  · right; exact ⟨c, c1, rfl, by rw [if_neg (nI_pos (by omega)), if_neg (nI_ge c1 (by omega))]⟩
theorem pers (h : IV n t m C R N L) (p0 : Int32) : (fX11_needPerson C p0 = some (.inl 1) ∧ ∀ R', R' 128 = R 128 → fX12_isPerson R' p0 = some 0) ∨ ∃ c, c < n ∧ p0 = nI c ∧ fX11_needPerson C p0 = some (.inr ()) ∧ ∀ R', R' 128 = R 128 → fX12_isPerson R' p0 = some (nI 1) := by
  have hn := rw_n100 h.1.1
  have hR : ∀ R', R' 128 = R 128 → fX12_isPerson R' p0 = fX11_inside p0 (nI n) := fun R' e => by
    unfold fX12_isPerson fX11_inside
    rw [za_chk _ (by omega) (by omega), nI_clamp (by omega), e, rw_n h.1.1]
  unfold fX11_needPerson
  rw [show C (17 + 15) 0 = nI n from h.1.1.2.1.1]
  rcases ins_c (K := n) (by omega) p0 (nI n) rfl with e | ⟨c, c1, c2, e⟩
  · left; rw [e, za_bnd, if_pos rfl]; exact ⟨rfl, fun R' e' => (hR R' e').trans e⟩
  · right; rw [e, za_bnd, if_neg za_n10]; exact ⟨c, c1, c2, rfl, fun R' e' => (hR R' e').trans e⟩
end IS
