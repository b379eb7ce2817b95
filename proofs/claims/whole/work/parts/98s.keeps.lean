/-! ===== a call but week leaves the number of the week and the count of the hungry alone ===== -/
def KG {α : Type} (g : α → Option Mc) (Q : Mc → Prop) (x : Option α) : Prop := ∀ r M, x = some r → g r = some M → Q M
def gM : Mc → Option Mc := some
def gP : Int32 × Mc → Option Mc := fun r => some r.2
def gL : Int32 × Mc × Md → Option Mc := fun r => some r.2.1
def gD : Mc × Md → Option Mc := fun r => some r.1
def gS : Nat ⊕ Mc → Option Mc := fun r => match r with | .inl _ => none | .inr M => some M
def gT : Nat ⊕ (Int32 × Mc) → Option Mc := fun r => match r with | .inl _ => none | .inr M => some M.2
/-- a predicate that a write elsewhere keeps: one of finitely many fixed places -/
def KA (u v y : Int32) (W : Nat → Int32) : Mc → Prop := fun M => M 17 6 = u ∧ M 32 2 = v ∧ M 0 9 = y ∧ M 16 = W
def KB (w0 : Nat) (s v : Int32) (W : Nat → Int32) : Mc → Prop := fun M => M (w0 + 15) 0 = s ∧ M (w0 + 15) 2 = v ∧ M 16 = W
def KB1 (w0 : Nat) (s v : Int32) (W : Nat → Int32) : Mc → Prop := fun M => KB w0 s v W M ∨ KB w0 s (v + nI 1) W M
theorem K_wrA {u v y x : Int32} {W : Nat → Int32} {M : Mc} {c i : Nat} (h : KA u v y W M) (hc : ¬ (c = 17 ∧ i = 6) ∧ ¬ (c = 32 ∧ i = 2) ∧ ¬ (c = 0 ∧ i = 9) ∧ c ≠ 16) : KA u v y W (wr M c i x) :=
  ⟨(if_neg (fun q => hc.1 ⟨q.1.symm, q.2.symm⟩)).trans h.1, (if_neg (fun q => hc.2.1 ⟨q.1.symm, q.2.symm⟩)).trans h.2.1, (if_neg (fun q => hc.2.2.1 ⟨q.1.symm, q.2.symm⟩)).trans h.2.2.1, (za_wrc (fun q => hc.2.2.2 q.symm)).trans h.2.2.2⟩
theorem K_wrB {w0 : Nat} {s v x : Int32} {W : Nat → Int32} {M : Mc} {c i : Nat} (h : KB w0 s v W M) (hc : ¬ (c = w0 + 15 ∧ i = 0) ∧ ¬ (c = w0 + 15 ∧ i = 2) ∧ c ≠ 16) : KB w0 s v W (wr M c i x) :=
  ⟨(if_neg (fun q => hc.1 ⟨q.1.symm, q.2.symm⟩)).trans h.1, (if_neg (fun q => hc.2.1 ⟨q.1.symm, q.2.symm⟩)).trans h.2.1, (za_wrc (fun q => hc.2.2 q.symm)).trans h.2.2⟩
theorem K_cpyA {β : Type} {g : β → Option Mc} {Q : Mc → Prop} {u v y : Int32} {W : Nat → Int32} {M : Mc} {k0 n0 k1 n1 : Nat} {sp dp n : Int32} {f : Mc → Option β} (h : KA u v y W M) (hc : k1 ≠ 17 ∧ k1 ≠ 32 ∧ k1 ≠ 0 ∧ k1 ≠ 16) (h2 : ∀ M, KA u v y W M → KG g Q (f M)) : KG g Q (cpy M k0 n0 sp k1 n1 dp n f) := by
  unfold cpy
  by_cases q : sp < 0 ∨ dp < 0 ∨ n < 0 ∨ n0 < sp.toNatClampNeg + n.toNatClampNeg ∨ n1 < dp.toNatClampNeg + n.toNatClampNeg
  · rw [if_pos q]; exact fun _ _ e _ => by cases e
  · rw [if_neg q]; exact h2 _ ⟨(congrFun (up_o (fun z => hc.1 z.symm)) _).trans h.1, (congrFun (up_o (fun z => hc.2.1 z.symm)) _).trans h.2.1, (congrFun (up_o (fun z => hc.2.2.1 z.symm)) _).trans h.2.2.1, (up_o (fun z => hc.2.2.2 z.symm)).trans h.2.2.2⟩
theorem K_cpyB {β : Type} {g : β → Option Mc} {Q : Mc → Prop} {w0 : Nat} {s v : Int32} {W : Nat → Int32} {M : Mc} {k0 n0 k1 n1 : Nat} {sp dp n : Int32} {f : Mc → Option β} (h : KB w0 s v W M) (hc : k1 ≠ w0 + 15 ∧ k1 ≠ 16) (h2 : ∀ M, KB w0 s v W M → KG g Q (f M)) : KG g Q (cpy M k0 n0 sp k1 n1 dp n f) := by
  unfold cpy
  by_cases q : sp < 0 ∨ dp < 0 ∨ n < 0 ∨ n0 < sp.toNatClampNeg + n.toNatClampNeg ∨ n1 < dp.toNatClampNeg + n.toNatClampNeg
  · rw [if_pos q]; exact fun _ _ e _ => by cases e
  · rw [if_neg q]; exact h2 _ ⟨(congrFun (up_o (fun z => hc.1 z.symm)) _).trans h.1, (congrFun (up_o (fun z => hc.1 z.symm)) _).trans h.2.1, (up_o (fun z => hc.2 z.symm)).trans h.2.2⟩
section KR
variable {α β γ δ : Type} {g : β → Option Mc} {Q P : Mc → Prop}
theorem K_none : KG g Q (none : Option β) := fun _ _ h _ => by cases h
theorem K_sM {M : Mc} (h : Q M) : KG gM Q (some M) := fun r M' e1 e2 => by cases e1; cases e2; exact h
theorem K_sP {b : Int32} {M : Mc} (h : Q M) : KG gP Q (some (b, M)) := fun r M' e1 e2 => by cases e1; cases e2; exact h
theorem K_sL {b : Int32} {M : Mc} {N : Md} (h : Q M) : KG gL Q (some (b, M, N)) := fun r M' e1 e2 => by cases e1; cases e2; exact h
theorem K_sD {M : Mc} {N : Md} (h : Q M) : KG gD Q (some (M, N)) := fun r M' e1 e2 => by cases e1; cases e2; exact h
theorem K_sS {M : Mc} (h : Q M) : KG gS Q (some (.inr M)) := fun r M' e1 e2 => by cases e1; cases e2; exact h
theorem K_sT {b : Int32} {M : Mc} (h : Q M) : KG gT Q (some (.inr (b, M))) := fun r M' e1 e2 => by cases e1; cases e2; exact h
theorem K_inlS {k : Nat} : KG gS Q (some (.inl k)) := fun r M' e1 e2 => by cases e1; cases e2
theorem K_inl {k : Nat} : KG gT Q (some (.inl k)) := fun r M' e1 e2 => by cases e1; cases e2
theorem K_ite {c : Prop} [Decidable c] {a b : Option β} (h1 : KG g Q a) (h2 : KG g Q b) : KG g Q (if c then a else b) := by
  by_cases q : c
  · rw [if_pos q]; exact h1
  · rw [if_neg q]; exact h2
theorem K_chk {i : Int32} {K : Nat} {x : Option β} (h : i.toNatClampNeg < K → KG g Q x) : KG g Q (chk i K x) := by
  unfold chk
  by_cases q : i < 0 ∨ K ≤ i.toNatClampNeg
  · rw [if_pos q]; exact K_none
  · rw [if_neg q]; exact h (Nat.lt_of_not_le (fun z => q (Or.inr z)))
theorem K_chz {i : Int32} {x : Option β} (h : KG g Q x) : KG g Q (chz i x) := by
  unfold chz; exact K_ite K_none h
theorem K_chp {c : Prop} [Decidable c] {x : Option β} (h : KG g Q x) : KG g Q (chp c x) := by
  unfold chp; exact K_ite h K_none
theorem K_ltM {M : Mc} {f : Mc → Option β} (h : P M) (h2 : ∀ M, P M → KG g Q (f M)) : KG g Q (lt M f) := h2 M h
theorem K_ltV {a : α} {f : α → Option β} (h2 : ∀ M, KG g Q (f M)) : KG g Q (lt a f) := h2 a
theorem K_bndM {x : Option Mc} {f : Mc → Option β} (h : KG gM P x) (h2 : ∀ M, P M → KG g Q (f M)) : KG g Q (bnd x f) := by
  cases x with
  | none => exact K_none
  | some M => exact h2 M (h M M rfl rfl)
theorem K_bndV {x : Option α} {f : α → Option β} (h2 : ∀ M, KG g Q (f M)) : KG g Q (bnd x f) := by
  cases x with
  | none => exact K_none
  | some M => exact h2 M
theorem K_bn2M {x : Option (Int32 × Mc)} {f : Int32 → Mc → Option β} (h : KG gP P x) (h2 : ∀ b M, P M → KG g Q (f b M)) : KG g Q (bn2 x f) := by
  cases x with
  | none => exact K_none
  | some M => exact h2 M.1 M.2 (h M M.2 rfl rfl)
theorem K_bn2V {x : Option (α × γ)} {f : α → γ → Option β} (h2 : ∀ b M, KG g Q (f b M)) : KG g Q (bn2 x f) := by
  cases x with
  | none => exact K_none
  | some M => exact h2 M.1 M.2
theorem K_bn3M {x : Option (Int32 × Mc × Md)} {f : Int32 → Mc → Md → Option β} (h : KG gL P x) (h2 : ∀ b M N, P M → KG g Q (f b M N)) : KG g Q (bn3 x f) := by
  cases x with
  | none => exact K_none
  | some M => exact h2 M.1 M.2.1 M.2.2 (h M M.2.1 rfl rfl)
theorem K_bnxV {x : Option (Nat ⊕ α)} {f : α → Option (Nat ⊕ (Int32 × Mc))} (h2 : ∀ M, KG gT Q (f M)) : KG gT Q (bnx x f) := by
  rcases x with _ | (k | a)
  · exact K_none
  · exact K_inl
  · exact h2 a
theorem K_bnxVS {x : Option (Nat ⊕ α)} {f : α → Option (Nat ⊕ Mc)} (h2 : ∀ M, KG gS Q (f M)) : KG gS Q (bnx x f) := by
  rcases x with _ | (k | a)
  · exact K_none
  · exact K_inlS
  · exact h2 a
end KR

section KAs
variable {u v y : Int32} {W : Nat → Int32}
theorem hA_fJ7_fill_53178_L5 {n0 : Nat} {k0 : Nat} (h_k0 : k0 ≠ 17 ∧ k0 ≠ 32 ∧ k0 ≠ 0 ∧ k0 ≠ 16) : ∀ (n : Nat) (M : Mc) (X1 : Int32) (X2 : Int32) (X3 : Int32), KA u v y W M → KG gM (KA u v y W) (fJ7_fill_53178_L5 n0 k0 n M X1 X2 X3)  := by
  intro n
  induction n with
  | zero => intros; rw [fJ7_fill_53178_L5]; exact K_none
  | succ n ih =>
    intro M X1 X2 X3 hM
    rw [fJ7_fill_53178_L5]
    exact (K_ite (K_sM hM) (K_chk fun hb_ => (K_ltM (K_wrA hM (by omega)) fun _ h1 => (ih _ _ _ _ h1))))
theorem hA_fJ7_fill_53178 {M : Mc} {n0 : Nat} {k0 : Nat} {p0 : Int32} (hM : KA u v y W M) (h_k0 : k0 ≠ 17 ∧ k0 ≠ 32 ∧ k0 ≠ 0 ∧ k0 ≠ 16) : KG gM (KA u v y W) (fJ7_fill_53178 M n0 k0 p0) := by
  unfold fJ7_fill_53178
  exact (K_ltV fun _ => (hA_fJ7_fill_53178_L5 (by omega) _ _ _ _ _ hM))
theorem hA_fX0_tell_L31   : ∀ (n : Nat) (M : Mc) (X1 : Int32) (X2 : Int32) (X3 : Int32) (X4 : Int32), KA u v y W M → KG gP (KA u v y W) (fX0_tell_L31 n M X1 X2 X3 X4)  := by
  intro n
  induction n with
  | zero => intros; rw [fX0_tell_L31]; exact K_none
  | succ n ih =>
    intro M X1 X2 X3 X4 hM
    rw [fX0_tell_L31]
    exact (K_ite (K_chk fun hb_ => (K_sP hM)) (K_chk fun hb_ => (K_bndV fun _ => (K_ite (K_chk fun hb_ => (K_sP hM)) (K_chk fun hb_ => (K_chk fun hb_ => (K_chk fun hb_ => (K_ltM (K_wrA hM (by omega)) fun _ h2 => (K_chk fun hb_ => (K_chk fun hb_ => (K_ltM (K_wrA h2 (by omega)) fun _ h3 => (ih _ _ _ _ _ h3))))))))))))
theorem hA_fX0_tell {M : Mc} {p0 : Int32} {p1 : Int32} {p2 : Int32} (hM : KA u v y W M) : KG gP (KA u v y W) (fX0_tell M p0 p1 p2) := by
  unfold fX0_tell
  exact (K_bndV fun _ => (K_ite (K_sP hM) (K_ite (K_sP hM) (K_chk fun hb_ => (K_ite (hA_fX0_tell_L31  _ _ _ _ _ _ hM) (K_sP hM))))))
theorem hA_fX1_copyFrom {M : Mc} {bi : Nat} {bi2 : Nat} (hM : KA u v y W M) (h_bi : bi = 96) : KG gM (KA u v y W) (fX1_copyFrom M bi bi2) := by
  unfold fX1_copyFrom
  exact (K_ltM (K_wrA hM (by omega)) fun _ h4 => (K_ltM (K_wrA h4 (by omega)) fun _ h5 => (K_cpyA h5 (by omega) fun _ h6 => (K_cpyA h6 (by omega) fun _ h7 => (K_cpyA h7 (by omega) fun _ h8 => (K_cpyA h8 (by omega) fun _ h9 => (K_sM h9)))))))
theorem hA_fX1_add {M : Mc} {bi : Nat} {p0 : Int32} {p1 : Int32} (hM : KA u v y W M) (h_bi : bi = 49 ∨ bi = 96) : KG gP (KA u v y W) (fX1_add M bi p0 p1) := by
  unfold fX1_add
  exact (K_bndV fun _ => (K_ite (K_sP hM) (K_chk fun hb_ => (K_ltM (K_wrA hM (by omega)) fun _ h10 => (K_chk fun hb_ => (K_ltM (K_wrA h10 (by omega)) fun _ h11 => (K_ltM (K_wrA h11 (by omega)) fun _ h12 => (K_sP h12))))))))
theorem hA_fX1_handOn {M : Mc} {bi : Nat} {p0 : Int32} (hM : KA u v y W M) (h_bi : bi = 49 ∨ bi = 96) : KG gP (KA u v y W) (fX1_handOn M bi p0) := by
  unfold fX1_handOn
  exact (K_bndV fun _ => (K_ite (K_sP hM) (K_chk fun hb_ => (K_ite (K_chk fun hb_ => (K_ite (K_chk fun hb_ => (K_chk fun hb_ => (K_ltM (K_wrA hM (by omega)) fun _ h13 => (K_chk fun hb_ => (K_sP h13))))) (K_sP hM))) (K_sP hM)))))
theorem hA_fX1_present {M : Mc} {bi : Nat} {p0 : Int32} (hM : KA u v y W M) (h_bi : bi = 49 ∨ bi = 96) : KG gM (KA u v y W) (fX1_present M bi p0) := by
  unfold fX1_present
  exact (K_bndV fun _ => (K_ite (K_sM hM) (K_chk fun hb_ => (K_ite (K_chk fun hb_ => (K_ltM (K_wrA hM (by omega)) fun _ h14 => (K_chk fun hb_ => (K_chk fun hb_ => (K_ltM (K_wrA h14 (by omega)) fun _ h15 => (K_sM h15)))))) (K_chk fun hb_ => (K_ltM (K_wrA hM (by omega)) fun _ h16 => (K_chk fun hb_ => (K_ltM (K_wrA h16 (by omega)) fun _ h17 => (K_sM h17)))))))))
theorem hA_fX1_comeBack {M : Mc} {bi : Nat} {p0 : Int32} (hM : KA u v y W M) (h_bi : bi = 49 ∨ bi = 96) : KG gP (KA u v y W) (fX1_comeBack M bi p0) := by
  unfold fX1_comeBack
  exact (K_bndV fun _ => (K_ite (K_sP hM) (K_chk fun hb_ => (K_ltM (K_wrA hM (by omega)) fun _ h18 => (K_chk fun hb_ => (K_chk fun hb_ => (K_chk fun hb_ => (K_sP h18))))))))
theorem hA_fX1_readDue_J73 {bi : Nat} {K4 : Mc → Int32 → Int32 → Int32 → Option (Int32 × Mc)} {M : Mc} {X1 : Int32} {X2 : Int32} {X3 : Int32} (hM : KA u v y W M) (h_bi : bi = 49 ∨ bi = 96) (hK4 : ∀ (y0 : Mc) (y1 : Int32) (y2 : Int32) (y3 : Int32), KA u v y W y0 → KG gP (KA u v y W) (K4 y0 y1 y2 y3)) : KG gP (KA u v y W) (fX1_readDue_J73 bi K4 M X1 X2 X3) := by
  unfold fX1_readDue_J73
  exact (hK4 _ _ _ _ hM)
theorem hA_fX1_readDue_J45 {bi : Nat} {K4 : Mc → Int32 → Int32 → Int32 → Option (Int32 × Mc)} {M : Mc} {X1 : Int32} {X2 : Int32} {X3 : Int32} (hM : KA u v y W M) (h_bi : bi = 49 ∨ bi = 96) (hK4 : ∀ (y0 : Mc) (y1 : Int32) (y2 : Int32) (y3 : Int32), KA u v y W y0 → KG gP (KA u v y W) (K4 y0 y1 y2 y3)) : KG gP (KA u v y W) (fX1_readDue_J45 bi K4 M X1 X2 X3) := by
  unfold fX1_readDue_J45
  exact (K_chk fun hb_ => (K_ite (K_chk fun hb_ => (K_ite (K_bn2M (hA_fX1_comeBack hM (by omega)) fun _ _ h19 => (K_ltV fun _ => (hA_fX1_readDue_J73 h19 (by omega) hK4))) (hA_fX1_readDue_J73 hM (by omega) hK4))) (hA_fX1_readDue_J73 hM (by omega) hK4)))
theorem hA_fX1_readDue_L4 {bi : Nat} (h_bi : bi = 49 ∨ bi = 96) : ∀ (n : Nat) (M : Mc) (X1 : Int32) (X2 : Int32) (X3 : Int32), KA u v y W M → KG gP (KA u v y W) (fX1_readDue_L4 bi n M X1 X2 X3)  := by
  intro n
  induction n with
  | zero => intros; rw [fX1_readDue_L4]; exact K_none
  | succ n ih =>
    intro M X1 X2 X3 hM
    rw [fX1_readDue_L4]
    exact (K_ite (K_sP hM) (K_ite (K_sP hM) (K_chk fun hb_ => (K_ite (K_chk fun hb_ => (K_ite (K_bndM (hA_fX1_present hM (by omega)) fun _ h20 => (hA_fX1_readDue_J73 h20 (by omega) (fun _ _ _ _ hc_ => (ih _ _ _ _ hc_)))) (hA_fX1_readDue_J45 hM (by omega) (fun _ _ _ _ hc_ => (ih _ _ _ _ hc_))))) (hA_fX1_readDue_J45 hM (by omega) (fun _ _ _ _ hc_ => (ih _ _ _ _ hc_)))))))
theorem hA_fX1_readDue {M : Mc} {bi : Nat} {p0 : Int32} (hM : KA u v y W M) (h_bi : bi = 49 ∨ bi = 96) : KG gP (KA u v y W) (fX1_readDue M bi p0) := by
  unfold fX1_readDue
  exact (hA_fX1_readDue_L4 (by omega) _ _ _ _ _ hM)
theorem hA_fX3_copyFrom_L159 {q : Nat} {q2 : Nat} (h_q : q = 79) : ∀ (n : Nat) (M : Mc) (X2 : Int32), KA u v y W M → KG gM (KA u v y W) (fX3_copyFrom_L159 q q2 n M X2)  := by
  intro n
  induction n with
  | zero => intros; rw [fX3_copyFrom_L159]; exact K_none
  | succ n ih =>
    intro M X2 hM
    rw [fX3_copyFrom_L159]
    exact (K_ite (K_cpyA hM (by omega) fun _ h21 => (K_cpyA h21 (by omega) fun _ h22 => (K_sM h22))) (K_chk fun hb_ => (K_chk fun hb_ => (K_ltM (K_wrA hM (by omega)) fun _ h23 => (ih _ _ h23)))))
theorem hA_fX3_copyFrom {M : Mc} {q : Nat} {q2 : Nat} (hM : KA u v y W M) (h_q : q = 79) : KG gM (KA u v y W) (fX3_copyFrom M q q2) := by
  unfold fX3_copyFrom
  exact (K_ltM (K_wrA hM (by omega)) fun _ h24 => (K_ltM (K_wrA h24 (by omega)) fun _ h25 => (K_ltM (K_wrA h25 (by omega)) fun _ h26 => (K_ltM (K_wrA h26 (by omega)) fun _ h27 => (K_cpyA h27 (by omega) fun _ h28 => (K_cpyA h28 (by omega) fun _ h29 => (K_cpyA h29 (by omega) fun _ h30 => (K_cpyA h30 (by omega) fun _ h31 => (K_cpyA h31 (by omega) fun _ h32 => (K_cpyA h32 (by omega) fun _ h33 => (K_cpyA h33 (by omega) fun _ h34 => (K_cpyA h34 (by omega) fun _ h35 => (hA_fX3_copyFrom_L159 (by omega) _ _ _ h35)))))))))))))
theorem hA_fX3_add_J60 {q : Nat} {K3 : Mc → Int32 → Int32 → Int32 → Int32 → Int32 → Option (Mc)} {M : Mc} {X1 : Int32} {X2 : Int32} {X3 : Int32} {X4 : Int32} {X5 : Int32} {Z0 : Int32} {Z1 : Int32} (hM : KA u v y W M) (h_q : q = 32 ∨ q = 79) (hK3 : ∀ (y0 : Mc) (y1 : Int32) (y2 : Int32) (y3 : Int32) (y4 : Int32) (y5 : Int32), KA u v y W y0 → KG gM (KA u v y W) (K3 y0 y1 y2 y3 y4 y5)) : KG gM (KA u v y W) (fX3_add_J60 q K3 M X1 X2 X3 X4 X5 Z0 Z1) := by
  unfold fX3_add_J60
  exact (K_chk fun hb_ => (K_ltM (K_wrA hM (by omega)) fun _ h36 => (K_chk fun hb_ => (K_ltM (K_wrA h36 (by omega)) fun _ h37 => (K_chk fun hb_ => (K_ltM (K_wrA h37 (by omega)) fun _ h38 => (K_chk fun hb_ => (K_ltM (K_wrA h38 (by omega)) fun _ h39 => (K_ltM (K_wrA h39 (by omega)) fun _ h40 => (hK3 _ _ _ _ _ _ h40))))))))))
theorem hA_fX3_add_L3 {q : Nat} (h_q : q = 32 ∨ q = 79) : ∀ (n : Nat) (M : Mc) (X1 : Int32) (X2 : Int32) (X3 : Int32) (X4 : Int32) (X5 : Int32), KA u v y W M → KG gM (KA u v y W) (fX3_add_L3 q n M X1 X2 X3 X4 X5)  := by
  intro n
  induction n with
  | zero => intros; rw [fX3_add_L3]; exact K_none
  | succ n ih =>
    intro M X1 X2 X3 X4 X5 hM
    rw [fX3_add_L3]
    exact (K_ite (K_sM hM) (K_bndV fun _ => (K_ite (K_sM hM) (K_chk fun hb_ => (K_ltM (K_wrA hM (by omega)) fun _ h41 => (K_chk fun hb_ => (K_ltM (K_wrA h41 (by omega)) fun _ h42 => (K_ite (hA_fX3_add_J60 h42 (by omega) (fun _ _ _ _ _ _ hc_ => (ih _ _ _ _ _ _ hc_))) (hA_fX3_add_J60 h42 (by omega) (fun _ _ _ _ _ _ hc_ => (ih _ _ _ _ _ _ hc_)))))))))))
theorem hA_fX3_add {M : Mc} {q : Nat} {p0 : Int32} {p1 : Int32} {p2 : Int32} {p3 : Int32} (hM : KA u v y W M) (h_q : q = 32 ∨ q = 79) : KG gM (KA u v y W) (fX3_add M q p0 p1 p2 p3) := by
  unfold fX3_add
  exact (hA_fX3_add_L3 (by omega) _ _ _ _ _ _ _ hM)
theorem hA_fX3_spend {M : Mc} {q : Nat} {p0 : Int32} {p1 : Int32} (hM : KA u v y W M) (h_q : q = 32 ∨ q = 79) : KG gM (KA u v y W) (fX3_spend M q p0 p1) := by
  unfold fX3_spend
  exact (K_bndV fun _ => (K_ite (K_sM hM) (K_chk fun hb_ => (K_chk fun hb_ => (K_ltM (K_wrA hM (by omega)) fun _ h43 => (K_sM h43))))))
theorem hA_fX3_earn {M : Mc} {q : Nat} {p0 : Int32} {p1 : Int32} (hM : KA u v y W M) (h_q : q = 32 ∨ q = 79) : KG gM (KA u v y W) (fX3_earn M q p0 p1) := by
  unfold fX3_earn
  exact (K_bndV fun _ => (K_ite (K_sM hM) (K_chk fun hb_ => (K_chk fun hb_ => (K_ltM (K_wrA hM (by omega)) fun _ h44 => (K_sM h44))))))
theorem hA_fX3_takeOrder {M : Mc} {q : Nat} {p0 : Int32} {p1 : Int32} (hM : KA u v y W M) (h_q : q = 32 ∨ q = 79) : KG gP (KA u v y W) (fX3_takeOrder M q p0 p1) := by
  unfold fX3_takeOrder
  exact (K_bndV fun _ => (K_ite (K_sP hM) (K_chk fun hb_ => (K_chk fun hb_ => (K_ltM (K_wrA hM (by omega)) fun _ h45 => (K_chk fun hb_ => (K_ltM (K_wrA h45 (by omega)) fun _ h46 => (K_chk fun hb_ => (K_ltM (K_wrA h46 (by omega)) fun _ h47 => (K_ltM (K_wrA h47 (by omega)) fun _ h48 => (K_sP h48)))))))))))
theorem hA_fX3_useOrder {M : Mc} {q : Nat} {p0 : Int32} (hM : KA u v y W M) (h_q : q = 32 ∨ q = 79) : KG gP (KA u v y W) (fX3_useOrder M q p0) := by
  unfold fX3_useOrder
  exact (K_bndV fun _ => (K_ite (K_sP hM) (K_chk fun hb_ => (K_ltM (K_wrA hM (by omega)) fun _ h49 => (K_chk fun hb_ => (K_sP h49))))))
theorem hA_fX3_sailOrders_J49 {q : Nat} {K2 : Mc → Int32 → Int32 → Option (Mc)} {M : Mc} {X1 : Int32} {X2 : Int32} (hM : KA u v y W M) (h_q : q = 32 ∨ q = 79) (hK2 : ∀ (y0 : Mc) (y1 : Int32) (y2 : Int32), KA u v y W y0 → KG gM (KA u v y W) (K2 y0 y1 y2)) : KG gM (KA u v y W) (fX3_sailOrders_J49 q K2 M X1 X2) := by
  unfold fX3_sailOrders_J49
  exact (hK2 _ _ _ hM)
theorem hA_fX3_sailOrders_L2 {q : Nat} (h_q : q = 32 ∨ q = 79) : ∀ (n : Nat) (M : Mc) (X1 : Int32) (X2 : Int32), KA u v y W M → KG gM (KA u v y W) (fX3_sailOrders_L2 q n M X1 X2)  := by
  intro n
  induction n with
  | zero => intros; rw [fX3_sailOrders_L2]; exact K_none
  | succ n ih =>
    intro M X1 X2 hM
    rw [fX3_sailOrders_L2]
    exact (K_ite (K_sM hM) (K_ite (K_sM hM) (K_chk fun hb_ => (K_ite (K_chk fun hb_ => (K_ite (hA_fX3_sailOrders_J49 hM (by omega) (fun _ _ _ hc_ => (ih _ _ _ hc_))) (K_chk fun hb_ => (K_ltM (K_wrA hM (by omega)) fun _ h50 => (K_chk fun hb_ => (K_ltM (K_wrA h50 (by omega)) fun _ h51 => (hA_fX3_sailOrders_J49 h51 (by omega) (fun _ _ _ hc_ => (ih _ _ _ hc_))))))))) (hA_fX3_sailOrders_J49 hM (by omega) (fun _ _ _ hc_ => (ih _ _ _ hc_)))))))
theorem hA_fX3_sailOrders {M : Mc} {q : Nat} {p0 : Int32} (hM : KA u v y W M) (h_q : q = 32 ∨ q = 79) : KG gM (KA u v y W) (fX3_sailOrders M q p0) := by
  unfold fX3_sailOrders
  exact (hA_fX3_sailOrders_L2 (by omega) _ _ _ _ hM)
theorem hA_fX3_disembark_J53 {q : Nat} {K2 : Mc → Int32 → Int32 → Option (Mc)} {M : Mc} {X1 : Int32} {X2 : Int32} (hM : KA u v y W M) (h_q : q = 32 ∨ q = 79) (hK2 : ∀ (y0 : Mc) (y1 : Int32) (y2 : Int32), KA u v y W y0 → KG gM (KA u v y W) (K2 y0 y1 y2)) : KG gM (KA u v y W) (fX3_disembark_J53 q K2 M X1 X2) := by
  unfold fX3_disembark_J53
  exact (hK2 _ _ _ hM)
theorem hA_fX3_disembark_L2 {q : Nat} (h_q : q = 32 ∨ q = 79) : ∀ (n : Nat) (M : Mc) (X1 : Int32) (X2 : Int32), KA u v y W M → KG gM (KA u v y W) (fX3_disembark_L2 q n M X1 X2)  := by
  intro n
  induction n with
  | zero => intros; rw [fX3_disembark_L2]; exact K_none
  | succ n ih =>
    intro M X1 X2 hM
    rw [fX3_disembark_L2]
    exact (K_ite (K_sM hM) (K_ite (K_sM hM) (K_chk fun hb_ => (K_ite (K_chk fun hb_ => (K_ite (K_chk fun hb_ => (K_ltM (K_wrA hM (by omega)) fun _ h52 => (K_ltM (K_wrA h52 (by omega)) fun _ h53 => (hA_fX3_disembark_J53 h53 (by omega) (fun _ _ _ hc_ => (ih _ _ _ hc_)))))) (hA_fX3_disembark_J53 hM (by omega) (fun _ _ _ hc_ => (ih _ _ _ hc_))))) (hA_fX3_disembark_J53 hM (by omega) (fun _ _ _ hc_ => (ih _ _ _ hc_)))))))
theorem hA_fX3_disembark {M : Mc} {q : Nat} {p0 : Int32} (hM : KA u v y W M) (h_q : q = 32 ∨ q = 79) : KG gM (KA u v y W) (fX3_disembark M q p0) := by
  unfold fX3_disembark
  exact (hA_fX3_disembark_L2 (by omega) _ _ _ _ hM)
theorem hA_fX3_release_J48 {q : Nat} {M : Mc} {X1 : Int32} (hM : KA u v y W M) (h_q : q = 32 ∨ q = 79) : KG gM (KA u v y W) (fX3_release_J48 q M X1) := by
  unfold fX3_release_J48
  exact (K_chk fun hb_ => (K_ltM (K_wrA hM (by omega)) fun _ h54 => (K_chk fun hb_ => (K_ltM (K_wrA h54 (by omega)) fun _ h55 => (K_sM h55)))))
theorem hA_fX3_release {M : Mc} {q : Nat} {p0 : Int32} (hM : KA u v y W M) (h_q : q = 32 ∨ q = 79) : KG gM (KA u v y W) (fX3_release M q p0) := by
  unfold fX3_release
  exact (K_ite (K_sM hM) (K_ite (K_sM hM) (K_chk fun hb_ => (K_ite (K_chk fun hb_ => (K_ltV fun _ => (K_ite (hA_fX3_release_J48 hM (by omega)) (K_ite (hA_fX3_release_J48 hM (by omega)) (K_chk fun hb_ => (K_chk fun hb_ => (K_ltM (K_wrA hM (by omega)) fun _ h56 => (hA_fX3_release_J48 h56 (by omega))))))))) (K_sM hM)))))
theorem hA_fX3_gainFarm {M : Mc} {q : Nat} {p0 : Int32} (hM : KA u v y W M) (h_q : q = 32 ∨ q = 79) : KG gM (KA u v y W) (fX3_gainFarm M q p0) := by
  unfold fX3_gainFarm
  exact (K_bndV fun _ => (K_ite (K_sM hM) (K_bndM (hA_fX3_release hM (by omega)) fun _ h57 => (K_chk fun hb_ => (K_chk fun hb_ => (K_ltM (K_wrA h57 (by omega)) fun _ h58 => (K_chk fun hb_ => (K_ltM (K_wrA h58 (by omega)) fun _ h59 => (K_sM h59)))))))))
theorem hA_fX3_loseFarm_J67 {q : Nat} {K38 : Mc → Int32 → Int32 → Option (Mc)} {M : Mc} {X1 : Int32} {X2 : Int32} (hM : KA u v y W M) (h_q : q = 32 ∨ q = 79) (hK38 : ∀ (y0 : Mc) (y1 : Int32) (y2 : Int32), KA u v y W y0 → KG gM (KA u v y W) (K38 y0 y1 y2)) : KG gM (KA u v y W) (fX3_loseFarm_J67 q K38 M X1 X2) := by
  unfold fX3_loseFarm_J67
  exact (hK38 _ _ _ hM)
theorem hA_fX3_loseFarm_L38 {q : Nat} (h_q : q = 32 ∨ q = 79) : ∀ (n : Nat) (M : Mc) (X1 : Int32) (X2 : Int32), KA u v y W M → KG gM (KA u v y W) (fX3_loseFarm_L38 q n M X1 X2)  := by
  intro n
  induction n with
  | zero => intros; rw [fX3_loseFarm_L38]; exact K_none
  | succ n ih =>
    intro M X1 X2 hM
    rw [fX3_loseFarm_L38]
    exact (K_ite (K_sM hM) (K_ite (K_sM hM) (K_chk fun hb_ => (K_ite (K_bndM (hA_fX3_release hM (by omega)) fun _ h60 => (hA_fX3_loseFarm_J67 h60 (by omega) (fun _ _ _ hc_ => (ih _ _ _ hc_)))) (hA_fX3_loseFarm_J67 hM (by omega) (fun _ _ _ hc_ => (ih _ _ _ hc_)))))))
theorem hA_fX3_loseFarm {M : Mc} {q : Nat} {p0 : Int32} (hM : KA u v y W M) (h_q : q = 32 ∨ q = 79) : KG gM (KA u v y W) (fX3_loseFarm M q p0) := by
  unfold fX3_loseFarm
  exact (K_bndV fun _ => (K_ite (K_sM hM) (K_chk fun hb_ => (K_chk fun hb_ => (K_ltM (K_wrA hM (by omega)) fun _ h61 => (K_chk fun hb_ => (K_ite (K_chk fun hb_ => (K_ltM (K_wrA h61 (by omega)) fun _ h62 => (hA_fX3_loseFarm_L38 (by omega) _ _ _ _ h62))) (K_sM h61))))))))
theorem hA_fX3_hireBy {M : Mc} {q : Nat} {p0 : Int32} {p1 : Int32} (hM : KA u v y W M) (h_q : q = 32 ∨ q = 79) : KG gM (KA u v y W) (fX3_hireBy M q p0 p1) := by
  unfold fX3_hireBy
  exact (K_bndV fun _ => (K_ite (K_sM hM) (K_bndV fun _ => (K_ite (K_sM hM) (K_chk fun hb_ => (K_chk fun hb_ => (K_ltM (K_wrA hM (by omega)) fun _ h63 => (K_chk fun hb_ => (K_ltM (K_wrA h63 (by omega)) fun _ h64 => (K_chk fun hb_ => (K_ltM (K_wrA h64 (by omega)) fun _ h65 => (K_sM h65))))))))))))
theorem hA_fX3_payWage {M : Mc} {q : Nat} {p0 : Int32} {p1 : Int32} (hM : KA u v y W M) (h_q : q = 32 ∨ q = 79) : KG gM (KA u v y W) (fX3_payWage M q p0 p1) := by
  unfold fX3_payWage
  exact (K_bndV fun _ => (K_ite (K_sM hM) (K_chk fun hb_ => (K_ltV fun _ => (K_bndV fun _ => (K_ite (K_bndM (hA_fX3_release hM (by omega)) fun _ h66 => (K_sM h66)) (K_bndM (hA_fX3_spend hM (by omega)) fun _ h67 => (K_bndM (hA_fX3_earn h67 (by omega)) fun _ h68 => (K_sM h68)))))))))
theorem hA_fX3_starve {M : Mc} {q : Nat} {p0 : Int32} (hM : KA u v y W M) (h_q : q = 79) : KG gM (KA u v y W) (fX3_starve M q p0) := by
  unfold fX3_starve
  exact (K_bndV fun _ => (K_ite (K_sM hM) (K_chk fun hb_ => (K_chk fun hb_ => (K_ltM (K_wrA hM (by omega)) fun _ h69 => (K_ltM (K_wrA h69 (by omega)) fun _ h70 => (K_sM h70)))))))
theorem hA_fX4_copyFrom_L127 {g : Nat} {g2 : Nat} (h_g : g = 65) : ∀ (n : Nat) (M : Mc) (X2 : Int32), KA u v y W M → KG gM (KA u v y W) (fX4_copyFrom_L127 g g2 n M X2)  := by
  intro n
  induction n with
  | zero => intros; rw [fX4_copyFrom_L127]; exact K_none
  | succ n ih =>
    intro M X2 hM
    rw [fX4_copyFrom_L127]
    exact (K_ite (K_ltM (K_wrA hM (by omega)) fun _ h71 => (K_cpyA h71 (by omega) fun _ h72 => (K_cpyA h72 (by omega) fun _ h73 => (K_cpyA h73 (by omega) fun _ h74 => (K_sM h74))))) (K_chk fun hb_ => (K_chk fun hb_ => (K_ltM (K_wrA hM (by omega)) fun _ h75 => (ih _ _ h75)))))
theorem hA_fX4_copyFrom {M : Mc} {g : Nat} {g2 : Nat} (hM : KA u v y W M) (h_g : g = 65) : KG gM (KA u v y W) (fX4_copyFrom M g g2) := by
  unfold fX4_copyFrom
  exact (K_cpyA hM (by omega) fun _ h76 => (K_cpyA h76 (by omega) fun _ h77 => (K_cpyA h77 (by omega) fun _ h78 => (K_cpyA h78 (by omega) fun _ h79 => (K_cpyA h79 (by omega) fun _ h80 => (K_cpyA h80 (by omega) fun _ h81 => (K_cpyA h81 (by omega) fun _ h82 => (K_cpyA h82 (by omega) fun _ h83 => (hA_fX4_copyFrom_L127 (by omega) _ _ _ h83)))))))))
theorem hA_fX4_shape_J33 {g : Nat} {M : Mc} {X2 : Int32} {Z0 : Int32} {Z1 : Int32} {Z2 : Int32} (hM : KA u v y W M) (h_g : g = 18 ∨ g = 65) : KG gP (KA u v y W) (fX4_shape_J33 g M X2 Z0 Z1 Z2) := by
  unfold fX4_shape_J33
  exact (K_chk fun hb_ => (K_ltM (K_wrA hM (by omega)) fun _ h84 => (K_sP h84)))
theorem hA_fX4_shape {M : Mc} {g : Nat} {p0 : Int32} {p1 : Int32} {p2 : Int32} (hM : KA u v y W M) (h_g : g = 18 ∨ g = 65) : KG gP (KA u v y W) (fX4_shape M g p0 p1 p2) := by
  unfold fX4_shape
  exact (K_bndV fun _ => (K_ite (K_sP hM) (K_chk fun hb_ => (K_ltM (K_wrA hM (by omega)) fun _ h85 => (K_ite (hA_fX4_shape_J33 h85 (by omega)) (hA_fX4_shape_J33 h85 (by omega)))))))
theorem hA_fX4_open_J41 {g : Nat} {M : Mc} {X1 : Int32} (hM : KA u v y W M) (h_g : g = 18 ∨ g = 65) : KG gM (KA u v y W) (fX4_open_J41 g M X1) := by
  unfold fX4_open_J41
  exact (K_chk fun hb_ => (K_ltM (K_wrA hM (by omega)) fun _ h86 => (K_chk fun hb_ => (K_ltM (K_wrA h86 (by omega)) fun _ h87 => (K_chk fun hb_ => (K_ltM (K_wrA h87 (by omega)) fun _ h88 => (K_chk fun hb_ => (K_ltM (K_wrA h88 (by omega)) fun _ h89 => (K_chk fun hb_ => (K_ltM (K_wrA h89 (by omega)) fun _ h90 => (K_chk fun hb_ => (K_ltM (K_wrA h90 (by omega)) fun _ h91 => (K_chk fun hb_ => (K_ltM (K_wrA h91 (by omega)) fun _ h92 => (K_sM h92)))))))))))))))
theorem hA_fX4_open_J31 {g : Nat} {M : Mc} {X1 : Int32} (hM : KA u v y W M) (h_g : g = 18 ∨ g = 65) : KG gM (KA u v y W) (fX4_open_J31 g M X1) := by
  unfold fX4_open_J31
  exact (K_ltM (K_wrA hM (by omega)) fun _ h93 => (hA_fX4_open_J41 h93 (by omega)))
theorem hA_fX4_open {M : Mc} {g : Nat} {p0 : Int32} (hM : KA u v y W M) (h_g : g = 18 ∨ g = 65) : KG gM (KA u v y W) (fX4_open M g p0) := by
  unfold fX4_open
  exact (K_ite (K_sM hM) (K_ite (K_chk fun hb_ => (K_ite (hA_fX4_open_J31 hM (by omega)) (K_chk fun hb_ => (K_ite (hA_fX4_open_J31 hM (by omega)) (hA_fX4_open_J41 hM (by omega)))))) (K_sM hM)))
theorem hA_fX4_dig {M : Mc} {g : Nat} {p0 : Int32} (hM : KA u v y W M) (h_g : g = 18 ∨ g = 65) : KG gM (KA u v y W) (fX4_dig M g p0) := by
  unfold fX4_dig
  exact (K_bndV fun _ => (K_ite (K_sM hM) (K_chk fun hb_ => (K_chk fun hb_ => (K_ltM (K_wrA hM (by omega)) fun _ h94 => (K_chk fun hb_ => (K_ite (K_sM h94) (K_bndM (hA_fX4_open h94 (by omega)) fun _ h95 => (K_sM h95)))))))))
theorem hA_fX4_giveFarm {M : Mc} {g : Nat} {p0 : Int32} {p1 : Int32} {p2 : Int32} {p3 : Int32} {p4 : Int32} (hM : KA u v y W M) (h_g : g = 18 ∨ g = 65) : KG gM (KA u v y W) (fX4_giveFarm M g p0 p1 p2 p3 p4) := by
  unfold fX4_giveFarm
  exact (K_bndV fun _ => (K_ite (K_sM hM) (K_bndM (hA_fX4_open hM (by omega)) fun _ h96 => (K_chk fun hb_ => (K_ltM (K_wrA h96 (by omega)) fun _ h97 => (K_chk fun hb_ => (K_ltM (K_wrA h97 (by omega)) fun _ h98 => (K_chk fun hb_ => (K_ltM (K_wrA h98 (by omega)) fun _ h99 => (K_chk fun hb_ => (K_ltM (K_wrA h99 (by omega)) fun _ h100 => (K_ltM (K_wrA h100 (by omega)) fun _ h101 => (K_sM h101)))))))))))))
theorem hA_fX4_giveSquat {M : Mc} {g : Nat} {p0 : Int32} {p1 : Int32} (hM : KA u v y W M) (h_g : g = 18 ∨ g = 65) : KG gM (KA u v y W) (fX4_giveSquat M g p0 p1) := by
  unfold fX4_giveSquat
  exact (K_bndV fun _ => (K_ite (K_sM hM) (K_bndM (hA_fX4_open hM (by omega)) fun _ h102 => (K_chk fun hb_ => (K_ltM (K_wrA h102 (by omega)) fun _ h103 => (K_chk fun hb_ => (K_ltM (K_wrA h103 (by omega)) fun _ h104 => (K_sM h104))))))))
theorem hA_fX4_lease_J24 {g : Nat} {M : Mc} {X1 : Int32} {X2 : Int32} {X3 : Int32} (hM : KA u v y W M) (h_g : g = 18 ∨ g = 65) : KG gM (KA u v y W) (fX4_lease_J24 g M X1 X2 X3) := by
  unfold fX4_lease_J24
  exact (K_chk fun hb_ => (K_ltM (K_wrA hM (by omega)) fun _ h105 => (K_chk fun hb_ => (K_ltM (K_wrA h105 (by omega)) fun _ h106 => (K_chk fun hb_ => (K_ltM (K_wrA h106 (by omega)) fun _ h107 => (K_sM h107)))))))
theorem hA_fX4_lease {M : Mc} {g : Nat} {p0 : Int32} {p1 : Int32} {p2 : Int32} (hM : KA u v y W M) (h_g : g = 18 ∨ g = 65) : KG gM (KA u v y W) (fX4_lease M g p0 p1 p2) := by
  unfold fX4_lease
  exact (K_bndV fun _ => (K_ite (K_sM hM) (K_bndV fun _ => (K_ite (K_bndM (hA_fX4_open hM (by omega)) fun _ h108 => (hA_fX4_lease_J24 h108 (by omega))) (hA_fX4_lease_J24 hM (by omega))))))
theorem hA_fX4_addStock_J19 {g : Nat} {M : Mc} {X1 : Int32} (hM : KA u v y W M) (h_g : g = 18 ∨ g = 65) : KG gP (KA u v y W) (fX4_addStock_J19 g M X1) := by
  unfold fX4_addStock_J19
  exact (K_bndV fun _ => (K_sP hM))
theorem hA_fX4_addStock {M : Mc} {g : Nat} {p0 : Int32} {p1 : Int32} (hM : KA u v y W M) (h_g : g = 18 ∨ g = 65) : KG gP (KA u v y W) (fX4_addStock M g p0 p1) := by
  unfold fX4_addStock
  exact (K_bndV fun _ => (K_ite (hA_fX4_addStock_J19 hM (by omega)) (K_chk fun hb_ => (K_chk fun hb_ => (K_ltM (K_wrA hM (by omega)) fun _ h109 => (hA_fX4_addStock_J19 h109 (by omega)))))))
theorem hA_fX4_putFence {M : Mc} {g : Nat} {p0 : Int32} (hM : KA u v y W M) (h_g : g = 18 ∨ g = 65) : KG gM (KA u v y W) (fX4_putFence M g p0) := by
  unfold fX4_putFence
  exact (K_bndV fun _ => (K_ite (K_sM hM) (K_chk fun hb_ => (K_ltM (K_wrA hM (by omega)) fun _ h110 => (K_sM h110)))))
theorem hA_fX4_endRuns_J33 {g : Nat} {K2 : Mc → Int32 → Int32 → Option (Mc)} {M : Mc} {X1 : Int32} {X2 : Int32} (hM : KA u v y W M) (h_g : g = 18 ∨ g = 65) (hK2 : ∀ (y0 : Mc) (y1 : Int32) (y2 : Int32), KA u v y W y0 → KG gM (KA u v y W) (K2 y0 y1 y2)) : KG gM (KA u v y W) (fX4_endRuns_J33 g K2 M X1 X2) := by
  unfold fX4_endRuns_J33
  exact (hK2 _ _ _ hM)
theorem hA_fX4_endRuns_L2 {g : Nat} (h_g : g = 18 ∨ g = 65) : ∀ (n : Nat) (M : Mc) (X1 : Int32) (X2 : Int32), KA u v y W M → KG gM (KA u v y W) (fX4_endRuns_L2 g n M X1 X2)  := by
  intro n
  induction n with
  | zero => intros; rw [fX4_endRuns_L2]; exact K_none
  | succ n ih =>
    intro M X1 X2 hM
    rw [fX4_endRuns_L2]
    exact (K_ite (K_sM hM) (K_chk fun hb_ => (K_ite (K_chk fun hb_ => (K_ite (K_bndM (hA_fX4_open hM (by omega)) fun _ h111 => (hA_fX4_endRuns_J33 h111 (by omega) (fun _ _ _ hc_ => (ih _ _ _ hc_)))) (hA_fX4_endRuns_J33 hM (by omega) (fun _ _ _ hc_ => (ih _ _ _ hc_))))) (hA_fX4_endRuns_J33 hM (by omega) (fun _ _ _ hc_ => (ih _ _ _ hc_))))))
theorem hA_fX4_endRuns {M : Mc} {g : Nat} {p0 : Int32} (hM : KA u v y W M) (h_g : g = 18 ∨ g = 65) : KG gM (KA u v y W) (fX4_endRuns M g p0) := by
  unfold fX4_endRuns
  exact (hA_fX4_endRuns_L2 (by omega) _ _ _ _ hM)
theorem hA_fX4_breed_J43 {g : Nat} {K2 : Mc → Int32 → Option (Mc)} {M : Mc} {X1 : Int32} (hM : KA u v y W M) (h_g : g = 18 ∨ g = 65) (hK2 : ∀ (y0 : Mc) (y1 : Int32), KA u v y W y0 → KG gM (KA u v y W) (K2 y0 y1)) : KG gM (KA u v y W) (fX4_breed_J43 g K2 M X1) := by
  unfold fX4_breed_J43
  exact (hK2 _ _ hM)
theorem hA_fX4_breed_L2 {g : Nat} (h_g : g = 18 ∨ g = 65) : ∀ (n : Nat) (M : Mc) (X1 : Int32), KA u v y W M → KG gM (KA u v y W) (fX4_breed_L2 g n M X1)  := by
  intro n
  induction n with
  | zero => intros; rw [fX4_breed_L2]; exact K_none
  | succ n ih =>
    intro M X1 hM
    rw [fX4_breed_L2]
    exact (K_ite (K_sM hM) (K_bndV fun _ => (K_ite (hA_fX4_breed_J43 hM (by omega) (fun _ _ hc_ => (ih _ _ hc_))) (K_chk fun hb_ => (K_chk fun hb_ => (K_chk fun hb_ => (K_ltM (K_wrA hM (by omega)) fun _ h112 => (hA_fX4_breed_J43 h112 (by omega) (fun _ _ hc_ => (ih _ _ hc_))))))))))
theorem hA_fX4_breed {M : Mc} {g : Nat} (hM : KA u v y W M) (h_g : g = 18 ∨ g = 65) : KG gM (KA u v y W) (fX4_breed M g) := by
  unfold fX4_breed
  exact (hA_fX4_breed_L2 (by omega) _ _ _ hM)
theorem hA_fX4_wet {M : Mc} {g : Nat} {p0 : Int32} {p1 : Int32} (hM : KA u v y W M) (h_g : g = 18 ∨ g = 65) : KG gM (KA u v y W) (fX4_wet M g p0 p1) := by
  unfold fX4_wet
  exact (K_bndV fun _ => (K_ite (K_sM hM) (K_chk fun hb_ => (K_chk fun hb_ => (K_ltM (K_wrA hM (by omega)) fun _ h113 => (K_sM h113))))))
theorem hA_fX4_seeZones_J40 {g : Nat} {K2 : Mc → Int32 → Option (Mc)} {M : Mc} {X1 : Int32} (hM : KA u v y W M) (h_g : g = 18 ∨ g = 65) (hK2 : ∀ (y0 : Mc) (y1 : Int32), KA u v y W y0 → KG gM (KA u v y W) (K2 y0 y1)) : KG gM (KA u v y W) (fX4_seeZones_J40 g K2 M X1) := by
  unfold fX4_seeZones_J40
  exact (hK2 _ _ hM)
theorem hA_fX4_seeZones_L2 {g : Nat} (h_g : g = 18 ∨ g = 65) : ∀ (n : Nat) (M : Mc) (X1 : Int32), KA u v y W M → KG gM (KA u v y W) (fX4_seeZones_L2 g n M X1)  := by
  intro n
  induction n with
  | zero => intros; rw [fX4_seeZones_L2]; exact K_none
  | succ n ih =>
    intro M X1 hM
    rw [fX4_seeZones_L2]
    exact (K_ite (K_sM hM) (K_bndV fun _ => (K_ite (hA_fX4_seeZones_J40 hM (by omega) (fun _ _ hc_ => (ih _ _ hc_))) (K_chk fun hb_ => (K_chk fun hb_ => (K_ltM (K_wrA hM (by omega)) fun _ h114 => (K_chk fun hb_ => (K_chk fun hb_ => (K_chk fun hb_ => (K_ltM (K_wrA h114 (by omega)) fun _ h115 => (hA_fX4_seeZones_J40 h115 (by omega) (fun _ _ hc_ => (ih _ _ hc_)))))))))))))
theorem hA_fX4_seeZones {M : Mc} {g : Nat} (hM : KA u v y W M) (h_g : g = 18 ∨ g = 65) : KG gM (KA u v y W) (fX4_seeZones M g) := by
  unfold fX4_seeZones
  exact (hA_fX4_seeZones_L2 (by omega) _ _ _ hM)
theorem hA_fX4_newYear {M : Mc} {g : Nat} (hM : KA u v y W M) (h_g : g = 18 ∨ g = 65) : KG gM (KA u v y W) (fX4_newYear M g) := by
  unfold fX4_newYear
  exact (K_bndM (hA_fJ7_fill_53178 hM (by omega)) fun _ h116 => (K_sM h116))
theorem hA_fX5_copyFrom {M : Mc} {pa : Nat} {pa2 : Nat} (hM : KA u v y W M) (h_pa : pa = 91) : KG gM (KA u v y W) (fX5_copyFrom M pa pa2) := by
  unfold fX5_copyFrom
  exact (K_ltM (K_wrA hM (by omega)) fun _ h117 => (K_cpyA h117 (by omega) fun _ h118 => (K_cpyA h118 (by omega) fun _ h119 => (K_cpyA h119 (by omega) fun _ h120 => (K_cpyA h120 (by omega) fun _ h121 => (K_sM h121))))))
theorem hA_fX5_add {M : Mc} {pa : Nat} {p0 : Int32} (hM : KA u v y W M) (h_pa : pa = 44 ∨ pa = 91) : KG gP (KA u v y W) (fX5_add M pa p0) := by
  unfold fX5_add
  exact (K_bndV fun _ => (K_ite (K_sP hM) (K_chk fun hb_ => (K_ltM (K_wrA hM (by omega)) fun _ h122 => (K_ltM (K_wrA h122 (by omega)) fun _ h123 => (K_sP h123))))))
theorem hA_fX5_send {M : Mc} {pa : Nat} {p0 : Int32} {p1 : Int32} (hM : KA u v y W M) (h_pa : pa = 44 ∨ pa = 91) : KG gP (KA u v y W) (fX5_send M pa p0 p1) := by
  unfold fX5_send
  exact (K_bndV fun _ => (K_ite (K_sP hM) (K_chk fun hb_ => (K_bndV fun _ => (K_ite (K_sP hM) (K_chk fun hb_ => (K_chk fun hb_ => (K_ltM (K_wrA hM (by omega)) fun _ h124 => (K_chk fun hb_ => (K_chk fun hb_ => (K_ltM (K_wrA h124 (by omega)) fun _ h125 => (K_chk fun hb_ => (K_sP h125)))))))))))))
theorem hA_fX5_dropDone_L11 {pa : Nat} {g : Nat} (h_pa : pa = 44 ∨ pa = 91) (h_g : g = 18 ∨ g = 65) : ∀ (n : Nat) (M : Mc) (X1 : Int32) (X3 : Int32), KA u v y W M → KG gM (KA u v y W) (fX5_dropDone_L11 pa g n M X1 X3)  := by
  intro n
  induction n with
  | zero => intros; rw [fX5_dropDone_L11]; exact K_none
  | succ n ih =>
    intro M X1 X3 hM
    rw [fX5_dropDone_L11]
    exact (K_ite (K_sM hM) (K_chk fun hb_ => (K_ite (K_sM hM) (K_bndV fun _ => (K_bndV fun _ => (K_ite (K_cpyA hM (by omega) fun _ h126 => (K_chk fun hb_ => (K_chk fun hb_ => (K_ltM (K_wrA h126 (by omega)) fun _ h127 => (ih _ _ _ h127))))) (K_sM hM)))))))
theorem hA_fX5_dropDone {M : Mc} {pa : Nat} {g : Nat} {p0 : Int32} (hM : KA u v y W M) (h_pa : pa = 44 ∨ pa = 91) (h_g : g = 18 ∨ g = 65) : KG gM (KA u v y W) (fX5_dropDone M pa g p0) := by
  unfold fX5_dropDone
  exact (K_bndV fun _ => (K_ite (K_sM hM) (hA_fX5_dropDone_L11 (by omega) (by omega) _ _ _ _ hM)))
theorem hA_fX5_goMile_J106 {pa : Nat} {g : Nat} {M : Mc} {Z0 : Int32} {Z1 : Int32} {Z2 : Int32} (hM : KA u v y W M) (h_pa : pa = 44 ∨ pa = 91) (h_g : g = 18 ∨ g = 65) : KG gM (KA u v y W) (fX5_goMile_J106 pa g M Z0 Z1 Z2) := by
  unfold fX5_goMile_J106
  exact (K_chk fun hb_ => (K_ltM (K_wrA hM (by omega)) fun _ h128 => (K_sM h128)))
theorem hA_fX5_goMile_J77 {pa : Nat} {g : Nat} {M : Mc} {Z0 : Int32} {Z1 : Int32} {Z2 : Int32} (hM : KA u v y W M) (h_pa : pa = 44 ∨ pa = 91) (h_g : g = 18 ∨ g = 65) : KG gM (KA u v y W) (fX5_goMile_J77 pa g M Z0 Z1 Z2) := by
  unfold fX5_goMile_J77
  exact (K_chk fun hb_ => (K_ltM (K_wrA hM (by omega)) fun _ h129 => (K_sM h129)))
theorem hA_fX5_goMile {M : Mc} {pa : Nat} {g : Nat} {p0 : Int32} (hM : KA u v y W M) (h_pa : pa = 44 ∨ pa = 91) (h_g : g = 18 ∨ g = 65) : KG gM (KA u v y W) (fX5_goMile M pa g p0) := by
  unfold fX5_goMile
  exact (K_bndV fun _ => (K_ite (K_sM hM) (K_bndV fun _ => (K_chk fun hb_ => (K_ite (K_bndM (hA_fX4_dig hM (by omega)) fun _ h130 => (K_sM h130)) (K_chk fun hb_ => (K_ite (K_chk fun hb_ => (K_chk fun hb_ => (K_ite (hA_fX5_goMile_J106 hM (by omega) (by omega)) (hA_fX5_goMile_J106 hM (by omega) (by omega))))) (K_chk fun hb_ => (K_chk fun hb_ => (K_ite (hA_fX5_goMile_J77 hM (by omega) (by omega)) (hA_fX5_goMile_J77 hM (by omega) (by omega))))))))))))
theorem hA_fX5_goOut_J65 {pa : Nat} {g : Nat} {K7 : Mc → Int32 → Option (Mc)} {M : Mc} {X2 : Int32} (hM : KA u v y W M) (h_pa : pa = 44 ∨ pa = 91) (h_g : g = 18 ∨ g = 65) (hK7 : ∀ (y0 : Mc) (y1 : Int32), KA u v y W y0 → KG gM (KA u v y W) (K7 y0 y1)) : KG gM (KA u v y W) (fX5_goOut_J65 pa g K7 M X2) := by
  unfold fX5_goOut_J65
  exact (hK7 _ _ hM)
theorem hA_fX5_goOut_L27 {pa : Nat} {g : Nat} {K7 : Mc → Int32 → Option (Mc)} (h_pa : pa = 44 ∨ pa = 91) (h_g : g = 18 ∨ g = 65) (hK7 : ∀ (y0 : Mc) (y1 : Int32), KA u v y W y0 → KG gM (KA u v y W) (K7 y0 y1)) : ∀ (n : Nat) (M : Mc) (X2 : Int32) (X3 : Int32), KA u v y W M → KG gM (KA u v y W) (fX5_goOut_L27 pa g K7 n M X2 X3)  := by
  intro n
  induction n with
  | zero => intros; rw [fX5_goOut_L27]; exact K_none
  | succ n ih =>
    intro M X2 X3 hM
    rw [fX5_goOut_L27]
    exact (K_ite (hA_fX5_goOut_J65 hM (by omega) (by omega) hK7) (K_bndM (hA_fX5_dropDone hM (by omega) (by omega)) fun _ h131 => (K_ite (hA_fX5_goOut_J65 h131 (by omega) (by omega) hK7) (K_chk fun hb_ => (K_ite (K_bndM (hA_fX5_goMile h131 (by omega) (by omega)) fun _ h132 => (ih _ _ _ h132)) (hA_fX5_goOut_J65 h131 (by omega) (by omega) hK7))))))
theorem hA_fX5_goOut_L7 {pa : Nat} {g : Nat} (h_pa : pa = 44 ∨ pa = 91) (h_g : g = 18 ∨ g = 65) : ∀ (n : Nat) (M : Mc) (X2 : Int32), KA u v y W M → KG gM (KA u v y W) (fX5_goOut_L7 pa g n M X2)  := by
  intro n
  induction n with
  | zero => intros; rw [fX5_goOut_L7]; exact K_none
  | succ n ih =>
    intro M X2 hM
    rw [fX5_goOut_L7]
    exact (K_ite (K_sM hM) (K_ite (K_sM hM) (K_chk fun hb_ => (K_ltV fun _ => (hA_fX5_goOut_L27 (by omega) (by omega) (fun _ _ hc_ => (ih _ _ hc_)) _ _ _ _ hM)))))
theorem hA_fX5_goOut {M : Mc} {pa : Nat} {g : Nat} (hM : KA u v y W M) (h_pa : pa = 44 ∨ pa = 91) (h_g : g = 18 ∨ g = 65) : KG gM (KA u v y W) (fX5_goOut M pa g) := by
  unfold fX5_goOut
  exact (hA_fX5_goOut_L7 (by omega) (by omega) _ _ _ hM)
theorem hA_fX9_hear {M : Mc} {p0 : Int32} (hM : KA u v y W M) : KG gP (KA u v y W) (fX9_hear M p0) := by
  unfold fX9_hear
  exact (K_ite (K_sP hM) (K_bndV fun _ => (K_ite (K_sP hM) (K_chk fun hb_ => (K_ltM (K_wrA hM (by omega)) fun _ h133 => (K_ltM (K_wrA h133 (by omega)) fun _ h134 => (K_sP h134)))))))
theorem hA_fX9_drawOne_J98 {M : Mc} (hM : KA u v y W M) : KG gM (KA u v y W) (fX9_drawOne_J98 M) := by
  unfold fX9_drawOne_J98
  exact (K_ltM (K_wrA hM (by omega)) fun _ h135 => (K_sM h135))
theorem hA_fX9_drawOne_L60   : ∀ (n : Nat) (M : Mc) (X2 : Int32), KA u v y W M → KG gM (KA u v y W) (fX9_drawOne_L60 n M X2)  := by
  intro n
  induction n with
  | zero => intros; rw [fX9_drawOne_L60]; exact K_none
  | succ n ih =>
    intro M X2 hM
    rw [fX9_drawOne_L60]
    exact (K_ite (hA_fX9_drawOne_J98 hM ) (K_ite (hA_fX9_drawOne_J98 hM ) (K_chk fun hb_ => (K_chk fun hb_ => (K_ltM (K_wrA hM (by omega)) fun _ h136 => (ih _ _ h136))))))
theorem hA_fX9_drawOne {M : Mc} {p0 : Int32} (hM : KA u v y W M) : KG gM (KA u v y W) (fX9_drawOne M p0) := by
  unfold fX9_drawOne
  exact (K_bndV fun _ => (K_ite (K_sM hM) (K_bndV fun _ => (K_ite (K_sM hM) (K_bndV fun _ => (K_ite (K_sM hM) (K_chk fun hb_ => (K_chk fun hb_ => (K_ltM (K_wrA hM (by omega)) fun _ h137 => (K_ltM (K_wrA h137 (by omega)) fun _ h138 => (hA_fX9_drawOne_L60  _ _ _ h138)))))))))))
theorem hA_fX9_drawBy_L10   : ∀ (n : Nat) (M : Mc) (X2 : Int32) (X3 : Int32) (X4 : Int32), KA u v y W M → KG gP (KA u v y W) (fX9_drawBy_L10 n M X2 X3 X4)  := by
  intro n
  induction n with
  | zero => intros; rw [fX9_drawBy_L10]; exact K_none
  | succ n ih =>
    intro M X2 X3 X4 hM
    rw [fX9_drawBy_L10]
    exact (K_ite (K_sP hM) (K_bndV fun _ => (K_ite (K_chz (K_bndM (hA_fX9_drawOne hM ) fun _ h139 => (K_chz (K_ltV fun _ => (ih _ _ _ _ h139))))) (K_sP hM))))
theorem hA_fX9_drawBy {M : Mc} {p0 : Int32} (hM : KA u v y W M) : KG gP (KA u v y W) (fX9_drawBy M p0) := by
  unfold fX9_drawBy
  exact (K_ltV fun _ => (hA_fX9_drawBy_L10  _ _ _ _ _ hM))
theorem hA_fX6_take_J106 {g : Nat} {q : Nat} {M : Mc} {N : Md} (hM : KA u v y W M) (h_g : g = 18 ∨ g = 65) (h_q : q = 32 ∨ q = 79) : KG gL (KA u v y W) (fX6_take_J106 g q M N) := by
  unfold fX6_take_J106
  exact (K_bndV fun _ => (K_ltV fun _ => (K_bndV fun _ => (K_ltV fun _ => (K_sL hM)))))
theorem hA_fX6_take_L63 {g : Nat} {q : Nat} (h_g : g = 18 ∨ g = 65) (h_q : q = 32 ∨ q = 79) : ∀ (n : Nat) (M : Mc) (N : Md) (X3 : Int32), KA u v y W M → KG gL (KA u v y W) (fX6_take_L63 g q n M N X3)  := by
  intro n
  induction n with
  | zero => intros; rw [fX6_take_L63]; exact K_none
  | succ n ih =>
    intro M N X3 hM
    rw [fX6_take_L63]
    exact (K_ite (hA_fX6_take_J106 hM (by omega) (by omega)) (K_ite (hA_fX6_take_J106 hM (by omega) (by omega)) (K_bndV fun _ => (K_bndV fun _ => (K_chk fun hb_ => (K_ltM (K_wrA hM (by omega)) fun _ h140 => (ih _ _ _ h140)))))))
theorem hA_fX6_take_L26 {g : Nat} {q : Nat} (h_g : g = 18 ∨ g = 65) (h_q : q = 32 ∨ q = 79) : ∀ (n : Nat) (M : Mc) (N : Md) (X3 : Int32), KA u v y W M → KG gL (KA u v y W) (fX6_take_L26 g q n M N X3)  := by
  intro n
  induction n with
  | zero => intros; rw [fX6_take_L26]; exact K_none
  | succ n ih =>
    intro M N X3 hM
    rw [fX6_take_L26]
    exact (K_ite (hA_fX6_take_L63 (by omega) (by omega) _ _ _ _ hM) (K_bndV fun _ => (K_bndV fun _ => (K_chk fun hb_ => (K_ltM (K_wrA hM (by omega)) fun _ h141 => (ih _ _ _ h141))))))
theorem hA_fX6_take {M : Mc} {N : Md} {g : Nat} {q : Nat} (hM : KA u v y W M) (h_g : g = 18 ∨ g = 65) (h_q : q = 32 ∨ q = 79) : KG gL (KA u v y W) (fX6_take M N g q) := by
  unfold fX6_take
  exact (K_ltM (K_wrA hM (by omega)) fun _ h142 => (hA_fX6_take_L26 (by omega) (by omega) _ _ _ _ h142))
theorem hA_fX6_alter {M : Mc} {p0 : Int32} {p1 : Int32} (hM : KA u v y W M) : KG gP (KA u v y W) (fX6_alter M p0 p1) := by
  unfold fX6_alter
  exact (K_bndV fun _ => (K_ite (K_sP hM) (K_bndV fun _ => (K_ite (K_sP hM) (K_chk fun hb_ => (K_chk fun hb_ => (K_ltM (K_wrA hM (by omega)) fun _ h143 => (K_chk fun hb_ => (K_sP h143)))))))))
theorem hA_fX8_value_J275 {z : Nat} {k0 : Nat} {k1 : Nat} {K50 : Mc → Int32 → Int32 → Int32 → Option (Int32 × Mc)} {M : Mc} {X1 : Int32} {X5 : Int32} {X8 : Int32} (hM : KA u v y W M) (h_k0 : k0 ≠ 17 ∧ k0 ≠ 32 ∧ k0 ≠ 0 ∧ k0 ≠ 16) (h_k1 : k1 ≠ 17 ∧ k1 ≠ 32 ∧ k1 ≠ 0 ∧ k1 ≠ 16) (hK50 : ∀ (y0 : Mc) (y1 : Int32) (y2 : Int32) (y3 : Int32), KA u v y W y0 → KG gP (KA u v y W) (K50 y0 y1 y2 y3)) : KG gP (KA u v y W) (fX8_value_J275 z k0 k1 K50 M X1 X5 X8) := by
  unfold fX8_value_J275
  exact (K_ltV fun _ => (hK50 _ _ _ _ hM))
theorem hA_fX8_value_J252 {z : Nat} {k0 : Nat} {k1 : Nat} {K50 : Mc → Int32 → Int32 → Int32 → Option (Int32 × Mc)} {M : Mc} {X1 : Int32} {X5 : Int32} {X8 : Int32} {Z0 : Int32} {Z1 : Int32} (hM : KA u v y W M) (h_k0 : k0 ≠ 17 ∧ k0 ≠ 32 ∧ k0 ≠ 0 ∧ k0 ≠ 16) (h_k1 : k1 ≠ 17 ∧ k1 ≠ 32 ∧ k1 ≠ 0 ∧ k1 ≠ 16) (hK50 : ∀ (y0 : Mc) (y1 : Int32) (y2 : Int32) (y3 : Int32), KA u v y W y0 → KG gP (KA u v y W) (K50 y0 y1 y2 y3)) : KG gP (KA u v y W) (fX8_value_J252 z k0 k1 K50 M X1 X5 X8 Z0 Z1) := by
  unfold fX8_value_J252
  exact (K_chk fun hb_ => (K_ltM (K_wrA hM (by omega)) fun _ h144 => (hA_fX8_value_J275 h144 (by omega) (by omega) hK50)))
theorem hA_fX8_value_J217 {z : Nat} {k0 : Nat} {k1 : Nat} {K50 : Mc → Int32 → Int32 → Int32 → Option (Int32 × Mc)} {M : Mc} {X1 : Int32} {X5 : Int32} {X8 : Int32} {Z0 : Int32} {Z1 : Int32} (hM : KA u v y W M) (h_k0 : k0 ≠ 17 ∧ k0 ≠ 32 ∧ k0 ≠ 0 ∧ k0 ≠ 16) (h_k1 : k1 ≠ 17 ∧ k1 ≠ 32 ∧ k1 ≠ 0 ∧ k1 ≠ 16) (hK50 : ∀ (y0 : Mc) (y1 : Int32) (y2 : Int32) (y3 : Int32), KA u v y W y0 → KG gP (KA u v y W) (K50 y0 y1 y2 y3)) : KG gP (KA u v y W) (fX8_value_J217 z k0 k1 K50 M X1 X5 X8 Z0 Z1) := by
  unfold fX8_value_J217
  exact (K_chk fun hb_ => (K_ltM (K_wrA hM (by omega)) fun _ h145 => (hA_fX8_value_J275 h145 (by omega) (by omega) hK50)))
theorem hA_fX8_value_J192 {z : Nat} {k0 : Nat} {k1 : Nat} {K50 : Mc → Int32 → Int32 → Int32 → Option (Int32 × Mc)} {M : Mc} {X1 : Int32} {X5 : Int32} {X8 : Int32} {Z0 : Int32} {Z1 : Int32} (hM : KA u v y W M) (h_k0 : k0 ≠ 17 ∧ k0 ≠ 32 ∧ k0 ≠ 0 ∧ k0 ≠ 16) (h_k1 : k1 ≠ 17 ∧ k1 ≠ 32 ∧ k1 ≠ 0 ∧ k1 ≠ 16) (hK50 : ∀ (y0 : Mc) (y1 : Int32) (y2 : Int32) (y3 : Int32), KA u v y W y0 → KG gP (KA u v y W) (K50 y0 y1 y2 y3)) : KG gP (KA u v y W) (fX8_value_J192 z k0 k1 K50 M X1 X5 X8 Z0 Z1) := by
  unfold fX8_value_J192
  exact (K_chk fun hb_ => (K_ltM (K_wrA hM (by omega)) fun _ h146 => (hA_fX8_value_J275 h146 (by omega) (by omega) hK50)))
theorem hA_fX8_value_J121 {z : Nat} {k0 : Nat} {k1 : Nat} {K50 : Mc → Int32 → Int32 → Int32 → Option (Int32 × Mc)} {M : Mc} {X1 : Int32} {X4 : Int32} {X5 : Int32} {X6 : Int32} {Z0 : Int32} (hM : KA u v y W M) (h_k0 : k0 ≠ 17 ∧ k0 ≠ 32 ∧ k0 ≠ 0 ∧ k0 ≠ 16) (h_k1 : k1 ≠ 17 ∧ k1 ≠ 32 ∧ k1 ≠ 0 ∧ k1 ≠ 16) (hK50 : ∀ (y0 : Mc) (y1 : Int32) (y2 : Int32) (y3 : Int32), KA u v y W y0 → KG gP (KA u v y W) (K50 y0 y1 y2 y3)) : KG gP (KA u v y W) (fX8_value_J121 z k0 k1 K50 M X1 X4 X5 X6 Z0) := by
  unfold fX8_value_J121
  exact (K_ltV fun _ => (K_ite (K_sP hM) (K_ite (K_sP hM) (K_ite (K_ite (K_ite (K_ite (hA_fX8_value_J192 hM (by omega) (by omega) hK50) (K_chk fun hb_ => (hA_fX8_value_J192 hM (by omega) (by omega) hK50))) (K_ite (K_chk fun hb_ => (K_ite (hA_fX8_value_J217 hM (by omega) (by omega) hK50) (hA_fX8_value_J217 hM (by omega) (by omega) hK50))) (K_ite (K_chk fun hb_ => (K_ite (K_chk fun hb_ => (hA_fX8_value_J252 hM (by omega) (by omega) hK50)) (K_chk fun hb_ => (hA_fX8_value_J252 hM (by omega) (by omega) hK50)))) (K_chk fun hb_ => (K_chk fun hb_ => (K_bndV fun _ => (K_chk fun hb_ => (K_ltM (K_wrA hM (by omega)) fun _ h147 => (hA_fX8_value_J275 h147 (by omega) (by omega) hK50))))))))) (K_chk fun hb_ => (K_ltM (K_wrA hM (by omega)) fun _ h148 => (hA_fX8_value_J275 h148 (by omega) (by omega) hK50)))) (K_sP hM)))))
theorem hA_fX8_value_L50 {z : Nat} {k0 : Nat} {k1 : Nat} (h_k0 : k0 ≠ 17 ∧ k0 ≠ 32 ∧ k0 ≠ 0 ∧ k0 ≠ 16) (h_k1 : k1 ≠ 17 ∧ k1 ≠ 32 ∧ k1 ≠ 0 ∧ k1 ≠ 16) : ∀ (n : Nat) (M : Mc) (X1 : Int32) (X4 : Int32) (X5 : Int32), KA u v y W M → KG gP (KA u v y W) (fX8_value_L50 z k0 k1 n M X1 X4 X5)  := by
  intro n
  induction n with
  | zero => intros; rw [fX8_value_L50]; exact K_none
  | succ n ih =>
    intro M X1 X4 X5 hM
    rw [fX8_value_L50]
    exact (K_chk fun hb_ => (K_ite (K_ite (K_chk fun hb_ => (K_sP hM)) (K_sP hM)) (K_ite (K_sP hM) (K_ite (K_chk fun hb_ => (K_ltV fun _ => (K_ite (K_ite (hA_fX8_value_J121 hM (by omega) (by omega) (fun _ _ _ _ hc_ => (ih _ _ _ _ hc_))) (K_ite (hA_fX8_value_J121 hM (by omega) (by omega) (fun _ _ _ _ hc_ => (ih _ _ _ _ hc_))) (hA_fX8_value_J121 hM (by omega) (by omega) (fun _ _ _ _ hc_ => (ih _ _ _ _ hc_))))) (hA_fX8_value_J121 hM (by omega) (by omega) (fun _ _ _ _ hc_ => (ih _ _ _ _ hc_)))))) (K_sP hM)))))
theorem hA_fX8_value {M : Mc} {z : Nat} {k0 : Nat} {k1 : Nat} {p0 : Int32} (hM : KA u v y W M) (h_k0 : k0 ≠ 17 ∧ k0 ≠ 32 ∧ k0 ≠ 0 ∧ k0 ≠ 16) (h_k1 : k1 ≠ 17 ∧ k1 ≠ 32 ∧ k1 ≠ 0 ∧ k1 ≠ 16) : KG gP (KA u v y W) (fX8_value M z k0 k1 p0) := by
  unfold fX8_value
  exact (K_ite (K_sP hM) (K_ite (K_sP hM) (K_ite (K_sP hM) (K_ite (K_chk fun hb_ => (K_ltV fun _ => (hA_fX8_value_L50 (by omega) (by omega) _ _ _ _ _ hM))) (K_sP hM)))))
theorem hA_fX2_copyFrom {M : Mc} {co : Nat} {co2 : Nat} (hM : KA u v y W M) (h_co : co = 101) : KG gM (KA u v y W) (fX2_copyFrom M co co2) := by
  unfold fX2_copyFrom
  exact (K_ltM (K_wrA hM (by omega)) fun _ h149 => (K_ltM (K_wrA h149 (by omega)) fun _ h150 => (K_cpyA h150 (by omega) fun _ h151 => (K_cpyA h151 (by omega) fun _ h152 => (K_cpyA h152 (by omega) fun _ h153 => (K_cpyA h153 (by omega) fun _ h154 => (K_sM h154)))))))
theorem hA_fX2_hearVote_J67 {co : Nat} {M : Mc} {X1 : Int32} {X3 : Int32} (hM : KA u v y W M) (h_co : co = 54 ∨ co = 101) : KG gP (KA u v y W) (fX2_hearVote_J67 co M X1 X3) := by
  unfold fX2_hearVote_J67
  exact (K_ite (K_chk fun hb_ => (K_sP hM)) (K_chk fun hb_ => (K_sP hM)))
theorem hA_fX2_hearVote {M : Mc} {co : Nat} {p0 : Int32} {p1 : Int32} {p2 : Int32} (hM : KA u v y W M) (h_co : co = 54 ∨ co = 101) : KG gP (KA u v y W) (fX2_hearVote M co p0 p1 p2) := by
  unfold fX2_hearVote
  exact (K_ltV fun _ => (K_bndV fun _ => (K_ite (K_sP hM) (K_bndV fun _ => (K_ite (K_sP hM) (K_chk fun hb_ => (K_ltM (K_wrA hM (by omega)) fun _ h155 => (K_ite (K_chk fun hb_ => (K_chk fun hb_ => (K_ltM (K_wrA h155 (by omega)) fun _ h156 => (hA_fX2_hearVote_J67 h156 (by omega))))) (K_chk fun hb_ => (K_chk fun hb_ => (K_ltM (K_wrA h155 (by omega)) fun _ h157 => (hA_fX2_hearVote_J67 h157 (by omega)))))))))))))
theorem hA_fX2_settle_J58 {co : Nat} {M : Mc} {X1 : Int32} {X3 : Int32} {X4 : Int32} {Z0 : Int32} {Z1 : Int32} (hM : KA u v y W M) (h_co : co = 54 ∨ co = 101) : KG gP (KA u v y W) (fX2_settle_J58 co M X1 X3 X4 Z0 Z1) := by
  unfold fX2_settle_J58
  exact (K_chk fun hb_ => (K_ltM (K_wrA hM (by omega)) fun _ h158 => (K_chk fun hb_ => (K_ltM (K_wrA h158 (by omega)) fun _ h159 => (K_ite (K_chk fun hb_ => (K_sP h159)) (K_ltM (K_wrA h159 (by omega)) fun _ h160 => (K_chk fun hb_ => (K_sP h160))))))))
theorem hA_fX2_settle_J41 {co : Nat} {M : Mc} {X1 : Int32} {X3 : Int32} {Z0 : Int32} (hM : KA u v y W M) (h_co : co = 54 ∨ co = 101) : KG gP (KA u v y W) (fX2_settle_J41 co M X1 X3 Z0) := by
  unfold fX2_settle_J41
  exact (K_ite (hA_fX2_settle_J58 hM (by omega)) (hA_fX2_settle_J58 hM (by omega)))
theorem hA_fX2_settle_J40 {co : Nat} {M : Mc} {X1 : Int32} {X3 : Int32} (hM : KA u v y W M) (h_co : co = 54 ∨ co = 101) : KG gP (KA u v y W) (fX2_settle_J40 co M X1 X3) := by
  unfold fX2_settle_J40
  exact (hA_fX2_settle_J41 hM (by omega))
theorem hA_fX2_settle {M : Mc} {co : Nat} {p0 : Int32} {p1 : Int32} {p2 : Int32} (hM : KA u v y W M) (h_co : co = 54 ∨ co = 101) : KG gP (KA u v y W) (fX2_settle M co p0 p1 p2) := by
  unfold fX2_settle
  exact (K_bndV fun _ => (K_ite (K_sP hM) (K_chk fun hb_ => (K_chk fun hb_ => (K_ite (hA_fX2_settle_J40 hM (by omega)) (K_chk fun hb_ => (K_ite (hA_fX2_settle_J40 hM (by omega)) (hA_fX2_settle_J41 hM (by omega)))))))))
theorem hA_fX2_answer_J25 {co : Nat} {M : Mc} {X1 : Int32} {X3 : Int32} {Z0 : Int32} {Z1 : Int32} (hM : KA u v y W M) (h_co : co = 54 ∨ co = 101) : KG gP (KA u v y W) (fX2_answer_J25 co M X1 X3 Z0 Z1) := by
  unfold fX2_answer_J25
  exact (K_chk fun hb_ => (K_ltM (K_wrA hM (by omega)) fun _ h161 => (K_chk fun hb_ => (K_ltM (K_wrA h161 (by omega)) fun _ h162 => (K_sP h162)))))
theorem hA_fX2_answer {M : Mc} {co : Nat} {p0 : Int32} {p1 : Int32} {p2 : Int32} (hM : KA u v y W M) (h_co : co = 54 ∨ co = 101) : KG gP (KA u v y W) (fX2_answer M co p0 p1 p2) := by
  unfold fX2_answer
  exact (K_bndV fun _ => (K_ite (K_sP hM) (K_ite (hA_fX2_answer_J25 hM (by omega)) (hA_fX2_answer_J25 hM (by omega)))))
theorem hA_fX2_hear {M : Mc} {co : Nat} {p0 : Int32} (hM : KA u v y W M) (h_co : co = 54 ∨ co = 101) : KG gP (KA u v y W) (fX2_hear M co p0) := by
  unfold fX2_hear
  exact (K_bndV fun _ => (K_ite (K_sP hM) (K_bndV fun _ => (K_ite (K_sP hM) (K_chk fun hb_ => (K_ite (K_chk fun hb_ => (K_ltM (K_wrA hM (by omega)) fun _ h163 => (K_sP h163))) (K_chk fun hb_ => (K_ltM (K_wrA hM (by omega)) fun _ h164 => (K_ltM (K_wrA h164 (by omega)) fun _ h165 => (K_chk fun hb_ => (K_ltV fun _ => (K_ite (K_sP h165) (K_ite (K_sP h165) (K_sP h165))))))))))))))
theorem hA_fX2_meaning_J33 {co : Nat} {M : Mc} {X2 : Int32} {X3 : Int32} {X4 : Int32} {X5 : Int32} {X6 : Int32} (hM : KA u v y W M) (h_co : co = 54 ∨ co = 101) : KG gP (KA u v y W) (fX2_meaning_J33 co M X2 X3 X4 X5 X6) := by
  unfold fX2_meaning_J33
  exact (K_ite (K_sP hM) (K_ite (K_sP hM) (K_chk fun hb_ => (K_sP hM))))
theorem hA_fX2_meaning_J144 {co : Nat} {M : Mc} {X9 : Int32} {X10 : Int32} {Z0 : Int32} (hM : KA u v y W M) (h_co : co = 54 ∨ co = 101) : KG gP (KA u v y W) (fX2_meaning_J144 co M X9 X10 Z0) := by
  unfold fX2_meaning_J144
  exact (K_sP hM)
theorem hA_fX2_meaning_J129 {co : Nat} {M : Mc} {X2 : Int32} {X9 : Int32} {Z0 : Int32} (hM : KA u v y W M) (h_co : co = 54 ∨ co = 101) : KG gP (KA u v y W) (fX2_meaning_J129 co M X2 X9 Z0) := by
  unfold fX2_meaning_J129
  exact (K_ite (hA_fX2_meaning_J144 hM (by omega)) (hA_fX2_meaning_J144 hM (by omega)))
theorem hA_fX2_meaning {M : Mc} {co : Nat} {p0 : Int32} {p1 : Int32} {p2 : Int32} {p3 : Int32} {p4 : Int32} {p5 : Int32} (hM : KA u v y W M) (h_co : co = 54 ∨ co = 101) : KG gP (KA u v y W) (fX2_meaning M co p0 p1 p2 p3 p4 p5) := by
  unfold fX2_meaning
  exact (K_bndV fun _ => (K_ite (hA_fX2_meaning_J33 hM (by omega)) (K_ite (hA_fX2_meaning_J33 hM (by omega)) (K_chk fun hb_ => (K_ltV fun _ => (K_ite (K_ite (K_sP hM) (K_ite (K_sP hM) (K_chk fun hb_ => (K_sP hM)))) (K_chk fun hb_ => (K_ltM (K_wrA hM (by omega)) fun _ h166 => (K_chk fun hb_ => (K_ltM (K_wrA h166 (by omega)) fun _ h167 => (K_chk fun hb_ => (K_ltM (K_wrA h167 (by omega)) fun _ h168 => (K_chk fun hb_ => (K_ltM (K_wrA h168 (by omega)) fun _ h169 => (K_chk fun hb_ => (K_ltM (K_wrA h169 (by omega)) fun _ h170 => (K_bn2M (hA_fX8_value h170 (by omega) (by omega)) fun _ _ h171 => (K_ite (hA_fX2_meaning_J129 h171 (by omega)) (hA_fX2_meaning_J129 h171 (by omega))))))))))))))))))))
theorem hA_fX10_copyFrom {M : Mc} {w : Nat} {w2 : Nat} (hM : KA u v y W M) (h_w : w = 64) : KG gM (KA u v y W) (fX10_copyFrom M w w2) := by
  unfold fX10_copyFrom
  exact (K_bndM (hA_fX4_copyFrom hM (by omega)) fun _ h172 => (K_bndM (hA_fX3_copyFrom h172 (by omega)) fun _ h173 => (K_bndM (hA_fX5_copyFrom h173 (by omega)) fun _ h174 => (K_bndM (hA_fX1_copyFrom h174 (by omega)) fun _ h175 => (K_bndM (hA_fX2_copyFrom h175 (by omega)) fun _ h176 => (K_ltM (K_wrA h176 (by omega)) fun _ h177 => (K_ltM (K_wrA h177 (by omega)) fun _ h178 => (K_ltM (K_wrA h178 (by omega)) fun _ h179 => (K_ltM (K_wrA h179 (by omega)) fun _ h180 => (K_ltM (K_wrA h180 (by omega)) fun _ h181 => (K_ltM (K_wrA h181 (by omega)) fun _ h182 => (K_ltM (K_wrA h182 (by omega)) fun _ h183 => (K_sM h183)))))))))))))
theorem hA_fX10_meaning {M : Mc} {w : Nat} {p0 : Int32} {p1 : Int32} (hM : KA u v y W M) (h_w : w = 17 ∨ w = 64) : KG gP (KA u v y W) (fX10_meaning M w p0 p1) := by
  unfold fX10_meaning
  exact (K_bn2M (hA_fX2_meaning hM (by omega)) fun _ _ h184 => (K_sP h184))
theorem hA_fX10_priceOf {M : Mc} {w : Nat} {p0 : Int32} (hM : KA u v y W M) (h_w : w = 17 ∨ w = 64) : KG gP (KA u v y W) (fX10_priceOf M w p0) := by
  unfold fX10_priceOf
  exact (K_bndV fun _ => (K_bn2M (hA_fX10_meaning hM (by omega)) fun _ _ h185 => (K_sP h185)))
theorem hA_fX10_sell_J74 {w : Nat} {M : Mc} {X1 : Int32} {X2 : Int32} {X3 : Int32} {X4 : Int32} {Z0 : Int32} (hM : KA u v y W M) (h_w : w = 17 ∨ w = 64) : KG gM (KA u v y W) (fX10_sell_J74 w M X1 X2 X3 X4 Z0) := by
  unfold fX10_sell_J74
  exact (K_ltV fun _ => (K_bndM (hA_fX3_spend hM (by omega)) fun _ h186 => (K_ltM (K_wrA h186 (by omega)) fun _ h187 => (K_ltM (K_wrA h187 (by omega)) fun _ h188 => (K_bndM (hA_fX4_giveFarm h188 (by omega)) fun _ h189 => (K_bndM (hA_fX3_gainFarm h189 (by omega)) fun _ h190 => (K_sM h190)))))))
theorem hA_fX10_sell_J48 {w : Nat} {M : Mc} {X1 : Int32} {X2 : Int32} {X3 : Int32} {X4 : Int32} (hM : KA u v y W M) (h_w : w = 17 ∨ w = 64) : KG gM (KA u v y W) (fX10_sell_J48 w M X1 X2 X3 X4) := by
  unfold fX10_sell_J48
  exact (K_ite (K_bndV fun _ => (hA_fX10_sell_J74 hM (by omega))) (hA_fX10_sell_J74 hM (by omega)))
theorem hA_fX10_sell {M : Mc} {w : Nat} {p0 : Int32} {p1 : Int32} {p2 : Int32} (hM : KA u v y W M) (h_w : w = 17 ∨ w = 64) : KG gM (KA u v y W) (fX10_sell M w p0 p1 p2) := by
  unfold fX10_sell
  exact (K_ltV fun _ => (K_ite (K_bn2M (hA_fX2_meaning hM (by omega)) fun _ _ h191 => (hA_fX10_sell_J48 h191 (by omega))) (hA_fX10_sell_J48 hM (by omega))))
theorem hA_fX10_takeBack {M : Mc} {w : Nat} {p0 : Int32} (hM : KA u v y W M) (h_w : w = 17 ∨ w = 64) : KG gM (KA u v y W) (fX10_takeBack M w p0) := by
  unfold fX10_takeBack
  exact (K_bndV fun _ => (K_bndV fun _ => (K_bndM (hA_fX4_open hM (by omega)) fun _ h192 => (K_bndM (hA_fX3_earn h192 (by omega)) fun _ h193 => (K_bndM (hA_fX3_loseFarm h193 (by omega)) fun _ h194 => (K_ltM (K_wrA h194 (by omega)) fun _ h195 => (K_sM h195)))))))
theorem hA_fX10_undoSales_J25 {w : Nat} {K2 : Mc → Int32 → Int32 → Option (Mc)} {M : Mc} {X1 : Int32} {X2 : Int32} (hM : KA u v y W M) (h_w : w = 17 ∨ w = 64) (hK2 : ∀ (y0 : Mc) (y1 : Int32) (y2 : Int32), KA u v y W y0 → KG gM (KA u v y W) (K2 y0 y1 y2)) : KG gM (KA u v y W) (fX10_undoSales_J25 w K2 M X1 X2) := by
  unfold fX10_undoSales_J25
  exact (hK2 _ _ _ hM)
theorem hA_fX10_undoSales_L2 {w : Nat} (h_w : w = 17 ∨ w = 64) : ∀ (n : Nat) (M : Mc) (X1 : Int32) (X2 : Int32), KA u v y W M → KG gM (KA u v y W) (fX10_undoSales_L2 w n M X1 X2)  := by
  intro n
  induction n with
  | zero => intros; rw [fX10_undoSales_L2]; exact K_none
  | succ n ih =>
    intro M X1 X2 hM
    rw [fX10_undoSales_L2]
    exact (K_ite (K_sM hM) (K_bndV fun _ => (K_ite (hA_fX10_undoSales_J25 hM (by omega) (fun _ _ _ hc_ => (ih _ _ _ hc_))) (K_bndM (hA_fX10_takeBack hM (by omega)) fun _ h196 => (hA_fX10_undoSales_J25 h196 (by omega) (fun _ _ _ hc_ => (ih _ _ _ hc_)))))))
theorem hA_fX10_undoSales {M : Mc} {w : Nat} {p0 : Int32} (hM : KA u v y W M) (h_w : w = 17 ∨ w = 64) : KG gM (KA u v y W) (fX10_undoSales M w p0) := by
  unfold fX10_undoSales
  exact (hA_fX10_undoSales_L2 (by omega) _ _ _ _ hM)
theorem hA_fX10_readLaws_J39 {w : Nat} {K2 : Mc → Int32 → Option (Mc)} {M : Mc} {X1 : Int32} (hM : KA u v y W M) (h_w : w = 17 ∨ w = 64) (hK2 : ∀ (y0 : Mc) (y1 : Int32), KA u v y W y0 → KG gM (KA u v y W) (K2 y0 y1)) : KG gM (KA u v y W) (fX10_readLaws_J39 w K2 M X1) := by
  unfold fX10_readLaws_J39
  exact (hK2 _ _ hM)
theorem hA_fX10_readLaws_L2 {w : Nat} (h_w : w = 17 ∨ w = 64) : ∀ (n : Nat) (M : Mc) (X1 : Int32), KA u v y W M → KG gM (KA u v y W) (fX10_readLaws_L2 w n M X1)  := by
  intro n
  induction n with
  | zero => intros; rw [fX10_readLaws_L2]; exact K_none
  | succ n ih =>
    intro M X1 hM
    rw [fX10_readLaws_L2]
    exact (K_ite (K_sM hM) (K_bndV fun _ => (K_ite (hA_fX10_readLaws_J39 hM (by omega) (fun _ _ hc_ => (ih _ _ hc_))) (K_bn2M (hA_fX2_hear hM (by omega)) fun _ _ h197 => (K_ite (hA_fX10_readLaws_J39 h197 (by omega) (fun _ _ hc_ => (ih _ _ hc_))) (K_bndM (hA_fX10_undoSales h197 (by omega)) fun _ h198 => (hA_fX10_readLaws_J39 h198 (by omega) (fun _ _ hc_ => (ih _ _ hc_)))))))))
theorem hA_fX10_readLaws {M : Mc} {w : Nat} (hM : KA u v y W M) (h_w : w = 17 ∨ w = 64) : KG gM (KA u v y W) (fX10_readLaws M w) := by
  unfold fX10_readLaws
  exact (hA_fX10_readLaws_L2 (by omega) _ _ _ hM)
theorem hA_fX10_lookAround_J78 {w : Nat} {M : Mc} {X1 : Int32} (hM : KA u v y W M) (h_w : w = 17 ∨ w = 64) : KG gM (KA u v y W) (fX10_lookAround_J78 w M X1) := by
  unfold fX10_lookAround_J78
  exact (K_bn2M (hA_fX2_meaning hM (by omega)) fun _ _ h199 => (K_ltM (K_wrA h199 (by omega)) fun _ h200 => (K_ltM (K_wrA h200 (by omega)) fun _ h201 => (K_ltM (K_wrA h201 (by omega)) fun _ h202 => (K_sM h202)))))
theorem hA_fX10_lookAround {M : Mc} {w : Nat} (hM : KA u v y W M) (h_w : w = 17 ∨ w = 64) : KG gM (KA u v y W) (fX10_lookAround M w) := by
  unfold fX10_lookAround
  exact (K_ltV fun _ => (K_bndV fun _ => (K_ltM (K_wrA hM (by omega)) fun _ h203 => (K_ltM (K_wrA h203 (by omega)) fun _ h204 => (K_ite (K_bndV fun _ => (K_bn2M (hA_fX2_meaning h204 (by omega)) fun _ _ h205 => (K_ltM (K_wrA h205 (by omega)) fun _ h206 => (hA_fX10_lookAround_J78 h206 (by omega))))) (hA_fX10_lookAround_J78 h204 (by omega)))))))
theorem hA_fX10_seekWork_J34 {w : Nat} {M : Mc} {X1 : Int32} {X2 : Int32} {Z0 : Int32} (hM : KA u v y W M) (h_w : w = 17 ∨ w = 64) : KG gM (KA u v y W) (fX10_seekWork_J34 w M X1 X2 Z0) := by
  unfold fX10_seekWork_J34
  exact (K_chp (K_ltM (K_wrA hM (by omega)) fun _ h207 => (K_bndM (hA_fX3_hireBy h207 (by omega)) fun _ h208 => (K_sM h208))))
theorem hA_fX10_seekWork_J22 {w : Nat} {M : Mc} {X1 : Int32} {Z0 : Int32} (hM : KA u v y W M) (h_w : w = 17 ∨ w = 64) : KG gM (KA u v y W) (fX10_seekWork_J22 w M X1 Z0) := by
  unfold fX10_seekWork_J22
  exact (K_ite (hA_fX10_seekWork_J34 hM (by omega)) (hA_fX10_seekWork_J34 hM (by omega)))
theorem hA_fX10_seekWork {M : Mc} {w : Nat} {p0 : Int32} (hM : KA u v y W M) (h_w : w = 17 ∨ w = 64) : KG gM (KA u v y W) (fX10_seekWork M w p0) := by
  unfold fX10_seekWork
  exact (K_ite (K_bndV fun _ => (hA_fX10_seekWork_J22 hM (by omega))) (hA_fX10_seekWork_J22 hM (by omega)))
theorem hA_fX10_act_J108 {w : Nat} {M : Mc} {X1 : Int32} (hM : KA u v y W M) (h_w : w = 64) : KG gM (KA u v y W) (fX10_act_J108 w M X1) := by
  unfold fX10_act_J108
  exact (K_ite (K_bndM (hA_fX3_starve hM (by omega)) fun _ h209 => (K_sM h209)) (K_ltM (K_wrA hM (by omega)) fun _ h210 => (K_sM h210)))
theorem hA_fX10_act_J91 {w : Nat} {M : Mc} {X1 : Int32} (hM : KA u v y W M) (h_w : w = 64) : KG gM (KA u v y W) (fX10_act_J91 w M X1) := by
  unfold fX10_act_J91
  exact (K_bndV fun _ => (K_ite (K_bndM (hA_fX10_seekWork hM (by omega)) fun _ h211 => (hA_fX10_act_J108 h211 (by omega))) (hA_fX10_act_J108 hM (by omega))))
theorem hA_fX10_act_J35 {w : Nat} {M : Mc} {X1 : Int32} (hM : KA u v y W M) (h_w : w = 64) : KG gM (KA u v y W) (fX10_act_J35 w M X1) := by
  unfold fX10_act_J35
  exact (K_bndV fun _ => (K_ite (hA_fX10_act_J91 hM (by omega)) (K_ite (hA_fX10_act_J91 hM (by omega)) (K_bndV fun _ => (K_ite (hA_fX10_act_J91 hM (by omega)) (K_bndM (hA_fX10_sell hM (by omega)) fun _ h212 => (K_ltM (K_wrA h212 (by omega)) fun _ h213 => (hA_fX10_act_J91 h213 (by omega)))))))))
theorem hA_fX10_act_J11 {w : Nat} {M : Mc} {X1 : Int32} (hM : KA u v y W M) (h_w : w = 64) : KG gM (KA u v y W) (fX10_act_J11 w M X1) := by
  unfold fX10_act_J11
  exact (K_bndV fun _ => (K_ite (K_bndM (hA_fX3_payWage hM (by omega)) fun _ h214 => (hA_fX10_act_J35 h214 (by omega))) (hA_fX10_act_J35 hM (by omega))))
theorem hA_fX10_act {M : Mc} {w : Nat} {p0 : Int32} (hM : KA u v y W M) (h_w : w = 64) : KG gM (KA u v y W) (fX10_act M w p0) := by
  unfold fX10_act
  exact (K_ite (hA_fX10_act_J11 hM (by omega)) (K_bndM (hA_fX10_lookAround hM (by omega)) fun _ h215 => (hA_fX10_act_J11 h215 (by omega))))
theorem hA_fX10_rainFalls_J39 {w : Nat} {K2 : Mc → Int32 → Option (Mc)} {M : Mc} {X1 : Int32} {Z0 : Int32} {Z1 : Int32} (hM : KA u v y W M) (h_w : w = 17 ∨ w = 64) (hK2 : ∀ (y0 : Mc) (y1 : Int32), KA u v y W y0 → KG gM (KA u v y W) (K2 y0 y1)) : KG gM (KA u v y W) (fX10_rainFalls_J39 w K2 M X1 Z0 Z1) := by
  unfold fX10_rainFalls_J39
  exact (K_bndM (hA_fX4_wet hM (by omega)) fun _ h216 => (hK2 _ _ h216))
theorem hA_fX10_rainFalls_L2 {w : Nat} (h_w : w = 17 ∨ w = 64) : ∀ (n : Nat) (M : Mc) (X1 : Int32), KA u v y W M → KG gM (KA u v y W) (fX10_rainFalls_L2 w n M X1)  := by
  intro n
  induction n with
  | zero => intros; rw [fX10_rainFalls_L2]; exact K_none
  | succ n ih =>
    intro M X1 hM
    rw [fX10_rainFalls_L2]
    exact (K_ite (K_sM hM) (K_ite (K_bndV fun _ => (hA_fX10_rainFalls_J39 hM (by omega) (fun _ _ hc_ => (ih _ _ hc_)))) (hA_fX10_rainFalls_J39 hM (by omega) (fun _ _ hc_ => (ih _ _ hc_)))))
theorem hA_fX10_rainFalls {M : Mc} {w : Nat} (hM : KA u v y W M) (h_w : w = 17 ∨ w = 64) : KG gM (KA u v y W) (fX10_rainFalls M w) := by
  unfold fX10_rainFalls
  exact (hA_fX10_rainFalls_L2 (by omega) _ _ _ hM)
theorem hA_fX10_stray {M : Mc} {w : Nat} {p0 : Int32} (hM : KA u v y W M) (h_w : w = 17 ∨ w = 64) : KG gM (KA u v y W) (fX10_stray M w p0) := by
  unfold fX10_stray
  exact (K_bndV fun _ => (K_ltV fun _ => (K_bndV fun _ => (K_ite (K_bn2M (hA_fX4_addStock hM (by omega)) fun _ _ h217 => (K_sM h217)) (K_bndV fun _ => (K_bndV fun _ => (K_bn2M (hA_fX10_meaning hM (by omega)) fun _ _ h218 => (K_ltV fun _ => (K_bndM (hA_fX3_spend h218 (by omega)) fun _ h219 => (K_bndV fun _ => (K_bndM (hA_fX3_earn h219 (by omega)) fun _ h220 => (K_sM h220))))))))))))
theorem hA_fX10_reap {M : Mc} {w : Nat} {p0 : Int32} (hM : KA u v y W M) (h_w : w = 17 ∨ w = 64) : KG gM (KA u v y W) (fX10_reap M w p0) := by
  unfold fX10_reap
  exact (K_bndV fun _ => (K_bndV fun _ => (K_ite (K_bndV fun _ => (K_bndV fun _ => (K_bndV fun _ => (K_bndV fun _ => (K_ltV fun _ => (K_ltM (K_wrA hM (by omega)) fun _ h221 => (K_bndM (hA_fX3_earn h221 (by omega)) fun _ h222 => (K_sM h222)))))))) (K_sM hM))))
theorem hA_fX10_endYear_J31 {w : Nat} {K9 : Mc → Int32 → Option (Mc)} {M : Mc} {X1 : Int32} (hM : KA u v y W M) (h_w : w = 17 ∨ w = 64) (hK9 : ∀ (y0 : Mc) (y1 : Int32), KA u v y W y0 → KG gM (KA u v y W) (K9 y0 y1)) : KG gM (KA u v y W) (fX10_endYear_J31 w K9 M X1) := by
  unfold fX10_endYear_J31
  exact (hK9 _ _ hM)
theorem hA_fX10_endYear_L9 {w : Nat} (h_w : w = 17 ∨ w = 64) : ∀ (n : Nat) (M : Mc) (X1 : Int32), KA u v y W M → KG gM (KA u v y W) (fX10_endYear_L9 w n M X1)  := by
  intro n
  induction n with
  | zero => intros; rw [fX10_endYear_L9]; exact K_none
  | succ n ih =>
    intro M X1 hM
    rw [fX10_endYear_L9]
    exact (K_ite (K_bndM (hA_fX4_breed hM (by omega)) fun _ h223 => (K_bndM (hA_fX4_newYear h223 (by omega)) fun _ h224 => (K_sM h224))) (K_bndV fun _ => (K_ite (hA_fX10_endYear_J31 hM (by omega) (fun _ _ hc_ => (ih _ _ hc_))) (K_bndM (hA_fX10_reap hM (by omega)) fun _ h225 => (hA_fX10_endYear_J31 h225 (by omega) (fun _ _ hc_ => (ih _ _ hc_)))))))
theorem hA_fX10_endYear {M : Mc} {w : Nat} (hM : KA u v y W M) (h_w : w = 17 ∨ w = 64) : KG gM (KA u v y W) (fX10_endYear M w) := by
  unfold fX10_endYear
  exact (K_bndM (hA_fX4_seeZones hM (by omega)) fun _ h226 => (hA_fX10_endYear_L9 (by omega) _ _ _ h226))
theorem hA_fX10_goOn_J80 {w : Nat} {K53 : Mc → Int32 → Option (Mc)} {M : Mc} {X1 : Int32} (hM : KA u v y W M) (h_w : w = 64) (hK53 : ∀ (y0 : Mc) (y1 : Int32), KA u v y W y0 → KG gM (KA u v y W) (K53 y0 y1)) : KG gM (KA u v y W) (fX10_goOn_J80 w K53 M X1) := by
  unfold fX10_goOn_J80
  exact (hK53 _ _ hM)
theorem hA_fX10_goOn_J147 {w : Nat} {M : Mc} (hM : KA u v y W M) (h_w : w = 64) : KG gM (KA u v y W) (fX10_goOn_J147 w M) := by
  unfold fX10_goOn_J147
  exact (K_ltM (K_wrA hM (by omega)) fun _ h227 => (K_sM h227))
theorem hA_fX10_goOn_J114 {w : Nat} {K92 : Mc → Int32 → Option (Mc)} {M : Mc} {X1 : Int32} (hM : KA u v y W M) (h_w : w = 64) (hK92 : ∀ (y0 : Mc) (y1 : Int32), KA u v y W y0 → KG gM (KA u v y W) (K92 y0 y1)) : KG gM (KA u v y W) (fX10_goOn_J114 w K92 M X1) := by
  unfold fX10_goOn_J114
  exact (hK92 _ _ hM)
theorem hA_fX10_goOn_L92 {w : Nat} (h_w : w = 64) : ∀ (n : Nat) (M : Mc) (X1 : Int32), KA u v y W M → KG gM (KA u v y W) (fX10_goOn_L92 w n M X1)  := by
  intro n
  induction n with
  | zero => intros; rw [fX10_goOn_L92]; exact K_none
  | succ n ih =>
    intro M X1 hM
    rw [fX10_goOn_L92]
    exact (K_ite (K_bndM (hA_fX4_endRuns hM (by omega)) fun _ h228 => (K_ite (K_bndM (hA_fX10_endYear h228 (by omega)) fun _ h229 => (hA_fX10_goOn_J147 h229 (by omega))) (hA_fX10_goOn_J147 h228 (by omega)))) (K_bndV fun _ => (K_ite (hA_fX10_goOn_J114 hM (by omega) (fun _ _ hc_ => (ih _ _ hc_))) (K_bndM (hA_fX10_stray hM (by omega)) fun _ h230 => (hA_fX10_goOn_J114 h230 (by omega) (fun _ _ hc_ => (ih _ _ hc_)))))))
theorem hA_fX10_goOn_L53 {w : Nat} (h_w : w = 64) : ∀ (n : Nat) (M : Mc) (X1 : Int32), KA u v y W M → KG gM (KA u v y W) (fX10_goOn_L53 w n M X1)  := by
  intro n
  induction n with
  | zero => intros; rw [fX10_goOn_L53]; exact K_none
  | succ n ih =>
    intro M X1 hM
    rw [fX10_goOn_L53]
    exact (K_ite (K_bndM (hA_fX10_rainFalls hM (by omega)) fun _ h231 => (hA_fX10_goOn_L92 (by omega) _ _ _ h231)) (K_bndV fun _ => (K_ite (hA_fX10_goOn_J80 hM (by omega) (fun _ _ hc_ => (ih _ _ hc_))) (K_bndM (hA_fX10_act hM (by omega)) fun _ h232 => (hA_fX10_goOn_J80 h232 (by omega) (fun _ _ hc_ => (ih _ _ hc_)))))))
theorem hA_fX10_goOn {M : Mc} {w : Nat} (hM : KA u v y W M) (h_w : w = 64) : KG gM (KA u v y W) (fX10_goOn M w) := by
  unfold fX10_goOn
  exact (K_bndM (hA_fX3_disembark hM (by omega)) fun _ h233 => (K_bndM (hA_fX10_readLaws h233 (by omega)) fun _ h234 => (K_bn2M (hA_fX1_readDue h234 (by omega)) fun _ _ h235 => (K_ltM (K_wrA h235 (by omega)) fun _ h236 => (K_bndM (hA_fX5_goOut h236 (by omega) (by omega)) fun _ h237 => (K_ltM (K_wrA h237 (by omega)) fun _ h238 => (hA_fX10_goOn_L53 (by omega) _ _ _ h238)))))))
theorem hA_fX10_weeksTillLot_L15 {w : Nat} (h_w : w = 17 ∨ w = 64) : ∀ (n : Nat) (M : Mc) (X1 : Int32) (X2 : Int32), KA u v y W M → KG gP (KA u v y W) (fX10_weeksTillLot_L15 w n M X1 X2)  := by
  intro n
  induction n with
  | zero => intros; rw [fX10_weeksTillLot_L15]; exact K_none
  | succ n ih =>
    intro M X1 X2 hM
    rw [fX10_weeksTillLot_L15]
    exact (K_ite (K_sP hM) (K_bndV fun _ => (K_ite (K_bndM (hA_fX5_goOut hM (by omega) (by omega)) fun _ h239 => (K_bndV fun _ => (K_ite (K_sP h239) (ih _ _ _ h239)))) (K_sP hM))))
theorem hA_fX10_weeksTillLot {M : Mc} {w : Nat} {p0 : Int32} (hM : KA u v y W M) (h_w : w = 64) : KG gP (KA u v y W) (fX10_weeksTillLot M w p0) := by
  unfold fX10_weeksTillLot
  exact (K_bndV fun _ => (K_ite (K_sP hM) (hA_fX10_weeksTillLot_L15 (by omega) _ _ _ _ hM)))
theorem hA_fX11_land_J19 {M : Mc} {X1 : Int32} {X2 : Int32} {X3 : Int32} {Z0 : Int32} (hM : KA u v y W M) : KG gT (KA u v y W) (fX11_land_J19 M X1 X2 X3 Z0) := by
  unfold fX11_land_J19
  exact (K_bnxV fun _ => (K_bn2M (hA_fX4_shape hM (by omega)) fun _ _ h240 => (K_ite (K_sT h240) (K_sT h240))))
theorem hA_fX11_land_J18 {M : Mc} {X1 : Int32} {X2 : Int32} {X3 : Int32} (hM : KA u v y W M) : KG gT (KA u v y W) (fX11_land_J18 M X1 X2 X3) := by
  unfold fX11_land_J18
  exact (hA_fX11_land_J19 hM )
theorem hA_fX11_land {M : Mc} {p0 : Int32} {p1 : Int32} {p2 : Int32} (hM : KA u v y W M) : KG gT (KA u v y W) (fX11_land M p0 p1 p2) := by
  unfold fX11_land
  exact (K_bnxV fun _ => (K_ite (hA_fX11_land_J18 hM ) (K_ite (hA_fX11_land_J18 hM ) (hA_fX11_land_J19 hM ))))
theorem hA_fX11_rain_J21 {M : Mc} {X1 : Int32} {X2 : Int32} {Z0 : Int32} (hM : KA u v y W M) : KG gT (KA u v y W) (fX11_rain_J21 M X1 X2 Z0) := by
  unfold fX11_rain_J21
  exact (K_bnxV fun _ => (K_bn2M (hA_fX0_tell hM ) fun _ _ h241 => (K_sT h241)))
theorem hA_fX11_rain_J20 {M : Mc} {X1 : Int32} {X2 : Int32} (hM : KA u v y W M) : KG gT (KA u v y W) (fX11_rain_J20 M X1 X2) := by
  unfold fX11_rain_J20
  exact (hA_fX11_rain_J21 hM )
theorem hA_fX11_rain {M : Mc} {p0 : Int32} {p1 : Int32} (hM : KA u v y W M) : KG gT (KA u v y W) (fX11_rain M p0 p1) := by
  unfold fX11_rain
  exact (K_bnxV fun _ => (K_ite (hA_fX11_rain_J20 hM ) (K_ite (hA_fX11_rain_J20 hM ) (hA_fX11_rain_J21 hM ))))
theorem hA_fX11_rains_J32 {M : Mc} {X1 : Int32} {X2 : Int32} {X3 : Int32} {Z0 : Int32} (hM : KA u v y W M) : KG gT (KA u v y W) (fX11_rains_J32 M X1 X2 X3 Z0) := by
  unfold fX11_rains_J32
  exact (K_bnxV fun _ => (K_bn2M (hA_fX0_tell hM ) fun _ _ h242 => (K_sT h242)))
theorem hA_fX11_rains_J31 {M : Mc} {X1 : Int32} {X2 : Int32} {X3 : Int32} (hM : KA u v y W M) : KG gT (KA u v y W) (fX11_rains_J31 M X1 X2 X3) := by
  unfold fX11_rains_J31
  exact (hA_fX11_rains_J32 hM )
theorem hA_fX11_rains {M : Mc} {p0 : Int32} {p1 : Int32} {p2 : Int32} (hM : KA u v y W M) : KG gT (KA u v y W) (fX11_rains M p0 p1 p2) := by
  unfold fX11_rains
  exact (K_bnxV fun _ => (K_ite (hA_fX11_rains_J31 hM ) (K_ite (hA_fX11_rains_J31 hM ) (K_ite (hA_fX11_rains_J31 hM ) (K_ite (hA_fX11_rains_J31 hM ) (hA_fX11_rains_J32 hM ))))))
theorem hA_fX11_people_J24 {M : Mc} {X1 : Int32} {X2 : Int32} {X3 : Int32} {Z0 : Int32} (hM : KA u v y W M) : KG gT (KA u v y W) (fX11_people_J24 M X1 X2 X3 Z0) := by
  unfold fX11_people_J24
  exact (K_bnxV fun _ => (K_ltV fun _ => (K_ite (K_ite (K_bndM (hA_fX3_add hM (by omega)) fun _ h243 => (K_sT h243)) (K_sT hM)) (K_sT hM))))
theorem hA_fX11_people_J23 {M : Mc} {X1 : Int32} {X2 : Int32} {X3 : Int32} (hM : KA u v y W M) : KG gT (KA u v y W) (fX11_people_J23 M X1 X2 X3) := by
  unfold fX11_people_J23
  exact (hA_fX11_people_J24 hM )
theorem hA_fX11_people {M : Mc} {p0 : Int32} {p1 : Int32} {p2 : Int32} (hM : KA u v y W M) : KG gT (KA u v y W) (fX11_people M p0 p1 p2) := by
  unfold fX11_people
  exact (K_ite (hA_fX11_people_J23 hM ) (K_ite (hA_fX11_people_J23 hM ) (K_ite (hA_fX11_people_J23 hM ) (K_ite (hA_fX11_people_J23 hM ) (hA_fX11_people_J24 hM )))))
theorem hA_fX11_party_J16 {M : Mc} {X1 : Int32} {Z0 : Int32} (hM : KA u v y W M) : KG gT (KA u v y W) (fX11_party_J16 M X1 Z0) := by
  unfold fX11_party_J16
  exact (K_bnxV fun _ => (K_bn2M (hA_fX5_add hM (by omega)) fun _ _ h244 => (K_sT h244)))
theorem hA_fX11_party_J15 {M : Mc} {X1 : Int32} (hM : KA u v y W M) : KG gT (KA u v y W) (fX11_party_J15 M X1) := by
  unfold fX11_party_J15
  exact (hA_fX11_party_J16 hM )
theorem hA_fX11_party {M : Mc} {p0 : Int32} (hM : KA u v y W M) : KG gT (KA u v y W) (fX11_party M p0) := by
  unfold fX11_party
  exact (K_ite (hA_fX11_party_J15 hM ) (K_ite (hA_fX11_party_J15 hM ) (hA_fX11_party_J16 hM )))
theorem hA_fX11_queue {M : Mc} {p0 : Int32} {p1 : Int32} (hM : KA u v y W M) : KG gT (KA u v y W) (fX11_queue M p0 p1) := by
  unfold fX11_queue
  exact (K_bnxV fun _ => (K_bnxV fun _ => (K_bndV fun _ => (K_ite (K_bndV fun _ => (K_ite (K_sT hM) (K_bn2M (hA_fX5_send hM (by omega)) fun _ _ h245 => (K_sT h245)))) (K_sT hM)))))
theorem hA_fX11_lot {M : Mc} {p0 : Int32} (hM : KA u v y W M) : KG gT (KA u v y W) (fX11_lot M p0) := by
  unfold fX11_lot
  exact (K_bnxV fun _ => (K_bndM (hA_fX10_copyFrom hM (by omega)) fun _ h246 => (K_bn2M (hA_fX10_weeksTillLot h246 (by omega)) fun _ _ h247 => (K_sT h247))))
theorem hA_fX11_ask {M : Mc} {p0 : Int32} (hM : KA u v y W M) : KG gT (KA u v y W) (fX11_ask M p0) := by
  unfold fX11_ask
  exact (K_bnxV fun _ => (K_bndV fun _ => (K_ite (K_sT hM) (K_bndV fun _ => (K_ite (K_bndV fun _ => (K_ite (K_bn2M (hA_fX9_hear hM ) fun _ _ h248 => (K_sT h248)) (K_sT hM))) (K_sT hM))))))
theorem hA_fX11_draw_J20 {M : Mc} {X1 : Int32} {Z0 : Int32} (hM : KA u v y W M) : KG gT (KA u v y W) (fX11_draw_J20 M X1 Z0) := by
  unfold fX11_draw_J20
  exact (K_bnxV fun _ => (K_bn2M (hA_fX9_drawBy hM ) fun _ _ h249 => (K_sT h249)))
theorem hA_fX11_draw_J19 {M : Mc} {X1 : Int32} (hM : KA u v y W M) : KG gT (KA u v y W) (fX11_draw_J19 M X1) := by
  unfold fX11_draw_J19
  exact (hA_fX11_draw_J20 hM )
theorem hA_fX11_draw {M : Mc} {p0 : Int32} (hM : KA u v y W M) : KG gT (KA u v y W) (fX11_draw M p0) := by
  unfold fX11_draw
  exact (K_ite (hA_fX11_draw_J19 hM ) (K_bndV fun _ => (K_ite (hA_fX11_draw_J19 hM ) (hA_fX11_draw_J20 hM ))))
theorem hA_fX11_buy {M : Mc} {p0 : Int32} {p1 : Int32} (hM : KA u v y W M) : KG gT (KA u v y W) (fX11_buy M p0 p1) := by
  unfold fX11_buy
  exact (K_bnxV fun _ => (K_bnxV fun _ => (K_bndV fun _ => (K_ite (K_sT hM) (K_bndV fun _ => (K_ite (K_sT hM) (K_bn2M (hA_fX10_priceOf hM (by omega)) fun _ _ h250 => (K_bndV fun _ => (K_ite (K_sT h250) (K_bndM (hA_fX10_sell h250 (by omega)) fun _ h251 => (K_sT h251)))))))))))
theorem hA_fX11_priceAtHome {M : Mc} (hM : KA u v y W M) : KG gP (KA u v y W) (fX11_priceAtHome M) := by
  unfold fX11_priceAtHome
  exact (K_ltV fun _ => (K_ite (K_bndV fun _ => (K_bndV fun _ => (K_bndV fun _ => (K_bn2M (hA_fX2_meaning hM (by omega)) fun _ _ h252 => (K_sP h252))))) (K_chk fun hb_ => (K_sP hM))))
theorem hA_fX11_order {M : Mc} {p0 : Int32} (hM : KA u v y W M) : KG gT (KA u v y W) (fX11_order M p0) := by
  unfold fX11_order
  exact (K_bnxV fun _ => (K_bndV fun _ => (K_ite (K_sT hM) (K_bndV fun _ => (K_ite (K_bn2M (hA_fX11_priceAtHome hM ) fun _ _ h253 => (K_bndV fun _ => (K_ite (K_sT h253) (K_ltM (K_wrA h253 (by omega)) fun _ h254 => (K_bn2M (hA_fX3_takeOrder h254 (by omega)) fun _ _ h255 => (K_sT h255)))))) (K_sT hM))))))
theorem hA_fX11_choose {M : Mc} {p0 : Int32} {p1 : Int32} (hM : KA u v y W M) : KG gT (KA u v y W) (fX11_choose M p0 p1) := by
  unfold fX11_choose
  exact (K_bnxV fun _ => (K_bnxV fun _ => (K_bndV fun _ => (K_ite (K_sT hM) (K_bndV fun _ => (K_ite (K_sT hM) (K_bndV fun _ => (K_ite (K_sT hM) (K_bn2M (hA_fX10_meaning hM (by omega)) fun _ _ h256 => (K_bndV fun _ => (K_ite (K_bn2M (hA_fX3_useOrder h256 (by omega)) fun _ _ h257 => (K_bndM (hA_fX4_giveFarm h257 (by omega)) fun _ h258 => (K_bndM (hA_fX3_gainFarm h258 (by omega)) fun _ h259 => (K_sT h259)))) (K_sT h256))))))))))))
theorem hA_fX11_run_J57 {M : Mc} {X1 : Int32} {X2 : Int32} (hM : KA u v y W M) : KG gT (KA u v y W) (fX11_run_J57 M X1 X2) := by
  unfold fX11_run_J57
  exact (K_bn2M (hA_fX10_meaning hM (by omega)) fun _ _ h260 => (K_bndV fun _ => (K_ite (K_sT h260) (K_bndM (hA_fX3_spend h260 (by omega)) fun _ h261 => (K_ltM (K_wrA h261 (by omega)) fun _ h262 => (K_bndM (hA_fX4_lease h262 (by omega)) fun _ h263 => (K_sT h263)))))))
theorem hA_fX11_run {M : Mc} {p0 : Int32} {p1 : Int32} (hM : KA u v y W M) : KG gT (KA u v y W) (fX11_run M p0 p1) := by
  unfold fX11_run
  exact (K_bnxV fun _ => (K_bnxV fun _ => (K_bndV fun _ => (K_ite (K_sT hM) (K_bndV fun _ => (K_ite (K_bndV fun _ => (K_ite (K_sT hM) (hA_fX11_run_J57 hM ))) (hA_fX11_run_J57 hM )))))))
theorem hA_fX11_squat {M : Mc} {p0 : Int32} {p1 : Int32} (hM : KA u v y W M) : KG gT (KA u v y W) (fX11_squat M p0 p1) := by
  unfold fX11_squat
  exact (K_bnxV fun _ => (K_bnxV fun _ => (K_bndV fun _ => (K_ite (K_sT hM) (K_bndV fun _ => (K_ite (K_sT hM) (K_bn2M (hA_fX10_meaning hM (by omega)) fun _ _ h264 => (K_ite (K_sT h264) (K_bndM (hA_fX4_giveSquat h264 (by omega)) fun _ h265 => (K_sT h265))))))))))
theorem hA_fX11_stock_J25 {M : Mc} {X1 : Int32} {X2 : Int32} {X3 : Int32} {Z0 : Int32} (hM : KA u v y W M) : KG gT (KA u v y W) (fX11_stock_J25 M X1 X2 X3 Z0) := by
  unfold fX11_stock_J25
  exact (K_bnxV fun _ => (K_bndV fun _ => (K_ite (K_sT hM) (K_bndV fun _ => (K_ite (K_sT hM) (K_bndV fun _ => (K_ite (K_sT hM) (K_bndM (hA_fX3_spend hM (by omega)) fun _ h266 => (K_bn2M (hA_fX4_addStock h266 (by omega)) fun _ _ h267 => (K_sT h267))))))))))
theorem hA_fX11_stock_J24 {M : Mc} {X1 : Int32} {X2 : Int32} {X3 : Int32} (hM : KA u v y W M) : KG gT (KA u v y W) (fX11_stock_J24 M X1 X2 X3) := by
  unfold fX11_stock_J24
  exact (hA_fX11_stock_J25 hM )
theorem hA_fX11_stock {M : Mc} {p0 : Int32} {p1 : Int32} {p2 : Int32} (hM : KA u v y W M) : KG gT (KA u v y W) (fX11_stock M p0 p1 p2) := by
  unfold fX11_stock
  exact (K_bnxV fun _ => (K_bnxV fun _ => (K_ite (hA_fX11_stock_J24 hM ) (K_ite (hA_fX11_stock_J24 hM ) (hA_fX11_stock_J25 hM )))))
theorem hA_fX11_fence_J64 {M : Mc} {X1 : Int32} {X2 : Int32} {Z0 : Int32} (hM : KA u v y W M) : KG gT (KA u v y W) (fX11_fence_J64 M X1 X2 Z0) := by
  unfold fX11_fence_J64
  exact (K_bndV fun _ => (K_ite (K_sT hM) (K_bndM (hA_fX3_spend hM (by omega)) fun _ h268 => (K_bndM (hA_fX4_putFence h268 (by omega)) fun _ h269 => (K_sT h269)))))
theorem hA_fX11_fence {M : Mc} {p0 : Int32} {p1 : Int32} (hM : KA u v y W M) : KG gT (KA u v y W) (fX11_fence M p0 p1) := by
  unfold fX11_fence
  exact (K_bnxV fun _ => (K_bnxV fun _ => (K_bndV fun _ => (K_ite (K_sT hM) (K_bndV fun _ => (K_ite (K_bndV fun _ => (K_ite (hA_fX11_fence_J64 hM ) (hA_fX11_fence_J64 hM ))) (K_sT hM)))))))
theorem hA_fX11_tapeNumber_L3   : ∀ (n : Nat) (M : Mc) (X1 : Int32) (X2 : Int32), KA u v y W M → KG gM (KA u v y W) (fX11_tapeNumber_L3 n M X1 X2)  := by
  intro n
  induction n with
  | zero => intros; rw [fX11_tapeNumber_L3]; exact K_none
  | succ n ih =>
    intro M X1 X2 hM
    rw [fX11_tapeNumber_L3]
    exact (K_ite (K_sM hM) (K_bndV fun _ => (K_ite (K_sM hM) (K_chk fun hb_ => (K_ltM (K_wrA hM (by omega)) fun _ h270 => (K_ltM (K_wrA h270 (by omega)) fun _ h271 => (ih _ _ _ h271)))))))
theorem hA_fX11_tapeNumber {M : Mc} {p0 : Int32} (hM : KA u v y W M) : KG gM (KA u v y W) (fX11_tapeNumber M p0) := by
  unfold fX11_tapeNumber
  exact (hA_fX11_tapeNumber_L3  _ _ _ _ hM)
theorem hA_fX11_feed {M : Mc} {p0 : Int32} {p1 : Int32} {p2 : Int32} {p3 : Int32} {p4 : Int32} (hM : KA u v y W M) : KG gP (KA u v y W) (fX11_feed M p0 p1 p2 p3 p4) := by
  unfold fX11_feed
  exact (K_ite (K_bndM (hA_fX11_tapeNumber hM ) fun _ h272 => (K_bndM (hA_fX11_tapeNumber h272 ) fun _ h273 => (K_bndM (hA_fX11_tapeNumber h273 ) fun _ h274 => (K_bndM (hA_fX11_tapeNumber h274 ) fun _ h275 => (K_bndM (hA_fX11_tapeNumber h275 ) fun _ h276 => (K_sP h276)))))) (K_sP hM))
theorem hA_fX11_vote {M : Mc} {p0 : Int32} {p1 : Int32} {p2 : Int32} (hM : KA u v y W M) : KG gT (KA u v y W) (fX11_vote M p0 p1 p2) := by
  unfold fX11_vote
  exact (K_bnxV fun _ => (K_bnxV fun _ => (K_bndV fun _ => (K_ite (K_bndV fun _ => (K_ite (K_sT hM) (K_bndV fun _ => (K_ite (K_bn2M (hA_fX2_hearVote hM (by omega)) fun _ _ h277 => (K_sT h277)) (K_sT hM))))) (K_sT hM)))))
theorem hA_fX11_close {M : Mc} {p0 : Int32} (hM : KA u v y W M) : KG gT (KA u v y W) (fX11_close M p0) := by
  unfold fX11_close
  exact (K_bnxV fun _ => (K_bndV fun _ => (K_ite (K_bn2M (hA_fX10_meaning hM (by omega)) fun _ _ h278 => (K_bn2M (hA_fX2_settle h278 (by omega)) fun _ _ h279 => (K_sT h279))) (K_sT hM))))
theorem hA_fX11_assent {M : Mc} {p0 : Int32} {p1 : Int32} (hM : KA u v y W M) : KG gT (KA u v y W) (fX11_assent M p0 p1) := by
  unfold fX11_assent
  exact (K_bnxV fun _ => (K_bndV fun _ => (K_ite (K_bndV fun _ => (K_ite (K_sT hM) (K_bndV fun _ => (K_ite (K_bn2M (hA_fX2_answer hM (by omega)) fun _ _ h280 => (K_sT h280)) (K_sT hM))))) (K_sT hM))))
theorem hA_fX11_means_J43 {M : Mc} {Z0 : Int32} {Z1 : Int32} (hM : KA u v y W M) : KG gT (KA u v y W) (fX11_means_J43 M Z0 Z1) := by
  unfold fX11_means_J43
  exact (K_bn2M (hA_fX10_meaning hM (by omega)) fun _ _ h281 => (K_sT h281))
theorem hA_fX11_means_J9 {M : Mc} {X1 : Int32} {X2 : Int32} (hM : KA u v y W M) : KG gT (KA u v y W) (fX11_means_J9 M X1 X2) := by
  unfold fX11_means_J9
  exact (K_bndV fun _ => (K_bnxV fun _ => (K_ite (hA_fX11_means_J43 hM ) (K_bndV fun _ => (hA_fX11_means_J43 hM )))))
theorem hA_fX11_means {M : Mc} {p0 : Int32} {p1 : Int32} (hM : KA u v y W M) : KG gT (KA u v y W) (fX11_means M p0 p1) := by
  unfold fX11_means
  exact (K_ite (hA_fX11_means_J9 hM ) (K_bnxV fun _ => (hA_fX11_means_J9 hM )))
theorem hA_fX11_quoted {M : Mc} (hM : KA u v y W M) : KG gP (KA u v y W) (fX11_quoted M) := by
  unfold fX11_quoted
  exact (K_bn2M (hA_fX11_priceAtHome hM ) fun _ _ h282 => (K_sP h282))
theorem hA_fX11_ship {M : Mc} {p0 : Int32} {p1 : Int32} {p2 : Int32} {p3 : Int32} (hM : KA u v y W M) : KG gP (KA u v y W) (fX11_ship M p0 p1 p2 p3) := by
  unfold fX11_ship
  exact (K_ite (K_sP hM) (K_ite (K_sP hM) (K_ite (K_sP hM) (K_ite (K_ite (K_ltV fun _ => (K_ite (K_ltV fun _ => (K_bndV fun _ => (K_ite (K_ltM (K_wrA hM (by omega)) fun _ h283 => (K_ltV fun _ => (K_bndM (hA_fX3_sailOrders h283 (by omega)) fun _ h284 => (K_bndM (hA_fX3_add h284 (by omega)) fun _ h285 => (K_bndM (hA_fX3_add h285 (by omega)) fun _ h286 => (K_bndM (hA_fX3_add h286 (by omega)) fun _ h287 => (K_bndM (hA_fX3_add h287 (by omega)) fun _ h288 => (K_ltM (K_wrA h288 (by omega)) fun _ h289 => (K_sP h289))))))))) (K_sP hM)))) (K_sP hM))) (K_sP hM)) (K_sP hM)))))
theorem hA_fX11_fund_J16 {M : Mc} {X1 : Int32} {Z0 : Int32} (hM : KA u v y W M) : KG gT (KA u v y W) (fX11_fund_J16 M X1 Z0) := by
  unfold fX11_fund_J16
  exact (K_bnxV fun _ => (K_ltM (K_wrA hM (by omega)) fun _ h290 => (K_sT h290)))
theorem hA_fX11_fund_J15 {M : Mc} {X1 : Int32} (hM : KA u v y W M) : KG gT (KA u v y W) (fX11_fund_J15 M X1) := by
  unfold fX11_fund_J15
  exact (hA_fX11_fund_J16 hM )
theorem hA_fX11_fund {M : Mc} {p0 : Int32} (hM : KA u v y W M) : KG gT (KA u v y W) (fX11_fund M p0) := by
  unfold fX11_fund
  exact (K_ite (hA_fX11_fund_J15 hM ) (K_ite (hA_fX11_fund_J15 hM ) (hA_fX11_fund_J16 hM )))
theorem hA_fX11_bill_J17 {M : Mc} {X1 : Int32} {Z0 : Int32} (hM : KA u v y W M) : KG gT (KA u v y W) (fX11_bill_J17 M X1 Z0) := by
  unfold fX11_bill_J17
  exact (K_bnxV fun _ => (K_bn2M (hA_fX1_add hM (by omega)) fun _ _ h291 => (K_ite (K_sT h291) (K_ltM (K_wrA h291 (by omega)) fun _ h292 => (K_sT h292)))))
theorem hA_fX11_bill_J16 {M : Mc} {X1 : Int32} (hM : KA u v y W M) : KG gT (KA u v y W) (fX11_bill_J16 M X1) := by
  unfold fX11_bill_J16
  exact (hA_fX11_bill_J17 hM )
theorem hA_fX11_bill {M : Mc} {p0 : Int32} (hM : KA u v y W M) : KG gT (KA u v y W) (fX11_bill M p0) := by
  unfold fX11_bill
  exact (K_ite (hA_fX11_bill_J16 hM ) (K_ite (hA_fX11_bill_J16 hM ) (hA_fX11_bill_J17 hM )))
theorem hA_fX11_pass {M : Mc} {p0 : Int32} (hM : KA u v y W M) : KG gT (KA u v y W) (fX11_pass M p0) := by
  unfold fX11_pass
  exact (K_bnxV fun _ => (K_bn2M (hA_fX1_handOn hM (by omega)) fun _ _ h293 => (K_sT h293)))
theorem hA_fX11_tried_L95   : ∀ (n : Nat) (M : Mc) (X3 : Int32) (X4 : Int32) (X5 : Int32), KA u v y W M → KG gT (KA u v y W) (fX11_tried_L95 n M X3 X4 X5)  := by
  intro n
  induction n with
  | zero => intros; rw [fX11_tried_L95]; exact K_none
  | succ n ih =>
    intro M X3 X4 X5 hM
    rw [fX11_tried_L95]
    exact (K_ite (K_ite (K_sT hM) (K_ite (K_sT hM) (K_ite (K_sT hM) (K_ite (K_sT hM) (K_ite (K_bndV fun _ => (K_sT hM)) (K_sT hM)))))) (K_bndM (hA_fX10_goOn hM (by omega)) fun _ h294 => (ih _ _ _ _ h294)))
theorem hA_fX11_tried_J57 {M : Mc} {X1 : Int32} {X2 : Int32} {X3 : Int32} {X4 : Int32} {Z0 : Int32} (hM : KA u v y W M) : KG gT (KA u v y W) (fX11_tried_J57 M X1 X2 X3 X4 Z0) := by
  unfold fX11_tried_J57
  exact (K_bnxV fun _ => (K_bnxV fun _ => (K_bndM (hA_fX10_copyFrom hM (by omega)) fun _ h295 => (K_ltM (K_wrA h295 (by omega)) fun _ h296 => (K_ltM (K_wrA h296 (by omega)) fun _ h297 => (hA_fX11_tried_L95  _ _ _ _ _ h297))))))
theorem hA_fX11_tried_J56 {M : Mc} {X1 : Int32} {X2 : Int32} {X3 : Int32} {X4 : Int32} (hM : KA u v y W M) : KG gT (KA u v y W) (fX11_tried_J56 M X1 X2 X3 X4) := by
  unfold fX11_tried_J56
  exact (hA_fX11_tried_J57 hM )
theorem hA_fX11_tried_J27 {M : Mc} {X1 : Int32} {X2 : Int32} {X3 : Int32} {X4 : Int32} {Z0 : Int32} (hM : KA u v y W M) : KG gT (KA u v y W) (fX11_tried_J27 M X1 X2 X3 X4 Z0) := by
  unfold fX11_tried_J27
  exact (K_bnxV fun _ => (K_ite (hA_fX11_tried_J56 hM ) (K_ite (hA_fX11_tried_J56 hM ) (K_ite (hA_fX11_tried_J56 hM ) (K_ite (hA_fX11_tried_J56 hM ) (hA_fX11_tried_J57 hM ))))))
theorem hA_fX11_tried_J26 {M : Mc} {X1 : Int32} {X2 : Int32} {X3 : Int32} {X4 : Int32} (hM : KA u v y W M) : KG gT (KA u v y W) (fX11_tried_J26 M X1 X2 X3 X4) := by
  unfold fX11_tried_J26
  exact (hA_fX11_tried_J27 hM )
theorem hA_fX11_tried {M : Mc} {p0 : Int32} {p1 : Int32} {p2 : Int32} {p3 : Int32} (hM : KA u v y W M) : KG gT (KA u v y W) (fX11_tried M p0 p1 p2 p3) := by
  unfold fX11_tried
  exact (K_ite (hA_fX11_tried_J26 hM ) (K_ite (hA_fX11_tried_J26 hM ) (K_ite (hA_fX11_tried_J26 hM ) (K_ite (hA_fX11_tried_J26 hM ) (hA_fX11_tried_J27 hM )))))
theorem hA_fX11_putThree {M : Mc} {k0 : Nat} {p0 : Int32} {p1 : Int32} {p2 : Int32} (hM : KA u v y W M) (h_k0 : k0 ≠ 17 ∧ k0 ≠ 32 ∧ k0 ≠ 0 ∧ k0 ≠ 16) : KG gM (KA u v y W) (fX11_putThree M k0 p0 p1 p2) := by
  unfold fX11_putThree
  exact (K_ite (K_chk fun hb_ => (K_ltM (K_wrA hM (by omega)) fun _ h298 => (K_chk fun hb_ => (K_ltM (K_wrA h298 (by omega)) fun _ h299 => (K_chk fun hb_ => (K_ltM (K_wrA h299 (by omega)) fun _ h300 => (K_sM h300))))))) (K_sM hM))
theorem hA_fX11_prices_J26 {M : Mc} {X1 : Int32} {X2 : Int32} {X3 : Int32} {Z0 : Int32} (hM : KA u v y W M) : KG gS (KA u v y W) (fX11_prices_J26 M X1 X2 X3 Z0) := by
  unfold fX11_prices_J26
  exact (K_bnxVS fun _ => (K_bndM (hA_fX11_putThree hM (by omega)) fun _ h301 => (K_ltM (K_wrA h301 (by omega)) fun _ h302 => (K_sS h302))))
theorem hA_fX11_prices_J25 {M : Mc} {X1 : Int32} {X2 : Int32} {X3 : Int32} (hM : KA u v y W M) : KG gS (KA u v y W) (fX11_prices_J25 M X1 X2 X3) := by
  unfold fX11_prices_J25
  exact (hA_fX11_prices_J26 hM )
theorem hA_fX11_prices {M : Mc} {p0 : Int32} {p1 : Int32} {p2 : Int32} (hM : KA u v y W M) : KG gS (KA u v y W) (fX11_prices M p0 p1 p2) := by
  unfold fX11_prices
  exact (K_bndV fun _ => (K_ite (hA_fX11_prices_J25 hM ) (K_bndV fun _ => (K_ite (hA_fX11_prices_J25 hM ) (K_bndV fun _ => (K_ite (hA_fX11_prices_J25 hM ) (hA_fX11_prices_J26 hM )))))))
theorem hA_fX11_worst_J37 {M : Mc} {X1 : Int32} {X2 : Int32} {X3 : Int32} {X4 : Int32} {Z0 : Int32} (hM : KA u v y W M) : KG gS (KA u v y W) (fX11_worst_J37 M X1 X2 X3 X4 Z0) := by
  unfold fX11_worst_J37
  exact (K_bnxVS fun _ => (K_bndM (hA_fX11_putThree hM (by omega)) fun _ h303 => (K_ltM (K_wrA h303 (by omega)) fun _ h304 => (K_sS h304))))
theorem hA_fX11_worst_J36 {M : Mc} {X1 : Int32} {X2 : Int32} {X3 : Int32} {X4 : Int32} (hM : KA u v y W M) : KG gS (KA u v y W) (fX11_worst_J36 M X1 X2 X3 X4) := by
  unfold fX11_worst_J36
  exact (hA_fX11_worst_J37 hM )
theorem hA_fX11_worst {M : Mc} {p0 : Int32} {p1 : Int32} {p2 : Int32} {p3 : Int32} (hM : KA u v y W M) : KG gS (KA u v y W) (fX11_worst M p0 p1 p2 p3) := by
  unfold fX11_worst
  exact (K_ite (hA_fX11_worst_J36 hM ) (K_ite (hA_fX11_worst_J36 hM ) (K_bndV fun _ => (K_ite (hA_fX11_worst_J36 hM ) (K_bndV fun _ => (K_ite (hA_fX11_worst_J36 hM ) (K_bndV fun _ => (K_ite (hA_fX11_worst_J36 hM ) (hA_fX11_worst_J37 hM )))))))))
theorem hA_fX11_tryRow_J98 {K28 : Mc → Int32 → Int32 → Int32 → Int32 → Int32 → Int32 → Int32 → Option (Mc)} {K71 : Mc → Int32 → Int32 → Int32 → Int32 → Int32 → Int32 → Int32 → Int32 → Option (Mc)} {M : Mc} {X1 : Int32} {X2 : Int32} {X3 : Int32} {X4 : Int32} {X5 : Int32} {X6 : Int32} {X7 : Int32} {X8 : Int32} {Z0 : Int32} (hM : KA u v y W M) (hK28 : ∀ (y0 : Mc) (y1 : Int32) (y2 : Int32) (y3 : Int32) (y4 : Int32) (y5 : Int32) (y6 : Int32) (y7 : Int32), KA u v y W y0 → KG gM (KA u v y W) (K28 y0 y1 y2 y3 y4 y5 y6 y7)) (hK71 : ∀ (y0 : Mc) (y1 : Int32) (y2 : Int32) (y3 : Int32) (y4 : Int32) (y5 : Int32) (y6 : Int32) (y7 : Int32) (y8 : Int32), KA u v y W y0 → KG gM (KA u v y W) (K71 y0 y1 y2 y3 y4 y5 y6 y7 y8)) : KG gM (KA u v y W) (fX11_tryRow_J98 K28 K71 M X1 X2 X3 X4 X5 X6 X7 X8 Z0) := by
  unfold fX11_tryRow_J98
  exact (K_bndV fun _ => (K_ltM (K_wrA hM (by omega)) fun _ h305 => (K_bndM (hA_fX10_goOn h305 (by omega)) fun _ h306 => (hK71 _ _ _ _ _ _ _ _ _ h306))))
theorem hA_fX11_tryRow_L71 {K28 : Mc → Int32 → Int32 → Int32 → Int32 → Int32 → Int32 → Int32 → Option (Mc)} (hK28 : ∀ (y0 : Mc) (y1 : Int32) (y2 : Int32) (y3 : Int32) (y4 : Int32) (y5 : Int32) (y6 : Int32) (y7 : Int32), KA u v y W y0 → KG gM (KA u v y W) (K28 y0 y1 y2 y3 y4 y5 y6 y7)) : ∀ (n : Nat) (M : Mc) (X1 : Int32) (X2 : Int32) (X3 : Int32) (X4 : Int32) (X5 : Int32) (X6 : Int32) (X7 : Int32) (X8 : Int32), KA u v y W M → KG gM (KA u v y W) (fX11_tryRow_L71 K28 n M X1 X2 X3 X4 X5 X6 X7 X8)  := by
  intro n
  induction n with
  | zero => intros; rw [fX11_tryRow_L71]; exact K_none
  | succ n ih =>
    intro M X1 X2 X3 X4 X5 X6 X7 X8 hM
    rw [fX11_tryRow_L71]
    exact (K_ite (K_ltV fun _ => (K_ltV fun _ => (hK28 _ _ _ _ _ _ _ _ hM))) (K_ite (hA_fX11_tryRow_J98 hM hK28 (fun _ _ _ _ _ _ _ _ _ hc_ => (ih _ _ _ _ _ _ _ _ _ hc_))) (hA_fX11_tryRow_J98 hM hK28 (fun _ _ _ _ _ _ _ _ _ hc_ => (ih _ _ _ _ _ _ _ _ _ hc_)))))
theorem hA_fX11_tryRow_J230 {M : Mc} {X5 : Int32} {X6 : Int32} {Z0 : Int32} {Z1 : Int32} (hM : KA u v y W M) : KG gM (KA u v y W) (fX11_tryRow_J230 M X5 X6 Z0 Z1) := by
  unfold fX11_tryRow_J230
  exact (K_chk fun hb_ => (K_ltM (K_wrA hM (by omega)) fun _ h307 => (K_chk fun hb_ => (K_ltM (K_wrA h307 (by omega)) fun _ h308 => (K_chk fun hb_ => (K_ltM (K_wrA h308 (by omega)) fun _ h309 => (K_sM h309)))))))
theorem hA_fX11_tryRow_J207 {M : Mc} {X1 : Int32} {X3 : Int32} {X4 : Int32} {X5 : Int32} {X6 : Int32} (hM : KA u v y W M) : KG gM (KA u v y W) (fX11_tryRow_J207 M X1 X3 X4 X5 X6) := by
  unfold fX11_tryRow_J207
  exact (K_chk fun hb_ => (K_ltM (K_wrA hM (by omega)) fun _ h310 => (K_ite (hA_fX11_tryRow_J230 h310 ) (hA_fX11_tryRow_J230 h310 ))))
theorem hA_fX11_tryRow_J195 {M : Mc} {X1 : Int32} {X2 : Int32} {X3 : Int32} {X4 : Int32} {X5 : Int32} {X6 : Int32} {Z0 : Int32} (hM : KA u v y W M) : KG gM (KA u v y W) (fX11_tryRow_J195 M X1 X2 X3 X4 X5 X6 Z0) := by
  unfold fX11_tryRow_J195
  exact (K_ite (hA_fX11_tryRow_J207 hM ) (K_ite (K_sM hM) (hA_fX11_tryRow_J207 hM )))
theorem hA_fX11_tryRow_J190 {M : Mc} {X1 : Int32} {X2 : Int32} {X3 : Int32} {X4 : Int32} {X5 : Int32} {X6 : Int32} (hM : KA u v y W M) : KG gM (KA u v y W) (fX11_tryRow_J190 M X1 X2 X3 X4 X5 X6) := by
  unfold fX11_tryRow_J190
  exact (hA_fX11_tryRow_J195 hM )
theorem hA_fX11_tryRow_J194 {M : Mc} {X1 : Int32} {X2 : Int32} {X3 : Int32} {X4 : Int32} {X5 : Int32} {X6 : Int32} (hM : KA u v y W M) : KG gM (KA u v y W) (fX11_tryRow_J194 M X1 X2 X3 X4 X5 X6) := by
  unfold fX11_tryRow_J194
  exact (hA_fX11_tryRow_J195 hM )
theorem hA_fX11_tryRow_J157 {M : Mc} {X1 : Int32} {X2 : Int32} {X3 : Int32} {X4 : Int32} {X5 : Int32} {X6 : Int32} (hM : KA u v y W M) : KG gM (KA u v y W) (fX11_tryRow_J157 M X1 X2 X3 X4 X5 X6) := by
  unfold fX11_tryRow_J157
  exact (K_chk fun hb_ => (K_ite (hA_fX11_tryRow_J190 hM ) (K_chk fun hb_ => (K_ite (K_chk fun hb_ => (K_ite (hA_fX11_tryRow_J194 hM ) (hA_fX11_tryRow_J190 hM ))) (hA_fX11_tryRow_J194 hM )))))
theorem hA_fX11_tryRow_L28   : ∀ (n : Nat) (M : Mc) (X1 : Int32) (X2 : Int32) (X3 : Int32) (X4 : Int32) (X5 : Int32) (X6 : Int32) (X7 : Int32), KA u v y W M → KG gM (KA u v y W) (fX11_tryRow_L28 n M X1 X2 X3 X4 X5 X6 X7)  := by
  intro n
  induction n with
  | zero => intros; rw [fX11_tryRow_L28]; exact K_none
  | succ n ih =>
    intro M X1 X2 X3 X4 X5 X6 X7 hM
    rw [fX11_tryRow_L28]
    exact (K_ite (hA_fX11_tryRow_J157 hM ) (K_ite (hA_fX11_tryRow_J157 hM ) (K_bndM (hA_fX10_copyFrom hM (by omega)) fun _ h311 => (K_chk fun hb_ => (K_ltM (K_wrA h311 (by omega)) fun _ h312 => (hA_fX11_tryRow_L71 (fun _ _ _ _ _ _ _ _ hc_ => (ih _ _ _ _ _ _ _ _ hc_)) _ _ _ _ _ _ _ _ _ _ h312))))))
theorem hA_fX11_tryRow_J12 {M : Mc} {X1 : Int32} {X2 : Int32} {Z0 : Int32} (hM : KA u v y W M) : KG gM (KA u v y W) (fX11_tryRow_J12 M X1 X2 Z0) := by
  unfold fX11_tryRow_J12
  exact (K_ltV fun _ => (hA_fX11_tryRow_L28  _ _ _ _ _ _ _ _ _ hM))
theorem hA_fX11_tryRow {M : Mc} {p0 : Int32} {p1 : Int32} (hM : KA u v y W M) : KG gM (KA u v y W) (fX11_tryRow M p0 p1) := by
  unfold fX11_tryRow
  exact (K_ite (hA_fX11_tryRow_J12 hM ) (hA_fX11_tryRow_J12 hM ))
theorem hA_fX11_planned_L66   : ∀ (n : Nat) (M : Mc) (X1 : Int32) (X2 : Int32) (X3 : Int32) (X4 : Int32), KA u v y W M → KG gT (KA u v y W) (fX11_planned_L66 n M X1 X2 X3 X4)  := by
  intro n
  induction n with
  | zero => intros; rw [fX11_planned_L66]; exact K_none
  | succ n ih =>
    intro M X1 X2 X3 X4 hM
    rw [fX11_planned_L66]
    exact (K_ite (K_bndV fun _ => (K_ite (K_sT hM) (K_chk fun hb_ => (K_sT hM)))) (K_bndM (hA_fX11_tryRow hM ) fun _ h313 => (ih _ _ _ _ _ h313)))
theorem hA_fX11_planned_J62 {M : Mc} {X1 : Int32} {X2 : Int32} {Z0 : Int32} (hM : KA u v y W M) : KG gT (KA u v y W) (fX11_planned_J62 M X1 X2 Z0) := by
  unfold fX11_planned_J62
  exact (hA_fX11_planned_L66  _ _ _ _ _ _ hM)
theorem hA_fX11_planned_J24 {M : Mc} {X1 : Int32} {X2 : Int32} {Z0 : Int32} (hM : KA u v y W M) : KG gT (KA u v y W) (fX11_planned_J24 M X1 X2 Z0) := by
  unfold fX11_planned_J24
  exact (K_bnxV fun _ => (K_bnxV fun _ => (K_ite (K_sT hM) (K_ite (K_sT hM) (K_ite (hA_fX11_planned_J62 hM ) (hA_fX11_planned_J62 hM ))))))
theorem hA_fX11_planned_J23 {M : Mc} {X1 : Int32} {X2 : Int32} (hM : KA u v y W M) : KG gT (KA u v y W) (fX11_planned_J23 M X1 X2) := by
  unfold fX11_planned_J23
  exact (hA_fX11_planned_J24 hM )
theorem hA_fX11_planned_J10 {M : Mc} {X1 : Int32} {X2 : Int32} (hM : KA u v y W M) : KG gT (KA u v y W) (fX11_planned_J10 M X1 X2) := by
  unfold fX11_planned_J10
  exact (K_ite (hA_fX11_planned_J23 hM ) (K_ite (hA_fX11_planned_J23 hM ) (hA_fX11_planned_J24 hM )))
theorem hA_fX11_planned {M : Mc} {p0 : Int32} {p1 : Int32} (hM : KA u v y W M) : KG gT (KA u v y W) (fX11_planned M p0 p1) := by
  unfold fX11_planned
  exact (K_ite (hA_fX11_planned_J10 hM ) (K_ite (hA_fX11_planned_J10 hM ) (hA_fX11_planned_J23 hM )))
theorem hA_fX11_image {M : Mc} {N : Md} (hM : KA u v y W M) : KG gL (KA u v y W) (fX11_image M N) := by
  unfold fX11_image
  exact (K_bn3M (hA_fX6_take hM (by omega) (by omega)) fun _ _ _ h314 => (K_sL h314))
theorem hA_fX11_tear {M : Mc} {p0 : Int32} {p1 : Int32} (hM : KA u v y W M) : KG gP (KA u v y W) (fX11_tear M p0 p1) := by
  unfold fX11_tear
  exact (K_bn2M (hA_fX6_alter hM ) fun _ _ h315 => (K_sP h315))
end KAs
