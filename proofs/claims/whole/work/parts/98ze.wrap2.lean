/-! ===== which exceptions a call may throw: 1 an index, 2 an argument, 3 a state ===== -/
def TH {α : Type} (S : List Nat) (x : Option (Nat ⊕ α)) : Prop := ∀ k, x = some (.inl k) → k ∈ S
section THs
variable {α β γ δ : Type} {S T : List Nat}
theorem T_none : TH S (none : Option (Nat ⊕ α)) := fun _ h => by cases h
theorem T_inr {a : α} : TH S (some (.inr a) : Option (Nat ⊕ α)) := fun _ h => by cases h
theorem T_inl {k : Nat} (h : k ∈ S) : TH S (some (.inl k) : Option (Nat ⊕ α)) := fun _ e => by cases e; exact h
theorem T_mono {x : Option (Nat ⊕ α)} (h : TH T x) (hs : ∀ k, k ∈ T → k ∈ S) : TH S x := fun k e => hs k (h k e)
theorem T_ite {c : Prop} [Decidable c] {a b : Option (Nat ⊕ α)} (h1 : TH S a) (h2 : TH S b) : TH S (if c then a else b) := by
  by_cases q : c
  · rw [if_pos q]; exact h1
  · rw [if_neg q]; exact h2
theorem T_chk {i : Int32} {K : Nat} {x : Option (Nat ⊕ α)} (h : TH S x) : TH S (chk i K x) := by
  unfold chk; exact T_ite T_none h
theorem T_chz {i : Int32} {x : Option (Nat ⊕ α)} (h : TH S x) : TH S (chz i x) := by
  unfold chz; exact T_ite T_none h
theorem T_chp {c : Prop} [Decidable c] {x : Option (Nat ⊕ α)} (h : TH S x) : TH S (chp c x) := by
  unfold chp; exact T_ite h T_none
theorem T_lt {a : β} {f : β → Option (Nat ⊕ α)} (h : ∀ b, TH S (f b)) : TH S (lt a f) := h a
theorem T_bnd {x : Option β} {f : β → Option (Nat ⊕ α)} (h : ∀ b, TH S (f b)) : TH S (bnd x f) := by
  cases x with
  | none => exact T_none
  | some b => exact h b
theorem T_bn2 {x : Option (β × γ)} {f : β → γ → Option (Nat ⊕ α)} (h : ∀ b c, TH S (f b c)) : TH S (bn2 x f) := by
  cases x with
  | none => exact T_none
  | some b => exact h _ _
theorem T_bn3 {x : Option (β × γ × δ)} {f : β → γ → δ → Option (Nat ⊕ α)} (h : ∀ b c d, TH S (f b c d)) : TH S (bn3 x f) := by
  cases x with
  | none => exact T_none
  | some b => exact h _ _ _
theorem T_bnx {x : Option (Nat ⊕ β)} {f : β → Option (Nat ⊕ α)} (h1 : TH S x) (h : ∀ b, TH S (f b)) : TH S (bnx x f) := by
  cases x with
  | none => exact T_none
  | some b =>
    cases b with
    | inl k => exact T_inl (h1 k rfl)
    | inr b => exact h b
theorem T_cpy {M : Mc} {k0 n0 k1 n1 : Nat} {sp dp n : Int32} {f : Mc → Option (Nat ⊕ α)} (h : ∀ b, TH S (f b)) : TH S (cpy M k0 n0 sp k1 n1 dp n f) := by
  unfold cpy; exact T_ite T_none (h _)

theorem t_fX11_needSection {p0 : Int32} : TH [1] (fX11_needSection p0) := by
  unfold fX11_needSection
  exact (T_bnd fun _ => (T_ite (T_inl (by decide)) T_inr))
theorem t_fX11_needThat {p0 : Int32} : TH [2] (fX11_needThat p0) := by
  unfold fX11_needThat
  exact (T_ite (T_inl (by decide)) T_inr)
theorem t_fX11_land_J19 {M : Mc} {X1 : Int32} {X2 : Int32} {X3 : Int32} {Z0 : Int32} : TH [2] (fX11_land_J19 M X1 X2 X3 Z0) := by
  unfold fX11_land_J19
  exact (T_bnx (T_mono t_fX11_needThat (by decide)) fun _ => (T_bn2 fun _ _ => (T_ite T_inr T_inr)))
theorem t_fX11_land_J18 {M : Mc} {X1 : Int32} {X2 : Int32} {X3 : Int32} : TH [2] (fX11_land_J18 M X1 X2 X3) := by
  unfold fX11_land_J18
  exact (T_mono t_fX11_land_J19 (by decide))
theorem t_fX11_land {M : Mc} {p0 : Int32} {p1 : Int32} {p2 : Int32} : TH [1, 2] (fX11_land M p0 p1 p2) := by
  unfold fX11_land
  exact (T_bnx (T_mono t_fX11_needSection (by decide)) fun _ => (T_ite (T_mono t_fX11_land_J18 (by decide)) (T_ite (T_mono t_fX11_land_J18 (by decide)) (T_mono t_fX11_land_J19 (by decide)))))
theorem t_fX11_needZone {p0 : Int32} : TH [1] (fX11_needZone p0) := by
  unfold fX11_needZone
  exact (T_bnd fun _ => (T_ite (T_inl (by decide)) T_inr))
theorem t_fX11_rain_J21 {M : Mc} {X1 : Int32} {X2 : Int32} {Z0 : Int32} : TH [2] (fX11_rain_J21 M X1 X2 Z0) := by
  unfold fX11_rain_J21
  exact (T_bnx (T_mono t_fX11_needThat (by decide)) fun _ => (T_bn2 fun _ _ => T_inr))
theorem t_fX11_rain_J20 {M : Mc} {X1 : Int32} {X2 : Int32} : TH [2] (fX11_rain_J20 M X1 X2) := by
  unfold fX11_rain_J20
  exact (T_mono t_fX11_rain_J21 (by decide))
theorem t_fX11_rain {M : Mc} {p0 : Int32} {p1 : Int32} : TH [1, 2] (fX11_rain M p0 p1) := by
  unfold fX11_rain
  exact (T_bnx (T_mono t_fX11_needZone (by decide)) fun _ => (T_ite (T_mono t_fX11_rain_J20 (by decide)) (T_ite (T_mono t_fX11_rain_J20 (by decide)) (T_mono t_fX11_rain_J21 (by decide)))))
theorem t_fX11_rains_J32 {M : Mc} {X1 : Int32} {X2 : Int32} {X3 : Int32} {Z0 : Int32} : TH [2] (fX11_rains_J32 M X1 X2 X3 Z0) := by
  unfold fX11_rains_J32
  exact (T_bnx (T_mono t_fX11_needThat (by decide)) fun _ => (T_bn2 fun _ _ => T_inr))
theorem t_fX11_rains_J31 {M : Mc} {X1 : Int32} {X2 : Int32} {X3 : Int32} : TH [2] (fX11_rains_J31 M X1 X2 X3) := by
  unfold fX11_rains_J31
  exact (T_mono t_fX11_rains_J32 (by decide))
theorem t_fX11_rains {M : Mc} {p0 : Int32} {p1 : Int32} {p2 : Int32} : TH [1, 2] (fX11_rains M p0 p1 p2) := by
  unfold fX11_rains
  exact (T_bnx (T_mono t_fX11_needZone (by decide)) fun _ => (T_ite (T_mono t_fX11_rains_J31 (by decide)) (T_ite (T_mono t_fX11_rains_J31 (by decide)) (T_ite (T_mono t_fX11_rains_J31 (by decide)) (T_ite (T_mono t_fX11_rains_J31 (by decide)) (T_mono t_fX11_rains_J32 (by decide)))))))
theorem t_fX11_fell_J20 {M : Mc} {X1 : Int32} {X2 : Int32} {Z0 : Int32} : TH [2] (fX11_fell_J20 M X1 X2 Z0) := by
  unfold fX11_fell_J20
  exact (T_bnx (T_mono t_fX11_needThat (by decide)) fun _ => (T_bnd fun _ => T_inr))
theorem t_fX11_fell_J19 {M : Mc} {X1 : Int32} {X2 : Int32} : TH [2] (fX11_fell_J19 M X1 X2) := by
  unfold fX11_fell_J19
  exact (T_mono t_fX11_fell_J20 (by decide))
theorem t_fX11_fell {M : Mc} {p0 : Int32} {p1 : Int32} : TH [1, 2] (fX11_fell M p0 p1) := by
  unfold fX11_fell
  exact (T_bnx (T_mono t_fX11_needZone (by decide)) fun _ => (T_ite (T_mono t_fX11_fell_J19 (by decide)) (T_ite (T_mono t_fX11_fell_J19 (by decide)) (T_mono t_fX11_fell_J20 (by decide)))))
theorem t_fX11_seen {M : Mc} {p0 : Int32} : TH [1] (fX11_seen M p0) := by
  unfold fX11_seen
  exact (T_bnx (T_mono t_fX11_needZone (by decide)) fun _ => (T_bnd fun _ => T_inr))
theorem t_fX11_promise {M : Mc} {p0 : Int32} : TH [1] (fX11_promise M p0) := by
  unfold fX11_promise
  exact (T_bnx (T_mono t_fX11_needSection (by decide)) fun _ => (T_bnd fun _ => T_inr))
theorem t_fX11_section_J19 {M : Mc} {X1 : Int32} {X2 : Int32} {Z0 : Int32} : TH [2] (fX11_section_J19 M X1 X2 Z0) := by
  unfold fX11_section_J19
  exact (T_bnx (T_mono t_fX11_needThat (by decide)) fun _ => (T_bnd fun _ => T_inr))
theorem t_fX11_section_J18 {M : Mc} {X1 : Int32} {X2 : Int32} : TH [2] (fX11_section_J18 M X1 X2) := by
  unfold fX11_section_J18
  exact (T_mono t_fX11_section_J19 (by decide))
theorem t_fX11_section {M : Mc} {p0 : Int32} {p1 : Int32} : TH [1, 2] (fX11_section M p0 p1) := by
  unfold fX11_section
  exact (T_bnx (T_mono t_fX11_needSection (by decide)) fun _ => (T_ite (T_mono t_fX11_section_J18 (by decide)) (T_ite (T_mono t_fX11_section_J18 (by decide)) (T_mono t_fX11_section_J19 (by decide)))))
theorem t_fX11_is_J18 {M : Mc} {X1 : Int32} {X2 : Int32} {Z0 : Int32} : TH [2] (fX11_is_J18 M X1 X2 Z0) := by
  unfold fX11_is_J18
  exact (T_bnx (T_mono t_fX11_needThat (by decide)) fun _ => (T_ite (T_bnd fun _ => (T_ite T_inr T_inr)) (T_ite (T_bnd fun _ => (T_chp T_inr)) (T_ite (T_bnd fun _ => (T_chp T_inr)) (T_bnd fun _ => (T_chp T_inr))))))
theorem t_fX11_is_J17 {M : Mc} {X1 : Int32} {X2 : Int32} : TH [2] (fX11_is_J17 M X1 X2) := by
  unfold fX11_is_J17
  exact (T_mono t_fX11_is_J18 (by decide))
theorem t_fX11_is {M : Mc} {p0 : Int32} {p1 : Int32} : TH [1, 2] (fX11_is M p0 p1) := by
  unfold fX11_is
  exact (T_bnx (T_mono t_fX11_needSection (by decide)) fun _ => (T_ite (T_mono t_fX11_is_J17 (by decide)) (T_ite (T_mono t_fX11_is_J17 (by decide)) (T_mono t_fX11_is_J18 (by decide)))))
theorem t_fX11_people_J24 {M : Mc} {X1 : Int32} {X2 : Int32} {X3 : Int32} {Z0 : Int32} : TH [2] (fX11_people_J24 M X1 X2 X3 Z0) := by
  unfold fX11_people_J24
  exact (T_bnx (T_mono t_fX11_needThat (by decide)) fun _ => (T_lt fun _ => (T_ite (T_ite (T_bnd fun _ => T_inr) T_inr) T_inr)))
theorem t_fX11_people_J23 {M : Mc} {X1 : Int32} {X2 : Int32} {X3 : Int32} : TH [2] (fX11_people_J23 M X1 X2 X3) := by
  unfold fX11_people_J23
  exact (T_mono t_fX11_people_J24 (by decide))
theorem t_fX11_people {M : Mc} {p0 : Int32} {p1 : Int32} {p2 : Int32} : TH [2] (fX11_people M p0 p1 p2) := by
  unfold fX11_people
  exact (T_ite (T_mono t_fX11_people_J23 (by decide)) (T_ite (T_mono t_fX11_people_J23 (by decide)) (T_ite (T_mono t_fX11_people_J23 (by decide)) (T_ite (T_mono t_fX11_people_J23 (by decide)) (T_mono t_fX11_people_J24 (by decide))))))
theorem t_fX11_needPerson {M : Mc} {p0 : Int32} : TH [1] (fX11_needPerson M p0) := by
  unfold fX11_needPerson
  exact (T_bnd fun _ => (T_ite (T_inl (by decide)) T_inr))
theorem t_fX11_person_J20 {M : Mc} {X1 : Int32} {X2 : Int32} {Z0 : Int32} : TH [2] (fX11_person_J20 M X1 X2 Z0) := by
  unfold fX11_person_J20
  exact (T_bnx (T_mono t_fX11_needThat (by decide)) fun _ => (T_bnd fun _ => T_inr))
theorem t_fX11_person_J19 {M : Mc} {X1 : Int32} {X2 : Int32} : TH [2] (fX11_person_J19 M X1 X2) := by
  unfold fX11_person_J19
  exact (T_mono t_fX11_person_J20 (by decide))
theorem t_fX11_person {M : Mc} {p0 : Int32} {p1 : Int32} : TH [1, 2] (fX11_person M p0 p1) := by
  unfold fX11_person
  exact (T_bnx (T_mono t_fX11_needPerson (by decide)) fun _ => (T_ite (T_mono t_fX11_person_J19 (by decide)) (T_ite (T_mono t_fX11_person_J19 (by decide)) (T_mono t_fX11_person_J20 (by decide)))))
theorem t_fX11_party_J16 {M : Mc} {X1 : Int32} {Z0 : Int32} : TH [2] (fX11_party_J16 M X1 Z0) := by
  unfold fX11_party_J16
  exact (T_bnx (T_mono t_fX11_needThat (by decide)) fun _ => (T_bn2 fun _ _ => T_inr))
theorem t_fX11_party_J15 {M : Mc} {X1 : Int32} : TH [2] (fX11_party_J15 M X1) := by
  unfold fX11_party_J15
  exact (T_mono t_fX11_party_J16 (by decide))
theorem t_fX11_party {M : Mc} {p0 : Int32} : TH [2] (fX11_party M p0) := by
  unfold fX11_party
  exact (T_ite (T_mono t_fX11_party_J15 (by decide)) (T_ite (T_mono t_fX11_party_J15 (by decide)) (T_mono t_fX11_party_J16 (by decide))))
theorem t_fX11_needParty {M : Mc} {p0 : Int32} : TH [1] (fX11_needParty M p0) := by
  unfold fX11_needParty
  exact (T_bnd fun _ => (T_ite (T_inl (by decide)) T_inr))
theorem t_fX11_queue {M : Mc} {p0 : Int32} {p1 : Int32} : TH [1] (fX11_queue M p0 p1) := by
  unfold fX11_queue
  exact (T_bnx (T_mono t_fX11_needParty (by decide)) fun _ => (T_bnx (T_mono t_fX11_needSection (by decide)) fun _ => (T_bnd fun _ => (T_ite (T_bnd fun _ => (T_ite T_inr (T_bn2 fun _ _ => T_inr))) T_inr))))
theorem t_fX11_where_J19 {M : Mc} {X1 : Int32} {X2 : Int32} {Z0 : Int32} : TH [2] (fX11_where_J19 M X1 X2 Z0) := by
  unfold fX11_where_J19
  exact (T_bnx (T_mono t_fX11_needThat (by decide)) fun _ => (T_ite (T_bnd fun _ => T_inr) (T_ite (T_bnd fun _ => T_inr) (T_bnd fun _ => T_inr))))
theorem t_fX11_where_J18 {M : Mc} {X1 : Int32} {X2 : Int32} : TH [2] (fX11_where_J18 M X1 X2) := by
  unfold fX11_where_J18
  exact (T_mono t_fX11_where_J19 (by decide))
theorem t_fX11_where {M : Mc} {p0 : Int32} {p1 : Int32} : TH [1, 2] (fX11_where M p0 p1) := by
  unfold fX11_where
  exact (T_bnx (T_mono t_fX11_needParty (by decide)) fun _ => (T_ite (T_mono t_fX11_where_J18 (by decide)) (T_ite (T_mono t_fX11_where_J18 (by decide)) (T_mono t_fX11_where_J19 (by decide)))))
theorem t_fX11_lot {M : Mc} {p0 : Int32} : TH [1] (fX11_lot M p0) := by
  unfold fX11_lot
  exact (T_bnx (T_mono t_fX11_needSection (by decide)) fun _ => (T_bnd fun _ => (T_bn2 fun _ _ => T_inr)))
theorem t_fX11_ask {M : Mc} {p0 : Int32} : TH [1] (fX11_ask M p0) := by
  unfold fX11_ask
  exact (T_bnx (T_mono t_fX11_needPerson (by decide)) fun _ => (T_bnd fun _ => (T_ite T_inr (T_bnd fun _ => (T_ite (T_bnd fun _ => (T_ite (T_bn2 fun _ _ => T_inr) T_inr)) T_inr)))))
theorem t_fX11_draw_J20 {M : Mc} {X1 : Int32} {Z0 : Int32} : TH [2] (fX11_draw_J20 M X1 Z0) := by
  unfold fX11_draw_J20
  exact (T_bnx (T_mono t_fX11_needThat (by decide)) fun _ => (T_bn2 fun _ _ => T_inr))
theorem t_fX11_draw_J19 {M : Mc} {X1 : Int32} : TH [2] (fX11_draw_J19 M X1) := by
  unfold fX11_draw_J19
  exact (T_mono t_fX11_draw_J20 (by decide))
theorem t_fX11_draw {M : Mc} {p0 : Int32} : TH [2] (fX11_draw M p0) := by
  unfold fX11_draw
  exact (T_ite (T_mono t_fX11_draw_J19 (by decide)) (T_bnd fun _ => (T_ite (T_mono t_fX11_draw_J19 (by decide)) (T_mono t_fX11_draw_J20 (by decide)))))
theorem t_fX11_acre {M : Mc} {p0 : Int32} : TH [1] (fX11_acre M p0) := by
  unfold fX11_acre
  exact (T_bnd fun _ => (T_ite (T_inl (by decide)) (T_bnd fun _ => T_inr)))
theorem t_fX11_buy {M : Mc} {p0 : Int32} {p1 : Int32} : TH [1] (fX11_buy M p0 p1) := by
  unfold fX11_buy
  exact (T_bnx (T_mono t_fX11_needPerson (by decide)) fun _ => (T_bnx (T_mono t_fX11_needSection (by decide)) fun _ => (T_bnd fun _ => (T_ite T_inr (T_bnd fun _ => (T_ite T_inr (T_bn2 fun _ _ => (T_bnd fun _ => (T_ite T_inr (T_bnd fun _ => T_inr))))))))))
theorem t_fX11_order {M : Mc} {p0 : Int32} : TH [1] (fX11_order M p0) := by
  unfold fX11_order
  exact (T_bnx (T_mono t_fX11_needPerson (by decide)) fun _ => (T_bnd fun _ => (T_ite T_inr (T_bnd fun _ => (T_ite (T_bn2 fun _ _ => (T_bnd fun _ => (T_ite T_inr (T_lt fun _ => (T_bn2 fun _ _ => T_inr))))) T_inr)))))
theorem t_fX11_choose {M : Mc} {p0 : Int32} {p1 : Int32} : TH [1] (fX11_choose M p0 p1) := by
  unfold fX11_choose
  exact (T_bnx (T_mono t_fX11_needPerson (by decide)) fun _ => (T_bnx (T_mono t_fX11_needSection (by decide)) fun _ => (T_bnd fun _ => (T_ite T_inr (T_bnd fun _ => (T_ite T_inr (T_bnd fun _ => (T_ite T_inr (T_bn2 fun _ _ => (T_bnd fun _ => (T_ite (T_bn2 fun _ _ => (T_bnd fun _ => (T_bnd fun _ => T_inr))) T_inr)))))))))))
theorem t_fX11_run_J57 {M : Mc} {X1 : Int32} {X2 : Int32} : TH [] (fX11_run_J57 M X1 X2) := by
  unfold fX11_run_J57
  exact (T_bn2 fun _ _ => (T_bnd fun _ => (T_ite T_inr (T_bnd fun _ => (T_lt fun _ => (T_bnd fun _ => T_inr))))))
theorem t_fX11_run {M : Mc} {p0 : Int32} {p1 : Int32} : TH [1] (fX11_run M p0 p1) := by
  unfold fX11_run
  exact (T_bnx (T_mono t_fX11_needPerson (by decide)) fun _ => (T_bnx (T_mono t_fX11_needSection (by decide)) fun _ => (T_bnd fun _ => (T_ite T_inr (T_bnd fun _ => (T_ite (T_bnd fun _ => (T_ite T_inr (T_mono t_fX11_run_J57 (by decide)))) (T_mono t_fX11_run_J57 (by decide))))))))
theorem t_fX11_squat {M : Mc} {p0 : Int32} {p1 : Int32} : TH [1] (fX11_squat M p0 p1) := by
  unfold fX11_squat
  exact (T_bnx (T_mono t_fX11_needPerson (by decide)) fun _ => (T_bnx (T_mono t_fX11_needSection (by decide)) fun _ => (T_bnd fun _ => (T_ite T_inr (T_bnd fun _ => (T_ite T_inr (T_bn2 fun _ _ => (T_ite T_inr (T_bnd fun _ => T_inr)))))))))
theorem t_fX11_stock_J25 {M : Mc} {X1 : Int32} {X2 : Int32} {X3 : Int32} {Z0 : Int32} : TH [2] (fX11_stock_J25 M X1 X2 X3 Z0) := by
  unfold fX11_stock_J25
  exact (T_bnx (T_mono t_fX11_needThat (by decide)) fun _ => (T_bnd fun _ => (T_ite T_inr (T_bnd fun _ => (T_ite T_inr (T_bnd fun _ => (T_ite T_inr (T_bnd fun _ => (T_bn2 fun _ _ => T_inr)))))))))
theorem t_fX11_stock_J24 {M : Mc} {X1 : Int32} {X2 : Int32} {X3 : Int32} : TH [2] (fX11_stock_J24 M X1 X2 X3) := by
  unfold fX11_stock_J24
  exact (T_mono t_fX11_stock_J25 (by decide))
theorem t_fX11_stock {M : Mc} {p0 : Int32} {p1 : Int32} {p2 : Int32} : TH [1, 2] (fX11_stock M p0 p1 p2) := by
  unfold fX11_stock
  exact (T_bnx (T_mono t_fX11_needPerson (by decide)) fun _ => (T_bnx (T_mono t_fX11_needSection (by decide)) fun _ => (T_ite (T_mono t_fX11_stock_J24 (by decide)) (T_ite (T_mono t_fX11_stock_J24 (by decide)) (T_mono t_fX11_stock_J25 (by decide))))))
theorem t_fX11_fence_J64 {M : Mc} {X1 : Int32} {X2 : Int32} {Z0 : Int32} : TH [] (fX11_fence_J64 M X1 X2 Z0) := by
  unfold fX11_fence_J64
  exact (T_bnd fun _ => (T_ite T_inr (T_bnd fun _ => (T_bnd fun _ => T_inr))))
theorem t_fX11_fence {M : Mc} {p0 : Int32} {p1 : Int32} : TH [1] (fX11_fence M p0 p1) := by
  unfold fX11_fence
  exact (T_bnx (T_mono t_fX11_needPerson (by decide)) fun _ => (T_bnx (T_mono t_fX11_needSection (by decide)) fun _ => (T_bnd fun _ => (T_ite T_inr (T_bnd fun _ => (T_ite (T_bnd fun _ => (T_ite (T_mono t_fX11_fence_J64 (by decide)) (T_mono t_fX11_fence_J64 (by decide)))) T_inr))))))
theorem t_fX11_needLaw {M : Mc} {p0 : Int32} : TH [1] (fX11_needLaw M p0) := by
  unfold fX11_needLaw
  exact (T_bnd fun _ => (T_ite (T_inl (by decide)) T_inr))
theorem t_fX11_vote {M : Mc} {p0 : Int32} {p1 : Int32} {p2 : Int32} : TH [1] (fX11_vote M p0 p1 p2) := by
  unfold fX11_vote
  exact (T_bnx (T_mono t_fX11_needLaw (by decide)) fun _ => (T_bnx (T_mono t_fX11_needPerson (by decide)) fun _ => (T_bnd fun _ => (T_ite (T_bnd fun _ => (T_ite T_inr (T_bnd fun _ => (T_ite (T_bn2 fun _ _ => T_inr) T_inr)))) T_inr))))
theorem t_fX11_close {M : Mc} {p0 : Int32} : TH [1] (fX11_close M p0) := by
  unfold fX11_close
  exact (T_bnx (T_mono t_fX11_needLaw (by decide)) fun _ => (T_bnd fun _ => (T_ite (T_bn2 fun _ _ => (T_bn2 fun _ _ => T_inr)) T_inr)))
theorem t_fX11_assent {M : Mc} {p0 : Int32} {p1 : Int32} : TH [1] (fX11_assent M p0 p1) := by
  unfold fX11_assent
  exact (T_bnx (T_mono t_fX11_needLaw (by decide)) fun _ => (T_bnd fun _ => (T_ite (T_bnd fun _ => (T_ite T_inr (T_bnd fun _ => (T_ite (T_bn2 fun _ _ => T_inr) T_inr)))) T_inr)))
theorem t_fX11_force {M : Mc} {p0 : Int32} : TH [1] (fX11_force M p0) := by
  unfold fX11_force
  exact (T_bnx (T_mono t_fX11_needLaw (by decide)) fun _ => (T_bnd fun _ => T_inr))
theorem t_fX11_means_J43 {M : Mc} {Z0 : Int32} {Z1 : Int32} : TH [] (fX11_means_J43 M Z0 Z1) := by
  unfold fX11_means_J43
  exact (T_bn2 fun _ _ => T_inr)
theorem t_fX11_means_J9 {M : Mc} {X1 : Int32} {X2 : Int32} : TH [2] (fX11_means_J9 M X1 X2) := by
  unfold fX11_means_J9
  exact (T_bnd fun _ => (T_bnx (T_mono t_fX11_needThat (by decide)) fun _ => (T_ite (T_mono t_fX11_means_J43 (by decide)) (T_bnd fun _ => (T_mono t_fX11_means_J43 (by decide))))))
theorem t_fX11_means {M : Mc} {p0 : Int32} {p1 : Int32} : TH [1, 2] (fX11_means M p0 p1) := by
  unfold fX11_means
  exact (T_ite (T_mono t_fX11_means_J9 (by decide)) (T_bnx (T_mono t_fX11_needSection (by decide)) fun _ => (T_mono t_fX11_means_J9 (by decide))))
theorem t_fX11_why {M : Mc} {p0 : Int32} : TH [2] (fX11_why M p0) := by
  unfold fX11_why
  exact (T_bnd fun _ => (T_bnx (T_mono t_fX11_needThat (by decide)) fun _ => (T_bnd fun _ => T_inr)))
theorem t_fX11_fund_J16 {M : Mc} {X1 : Int32} {Z0 : Int32} : TH [2] (fX11_fund_J16 M X1 Z0) := by
  unfold fX11_fund_J16
  exact (T_bnx (T_mono t_fX11_needThat (by decide)) fun _ => (T_lt fun _ => T_inr))
theorem t_fX11_fund_J15 {M : Mc} {X1 : Int32} : TH [2] (fX11_fund_J15 M X1) := by
  unfold fX11_fund_J15
  exact (T_mono t_fX11_fund_J16 (by decide))
theorem t_fX11_fund {M : Mc} {p0 : Int32} : TH [2] (fX11_fund M p0) := by
  unfold fX11_fund
  exact (T_ite (T_mono t_fX11_fund_J15 (by decide)) (T_ite (T_mono t_fX11_fund_J15 (by decide)) (T_mono t_fX11_fund_J16 (by decide))))
theorem t_fX11_bill_J17 {M : Mc} {X1 : Int32} {Z0 : Int32} : TH [2] (fX11_bill_J17 M X1 Z0) := by
  unfold fX11_bill_J17
  exact (T_bnx (T_mono t_fX11_needThat (by decide)) fun _ => (T_bn2 fun _ _ => (T_ite T_inr (T_lt fun _ => T_inr))))
theorem t_fX11_bill_J16 {M : Mc} {X1 : Int32} : TH [2] (fX11_bill_J16 M X1) := by
  unfold fX11_bill_J16
  exact (T_mono t_fX11_bill_J17 (by decide))
theorem t_fX11_bill {M : Mc} {p0 : Int32} : TH [2] (fX11_bill M p0) := by
  unfold fX11_bill
  exact (T_ite (T_mono t_fX11_bill_J16 (by decide)) (T_ite (T_mono t_fX11_bill_J16 (by decide)) (T_mono t_fX11_bill_J17 (by decide))))
theorem t_fX11_needBill {M : Mc} {p0 : Int32} : TH [1] (fX11_needBill M p0) := by
  unfold fX11_needBill
  exact (T_bnd fun _ => (T_ite (T_inl (by decide)) T_inr))
theorem t_fX11_pass {M : Mc} {p0 : Int32} : TH [1] (fX11_pass M p0) := by
  unfold fX11_pass
  exact (T_bnx (T_mono t_fX11_needBill (by decide)) fun _ => (T_bn2 fun _ _ => T_inr))
theorem t_fX11_billed {M : Mc} {p0 : Int32} : TH [1] (fX11_billed M p0) := by
  unfold fX11_billed
  exact (T_bnx (T_mono t_fX11_needBill (by decide)) fun _ => (T_bnd fun _ => T_inr))
theorem t_fX11_needWeeks {M : Mc} {p0 : Int32} : TH [3] (fX11_needWeeks M p0) := by
  unfold fX11_needWeeks
  exact (T_ite T_inr (T_inl (by decide)))
theorem t_fX11_week_L25  : ∀ (n : Nat) (M : Mc) (X1 : Int32) (X2 : Int32), TH [] (fX11_week_L25 n M X1 X2) := by
  intro n
  induction n with
  | zero => intros; rw [fX11_week_L25]; exact T_none
  | succ n ih =>
    intro M X1 X2
    rw [fX11_week_L25]
    exact (T_ite T_inr (T_bnd fun _ => (T_bnd fun _ => (ih _ _ _))))
theorem t_fX11_week_J15 {M : Mc} {X1 : Int32} {Z0 : Int32} : TH [2, 3] (fX11_week_J15 M X1 Z0) := by
  unfold fX11_week_J15
  exact (T_bnx (T_mono t_fX11_needThat (by decide)) fun _ => (T_bnx (T_mono t_fX11_needWeeks (by decide)) fun _ => (T_mono (t_fX11_week_L25 _ _ _ _) (by decide))))
theorem t_fX11_week_J14 {M : Mc} {X1 : Int32} : TH [2, 3] (fX11_week_J14 M X1) := by
  unfold fX11_week_J14
  exact (T_mono t_fX11_week_J15 (by decide))
theorem t_fX11_week {M : Mc} {p0 : Int32} : TH [2, 3] (fX11_week M p0) := by
  unfold fX11_week
  exact (T_ite (T_mono t_fX11_week_J14 (by decide)) (T_ite (T_mono t_fX11_week_J14 (by decide)) (T_mono t_fX11_week_J15 (by decide))))
theorem t_fX11_as_J52 {M : Mc} {X1 : Int32} {X3 : Int32} {Z0 : Int32} : TH [] (fX11_as_J52 M X1 X3 Z0) := by
  unfold fX11_as_J52
  exact (T_ite T_inr (T_ite (T_bnd fun _ => T_inr) T_inr))
theorem t_fX11_as_J23 {M : Mc} {X1 : Int32} {X2 : Int32} {X3 : Int32} {Z0 : Int32} : TH [2] (fX11_as_J23 M X1 X2 X3 Z0) := by
  unfold fX11_as_J23
  exact (T_bnx (T_mono t_fX11_needThat (by decide)) fun _ => (T_ite (T_mono t_fX11_as_J52 (by decide)) (T_mono t_fX11_as_J52 (by decide))))
theorem t_fX11_as_J22 {M : Mc} {X1 : Int32} {X2 : Int32} {X3 : Int32} : TH [2] (fX11_as_J22 M X1 X2 X3) := by
  unfold fX11_as_J22
  exact (T_mono t_fX11_as_J23 (by decide))
theorem t_fX11_as_J9 {M : Mc} {X1 : Int32} {X2 : Int32} {X3 : Int32} : TH [2] (fX11_as_J9 M X1 X2 X3) := by
  unfold fX11_as_J9
  exact (T_ite (T_mono t_fX11_as_J22 (by decide)) (T_ite (T_mono t_fX11_as_J22 (by decide)) (T_mono t_fX11_as_J23 (by decide))))
theorem t_fX11_as {M : Mc} {p0 : Int32} {p1 : Int32} {p2 : Int32} : TH [2] (fX11_as M p0 p1 p2) := by
  unfold fX11_as
  exact (T_ite (T_mono t_fX11_as_J9 (by decide)) (T_ite (T_mono t_fX11_as_J9 (by decide)) (T_mono t_fX11_as_J22 (by decide))))
theorem t_fX11_tried_L95  : ∀ (n : Nat) (M : Mc) (X3 : Int32) (X4 : Int32) (X5 : Int32), TH [] (fX11_tried_L95 n M X3 X4 X5) := by
  intro n
  induction n with
  | zero => intros; rw [fX11_tried_L95]; exact T_none
  | succ n ih =>
    intro M X3 X4 X5
    rw [fX11_tried_L95]
    exact (T_ite (T_ite T_inr (T_ite T_inr (T_ite T_inr (T_ite T_inr (T_ite (T_bnd fun _ => T_inr) T_inr))))) (T_bnd fun _ => (ih _ _ _ _)))
theorem t_fX11_tried_J57 {M : Mc} {X1 : Int32} {X2 : Int32} {X3 : Int32} {X4 : Int32} {Z0 : Int32} : TH [2, 3] (fX11_tried_J57 M X1 X2 X3 X4 Z0) := by
  unfold fX11_tried_J57
  exact (T_bnx (T_mono t_fX11_needThat (by decide)) fun _ => (T_bnx (T_mono t_fX11_needWeeks (by decide)) fun _ => (T_bnd fun _ => (T_lt fun _ => (T_lt fun _ => (T_mono (t_fX11_tried_L95 _ _ _ _ _) (by decide)))))))
theorem t_fX11_tried_J56 {M : Mc} {X1 : Int32} {X2 : Int32} {X3 : Int32} {X4 : Int32} : TH [2, 3] (fX11_tried_J56 M X1 X2 X3 X4) := by
  unfold fX11_tried_J56
  exact (T_mono t_fX11_tried_J57 (by decide))
theorem t_fX11_tried_J27 {M : Mc} {X1 : Int32} {X2 : Int32} {X3 : Int32} {X4 : Int32} {Z0 : Int32} : TH [2, 3] (fX11_tried_J27 M X1 X2 X3 X4 Z0) := by
  unfold fX11_tried_J27
  exact (T_bnx (T_mono t_fX11_needThat (by decide)) fun _ => (T_ite (T_mono t_fX11_tried_J56 (by decide)) (T_ite (T_mono t_fX11_tried_J56 (by decide)) (T_ite (T_mono t_fX11_tried_J56 (by decide)) (T_ite (T_mono t_fX11_tried_J56 (by decide)) (T_mono t_fX11_tried_J57 (by decide)))))))
theorem t_fX11_tried_J26 {M : Mc} {X1 : Int32} {X2 : Int32} {X3 : Int32} {X4 : Int32} : TH [2, 3] (fX11_tried_J26 M X1 X2 X3 X4) := by
  unfold fX11_tried_J26
  exact (T_mono t_fX11_tried_J27 (by decide))
theorem t_fX11_tried {M : Mc} {p0 : Int32} {p1 : Int32} {p2 : Int32} {p3 : Int32} : TH [2, 3] (fX11_tried M p0 p1 p2 p3) := by
  unfold fX11_tried
  exact (T_ite (T_mono t_fX11_tried_J26 (by decide)) (T_ite (T_mono t_fX11_tried_J26 (by decide)) (T_ite (T_mono t_fX11_tried_J26 (by decide)) (T_ite (T_mono t_fX11_tried_J26 (by decide)) (T_mono t_fX11_tried_J27 (by decide))))))
theorem t_fX11_prices_J26 {M : Mc} {X1 : Int32} {X2 : Int32} {X3 : Int32} {Z0 : Int32} : TH [2] (fX11_prices_J26 M X1 X2 X3 Z0) := by
  unfold fX11_prices_J26
  exact (T_bnx (T_mono t_fX11_needThat (by decide)) fun _ => (T_bnd fun _ => (T_lt fun _ => T_inr)))
theorem t_fX11_prices_J25 {M : Mc} {X1 : Int32} {X2 : Int32} {X3 : Int32} : TH [2] (fX11_prices_J25 M X1 X2 X3) := by
  unfold fX11_prices_J25
  exact (T_mono t_fX11_prices_J26 (by decide))
theorem t_fX11_prices {M : Mc} {p0 : Int32} {p1 : Int32} {p2 : Int32} : TH [2] (fX11_prices M p0 p1 p2) := by
  unfold fX11_prices
  exact (T_bnd fun _ => (T_ite (T_mono t_fX11_prices_J25 (by decide)) (T_bnd fun _ => (T_ite (T_mono t_fX11_prices_J25 (by decide)) (T_bnd fun _ => (T_ite (T_mono t_fX11_prices_J25 (by decide)) (T_mono t_fX11_prices_J26 (by decide))))))))
theorem t_fX11_worst_J37 {M : Mc} {X1 : Int32} {X2 : Int32} {X3 : Int32} {X4 : Int32} {Z0 : Int32} : TH [2] (fX11_worst_J37 M X1 X2 X3 X4 Z0) := by
  unfold fX11_worst_J37
  exact (T_bnx (T_mono t_fX11_needThat (by decide)) fun _ => (T_bnd fun _ => (T_lt fun _ => T_inr)))
theorem t_fX11_worst_J36 {M : Mc} {X1 : Int32} {X2 : Int32} {X3 : Int32} {X4 : Int32} : TH [2] (fX11_worst_J36 M X1 X2 X3 X4) := by
  unfold fX11_worst_J36
  exact (T_mono t_fX11_worst_J37 (by decide))
theorem t_fX11_worst {M : Mc} {p0 : Int32} {p1 : Int32} {p2 : Int32} {p3 : Int32} : TH [2] (fX11_worst M p0 p1 p2 p3) := by
  unfold fX11_worst
  exact (T_ite (T_mono t_fX11_worst_J36 (by decide)) (T_ite (T_mono t_fX11_worst_J36 (by decide)) (T_bnd fun _ => (T_ite (T_mono t_fX11_worst_J36 (by decide)) (T_bnd fun _ => (T_ite (T_mono t_fX11_worst_J36 (by decide)) (T_bnd fun _ => (T_ite (T_mono t_fX11_worst_J36 (by decide)) (T_mono t_fX11_worst_J37 (by decide))))))))))
theorem t_fX11_planned_L66  : ∀ (n : Nat) (M : Mc) (X1 : Int32) (X2 : Int32) (X3 : Int32) (X4 : Int32), TH [] (fX11_planned_L66 n M X1 X2 X3 X4) := by
  intro n
  induction n with
  | zero => intros; rw [fX11_planned_L66]; exact T_none
  | succ n ih =>
    intro M X1 X2 X3 X4
    rw [fX11_planned_L66]
    exact (T_ite (T_bnd fun _ => (T_ite T_inr (T_chk T_inr))) (T_bnd fun _ => (ih _ _ _ _ _)))
theorem t_fX11_planned_J62 {M : Mc} {X1 : Int32} {X2 : Int32} {Z0 : Int32} : TH [] (fX11_planned_J62 M X1 X2 Z0) := by
  unfold fX11_planned_J62
  exact (T_mono (t_fX11_planned_L66 _ _ _ _ _ _) (by decide))
theorem t_fX11_planned_J24 {M : Mc} {X1 : Int32} {X2 : Int32} {Z0 : Int32} : TH [2, 3] (fX11_planned_J24 M X1 X2 Z0) := by
  unfold fX11_planned_J24
  exact (T_bnx (T_mono t_fX11_needThat (by decide)) fun _ => (T_bnx (T_mono t_fX11_needWeeks (by decide)) fun _ => (T_ite T_inr (T_ite T_inr (T_ite (T_mono t_fX11_planned_J62 (by decide)) (T_mono t_fX11_planned_J62 (by decide)))))))
theorem t_fX11_planned_J23 {M : Mc} {X1 : Int32} {X2 : Int32} : TH [2, 3] (fX11_planned_J23 M X1 X2) := by
  unfold fX11_planned_J23
  exact (T_mono t_fX11_planned_J24 (by decide))
theorem t_fX11_planned_J10 {M : Mc} {X1 : Int32} {X2 : Int32} : TH [2, 3] (fX11_planned_J10 M X1 X2) := by
  unfold fX11_planned_J10
  exact (T_ite (T_mono t_fX11_planned_J23 (by decide)) (T_ite (T_mono t_fX11_planned_J23 (by decide)) (T_mono t_fX11_planned_J24 (by decide))))
theorem t_fX11_planned {M : Mc} {p0 : Int32} {p1 : Int32} : TH [2, 3] (fX11_planned M p0 p1) := by
  unfold fX11_planned
  exact (T_ite (T_mono t_fX11_planned_J10 (by decide)) (T_ite (T_mono t_fX11_planned_J10 (by decide)) (T_mono t_fX11_planned_J23 (by decide))))
end THs
section XW2
variable {p : Program} {l : Launch} {e : Env} {R : Room} {s : State} {m : MethodId} {args : Array Value} {below : List Frame} {meth : Method} {c : Code} {nL : Nat} {Y : Nat → ClassId} {D : va_G} {σ : Nat → Nat} {np b0 cells slots : Nat} {Q : State → Prop} {pc : Nat} {L : List (Nat × Value)} {rest : List Value} {cm : Mc} {dm : Md} {cc : ByteArray} {own : String}
theorem x_last (hE : EOK p s m args meth c cc nL own Y D σ np b0) {k n : Nat} {i : Int32} (j : Nat) {x : Int64} (hk : k < np ∧ kd k = (103, n, [])) (hin : vp_in i n) (hj : i.toNatClampNeg = j) (hd : decode cc pc = .ok (.lastore, 1)) (kk : Xw p l e R s m args below meth c nL Y D σ np b0 cells slots Q (pc + 1) L rest cm (wrd dm k j x)) : Xw p l e R s m args below meth c nL Y D σ np b0 cells slots Q pc L (.long x :: .int i :: .ref (σ k) :: rest) cm dm := by
  subst hj
  intro H locs ls hP hS hB hl
  have he := wl_at (Y := Y) (σ := σ) (c := cm) (d := dm) (kn_of hk (by decide))
  have e2 : ∀ f, kE Y σ (kd k) k (cm k) f = .inl (Y 3, n, .inr (.inl f)) := by intro f; rw [hk.2]; rfl
  rw [e2] at he
  refine va_last hE.1 hE.2.1 hE.2.2.2.2.2.2.1 hP (wl_D hE.2.2.2.2.2.2.2.1) hS (ix k) 3 he rfl hin hd (fun H1 locs1 hP1 hD1 hS1 => ?_)
  have e3 : vp_updL (dm k) i.toNatClampNeg x = fun j => if j = i.toNatClampNeg then x else dm k j := by
    funext j
    simp [vp_updL]
  rw [← e2, wl_setd (kn_of hk (by decide)), e3, wrd_up] at hP1
  exact kk H1 locs1 ls hP1 hS1 hB hl
theorem xcat1 (hE : EOK p s m args meth c cc nL own Y D σ np b0) {a h1 t1 k1 k : Nat} (hT : c.exceptionTable.toList = tableOf [(0, a, h1, t1)]) (hp : pc < a) (ht1 : t1 ≠ 0) (l1 : Cond.classLink own t1 (xE k1) ∈ lw_g) (c1 : Cond.castable (xE k1) (xE k1) ∈ lw_nw) (hk : k = k1) (kk1 : ∀ q : Nat, Xw p l e R s m args below meth c nL Y D σ np b0 cells slots Q h1 L [.ref q] cm dm) : xCat p l e R s m args below meth c nL Y D σ np b0 cells slots Q own pc L cm dm k := by
  subst hk
  exact ⟨[], ⟨0, a, h1, t1⟩, [], xE k, hT, fun z hz => (by cases hz), (by show (decide (0 ≤ pc) && decide (pc < a)) = true; simp [hp]), ht1, hE.2.2.2.2.1 _ l1, va_Nw.use rfl (hE.2.2.2.2.2.1 _ c1), kk1⟩
theorem xcat2 (hE : EOK p s m args meth c cc nL own Y D σ np b0) {a h1 h2 t1 t2 k1 k2 k : Nat} (hT : c.exceptionTable.toList = tableOf [(0, a, h1, t1), (0, a, h2, t2)]) (hp : pc < a) (ht1 : t1 ≠ 0) (ht2 : t2 ≠ 0) (l1 : Cond.classLink own t1 (xE k1) ∈ lw_g) (l2 : Cond.classLink own t2 (xE k2) ∈ lw_g) (c1 : Cond.castable (xE k1) (xE k1) ∈ lw_nw) (c2 : Cond.castable (xE k2) (xE k2) ∈ lw_nw) (hn : va_Nc (xE k2) (xE k1) s) (hk : k = k1 ∨ k = k2) (kk1 : k = k1 → ∀ q : Nat, Xw p l e R s m args below meth c nL Y D σ np b0 cells slots Q h1 L [.ref q] cm dm) (kk2 : k = k2 → ∀ q : Nat, Xw p l e R s m args below meth c nL Y D σ np b0 cells slots Q h2 L [.ref q] cm dm) : xCat p l e R s m args below meth c nL Y D σ np b0 cells slots Q own pc L cm dm k := by
  rcases hk with h | h
  · refine ⟨[], ⟨0, a, h1, t1⟩, [⟨0, a, h2, t2⟩], xE k1, hT, fun z hz => (by cases hz), (by show (decide (0 ≤ pc) && decide (pc < a)) = true; simp [hp]), ht1, hE.2.2.2.2.1 _ l1, ?_, kk1 h⟩
    rw [h]
    exact va_Nw.use rfl (hE.2.2.2.2.2.1 _ c1)
  · refine ⟨[⟨0, a, h1, t1⟩], ⟨0, a, h2, t2⟩, [], xE k2, hT, fun z hz => ?_, (by show (decide (0 ≤ pc) && decide (pc < a)) = true; simp [hp]), ht2, hE.2.2.2.2.1 _ l2, ?_, kk2 h⟩
    · rw [List.mem_singleton] at hz
      subst hz
      rw [h]
      exact Or.inr ⟨ht1, xE k1, hE.2.2.2.2.1 _ l1, hn⟩
    · rw [h]
      exact va_Nw.use rfl (hE.2.2.2.2.2.1 _ c2)
/-- a static call of a method that has a table -/
def YOW (y : MethodName) (bytes : ByteArray) (maxL n : Nat) (ret : Option FieldType) (hh : List (Nat × Nat × Nat × Nat)) : Prop := (Cond.codeWith y bytes maxL ret hh ∈ lw_g) ∧ Cond.initialized y.cls ∈ lw_g ∧ y.cls ≠ "java/lang/invoke/MethodHandle" ∧ y.cls ≠ "java/lang/invoke/VarHandle" ∧ (parseMethodDescriptor y.desc).map (fun d => d.parameters.length) = some n
theorem csw_of (hE : EOK p s m args meth c cc nL own Y D σ np b0) {y : MethodName} {bytes : ByteArray} {maxL n dq kc index : Nat} {ret : Option FieldType} {hh : List (Nat × Nat × Nat × Nat)} (hY : YOW y bytes maxL n ret hh) (hV : Cond.static y ∈ lw_g) (hw : Cond.methodLink own index y ∈ lw_g) (hR : (rmX dq kc).frames + 1 ≤ R.frames ∧ 8 + (maxL + 11) + (rmX dq kc).locals ≤ R.locals) : vx_CSW R s args own index y bytes maxL ret hh (.codeWith y bytes maxL ret hh :: lw_g) (rmX dq kc) kc (6 * kc) n := by
  refine vx_cwSW (Ts := lw_g) n hE.2.2.2.2.1 (goodIn_g (fun w h => ?_)) rfl rfl rfl hY.2.2 hR
  unfold va_wsS at h
  rcases List.mem_append.mp h with h | h
  · simp only [List.mem_cons, List.not_mem_nil, or_false] at h
    rcases h with h | h | h
    · rw [h]; exact hw
    · rw [h]; exact hV
    · rw [h]; exact hY.2.1
  · rcases List.mem_cons.mp h with h | h
    · rw [h]; exact hY.1
    · exact h
theorem x_callSW (hE : EOK p s m args meth c cc nL own Y D σ np b0) {y : MethodName} {bytes : ByteArray} {maxL n index dq kc : Nat} {ret : Option FieldType} {hh : List (Nat × Nat × Nat × Nat)} {v : Option Value} {c1 : Mc} {d1 : Md} (As : List Value) {st0 : List Value} (h0 : As.reverse ++ rest = st0)
    (hY : YOW y bytes maxL n ret hh) (hV : Cond.static y ∈ lw_g) (hw : Cond.methodLink own index y ∈ lw_g) (hR : (rmX dq kc).frames + 1 ≤ R.frames ∧ 8 + (maxL + 11) + (rmX dq kc).locals ≤ R.locals) (hcs : cells + kc ≤ R.cells ∧ slots + 6 * kc ≤ R.slots) (hn : As.length = n) (hst : (rest.map fun v => v.category).sum ≤ 8) (hd : decode cc pc = .ok (.invokestatic index, 3))
    (hM : Met l y (.codeWith y bytes maxL ret hh :: lw_g) (rmX dq kc) (PR Y D σ np b0 As cm dm) (QR Y D σ np b0 v c1 d1) kc (6 * kc) (xA b0))
    (kk : Xw p l e R s m args below meth c nL Y D σ np b0 (cells + kc) (slots + 6 * kc) Q (pc + 3) L (v.toList ++ rest) c1 d1) : Xw p l e R s m args below meth c nL Y D σ np b0 cells slots Q pc L st0 cm dm := by
  subst h0
  intro H locs ls hP hS hB hl
  refine x_ret hE (vx_runSW (As := As) (rest := rest) (Ts := lw_g) ⟨hE.1, hE.2.1, hE.2.2.1, hE.2.2.2.1, hE.2.2.2.2.1⟩ hM (csw_of hE hY hV hw hR) ⟨pr_blind, fun U hU hW => pr_of hE hP hS hB hU hW⟩ rfl hn hl.1 rfl ?_ hd hcs) hS hl kk
  show 2 * 0 + _ ≤ 8
  rw [Nat.mul_zero, Nat.zero_add]
  exact hst
end XW2
/-- a wrapper's answer, and the memory behind it -/
def wT (e : Nat → Int32) (M : Mc) (N : Md) (r : Nat ⊕ (Int32 × Mc)) : Int32 × Mc × Md := match r with
  | .inl k => (e k, M, N)
  | .inr a => (0, a.2, wrd N 145 0 a.1.toInt64)
def wV (e : Nat → Int32) (M : Mc) (N : Md) (r : Nat ⊕ Int32) : Int32 × Mc × Md := match r with
  | .inl k => (e k, M, N)
  | .inr a => (0, M, wrd N 145 0 a.toInt64)
def wS (e : Nat → Int32) (M : Mc) (N : Md) (r : Nat ⊕ Mc) : Int32 × Mc × Md := match r with
  | .inl k => (e k, M, N)
  | .inr a => (0, a, N)
theorem kL_1 : Cond.classLink "SettlerColonyLaw" 13 (xE 1) ∈ lw_g := mem_g 761 (by decide +kernel) (by decide +kernel)
theorem kL_2 : Cond.classLink "SettlerColonyLaw" 15 (xE 2) ∈ lw_g := mem_g 762 (by decide +kernel) (by decide +kernel)
theorem kL_3 : Cond.classLink "SettlerColonyLaw" 127 (xE 3) ∈ lw_g := mem_g 1649 (by decide +kernel) (by decide +kernel)
theorem ca_1 : Cond.castable (xE 1) (xE 1) ∈ lw_nw := mem_n 772 (by decide +kernel) rfl
theorem ca_2 : Cond.castable (xE 2) (xE 2) ∈ lw_nw := mem_n 838 (by decide +kernel) rfl
theorem ca_3 : Cond.castable (xE 3) (xE 3) ∈ lw_nw := mem_n 1660 (by decide +kernel) rfl
/-- an answer that is 0 or 1 -/
def RZ (x : Option (Nat ⊕ Int32)) : Prop := ∀ v, x = some (.inr v) → isZ v
theorem Z_none : RZ none := fun _ h => by cases h
theorem Z_some {v : Int32} (h : isZ v) : RZ (some (.inr v)) := fun _ e => by cases e; exact h
theorem Z_ite {c : Prop} [Decidable c] {a b : Option (Nat ⊕ Int32)} (h1 : RZ a) (h2 : RZ b) : RZ (if c then a else b) := by
  by_cases q : c
  · rw [if_pos q]; exact h1
  · rw [if_neg q]; exact h2
theorem Z_chp {v : Int32} : RZ (chp (isZ v) (some (.inr v))) := by
  unfold chp
  by_cases q : isZ v
  · rw [if_pos q]; exact Z_some q
  · rw [if_neg q]; exact Z_none
theorem Z_bnd {β : Type} {x : Option β} {f : β → Option (Nat ⊕ Int32)} (h : ∀ b, RZ (f b)) : RZ (bnd x f) := by
  cases x with
  | none => exact Z_none
  | some b => exact h b
theorem Z_bnx {β : Type} {x : Option (Nat ⊕ β)} {f : β → Option (Nat ⊕ Int32)} (h : ∀ b, RZ (f b)) : RZ (bnx x f) := by
  cases x with
  | none => exact Z_none
  | some b =>
    cases b with
    | inl k => intro v e; cases e
    | inr b => exact h b
theorem z_is_J18 {M : Mc} {X1 X2 Z0 : Int32} : RZ (fX11_is_J18 M X1 X2 Z0) := by
  unfold fX11_is_J18
  exact Z_bnx fun _ => Z_ite (Z_bnd fun _ => Z_ite (Z_some (Or.inr rfl)) (Z_some (Or.inl rfl))) (Z_ite (Z_bnd fun _ => Z_chp) (Z_ite (Z_bnd fun _ => Z_chp) (Z_bnd fun _ => Z_chp)))
theorem z_is {M : Mc} {p0 p1 : Int32} : RZ (fX11_is M p0 p1) := by
  unfold fX11_is
  refine Z_bnx fun _ => ?_
  unfold fX11_is_J17
  exact Z_ite z_is_J18 (Z_ite z_is_J18 z_is_J18)

theorem dL_land_0 : decode cL_land 0 = .ok (.aload 4, 2) := by decide +kernel
theorem dL_land_2 : decode cL_land 2 = .ok (.iconst 0, 1) := by decide +kernel
theorem dL_land_3 : decode cL_land 3 = .ok (.aload_n 0, 1) := by decide +kernel
theorem dL_land_4 : decode cL_land 4 = .ok (.iload_n 1, 1) := by decide +kernel
theorem dL_land_5 : decode cL_land 5 = .ok (.iload_n 2, 1) := by decide +kernel
theorem dL_land_6 : decode cL_land 6 = .ok (.iload_n 3, 1) := by decide +kernel
theorem dL_land_7 : decode cL_land 7 = .ok (.invokevirtual 7, 3) := by decide +kernel
theorem dL_land_10 : decode cL_land 10 = .ok (.i2l, 1) := by decide +kernel
theorem dL_land_11 : decode cL_land 11 = .ok (.lastore, 1) := by decide +kernel
theorem dL_land_12 : decode cL_land 12 = .ok (.goto 11, 3) := by decide +kernel
theorem dL_land_15 : decode cL_land 15 = .ok (.astore 5, 2) := by decide +kernel
theorem dL_land_17 : decode cL_land 17 = .ok (.iconst 1, 1) := by decide +kernel
theorem dL_land_18 : decode cL_land 18 = .ok (.ireturn, 1) := by decide +kernel
theorem dL_land_19 : decode cL_land 19 = .ok (.astore 5, 2) := by decide +kernel
theorem dL_land_21 : decode cL_land 21 = .ok (.iconst 2, 1) := by decide +kernel
theorem dL_land_22 : decode cL_land 22 = .ok (.ireturn, 1) := by decide +kernel
theorem dL_land_23 : decode cL_land 23 = .ok (.iconst 0, 1) := by decide +kernel
theorem dL_land_24 : decode cL_land 24 = .ok (.ireturn, 1) := by decide +kernel
theorem lkL_7 : Cond.methodLink "SettlerColonyLaw" 7 yX11_land ∈ lw_g := mem_g 763 (by decide +kernel) (by decide +kernel)
theorem mL_land (l : Launch) (hfl : l.stackTraces = false) {Y : Nat → ClassId} {D : va_G} {σ : Nat → Nat} {np b0 : Nat} {M : Mc} {N : Md} {p0 : Int32} {p1 : Int32} {p2 : Int32} {r : Nat ⊕ (Int32 × Mc)} (hf : fX11_land M p0 p1 p2 = some r) : Met l yL_land (.codeWith yL_land cL_land 6 (some .int) [(0, 12, 15, 13), (0, 12, 19, 15)] :: lw_g) (rmX 8 2) (PR Y D σ np b0 [.ref (σ 0), .int p0, .int p1, .int p2, .ref (σ 145)] M N) (QR Y D σ np b0 (some (.int (wT eB M N r).1)) (wT eB M N r).2.1 (wT eB M N r).2.2) 2 (6 * 2) (xA b0) := by
  refine x_metH (by decide) (Nat.le_of_ble_eq_true rfl) (fun p e s m args below meth c hE hr hT => ?_)
  refine x_pick [0, 1, 2, 3, 4] (L' := [(0, .ref (σ 0)), (1, .int p0), (2, .int p1), (3, .int p2), (4, .ref (σ 145))]) rfl ?_
  refine x_aload hE 4 dL_land_0 rfl ?_
  refine x_iconst hE 0 dL_land_2 (by decide) ?_
  refine x_aload_n hE 0 dL_land_3 rfl rfl ?_
  refine x_iload_n hE 1 dL_land_4 rfl rfl ?_
  refine x_iload_n hE 2 dL_land_5 rfl rfl ?_
  refine x_iload_n hE 3 dL_land_6 rfl rfl ?_
  refine x_callXHV hE [.int p0, .int p1, .int p2] (rest := [.int 0, .ref (σ 145)]) rfl yokX11_land yvX11_land lkL_7 rfl cl_11 (hE.kd kO_11) (by decide) ⟨Nat.le_of_ble_eq_true rfl, Nat.le_of_ble_eq_true rfl⟩ ⟨Nat.le_of_ble_eq_true rfl, Nat.le_of_ble_eq_true rfl⟩ rfl (Nat.le_of_ble_eq_true rfl) dL_land_7 (mX11_land l hfl hf) (fun k hk => ?_) (fun a ha => ⟨some (.int a.1), a.2, N, rfl, ?_⟩)
  · have hk1 := t_fX11_land k (hf.trans (congrArg some hk))
    subst hk
    have hk2 : k = 1 ∨ k = 2 := by simpa using hk1
    refine xcat2 hE hT (by decide) (by decide) (by decide) kL_1 kL_2 ca_1 ca_2 hE.2.2.2.2.2.2.2.2.2.2.2.2.2.2.2.2.2.2.2.1 hk2 (fun h q => ?_) (fun h q => ?_)
    · subst h
      refine x_astore hE (L' := (5, .ref q) :: [(0, .ref (σ 0)), (1, .int p0), (2, .int p1), (3, .int p2), (4, .ref (σ 145))]) dL_land_15 (by decide) rfl ?_
      refine x_iconst hE (nI 1) dL_land_17 (by decide) ?_
      exact x_ireturn hE (v := nI 1) hr rfl dL_land_18
    · subst h
      refine x_astore hE (L' := (5, .ref q) :: [(0, .ref (σ 0)), (1, .int p0), (2, .int p1), (3, .int p2), (4, .ref (σ 145))]) dL_land_19 (by decide) rfl ?_
      refine x_iconst hE (nI 2) dL_land_21 (by decide) ?_
      exact x_ireturn hE (v := nI 2) hr rfl dL_land_22
  · subst ha
    refine x_i2l hE dL_land_10 ?_
    refine x_last hE 0 (hE.kd kA_145) (by unfold vp_in; decide) (by decide) dL_land_11 ?_
    refine x_goto hE 23 dL_land_12 (by decide) ?_
    refine x_iconst hE 0 dL_land_23 (by decide) ?_
    exact x_ireturn hE (v := 0) hr rfl dL_land_24
theorem yowL_land : YOW yL_land cL_land 6 5 (some .int) [(0, 12, 15, 13), (0, 12, 19, 15)] := ⟨mem_g 760 (by decide +kernel) (by decide +kernel), mem_g 130 (by decide +kernel) (by decide +kernel), by decide +kernel, by decide +kernel, by decide +kernel⟩
theorem ysL_land : Cond.static yL_land ∈ lw_g := mem_g 759 (by decide +kernel) (by decide +kernel)
theorem dL_rain_0 : decode cL_rain 0 = .ok (.aload_n 3, 1) := by decide +kernel
theorem dL_rain_1 : decode cL_rain 1 = .ok (.iconst 0, 1) := by decide +kernel
theorem dL_rain_2 : decode cL_rain 2 = .ok (.aload_n 0, 1) := by decide +kernel
theorem dL_rain_3 : decode cL_rain 3 = .ok (.iload_n 1, 1) := by decide +kernel
theorem dL_rain_4 : decode cL_rain 4 = .ok (.iload_n 2, 1) := by decide +kernel
theorem dL_rain_5 : decode cL_rain 5 = .ok (.invokevirtual 17, 3) := by decide +kernel
theorem dL_rain_8 : decode cL_rain 8 = .ok (.i2l, 1) := by decide +kernel
theorem dL_rain_9 : decode cL_rain 9 = .ok (.lastore, 1) := by decide +kernel
theorem dL_rain_10 : decode cL_rain 10 = .ok (.goto 11, 3) := by decide +kernel
theorem dL_rain_13 : decode cL_rain 13 = .ok (.astore 4, 2) := by decide +kernel
theorem dL_rain_15 : decode cL_rain 15 = .ok (.iconst 1, 1) := by decide +kernel
theorem dL_rain_16 : decode cL_rain 16 = .ok (.ireturn, 1) := by decide +kernel
theorem dL_rain_17 : decode cL_rain 17 = .ok (.astore 4, 2) := by decide +kernel
theorem dL_rain_19 : decode cL_rain 19 = .ok (.iconst 2, 1) := by decide +kernel
theorem dL_rain_20 : decode cL_rain 20 = .ok (.ireturn, 1) := by decide +kernel
theorem dL_rain_21 : decode cL_rain 21 = .ok (.iconst 0, 1) := by decide +kernel
theorem dL_rain_22 : decode cL_rain 22 = .ok (.ireturn, 1) := by decide +kernel
theorem lkL_17 : Cond.methodLink "SettlerColonyLaw" 17 yX11_rain ∈ lw_g := mem_g 862 (by decide +kernel) (by decide +kernel)
theorem mL_rain (l : Launch) (hfl : l.stackTraces = false) {Y : Nat → ClassId} {D : va_G} {σ : Nat → Nat} {np b0 : Nat} {M : Mc} {N : Md} {p0 : Int32} {p1 : Int32} {r : Nat ⊕ (Int32 × Mc)} (hf : fX11_rain M p0 p1 = some r) : Met l yL_rain (.codeWith yL_rain cL_rain 5 (some .int) [(0, 10, 13, 13), (0, 10, 17, 15)] :: lw_g) (rmX 8 2) (PR Y D σ np b0 [.ref (σ 0), .int p0, .int p1, .ref (σ 145)] M N) (QR Y D σ np b0 (some (.int (wT eB M N r).1)) (wT eB M N r).2.1 (wT eB M N r).2.2) 2 (6 * 2) (xA b0) := by
  refine x_metH (by decide) (Nat.le_of_ble_eq_true rfl) (fun p e s m args below meth c hE hr hT => ?_)
  refine x_pick [0, 1, 2, 3] (L' := [(0, .ref (σ 0)), (1, .int p0), (2, .int p1), (3, .ref (σ 145))]) rfl ?_
  refine x_aload_n hE 3 dL_rain_0 rfl rfl ?_
  refine x_iconst hE 0 dL_rain_1 (by decide) ?_
  refine x_aload_n hE 0 dL_rain_2 rfl rfl ?_
  refine x_iload_n hE 1 dL_rain_3 rfl rfl ?_
  refine x_iload_n hE 2 dL_rain_4 rfl rfl ?_
  refine x_callXHV hE [.int p0, .int p1] (rest := [.int 0, .ref (σ 145)]) rfl yokX11_rain yvX11_rain lkL_17 rfl cl_11 (hE.kd kO_11) (by decide) ⟨Nat.le_of_ble_eq_true rfl, Nat.le_of_ble_eq_true rfl⟩ ⟨Nat.le_of_ble_eq_true rfl, Nat.le_of_ble_eq_true rfl⟩ rfl (Nat.le_of_ble_eq_true rfl) dL_rain_5 (mX11_rain l hfl hf) (fun k hk => ?_) (fun a ha => ⟨some (.int a.1), a.2, N, rfl, ?_⟩)
  · have hk1 := t_fX11_rain k (hf.trans (congrArg some hk))
    subst hk
    have hk2 : k = 1 ∨ k = 2 := by simpa using hk1
    refine xcat2 hE hT (by decide) (by decide) (by decide) kL_1 kL_2 ca_1 ca_2 hE.2.2.2.2.2.2.2.2.2.2.2.2.2.2.2.2.2.2.2.1 hk2 (fun h q => ?_) (fun h q => ?_)
    · subst h
      refine x_astore hE (L' := (4, .ref q) :: [(0, .ref (σ 0)), (1, .int p0), (2, .int p1), (3, .ref (σ 145))]) dL_rain_13 (by decide) rfl ?_
      refine x_iconst hE (nI 1) dL_rain_15 (by decide) ?_
      exact x_ireturn hE (v := nI 1) hr rfl dL_rain_16
    · subst h
      refine x_astore hE (L' := (4, .ref q) :: [(0, .ref (σ 0)), (1, .int p0), (2, .int p1), (3, .ref (σ 145))]) dL_rain_17 (by decide) rfl ?_
      refine x_iconst hE (nI 2) dL_rain_19 (by decide) ?_
      exact x_ireturn hE (v := nI 2) hr rfl dL_rain_20
  · subst ha
    refine x_i2l hE dL_rain_8 ?_
    refine x_last hE 0 (hE.kd kA_145) (by unfold vp_in; decide) (by decide) dL_rain_9 ?_
    refine x_goto hE 21 dL_rain_10 (by decide) ?_
    refine x_iconst hE 0 dL_rain_21 (by decide) ?_
    exact x_ireturn hE (v := 0) hr rfl dL_rain_22
theorem yowL_rain : YOW yL_rain cL_rain 5 4 (some .int) [(0, 10, 13, 13), (0, 10, 17, 15)] := ⟨mem_g 861 (by decide +kernel) (by decide +kernel), mem_g 130 (by decide +kernel) (by decide +kernel), by decide +kernel, by decide +kernel, by decide +kernel⟩
theorem ysL_rain : Cond.static yL_rain ∈ lw_g := mem_g 860 (by decide +kernel) (by decide +kernel)
theorem dL_rains_0 : decode cL_rains 0 = .ok (.aload 4, 2) := by decide +kernel
theorem dL_rains_2 : decode cL_rains 2 = .ok (.iconst 0, 1) := by decide +kernel
theorem dL_rains_3 : decode cL_rains 3 = .ok (.aload_n 0, 1) := by decide +kernel
theorem dL_rains_4 : decode cL_rains 4 = .ok (.iload_n 1, 1) := by decide +kernel
theorem dL_rains_5 : decode cL_rains 5 = .ok (.iload_n 2, 1) := by decide +kernel
theorem dL_rains_6 : decode cL_rains 6 = .ok (.iload_n 3, 1) := by decide +kernel
theorem dL_rains_7 : decode cL_rains 7 = .ok (.invokevirtual 21, 3) := by decide +kernel
theorem dL_rains_10 : decode cL_rains 10 = .ok (.i2l, 1) := by decide +kernel
theorem dL_rains_11 : decode cL_rains 11 = .ok (.lastore, 1) := by decide +kernel
theorem dL_rains_12 : decode cL_rains 12 = .ok (.goto 11, 3) := by decide +kernel
theorem dL_rains_15 : decode cL_rains 15 = .ok (.astore 5, 2) := by decide +kernel
theorem dL_rains_17 : decode cL_rains 17 = .ok (.iconst 1, 1) := by decide +kernel
theorem dL_rains_18 : decode cL_rains 18 = .ok (.ireturn, 1) := by decide +kernel
theorem dL_rains_19 : decode cL_rains 19 = .ok (.astore 5, 2) := by decide +kernel
theorem dL_rains_21 : decode cL_rains 21 = .ok (.iconst 2, 1) := by decide +kernel
theorem dL_rains_22 : decode cL_rains 22 = .ok (.ireturn, 1) := by decide +kernel
theorem dL_rains_23 : decode cL_rains 23 = .ok (.iconst 0, 1) := by decide +kernel
theorem dL_rains_24 : decode cL_rains 24 = .ok (.ireturn, 1) := by decide +kernel
theorem lkL_21 : Cond.methodLink "SettlerColonyLaw" 21 yX11_rains ∈ lw_g := mem_g 876 (by decide +kernel) (by decide +kernel)
theorem mL_rains (l : Launch) (hfl : l.stackTraces = false) {Y : Nat → ClassId} {D : va_G} {σ : Nat → Nat} {np b0 : Nat} {M : Mc} {N : Md} {p0 : Int32} {p1 : Int32} {p2 : Int32} {r : Nat ⊕ (Int32 × Mc)} (hf : fX11_rains M p0 p1 p2 = some r) : Met l yL_rains (.codeWith yL_rains cL_rains 6 (some .int) [(0, 12, 15, 13), (0, 12, 19, 15)] :: lw_g) (rmX 8 2) (PR Y D σ np b0 [.ref (σ 0), .int p0, .int p1, .int p2, .ref (σ 145)] M N) (QR Y D σ np b0 (some (.int (wT eB M N r).1)) (wT eB M N r).2.1 (wT eB M N r).2.2) 2 (6 * 2) (xA b0) := by
  refine x_metH (by decide) (Nat.le_of_ble_eq_true rfl) (fun p e s m args below meth c hE hr hT => ?_)
  refine x_pick [0, 1, 2, 3, 4] (L' := [(0, .ref (σ 0)), (1, .int p0), (2, .int p1), (3, .int p2), (4, .ref (σ 145))]) rfl ?_
  refine x_aload hE 4 dL_rains_0 rfl ?_
  refine x_iconst hE 0 dL_rains_2 (by decide) ?_
  refine x_aload_n hE 0 dL_rains_3 rfl rfl ?_
  refine x_iload_n hE 1 dL_rains_4 rfl rfl ?_
  refine x_iload_n hE 2 dL_rains_5 rfl rfl ?_
  refine x_iload_n hE 3 dL_rains_6 rfl rfl ?_
  refine x_callXHV hE [.int p0, .int p1, .int p2] (rest := [.int 0, .ref (σ 145)]) rfl yokX11_rains yvX11_rains lkL_21 rfl cl_11 (hE.kd kO_11) (by decide) ⟨Nat.le_of_ble_eq_true rfl, Nat.le_of_ble_eq_true rfl⟩ ⟨Nat.le_of_ble_eq_true rfl, Nat.le_of_ble_eq_true rfl⟩ rfl (Nat.le_of_ble_eq_true rfl) dL_rains_7 (mX11_rains l hfl hf) (fun k hk => ?_) (fun a ha => ⟨some (.int a.1), a.2, N, rfl, ?_⟩)
  · have hk1 := t_fX11_rains k (hf.trans (congrArg some hk))
    subst hk
    have hk2 : k = 1 ∨ k = 2 := by simpa using hk1
    refine xcat2 hE hT (by decide) (by decide) (by decide) kL_1 kL_2 ca_1 ca_2 hE.2.2.2.2.2.2.2.2.2.2.2.2.2.2.2.2.2.2.2.1 hk2 (fun h q => ?_) (fun h q => ?_)
    · subst h
      refine x_astore hE (L' := (5, .ref q) :: [(0, .ref (σ 0)), (1, .int p0), (2, .int p1), (3, .int p2), (4, .ref (σ 145))]) dL_rains_15 (by decide) rfl ?_
      refine x_iconst hE (nI 1) dL_rains_17 (by decide) ?_
      exact x_ireturn hE (v := nI 1) hr rfl dL_rains_18
    · subst h
      refine x_astore hE (L' := (5, .ref q) :: [(0, .ref (σ 0)), (1, .int p0), (2, .int p1), (3, .int p2), (4, .ref (σ 145))]) dL_rains_19 (by decide) rfl ?_
      refine x_iconst hE (nI 2) dL_rains_21 (by decide) ?_
      exact x_ireturn hE (v := nI 2) hr rfl dL_rains_22
  · subst ha
    refine x_i2l hE dL_rains_10 ?_
    refine x_last hE 0 (hE.kd kA_145) (by unfold vp_in; decide) (by decide) dL_rains_11 ?_
    refine x_goto hE 23 dL_rains_12 (by decide) ?_
    refine x_iconst hE 0 dL_rains_23 (by decide) ?_
    exact x_ireturn hE (v := 0) hr rfl dL_rains_24
theorem yowL_rains : YOW yL_rains cL_rains 6 5 (some .int) [(0, 12, 15, 13), (0, 12, 19, 15)] := ⟨mem_g 875 (by decide +kernel) (by decide +kernel), mem_g 130 (by decide +kernel) (by decide +kernel), by decide +kernel, by decide +kernel, by decide +kernel⟩
theorem ysL_rains : Cond.static yL_rains ∈ lw_g := mem_g 874 (by decide +kernel) (by decide +kernel)
theorem dL_fell_0 : decode cL_fell 0 = .ok (.aload_n 3, 1) := by decide +kernel
theorem dL_fell_1 : decode cL_fell 1 = .ok (.iconst 0, 1) := by decide +kernel
theorem dL_fell_2 : decode cL_fell 2 = .ok (.aload_n 0, 1) := by decide +kernel
theorem dL_fell_3 : decode cL_fell 3 = .ok (.iload_n 1, 1) := by decide +kernel
theorem dL_fell_4 : decode cL_fell 4 = .ok (.iload_n 2, 1) := by decide +kernel
theorem dL_fell_5 : decode cL_fell 5 = .ok (.invokevirtual 25, 3) := by decide +kernel
theorem dL_fell_8 : decode cL_fell 8 = .ok (.i2l, 1) := by decide +kernel
theorem dL_fell_9 : decode cL_fell 9 = .ok (.lastore, 1) := by decide +kernel
theorem dL_fell_10 : decode cL_fell 10 = .ok (.goto 11, 3) := by decide +kernel
theorem dL_fell_13 : decode cL_fell 13 = .ok (.astore 4, 2) := by decide +kernel
theorem dL_fell_15 : decode cL_fell 15 = .ok (.iconst 1, 1) := by decide +kernel
theorem dL_fell_16 : decode cL_fell 16 = .ok (.ireturn, 1) := by decide +kernel
theorem dL_fell_17 : decode cL_fell 17 = .ok (.astore 4, 2) := by decide +kernel
theorem dL_fell_19 : decode cL_fell 19 = .ok (.iconst 2, 1) := by decide +kernel
theorem dL_fell_20 : decode cL_fell 20 = .ok (.ireturn, 1) := by decide +kernel
theorem dL_fell_21 : decode cL_fell 21 = .ok (.iconst 0, 1) := by decide +kernel
theorem dL_fell_22 : decode cL_fell 22 = .ok (.ireturn, 1) := by decide +kernel
theorem lkL_25 : Cond.methodLink "SettlerColonyLaw" 25 yX11_fell ∈ lw_g := mem_g 883 (by decide +kernel) (by decide +kernel)
theorem mL_fell (l : Launch) (hfl : l.stackTraces = false) {Y : Nat → ClassId} {D : va_G} {σ : Nat → Nat} {np b0 : Nat} {M : Mc} {N : Md} {p0 : Int32} {p1 : Int32} {r : Nat ⊕ Int32} (hf : fX11_fell M p0 p1 = some r) : Met l yL_fell (.codeWith yL_fell cL_fell 5 (some .int) [(0, 10, 13, 13), (0, 10, 17, 15)] :: lw_g) (rmX 8 2) (PR Y D σ np b0 [.ref (σ 0), .int p0, .int p1, .ref (σ 145)] M N) (QR Y D σ np b0 (some (.int (wV eB M N r).1)) (wV eB M N r).2.1 (wV eB M N r).2.2) 2 (6 * 2) (xA b0) := by
  refine x_metH (by decide) (Nat.le_of_ble_eq_true rfl) (fun p e s m args below meth c hE hr hT => ?_)
  refine x_pick [0, 1, 2, 3] (L' := [(0, .ref (σ 0)), (1, .int p0), (2, .int p1), (3, .ref (σ 145))]) rfl ?_
  refine x_aload_n hE 3 dL_fell_0 rfl rfl ?_
  refine x_iconst hE 0 dL_fell_1 (by decide) ?_
  refine x_aload_n hE 0 dL_fell_2 rfl rfl ?_
  refine x_iload_n hE 1 dL_fell_3 rfl rfl ?_
  refine x_iload_n hE 2 dL_fell_4 rfl rfl ?_
  refine x_callXHV hE [.int p0, .int p1] (rest := [.int 0, .ref (σ 145)]) rfl yokX11_fell yvX11_fell lkL_25 rfl cl_11 (hE.kd kO_11) (by decide) ⟨Nat.le_of_ble_eq_true rfl, Nat.le_of_ble_eq_true rfl⟩ ⟨Nat.le_of_ble_eq_true rfl, Nat.le_of_ble_eq_true rfl⟩ rfl (Nat.le_of_ble_eq_true rfl) dL_fell_5 (mX11_fell l hfl hf) (fun k hk => ?_) (fun a ha => ⟨some (.int a), M, N, rfl, ?_⟩)
  · have hk1 := t_fX11_fell k (hf.trans (congrArg some hk))
    subst hk
    have hk2 : k = 1 ∨ k = 2 := by simpa using hk1
    refine xcat2 hE hT (by decide) (by decide) (by decide) kL_1 kL_2 ca_1 ca_2 hE.2.2.2.2.2.2.2.2.2.2.2.2.2.2.2.2.2.2.2.1 hk2 (fun h q => ?_) (fun h q => ?_)
    · subst h
      refine x_astore hE (L' := (4, .ref q) :: [(0, .ref (σ 0)), (1, .int p0), (2, .int p1), (3, .ref (σ 145))]) dL_fell_13 (by decide) rfl ?_
      refine x_iconst hE (nI 1) dL_fell_15 (by decide) ?_
      exact x_ireturn hE (v := nI 1) hr rfl dL_fell_16
    · subst h
      refine x_astore hE (L' := (4, .ref q) :: [(0, .ref (σ 0)), (1, .int p0), (2, .int p1), (3, .ref (σ 145))]) dL_fell_17 (by decide) rfl ?_
      refine x_iconst hE (nI 2) dL_fell_19 (by decide) ?_
      exact x_ireturn hE (v := nI 2) hr rfl dL_fell_20
  · subst ha
    refine x_i2l hE dL_fell_8 ?_
    refine x_last hE 0 (hE.kd kA_145) (by unfold vp_in; decide) (by decide) dL_fell_9 ?_
    refine x_goto hE 21 dL_fell_10 (by decide) ?_
    refine x_iconst hE 0 dL_fell_21 (by decide) ?_
    exact x_ireturn hE (v := 0) hr rfl dL_fell_22
theorem yowL_fell : YOW yL_fell cL_fell 5 4 (some .int) [(0, 10, 13, 13), (0, 10, 17, 15)] := ⟨mem_g 882 (by decide +kernel) (by decide +kernel), mem_g 130 (by decide +kernel) (by decide +kernel), by decide +kernel, by decide +kernel, by decide +kernel⟩
theorem ysL_fell : Cond.static yL_fell ∈ lw_g := mem_g 881 (by decide +kernel) (by decide +kernel)
theorem dL_seen_0 : decode cL_seen 0 = .ok (.aload_n 2, 1) := by decide +kernel
theorem dL_seen_1 : decode cL_seen 1 = .ok (.iconst 0, 1) := by decide +kernel
theorem dL_seen_2 : decode cL_seen 2 = .ok (.aload_n 0, 1) := by decide +kernel
theorem dL_seen_3 : decode cL_seen 3 = .ok (.iload_n 1, 1) := by decide +kernel
theorem dL_seen_4 : decode cL_seen 4 = .ok (.invokevirtual 28, 3) := by decide +kernel
theorem dL_seen_7 : decode cL_seen 7 = .ok (.i2l, 1) := by decide +kernel
theorem dL_seen_8 : decode cL_seen 8 = .ok (.lastore, 1) := by decide +kernel
theorem dL_seen_9 : decode cL_seen 9 = .ok (.goto 6, 3) := by decide +kernel
theorem dL_seen_12 : decode cL_seen 12 = .ok (.astore_n 3, 1) := by decide +kernel
theorem dL_seen_13 : decode cL_seen 13 = .ok (.iconst 1, 1) := by decide +kernel
theorem dL_seen_14 : decode cL_seen 14 = .ok (.ireturn, 1) := by decide +kernel
theorem dL_seen_15 : decode cL_seen 15 = .ok (.iconst 0, 1) := by decide +kernel
theorem dL_seen_16 : decode cL_seen 16 = .ok (.ireturn, 1) := by decide +kernel
theorem lkL_28 : Cond.methodLink "SettlerColonyLaw" 28 yX11_seen ∈ lw_g := mem_g 902 (by decide +kernel) (by decide +kernel)
theorem mL_seen (l : Launch) (hfl : l.stackTraces = false) {Y : Nat → ClassId} {D : va_G} {σ : Nat → Nat} {np b0 : Nat} {M : Mc} {N : Md} {p0 : Int32} {r : Nat ⊕ Int32} (hf : fX11_seen M p0 = some r) : Met l yL_seen (.codeWith yL_seen cL_seen 4 (some .int) [(0, 9, 12, 13)] :: lw_g) (rmX 8 1) (PR Y D σ np b0 [.ref (σ 0), .int p0, .ref (σ 145)] M N) (QR Y D σ np b0 (some (.int (wV eB M N r).1)) (wV eB M N r).2.1 (wV eB M N r).2.2) 1 (6 * 1) (xA b0) := by
  refine x_metH (by decide) (Nat.le_of_ble_eq_true rfl) (fun p e s m args below meth c hE hr hT => ?_)
  refine x_pick [0, 1, 2] (L' := [(0, .ref (σ 0)), (1, .int p0), (2, .ref (σ 145))]) rfl ?_
  refine x_aload_n hE 2 dL_seen_0 rfl rfl ?_
  refine x_iconst hE 0 dL_seen_1 (by decide) ?_
  refine x_aload_n hE 0 dL_seen_2 rfl rfl ?_
  refine x_iload_n hE 1 dL_seen_3 rfl rfl ?_
  refine x_callXHV hE [.int p0] (rest := [.int 0, .ref (σ 145)]) rfl yokX11_seen yvX11_seen lkL_28 rfl cl_11 (hE.kd kO_11) (by decide) ⟨Nat.le_of_ble_eq_true rfl, Nat.le_of_ble_eq_true rfl⟩ ⟨Nat.le_of_ble_eq_true rfl, Nat.le_of_ble_eq_true rfl⟩ rfl (Nat.le_of_ble_eq_true rfl) dL_seen_4 (mX11_seen l hfl hf) (fun k hk => ?_) (fun a ha => ⟨some (.int a), M, N, rfl, ?_⟩)
  · have hk1 := t_fX11_seen k (hf.trans (congrArg some hk))
    subst hk
    have hk2 : k = 1 := by simpa using hk1
    refine xcat1 hE hT (by decide) (by decide) kL_1 ca_1 hk2 (fun q => ?_)
    subst hk2
    refine x_astore_n hE (L' := (3, .ref q) :: [(0, .ref (σ 0)), (1, .int p0), (2, .ref (σ 145))]) dL_seen_12 rfl (by decide) rfl ?_
    refine x_iconst hE (nI 1) dL_seen_13 (by decide) ?_
    exact x_ireturn hE (v := nI 1) hr rfl dL_seen_14
  · subst ha
    refine x_i2l hE dL_seen_7 ?_
    refine x_last hE 0 (hE.kd kA_145) (by unfold vp_in; decide) (by decide) dL_seen_8 ?_
    refine x_goto hE 15 dL_seen_9 (by decide) ?_
    refine x_iconst hE 0 dL_seen_15 (by decide) ?_
    exact x_ireturn hE (v := 0) hr rfl dL_seen_16
theorem yowL_seen : YOW yL_seen cL_seen 4 3 (some .int) [(0, 9, 12, 13)] := ⟨mem_g 901 (by decide +kernel) (by decide +kernel), mem_g 130 (by decide +kernel) (by decide +kernel), by decide +kernel, by decide +kernel, by decide +kernel⟩
theorem ysL_seen : Cond.static yL_seen ∈ lw_g := mem_g 900 (by decide +kernel) (by decide +kernel)
theorem dL_promise_0 : decode cL_promise 0 = .ok (.aload_n 2, 1) := by decide +kernel
theorem dL_promise_1 : decode cL_promise 1 = .ok (.iconst 0, 1) := by decide +kernel
theorem dL_promise_2 : decode cL_promise 2 = .ok (.aload_n 0, 1) := by decide +kernel
theorem dL_promise_3 : decode cL_promise 3 = .ok (.iload_n 1, 1) := by decide +kernel
theorem dL_promise_4 : decode cL_promise 4 = .ok (.invokevirtual 32, 3) := by decide +kernel
theorem dL_promise_7 : decode cL_promise 7 = .ok (.i2l, 1) := by decide +kernel
theorem dL_promise_8 : decode cL_promise 8 = .ok (.lastore, 1) := by decide +kernel
theorem dL_promise_9 : decode cL_promise 9 = .ok (.goto 6, 3) := by decide +kernel
theorem dL_promise_12 : decode cL_promise 12 = .ok (.astore_n 3, 1) := by decide +kernel
theorem dL_promise_13 : decode cL_promise 13 = .ok (.iconst 1, 1) := by decide +kernel
theorem dL_promise_14 : decode cL_promise 14 = .ok (.ireturn, 1) := by decide +kernel
theorem dL_promise_15 : decode cL_promise 15 = .ok (.iconst 0, 1) := by decide +kernel
theorem dL_promise_16 : decode cL_promise 16 = .ok (.ireturn, 1) := by decide +kernel
theorem lkL_32 : Cond.methodLink "SettlerColonyLaw" 32 yX11_promise ∈ lw_g := mem_g 913 (by decide +kernel) (by decide +kernel)
theorem mL_promise (l : Launch) (hfl : l.stackTraces = false) {Y : Nat → ClassId} {D : va_G} {σ : Nat → Nat} {np b0 : Nat} {M : Mc} {N : Md} {p0 : Int32} {r : Nat ⊕ Int32} (hf : fX11_promise M p0 = some r) : Met l yL_promise (.codeWith yL_promise cL_promise 4 (some .int) [(0, 9, 12, 13)] :: lw_g) (rmX 8 1) (PR Y D σ np b0 [.ref (σ 0), .int p0, .ref (σ 145)] M N) (QR Y D σ np b0 (some (.int (wV eB M N r).1)) (wV eB M N r).2.1 (wV eB M N r).2.2) 1 (6 * 1) (xA b0) := by
  refine x_metH (by decide) (Nat.le_of_ble_eq_true rfl) (fun p e s m args below meth c hE hr hT => ?_)
  refine x_pick [0, 1, 2] (L' := [(0, .ref (σ 0)), (1, .int p0), (2, .ref (σ 145))]) rfl ?_
  refine x_aload_n hE 2 dL_promise_0 rfl rfl ?_
  refine x_iconst hE 0 dL_promise_1 (by decide) ?_
  refine x_aload_n hE 0 dL_promise_2 rfl rfl ?_
  refine x_iload_n hE 1 dL_promise_3 rfl rfl ?_
  refine x_callXHV hE [.int p0] (rest := [.int 0, .ref (σ 145)]) rfl yokX11_promise yvX11_promise lkL_32 rfl cl_11 (hE.kd kO_11) (by decide) ⟨Nat.le_of_ble_eq_true rfl, Nat.le_of_ble_eq_true rfl⟩ ⟨Nat.le_of_ble_eq_true rfl, Nat.le_of_ble_eq_true rfl⟩ rfl (Nat.le_of_ble_eq_true rfl) dL_promise_4 (mX11_promise l hfl hf) (fun k hk => ?_) (fun a ha => ⟨some (.int a), M, N, rfl, ?_⟩)
  · have hk1 := t_fX11_promise k (hf.trans (congrArg some hk))
    subst hk
    have hk2 : k = 1 := by simpa using hk1
    refine xcat1 hE hT (by decide) (by decide) kL_1 ca_1 hk2 (fun q => ?_)
    subst hk2
    refine x_astore_n hE (L' := (3, .ref q) :: [(0, .ref (σ 0)), (1, .int p0), (2, .ref (σ 145))]) dL_promise_12 rfl (by decide) rfl ?_
    refine x_iconst hE (nI 1) dL_promise_13 (by decide) ?_
    exact x_ireturn hE (v := nI 1) hr rfl dL_promise_14
  · subst ha
    refine x_i2l hE dL_promise_7 ?_
    refine x_last hE 0 (hE.kd kA_145) (by unfold vp_in; decide) (by decide) dL_promise_8 ?_
    refine x_goto hE 15 dL_promise_9 (by decide) ?_
    refine x_iconst hE 0 dL_promise_15 (by decide) ?_
    exact x_ireturn hE (v := 0) hr rfl dL_promise_16
theorem yowL_promise : YOW yL_promise cL_promise 4 3 (some .int) [(0, 9, 12, 13)] := ⟨mem_g 912 (by decide +kernel) (by decide +kernel), mem_g 130 (by decide +kernel) (by decide +kernel), by decide +kernel, by decide +kernel, by decide +kernel⟩
theorem ysL_promise : Cond.static yL_promise ∈ lw_g := mem_g 911 (by decide +kernel) (by decide +kernel)
theorem dL_section_0 : decode cL_section 0 = .ok (.aload_n 3, 1) := by decide +kernel
theorem dL_section_1 : decode cL_section 1 = .ok (.iconst 0, 1) := by decide +kernel
theorem dL_section_2 : decode cL_section 2 = .ok (.aload_n 0, 1) := by decide +kernel
theorem dL_section_3 : decode cL_section 3 = .ok (.iload_n 1, 1) := by decide +kernel
theorem dL_section_4 : decode cL_section 4 = .ok (.iload_n 2, 1) := by decide +kernel
theorem dL_section_5 : decode cL_section 5 = .ok (.invokevirtual 35, 3) := by decide +kernel
theorem dL_section_8 : decode cL_section 8 = .ok (.i2l, 1) := by decide +kernel
theorem dL_section_9 : decode cL_section 9 = .ok (.lastore, 1) := by decide +kernel
theorem dL_section_10 : decode cL_section 10 = .ok (.goto 11, 3) := by decide +kernel
theorem dL_section_13 : decode cL_section 13 = .ok (.astore 4, 2) := by decide +kernel
theorem dL_section_15 : decode cL_section 15 = .ok (.iconst 1, 1) := by decide +kernel
theorem dL_section_16 : decode cL_section 16 = .ok (.ireturn, 1) := by decide +kernel
theorem dL_section_17 : decode cL_section 17 = .ok (.astore 4, 2) := by decide +kernel
theorem dL_section_19 : decode cL_section 19 = .ok (.iconst 2, 1) := by decide +kernel
theorem dL_section_20 : decode cL_section 20 = .ok (.ireturn, 1) := by decide +kernel
theorem dL_section_21 : decode cL_section 21 = .ok (.iconst 0, 1) := by decide +kernel
theorem dL_section_22 : decode cL_section 22 = .ok (.ireturn, 1) := by decide +kernel
theorem lkL_35 : Cond.methodLink "SettlerColonyLaw" 35 yX11_section ∈ lw_g := mem_g 927 (by decide +kernel) (by decide +kernel)
theorem mL_section (l : Launch) (hfl : l.stackTraces = false) {Y : Nat → ClassId} {D : va_G} {σ : Nat → Nat} {np b0 : Nat} {M : Mc} {N : Md} {p0 : Int32} {p1 : Int32} {r : Nat ⊕ Int32} (hf : fX11_section M p0 p1 = some r) : Met l yL_section (.codeWith yL_section cL_section 5 (some .int) [(0, 10, 13, 13), (0, 10, 17, 15)] :: lw_g) (rmX 8 2) (PR Y D σ np b0 [.ref (σ 0), .int p0, .int p1, .ref (σ 145)] M N) (QR Y D σ np b0 (some (.int (wV eB M N r).1)) (wV eB M N r).2.1 (wV eB M N r).2.2) 2 (6 * 2) (xA b0) := by
  refine x_metH (by decide) (Nat.le_of_ble_eq_true rfl) (fun p e s m args below meth c hE hr hT => ?_)
  refine x_pick [0, 1, 2, 3] (L' := [(0, .ref (σ 0)), (1, .int p0), (2, .int p1), (3, .ref (σ 145))]) rfl ?_
  refine x_aload_n hE 3 dL_section_0 rfl rfl ?_
  refine x_iconst hE 0 dL_section_1 (by decide) ?_
  refine x_aload_n hE 0 dL_section_2 rfl rfl ?_
  refine x_iload_n hE 1 dL_section_3 rfl rfl ?_
  refine x_iload_n hE 2 dL_section_4 rfl rfl ?_
  refine x_callXHV hE [.int p0, .int p1] (rest := [.int 0, .ref (σ 145)]) rfl yokX11_section yvX11_section lkL_35 rfl cl_11 (hE.kd kO_11) (by decide) ⟨Nat.le_of_ble_eq_true rfl, Nat.le_of_ble_eq_true rfl⟩ ⟨Nat.le_of_ble_eq_true rfl, Nat.le_of_ble_eq_true rfl⟩ rfl (Nat.le_of_ble_eq_true rfl) dL_section_5 (mX11_section l hfl hf) (fun k hk => ?_) (fun a ha => ⟨some (.int a), M, N, rfl, ?_⟩)
  · have hk1 := t_fX11_section k (hf.trans (congrArg some hk))
    subst hk
    have hk2 : k = 1 ∨ k = 2 := by simpa using hk1
    refine xcat2 hE hT (by decide) (by decide) (by decide) kL_1 kL_2 ca_1 ca_2 hE.2.2.2.2.2.2.2.2.2.2.2.2.2.2.2.2.2.2.2.1 hk2 (fun h q => ?_) (fun h q => ?_)
    · subst h
      refine x_astore hE (L' := (4, .ref q) :: [(0, .ref (σ 0)), (1, .int p0), (2, .int p1), (3, .ref (σ 145))]) dL_section_13 (by decide) rfl ?_
      refine x_iconst hE (nI 1) dL_section_15 (by decide) ?_
      exact x_ireturn hE (v := nI 1) hr rfl dL_section_16
    · subst h
      refine x_astore hE (L' := (4, .ref q) :: [(0, .ref (σ 0)), (1, .int p0), (2, .int p1), (3, .ref (σ 145))]) dL_section_17 (by decide) rfl ?_
      refine x_iconst hE (nI 2) dL_section_19 (by decide) ?_
      exact x_ireturn hE (v := nI 2) hr rfl dL_section_20
  · subst ha
    refine x_i2l hE dL_section_8 ?_
    refine x_last hE 0 (hE.kd kA_145) (by unfold vp_in; decide) (by decide) dL_section_9 ?_
    refine x_goto hE 21 dL_section_10 (by decide) ?_
    refine x_iconst hE 0 dL_section_21 (by decide) ?_
    exact x_ireturn hE (v := 0) hr rfl dL_section_22
theorem yowL_section : YOW yL_section cL_section 5 4 (some .int) [(0, 10, 13, 13), (0, 10, 17, 15)] := ⟨mem_g 926 (by decide +kernel) (by decide +kernel), mem_g 130 (by decide +kernel) (by decide +kernel), by decide +kernel, by decide +kernel, by decide +kernel⟩
theorem ysL_section : Cond.static yL_section ∈ lw_g := mem_g 925 (by decide +kernel) (by decide +kernel)
theorem dL_is_0 : decode cL_is 0 = .ok (.aload_n 3, 1) := by decide +kernel
theorem dL_is_1 : decode cL_is 1 = .ok (.iconst 0, 1) := by decide +kernel
theorem dL_is_2 : decode cL_is 2 = .ok (.aload_n 0, 1) := by decide +kernel
theorem dL_is_3 : decode cL_is 3 = .ok (.iload_n 1, 1) := by decide +kernel
theorem dL_is_4 : decode cL_is 4 = .ok (.iload_n 2, 1) := by decide +kernel
theorem dL_is_5 : decode cL_is 5 = .ok (.invokevirtual 38, 3) := by decide +kernel
theorem dL_is_8 : decode cL_is 8 = .ok (.ifCond .eq 7, 3) := by decide +kernel
theorem dL_is_11 : decode cL_is 11 = .ok (.lconst 1, 1) := by decide +kernel
theorem dL_is_12 : decode cL_is 12 = .ok (.goto 4, 3) := by decide +kernel
theorem dL_is_15 : decode cL_is 15 = .ok (.lconst 0, 1) := by decide +kernel
theorem dL_is_16 : decode cL_is 16 = .ok (.lastore, 1) := by decide +kernel
theorem dL_is_17 : decode cL_is 17 = .ok (.goto 11, 3) := by decide +kernel
theorem dL_is_20 : decode cL_is 20 = .ok (.astore 4, 2) := by decide +kernel
theorem dL_is_22 : decode cL_is 22 = .ok (.iconst 1, 1) := by decide +kernel
theorem dL_is_23 : decode cL_is 23 = .ok (.ireturn, 1) := by decide +kernel
theorem dL_is_24 : decode cL_is 24 = .ok (.astore 4, 2) := by decide +kernel
theorem dL_is_26 : decode cL_is 26 = .ok (.iconst 2, 1) := by decide +kernel
theorem dL_is_27 : decode cL_is 27 = .ok (.ireturn, 1) := by decide +kernel
theorem dL_is_28 : decode cL_is 28 = .ok (.iconst 0, 1) := by decide +kernel
theorem dL_is_29 : decode cL_is 29 = .ok (.ireturn, 1) := by decide +kernel
theorem lkL_38 : Cond.methodLink "SettlerColonyLaw" 38 yX11_is ∈ lw_g := mem_g 942 (by decide +kernel) (by decide +kernel)
theorem mL_is (l : Launch) (hfl : l.stackTraces = false) {Y : Nat → ClassId} {D : va_G} {σ : Nat → Nat} {np b0 : Nat} {M : Mc} {N : Md} {p0 : Int32} {p1 : Int32} {r : Nat ⊕ Int32} (hf : fX11_is M p0 p1 = some r) : Met l yL_is (.codeWith yL_is cL_is 5 (some .int) [(0, 17, 20, 13), (0, 17, 24, 15)] :: lw_g) (rmX 8 2) (PR Y D σ np b0 [.ref (σ 0), .int p0, .int p1, .ref (σ 145)] M N) (QR Y D σ np b0 (some (.int (wV eB M N r).1)) (wV eB M N r).2.1 (wV eB M N r).2.2) 2 (6 * 2) (xA b0) := by
  refine x_metH (by decide) (Nat.le_of_ble_eq_true rfl) (fun p e s m args below meth c hE hr hT => ?_)
  refine x_pick [0, 1, 2, 3] (L' := [(0, .ref (σ 0)), (1, .int p0), (2, .int p1), (3, .ref (σ 145))]) rfl ?_
  refine x_aload_n hE 3 dL_is_0 rfl rfl ?_
  refine x_iconst hE 0 dL_is_1 (by decide) ?_
  refine x_aload_n hE 0 dL_is_2 rfl rfl ?_
  refine x_iload_n hE 1 dL_is_3 rfl rfl ?_
  refine x_iload_n hE 2 dL_is_4 rfl rfl ?_
  refine x_callXHV hE [.int p0, .int p1] (rest := [.int 0, .ref (σ 145)]) rfl yokX11_is yvX11_is lkL_38 rfl cl_11 (hE.kd kO_11) (by decide) ⟨Nat.le_of_ble_eq_true rfl, Nat.le_of_ble_eq_true rfl⟩ ⟨Nat.le_of_ble_eq_true rfl, Nat.le_of_ble_eq_true rfl⟩ rfl (Nat.le_of_ble_eq_true rfl) dL_is_5 (mX11_is l hfl hf) (fun k hk => ?_) (fun a ha => ⟨some (.int a), M, N, rfl, ?_⟩)
  · have hk1 := t_fX11_is k (hf.trans (congrArg some hk))
    subst hk
    have hk2 : k = 1 ∨ k = 2 := by simpa using hk1
    refine xcat2 hE hT (by decide) (by decide) (by decide) kL_1 kL_2 ca_1 ca_2 hE.2.2.2.2.2.2.2.2.2.2.2.2.2.2.2.2.2.2.2.1 hk2 (fun h q => ?_) (fun h q => ?_)
    · subst h
      refine x_astore hE (L' := (4, .ref q) :: [(0, .ref (σ 0)), (1, .int p0), (2, .int p1), (3, .ref (σ 145))]) dL_is_20 (by decide) rfl ?_
      refine x_iconst hE (nI 1) dL_is_22 (by decide) ?_
      exact x_ireturn hE (v := nI 1) hr rfl dL_is_23
    · subst h
      refine x_astore hE (L' := (4, .ref q) :: [(0, .ref (σ 0)), (1, .int p0), (2, .int p1), (3, .ref (σ 145))]) dL_is_24 (by decide) rfl ?_
      refine x_iconst hE (nI 2) dL_is_26 (by decide) ?_
      exact x_ireturn hE (v := nI 2) hr rfl dL_is_27
  · subst ha
    have ha := z_is a hf
    rcases ha with rfl | rfl
    · refine x_if_eq hE 15 dL_is_8 (by decide) (A := some ()) (B := none) (r := ()) (if_pos rfl) (fun _ => ?_) (fun h => by cases h)
      refine x_lconst hE (0 : Int32).toInt64 dL_is_15 (by decide) ?_
      refine x_last hE 0 (hE.kd kA_145) (by unfold vp_in; decide) (by decide) dL_is_16 ?_
      refine x_goto hE 28 dL_is_17 (by decide) ?_
      refine x_iconst hE 0 dL_is_28 (by decide) ?_
      exact x_ireturn hE (v := 0) hr rfl dL_is_29
    · refine x_if_eq hE 15 dL_is_8 (by decide) (A := none) (B := some ()) (r := ()) (if_neg (by decide)) (fun h => by cases h) (fun _ => ?_)
      refine x_lconst hE (nI 1).toInt64 dL_is_11 (by decide) ?_
      refine x_goto hE 16 dL_is_12 (by decide) ?_
      refine x_last hE 0 (hE.kd kA_145) (by unfold vp_in; decide) (by decide) dL_is_16 ?_
      refine x_goto hE 28 dL_is_17 (by decide) ?_
      refine x_iconst hE 0 dL_is_28 (by decide) ?_
      exact x_ireturn hE (v := 0) hr rfl dL_is_29
theorem yowL_is : YOW yL_is cL_is 5 4 (some .int) [(0, 17, 20, 13), (0, 17, 24, 15)] := ⟨mem_g 941 (by decide +kernel) (by decide +kernel), mem_g 130 (by decide +kernel) (by decide +kernel), by decide +kernel, by decide +kernel, by decide +kernel⟩
theorem ysL_is : Cond.static yL_is ∈ lw_g := mem_g 940 (by decide +kernel) (by decide +kernel)
theorem dL_people_0 : decode cL_people 0 = .ok (.aload 4, 2) := by decide +kernel
theorem dL_people_2 : decode cL_people 2 = .ok (.iconst 0, 1) := by decide +kernel
theorem dL_people_3 : decode cL_people 3 = .ok (.aload_n 0, 1) := by decide +kernel
theorem dL_people_4 : decode cL_people 4 = .ok (.iload_n 1, 1) := by decide +kernel
theorem dL_people_5 : decode cL_people 5 = .ok (.iload_n 2, 1) := by decide +kernel
theorem dL_people_6 : decode cL_people 6 = .ok (.iload_n 3, 1) := by decide +kernel
theorem dL_people_7 : decode cL_people 7 = .ok (.invokevirtual 42, 3) := by decide +kernel
theorem dL_people_10 : decode cL_people 10 = .ok (.i2l, 1) := by decide +kernel
theorem dL_people_11 : decode cL_people 11 = .ok (.lastore, 1) := by decide +kernel
theorem dL_people_12 : decode cL_people 12 = .ok (.goto 7, 3) := by decide +kernel
theorem dL_people_15 : decode cL_people 15 = .ok (.astore 5, 2) := by decide +kernel
theorem dL_people_17 : decode cL_people 17 = .ok (.iconst 1, 1) := by decide +kernel
theorem dL_people_18 : decode cL_people 18 = .ok (.ireturn, 1) := by decide +kernel
theorem dL_people_19 : decode cL_people 19 = .ok (.iconst 0, 1) := by decide +kernel
theorem dL_people_20 : decode cL_people 20 = .ok (.ireturn, 1) := by decide +kernel
theorem lkL_42 : Cond.methodLink "SettlerColonyLaw" 42 yX11_people ∈ lw_g := mem_g 960 (by decide +kernel) (by decide +kernel)
theorem mL_people (l : Launch) (hfl : l.stackTraces = false) {Y : Nat → ClassId} {D : va_G} {σ : Nat → Nat} {np b0 : Nat} {M : Mc} {N : Md} {p0 : Int32} {p1 : Int32} {p2 : Int32} {r : Nat ⊕ (Int32 × Mc)} (hf : fX11_people M p0 p1 p2 = some r) : Met l yL_people (.codeWith yL_people cL_people 6 (some .int) [(0, 12, 15, 15)] :: lw_g) (rmX 8 1) (PR Y D σ np b0 [.ref (σ 0), .int p0, .int p1, .int p2, .ref (σ 145)] M N) (QR Y D σ np b0 (some (.int (wT eA M N r).1)) (wT eA M N r).2.1 (wT eA M N r).2.2) 1 (6 * 1) (xA b0) := by
  refine x_metH (by decide) (Nat.le_of_ble_eq_true rfl) (fun p e s m args below meth c hE hr hT => ?_)
  refine x_pick [0, 1, 2, 3, 4] (L' := [(0, .ref (σ 0)), (1, .int p0), (2, .int p1), (3, .int p2), (4, .ref (σ 145))]) rfl ?_
  refine x_aload hE 4 dL_people_0 rfl ?_
  refine x_iconst hE 0 dL_people_2 (by decide) ?_
  refine x_aload_n hE 0 dL_people_3 rfl rfl ?_
  refine x_iload_n hE 1 dL_people_4 rfl rfl ?_
  refine x_iload_n hE 2 dL_people_5 rfl rfl ?_
  refine x_iload_n hE 3 dL_people_6 rfl rfl ?_
  refine x_callXHV hE [.int p0, .int p1, .int p2] (rest := [.int 0, .ref (σ 145)]) rfl yokX11_people yvX11_people lkL_42 rfl cl_11 (hE.kd kO_11) (by decide) ⟨Nat.le_of_ble_eq_true rfl, Nat.le_of_ble_eq_true rfl⟩ ⟨Nat.le_of_ble_eq_true rfl, Nat.le_of_ble_eq_true rfl⟩ rfl (Nat.le_of_ble_eq_true rfl) dL_people_7 (mX11_people l hfl hf) (fun k hk => ?_) (fun a ha => ⟨some (.int a.1), a.2, N, rfl, ?_⟩)
  · have hk1 := t_fX11_people k (hf.trans (congrArg some hk))
    subst hk
    have hk2 : k = 2 := by simpa using hk1
    refine xcat1 hE hT (by decide) (by decide) kL_2 ca_2 hk2 (fun q => ?_)
    subst hk2
    refine x_astore hE (L' := (5, .ref q) :: [(0, .ref (σ 0)), (1, .int p0), (2, .int p1), (3, .int p2), (4, .ref (σ 145))]) dL_people_15 (by decide) rfl ?_
    refine x_iconst hE (nI 1) dL_people_17 (by decide) ?_
    exact x_ireturn hE (v := nI 1) hr rfl dL_people_18
  · subst ha
    refine x_i2l hE dL_people_10 ?_
    refine x_last hE 0 (hE.kd kA_145) (by unfold vp_in; decide) (by decide) dL_people_11 ?_
    refine x_goto hE 19 dL_people_12 (by decide) ?_
    refine x_iconst hE 0 dL_people_19 (by decide) ?_
    exact x_ireturn hE (v := 0) hr rfl dL_people_20
theorem yowL_people : YOW yL_people cL_people 6 5 (some .int) [(0, 12, 15, 15)] := ⟨mem_g 959 (by decide +kernel) (by decide +kernel), mem_g 130 (by decide +kernel) (by decide +kernel), by decide +kernel, by decide +kernel, by decide +kernel⟩
theorem ysL_people : Cond.static yL_people ∈ lw_g := mem_g 958 (by decide +kernel) (by decide +kernel)
theorem dL_person_0 : decode cL_person 0 = .ok (.aload_n 3, 1) := by decide +kernel
theorem dL_person_1 : decode cL_person 1 = .ok (.iconst 0, 1) := by decide +kernel
theorem dL_person_2 : decode cL_person 2 = .ok (.aload_n 0, 1) := by decide +kernel
theorem dL_person_3 : decode cL_person 3 = .ok (.iload_n 1, 1) := by decide +kernel
theorem dL_person_4 : decode cL_person 4 = .ok (.iload_n 2, 1) := by decide +kernel
theorem dL_person_5 : decode cL_person 5 = .ok (.invokevirtual 45, 3) := by decide +kernel
theorem dL_person_8 : decode cL_person 8 = .ok (.i2l, 1) := by decide +kernel
theorem dL_person_9 : decode cL_person 9 = .ok (.lastore, 1) := by decide +kernel
theorem dL_person_10 : decode cL_person 10 = .ok (.goto 11, 3) := by decide +kernel
theorem dL_person_13 : decode cL_person 13 = .ok (.astore 4, 2) := by decide +kernel
theorem dL_person_15 : decode cL_person 15 = .ok (.iconst 1, 1) := by decide +kernel
theorem dL_person_16 : decode cL_person 16 = .ok (.ireturn, 1) := by decide +kernel
theorem dL_person_17 : decode cL_person 17 = .ok (.astore 4, 2) := by decide +kernel
theorem dL_person_19 : decode cL_person 19 = .ok (.iconst 2, 1) := by decide +kernel
theorem dL_person_20 : decode cL_person 20 = .ok (.ireturn, 1) := by decide +kernel
theorem dL_person_21 : decode cL_person 21 = .ok (.iconst 0, 1) := by decide +kernel
theorem dL_person_22 : decode cL_person 22 = .ok (.ireturn, 1) := by decide +kernel
theorem lkL_45 : Cond.methodLink "SettlerColonyLaw" 45 yX11_person ∈ lw_g := mem_g 968 (by decide +kernel) (by decide +kernel)
theorem mL_person (l : Launch) (hfl : l.stackTraces = false) {Y : Nat → ClassId} {D : va_G} {σ : Nat → Nat} {np b0 : Nat} {M : Mc} {N : Md} {p0 : Int32} {p1 : Int32} {r : Nat ⊕ Int32} (hf : fX11_person M p0 p1 = some r) : Met l yL_person (.codeWith yL_person cL_person 5 (some .int) [(0, 10, 13, 13), (0, 10, 17, 15)] :: lw_g) (rmX 8 2) (PR Y D σ np b0 [.ref (σ 0), .int p0, .int p1, .ref (σ 145)] M N) (QR Y D σ np b0 (some (.int (wV eB M N r).1)) (wV eB M N r).2.1 (wV eB M N r).2.2) 2 (6 * 2) (xA b0) := by
  refine x_metH (by decide) (Nat.le_of_ble_eq_true rfl) (fun p e s m args below meth c hE hr hT => ?_)
  refine x_pick [0, 1, 2, 3] (L' := [(0, .ref (σ 0)), (1, .int p0), (2, .int p1), (3, .ref (σ 145))]) rfl ?_
  refine x_aload_n hE 3 dL_person_0 rfl rfl ?_
  refine x_iconst hE 0 dL_person_1 (by decide) ?_
  refine x_aload_n hE 0 dL_person_2 rfl rfl ?_
  refine x_iload_n hE 1 dL_person_3 rfl rfl ?_
  refine x_iload_n hE 2 dL_person_4 rfl rfl ?_
  refine x_callXHV hE [.int p0, .int p1] (rest := [.int 0, .ref (σ 145)]) rfl yokX11_person yvX11_person lkL_45 rfl cl_11 (hE.kd kO_11) (by decide) ⟨Nat.le_of_ble_eq_true rfl, Nat.le_of_ble_eq_true rfl⟩ ⟨Nat.le_of_ble_eq_true rfl, Nat.le_of_ble_eq_true rfl⟩ rfl (Nat.le_of_ble_eq_true rfl) dL_person_5 (mX11_person l hfl hf) (fun k hk => ?_) (fun a ha => ⟨some (.int a), M, N, rfl, ?_⟩)
  · have hk1 := t_fX11_person k (hf.trans (congrArg some hk))
    subst hk
    have hk2 : k = 1 ∨ k = 2 := by simpa using hk1
    refine xcat2 hE hT (by decide) (by decide) (by decide) kL_1 kL_2 ca_1 ca_2 hE.2.2.2.2.2.2.2.2.2.2.2.2.2.2.2.2.2.2.2.1 hk2 (fun h q => ?_) (fun h q => ?_)
    · subst h
      refine x_astore hE (L' := (4, .ref q) :: [(0, .ref (σ 0)), (1, .int p0), (2, .int p1), (3, .ref (σ 145))]) dL_person_13 (by decide) rfl ?_
      refine x_iconst hE (nI 1) dL_person_15 (by decide) ?_
      exact x_ireturn hE (v := nI 1) hr rfl dL_person_16
    · subst h
      refine x_astore hE (L' := (4, .ref q) :: [(0, .ref (σ 0)), (1, .int p0), (2, .int p1), (3, .ref (σ 145))]) dL_person_17 (by decide) rfl ?_
      refine x_iconst hE (nI 2) dL_person_19 (by decide) ?_
      exact x_ireturn hE (v := nI 2) hr rfl dL_person_20
  · subst ha
    refine x_i2l hE dL_person_8 ?_
    refine x_last hE 0 (hE.kd kA_145) (by unfold vp_in; decide) (by decide) dL_person_9 ?_
    refine x_goto hE 21 dL_person_10 (by decide) ?_
    refine x_iconst hE 0 dL_person_21 (by decide) ?_
    exact x_ireturn hE (v := 0) hr rfl dL_person_22
theorem yowL_person : YOW yL_person cL_person 5 4 (some .int) [(0, 10, 13, 13), (0, 10, 17, 15)] := ⟨mem_g 967 (by decide +kernel) (by decide +kernel), mem_g 130 (by decide +kernel) (by decide +kernel), by decide +kernel, by decide +kernel, by decide +kernel⟩
theorem ysL_person : Cond.static yL_person ∈ lw_g := mem_g 966 (by decide +kernel) (by decide +kernel)
theorem dL_party_0 : decode cL_party 0 = .ok (.aload_n 2, 1) := by decide +kernel
theorem dL_party_1 : decode cL_party 1 = .ok (.iconst 0, 1) := by decide +kernel
theorem dL_party_2 : decode cL_party 2 = .ok (.aload_n 0, 1) := by decide +kernel
theorem dL_party_3 : decode cL_party 3 = .ok (.iload_n 1, 1) := by decide +kernel
theorem dL_party_4 : decode cL_party 4 = .ok (.invokevirtual 48, 3) := by decide +kernel
theorem dL_party_7 : decode cL_party 7 = .ok (.i2l, 1) := by decide +kernel
theorem dL_party_8 : decode cL_party 8 = .ok (.lastore, 1) := by decide +kernel
theorem dL_party_9 : decode cL_party 9 = .ok (.goto 6, 3) := by decide +kernel
theorem dL_party_12 : decode cL_party 12 = .ok (.astore_n 3, 1) := by decide +kernel
theorem dL_party_13 : decode cL_party 13 = .ok (.iconst 1, 1) := by decide +kernel
theorem dL_party_14 : decode cL_party 14 = .ok (.ireturn, 1) := by decide +kernel
theorem dL_party_15 : decode cL_party 15 = .ok (.iconst 0, 1) := by decide +kernel
theorem dL_party_16 : decode cL_party 16 = .ok (.ireturn, 1) := by decide +kernel
theorem lkL_48 : Cond.methodLink "SettlerColonyLaw" 48 yX11_party ∈ lw_g := mem_g 983 (by decide +kernel) (by decide +kernel)
theorem mL_party (l : Launch) (hfl : l.stackTraces = false) {Y : Nat → ClassId} {D : va_G} {σ : Nat → Nat} {np b0 : Nat} {M : Mc} {N : Md} {p0 : Int32} {r : Nat ⊕ (Int32 × Mc)} (hf : fX11_party M p0 = some r) : Met l yL_party (.codeWith yL_party cL_party 4 (some .int) [(0, 9, 12, 15)] :: lw_g) (rmX 8 1) (PR Y D σ np b0 [.ref (σ 0), .int p0, .ref (σ 145)] M N) (QR Y D σ np b0 (some (.int (wT eA M N r).1)) (wT eA M N r).2.1 (wT eA M N r).2.2) 1 (6 * 1) (xA b0) := by
  refine x_metH (by decide) (Nat.le_of_ble_eq_true rfl) (fun p e s m args below meth c hE hr hT => ?_)
  refine x_pick [0, 1, 2] (L' := [(0, .ref (σ 0)), (1, .int p0), (2, .ref (σ 145))]) rfl ?_
  refine x_aload_n hE 2 dL_party_0 rfl rfl ?_
  refine x_iconst hE 0 dL_party_1 (by decide) ?_
  refine x_aload_n hE 0 dL_party_2 rfl rfl ?_
  refine x_iload_n hE 1 dL_party_3 rfl rfl ?_
  refine x_callXHV hE [.int p0] (rest := [.int 0, .ref (σ 145)]) rfl yokX11_party yvX11_party lkL_48 rfl cl_11 (hE.kd kO_11) (by decide) ⟨Nat.le_of_ble_eq_true rfl, Nat.le_of_ble_eq_true rfl⟩ ⟨Nat.le_of_ble_eq_true rfl, Nat.le_of_ble_eq_true rfl⟩ rfl (Nat.le_of_ble_eq_true rfl) dL_party_4 (mX11_party l hfl hf) (fun k hk => ?_) (fun a ha => ⟨some (.int a.1), a.2, N, rfl, ?_⟩)
  · have hk1 := t_fX11_party k (hf.trans (congrArg some hk))
    subst hk
    have hk2 : k = 2 := by simpa using hk1
    refine xcat1 hE hT (by decide) (by decide) kL_2 ca_2 hk2 (fun q => ?_)
    subst hk2
    refine x_astore_n hE (L' := (3, .ref q) :: [(0, .ref (σ 0)), (1, .int p0), (2, .ref (σ 145))]) dL_party_12 rfl (by decide) rfl ?_
    refine x_iconst hE (nI 1) dL_party_13 (by decide) ?_
    exact x_ireturn hE (v := nI 1) hr rfl dL_party_14
  · subst ha
    refine x_i2l hE dL_party_7 ?_
    refine x_last hE 0 (hE.kd kA_145) (by unfold vp_in; decide) (by decide) dL_party_8 ?_
    refine x_goto hE 15 dL_party_9 (by decide) ?_
    refine x_iconst hE 0 dL_party_15 (by decide) ?_
    exact x_ireturn hE (v := 0) hr rfl dL_party_16
theorem yowL_party : YOW yL_party cL_party 4 3 (some .int) [(0, 9, 12, 15)] := ⟨mem_g 982 (by decide +kernel) (by decide +kernel), mem_g 130 (by decide +kernel) (by decide +kernel), by decide +kernel, by decide +kernel, by decide +kernel⟩
theorem ysL_party : Cond.static yL_party ∈ lw_g := mem_g 981 (by decide +kernel) (by decide +kernel)
theorem dL_queue_0 : decode cL_queue 0 = .ok (.aload_n 3, 1) := by decide +kernel
theorem dL_queue_1 : decode cL_queue 1 = .ok (.iconst 0, 1) := by decide +kernel
theorem dL_queue_2 : decode cL_queue 2 = .ok (.aload_n 0, 1) := by decide +kernel
theorem dL_queue_3 : decode cL_queue 3 = .ok (.iload_n 1, 1) := by decide +kernel
theorem dL_queue_4 : decode cL_queue 4 = .ok (.iload_n 2, 1) := by decide +kernel
theorem dL_queue_5 : decode cL_queue 5 = .ok (.invokevirtual 51, 3) := by decide +kernel
theorem dL_queue_8 : decode cL_queue 8 = .ok (.i2l, 1) := by decide +kernel
theorem dL_queue_9 : decode cL_queue 9 = .ok (.lastore, 1) := by decide +kernel
theorem dL_queue_10 : decode cL_queue 10 = .ok (.goto 7, 3) := by decide +kernel
theorem dL_queue_13 : decode cL_queue 13 = .ok (.astore 4, 2) := by decide +kernel
theorem dL_queue_15 : decode cL_queue 15 = .ok (.iconst 1, 1) := by decide +kernel
theorem dL_queue_16 : decode cL_queue 16 = .ok (.ireturn, 1) := by decide +kernel
theorem dL_queue_17 : decode cL_queue 17 = .ok (.iconst 0, 1) := by decide +kernel
theorem dL_queue_18 : decode cL_queue 18 = .ok (.ireturn, 1) := by decide +kernel
theorem lkL_51 : Cond.methodLink "SettlerColonyLaw" 51 yX11_queue ∈ lw_g := mem_g 995 (by decide +kernel) (by decide +kernel)
theorem mL_queue (l : Launch) (hfl : l.stackTraces = false) {Y : Nat → ClassId} {D : va_G} {σ : Nat → Nat} {np b0 : Nat} {M : Mc} {N : Md} {p0 : Int32} {p1 : Int32} {r : Nat ⊕ (Int32 × Mc)} (hf : fX11_queue M p0 p1 = some r) : Met l yL_queue (.codeWith yL_queue cL_queue 5 (some .int) [(0, 10, 13, 13)] :: lw_g) (rmX 8 2) (PR Y D σ np b0 [.ref (σ 0), .int p0, .int p1, .ref (σ 145)] M N) (QR Y D σ np b0 (some (.int (wT eB M N r).1)) (wT eB M N r).2.1 (wT eB M N r).2.2) 2 (6 * 2) (xA b0) := by
  refine x_metH (by decide) (Nat.le_of_ble_eq_true rfl) (fun p e s m args below meth c hE hr hT => ?_)
  refine x_pick [0, 1, 2, 3] (L' := [(0, .ref (σ 0)), (1, .int p0), (2, .int p1), (3, .ref (σ 145))]) rfl ?_
  refine x_aload_n hE 3 dL_queue_0 rfl rfl ?_
  refine x_iconst hE 0 dL_queue_1 (by decide) ?_
  refine x_aload_n hE 0 dL_queue_2 rfl rfl ?_
  refine x_iload_n hE 1 dL_queue_3 rfl rfl ?_
  refine x_iload_n hE 2 dL_queue_4 rfl rfl ?_
  refine x_callXHV hE [.int p0, .int p1] (rest := [.int 0, .ref (σ 145)]) rfl yokX11_queue yvX11_queue lkL_51 rfl cl_11 (hE.kd kO_11) (by decide) ⟨Nat.le_of_ble_eq_true rfl, Nat.le_of_ble_eq_true rfl⟩ ⟨Nat.le_of_ble_eq_true rfl, Nat.le_of_ble_eq_true rfl⟩ rfl (Nat.le_of_ble_eq_true rfl) dL_queue_5 (mX11_queue l hfl hf) (fun k hk => ?_) (fun a ha => ⟨some (.int a.1), a.2, N, rfl, ?_⟩)
  · have hk1 := t_fX11_queue k (hf.trans (congrArg some hk))
    subst hk
    have hk2 : k = 1 := by simpa using hk1
    refine xcat1 hE hT (by decide) (by decide) kL_1 ca_1 hk2 (fun q => ?_)
    subst hk2
    refine x_astore hE (L' := (4, .ref q) :: [(0, .ref (σ 0)), (1, .int p0), (2, .int p1), (3, .ref (σ 145))]) dL_queue_13 (by decide) rfl ?_
    refine x_iconst hE (nI 1) dL_queue_15 (by decide) ?_
    exact x_ireturn hE (v := nI 1) hr rfl dL_queue_16
  · subst ha
    refine x_i2l hE dL_queue_8 ?_
    refine x_last hE 0 (hE.kd kA_145) (by unfold vp_in; decide) (by decide) dL_queue_9 ?_
    refine x_goto hE 17 dL_queue_10 (by decide) ?_
    refine x_iconst hE 0 dL_queue_17 (by decide) ?_
    exact x_ireturn hE (v := 0) hr rfl dL_queue_18
theorem yowL_queue : YOW yL_queue cL_queue 5 4 (some .int) [(0, 10, 13, 13)] := ⟨mem_g 994 (by decide +kernel) (by decide +kernel), mem_g 130 (by decide +kernel) (by decide +kernel), by decide +kernel, by decide +kernel, by decide +kernel⟩
theorem ysL_queue : Cond.static yL_queue ∈ lw_g := mem_g 993 (by decide +kernel) (by decide +kernel)
theorem dL_where_0 : decode cL_where 0 = .ok (.aload_n 3, 1) := by decide +kernel
theorem dL_where_1 : decode cL_where 1 = .ok (.iconst 0, 1) := by decide +kernel
theorem dL_where_2 : decode cL_where 2 = .ok (.aload_n 0, 1) := by decide +kernel
theorem dL_where_3 : decode cL_where 3 = .ok (.iload_n 1, 1) := by decide +kernel
theorem dL_where_4 : decode cL_where 4 = .ok (.iload_n 2, 1) := by decide +kernel
theorem dL_where_5 : decode cL_where 5 = .ok (.invokevirtual 54, 3) := by decide +kernel
theorem dL_where_8 : decode cL_where 8 = .ok (.i2l, 1) := by decide +kernel
theorem dL_where_9 : decode cL_where 9 = .ok (.lastore, 1) := by decide +kernel
theorem dL_where_10 : decode cL_where 10 = .ok (.goto 11, 3) := by decide +kernel
theorem dL_where_13 : decode cL_where 13 = .ok (.astore 4, 2) := by decide +kernel
theorem dL_where_15 : decode cL_where 15 = .ok (.iconst 1, 1) := by decide +kernel
theorem dL_where_16 : decode cL_where 16 = .ok (.ireturn, 1) := by decide +kernel
theorem dL_where_17 : decode cL_where 17 = .ok (.astore 4, 2) := by decide +kernel
theorem dL_where_19 : decode cL_where 19 = .ok (.iconst 2, 1) := by decide +kernel
theorem dL_where_20 : decode cL_where 20 = .ok (.ireturn, 1) := by decide +kernel
theorem dL_where_21 : decode cL_where 21 = .ok (.iconst 0, 1) := by decide +kernel
theorem dL_where_22 : decode cL_where 22 = .ok (.ireturn, 1) := by decide +kernel
theorem lkL_54 : Cond.methodLink "SettlerColonyLaw" 54 yX11_where ∈ lw_g := mem_g 1014 (by decide +kernel) (by decide +kernel)
theorem mL_where (l : Launch) (hfl : l.stackTraces = false) {Y : Nat → ClassId} {D : va_G} {σ : Nat → Nat} {np b0 : Nat} {M : Mc} {N : Md} {p0 : Int32} {p1 : Int32} {r : Nat ⊕ Int32} (hf : fX11_where M p0 p1 = some r) : Met l yL_where (.codeWith yL_where cL_where 5 (some .int) [(0, 10, 13, 13), (0, 10, 17, 15)] :: lw_g) (rmX 8 2) (PR Y D σ np b0 [.ref (σ 0), .int p0, .int p1, .ref (σ 145)] M N) (QR Y D σ np b0 (some (.int (wV eB M N r).1)) (wV eB M N r).2.1 (wV eB M N r).2.2) 2 (6 * 2) (xA b0) := by
  refine x_metH (by decide) (Nat.le_of_ble_eq_true rfl) (fun p e s m args below meth c hE hr hT => ?_)
  refine x_pick [0, 1, 2, 3] (L' := [(0, .ref (σ 0)), (1, .int p0), (2, .int p1), (3, .ref (σ 145))]) rfl ?_
  refine x_aload_n hE 3 dL_where_0 rfl rfl ?_
  refine x_iconst hE 0 dL_where_1 (by decide) ?_
  refine x_aload_n hE 0 dL_where_2 rfl rfl ?_
  refine x_iload_n hE 1 dL_where_3 rfl rfl ?_
  refine x_iload_n hE 2 dL_where_4 rfl rfl ?_
  refine x_callXHV hE [.int p0, .int p1] (rest := [.int 0, .ref (σ 145)]) rfl yokX11_where yvX11_where lkL_54 rfl cl_11 (hE.kd kO_11) (by decide) ⟨Nat.le_of_ble_eq_true rfl, Nat.le_of_ble_eq_true rfl⟩ ⟨Nat.le_of_ble_eq_true rfl, Nat.le_of_ble_eq_true rfl⟩ rfl (Nat.le_of_ble_eq_true rfl) dL_where_5 (mX11_where l hfl hf) (fun k hk => ?_) (fun a ha => ⟨some (.int a), M, N, rfl, ?_⟩)
  · have hk1 := t_fX11_where k (hf.trans (congrArg some hk))
    subst hk
    have hk2 : k = 1 ∨ k = 2 := by simpa using hk1
    refine xcat2 hE hT (by decide) (by decide) (by decide) kL_1 kL_2 ca_1 ca_2 hE.2.2.2.2.2.2.2.2.2.2.2.2.2.2.2.2.2.2.2.1 hk2 (fun h q => ?_) (fun h q => ?_)
    · subst h
      refine x_astore hE (L' := (4, .ref q) :: [(0, .ref (σ 0)), (1, .int p0), (2, .int p1), (3, .ref (σ 145))]) dL_where_13 (by decide) rfl ?_
      refine x_iconst hE (nI 1) dL_where_15 (by decide) ?_
      exact x_ireturn hE (v := nI 1) hr rfl dL_where_16
    · subst h
      refine x_astore hE (L' := (4, .ref q) :: [(0, .ref (σ 0)), (1, .int p0), (2, .int p1), (3, .ref (σ 145))]) dL_where_17 (by decide) rfl ?_
      refine x_iconst hE (nI 2) dL_where_19 (by decide) ?_
      exact x_ireturn hE (v := nI 2) hr rfl dL_where_20
  · subst ha
    refine x_i2l hE dL_where_8 ?_
    refine x_last hE 0 (hE.kd kA_145) (by unfold vp_in; decide) (by decide) dL_where_9 ?_
    refine x_goto hE 21 dL_where_10 (by decide) ?_
    refine x_iconst hE 0 dL_where_21 (by decide) ?_
    exact x_ireturn hE (v := 0) hr rfl dL_where_22
theorem yowL_where : YOW yL_where cL_where 5 4 (some .int) [(0, 10, 13, 13), (0, 10, 17, 15)] := ⟨mem_g 1013 (by decide +kernel) (by decide +kernel), mem_g 130 (by decide +kernel) (by decide +kernel), by decide +kernel, by decide +kernel, by decide +kernel⟩
theorem ysL_where : Cond.static yL_where ∈ lw_g := mem_g 1012 (by decide +kernel) (by decide +kernel)
theorem dL_lot_0 : decode cL_lot 0 = .ok (.aload_n 2, 1) := by decide +kernel
theorem dL_lot_1 : decode cL_lot 1 = .ok (.iconst 0, 1) := by decide +kernel
theorem dL_lot_2 : decode cL_lot 2 = .ok (.aload_n 0, 1) := by decide +kernel
theorem dL_lot_3 : decode cL_lot 3 = .ok (.iload_n 1, 1) := by decide +kernel
theorem dL_lot_4 : decode cL_lot 4 = .ok (.invokevirtual 57, 3) := by decide +kernel
theorem dL_lot_7 : decode cL_lot 7 = .ok (.i2l, 1) := by decide +kernel
theorem dL_lot_8 : decode cL_lot 8 = .ok (.lastore, 1) := by decide +kernel
theorem dL_lot_9 : decode cL_lot 9 = .ok (.goto 6, 3) := by decide +kernel
theorem dL_lot_12 : decode cL_lot 12 = .ok (.astore_n 3, 1) := by decide +kernel
theorem dL_lot_13 : decode cL_lot 13 = .ok (.iconst 1, 1) := by decide +kernel
theorem dL_lot_14 : decode cL_lot 14 = .ok (.ireturn, 1) := by decide +kernel
theorem dL_lot_15 : decode cL_lot 15 = .ok (.iconst 0, 1) := by decide +kernel
theorem dL_lot_16 : decode cL_lot 16 = .ok (.ireturn, 1) := by decide +kernel
theorem lkL_57 : Cond.methodLink "SettlerColonyLaw" 57 yX11_lot ∈ lw_g := mem_g 1029 (by decide +kernel) (by decide +kernel)
theorem mL_lot (l : Launch) (hfl : l.stackTraces = false) {Y : Nat → ClassId} {D : va_G} {σ : Nat → Nat} {np b0 : Nat} {M : Mc} {N : Md} {p0 : Int32} {r : Nat ⊕ (Int32 × Mc)} (hf : fX11_lot M p0 = some r) : Met l yL_lot (.codeWith yL_lot cL_lot 4 (some .int) [(0, 9, 12, 13)] :: lw_g) (rmX 8 1) (PR Y D σ np b0 [.ref (σ 0), .int p0, .ref (σ 145)] M N) (QR Y D σ np b0 (some (.int (wT eB M N r).1)) (wT eB M N r).2.1 (wT eB M N r).2.2) 1 (6 * 1) (xA b0) := by
  refine x_metH (by decide) (Nat.le_of_ble_eq_true rfl) (fun p e s m args below meth c hE hr hT => ?_)
  refine x_pick [0, 1, 2] (L' := [(0, .ref (σ 0)), (1, .int p0), (2, .ref (σ 145))]) rfl ?_
  refine x_aload_n hE 2 dL_lot_0 rfl rfl ?_
  refine x_iconst hE 0 dL_lot_1 (by decide) ?_
  refine x_aload_n hE 0 dL_lot_2 rfl rfl ?_
  refine x_iload_n hE 1 dL_lot_3 rfl rfl ?_
  refine x_callXHV hE [.int p0] (rest := [.int 0, .ref (σ 145)]) rfl yokX11_lot yvX11_lot lkL_57 rfl cl_11 (hE.kd kO_11) (by decide) ⟨Nat.le_of_ble_eq_true rfl, Nat.le_of_ble_eq_true rfl⟩ ⟨Nat.le_of_ble_eq_true rfl, Nat.le_of_ble_eq_true rfl⟩ rfl (Nat.le_of_ble_eq_true rfl) dL_lot_4 (mX11_lot l hfl hf) (fun k hk => ?_) (fun a ha => ⟨some (.int a.1), a.2, N, rfl, ?_⟩)
  · have hk1 := t_fX11_lot k (hf.trans (congrArg some hk))
    subst hk
    have hk2 : k = 1 := by simpa using hk1
    refine xcat1 hE hT (by decide) (by decide) kL_1 ca_1 hk2 (fun q => ?_)
    subst hk2
    refine x_astore_n hE (L' := (3, .ref q) :: [(0, .ref (σ 0)), (1, .int p0), (2, .ref (σ 145))]) dL_lot_12 rfl (by decide) rfl ?_
    refine x_iconst hE (nI 1) dL_lot_13 (by decide) ?_
    exact x_ireturn hE (v := nI 1) hr rfl dL_lot_14
  · subst ha
    refine x_i2l hE dL_lot_7 ?_
    refine x_last hE 0 (hE.kd kA_145) (by unfold vp_in; decide) (by decide) dL_lot_8 ?_
    refine x_goto hE 15 dL_lot_9 (by decide) ?_
    refine x_iconst hE 0 dL_lot_15 (by decide) ?_
    exact x_ireturn hE (v := 0) hr rfl dL_lot_16
theorem yowL_lot : YOW yL_lot cL_lot 4 3 (some .int) [(0, 9, 12, 13)] := ⟨mem_g 1028 (by decide +kernel) (by decide +kernel), mem_g 130 (by decide +kernel) (by decide +kernel), by decide +kernel, by decide +kernel, by decide +kernel⟩
theorem ysL_lot : Cond.static yL_lot ∈ lw_g := mem_g 1027 (by decide +kernel) (by decide +kernel)
theorem dL_ask_0 : decode cL_ask 0 = .ok (.aload_n 2, 1) := by decide +kernel
theorem dL_ask_1 : decode cL_ask 1 = .ok (.iconst 0, 1) := by decide +kernel
theorem dL_ask_2 : decode cL_ask 2 = .ok (.aload_n 0, 1) := by decide +kernel
theorem dL_ask_3 : decode cL_ask 3 = .ok (.iload_n 1, 1) := by decide +kernel
theorem dL_ask_4 : decode cL_ask 4 = .ok (.invokevirtual 60, 3) := by decide +kernel
theorem dL_ask_7 : decode cL_ask 7 = .ok (.i2l, 1) := by decide +kernel
theorem dL_ask_8 : decode cL_ask 8 = .ok (.lastore, 1) := by decide +kernel
theorem dL_ask_9 : decode cL_ask 9 = .ok (.goto 6, 3) := by decide +kernel
theorem dL_ask_12 : decode cL_ask 12 = .ok (.astore_n 3, 1) := by decide +kernel
theorem dL_ask_13 : decode cL_ask 13 = .ok (.iconst 1, 1) := by decide +kernel
theorem dL_ask_14 : decode cL_ask 14 = .ok (.ireturn, 1) := by decide +kernel
theorem dL_ask_15 : decode cL_ask 15 = .ok (.iconst 0, 1) := by decide +kernel
theorem dL_ask_16 : decode cL_ask 16 = .ok (.ireturn, 1) := by decide +kernel
theorem lkL_60 : Cond.methodLink "SettlerColonyLaw" 60 yX11_ask ∈ lw_g := mem_g 1098 (by decide +kernel) (by decide +kernel)
theorem mL_ask (l : Launch) (hfl : l.stackTraces = false) {Y : Nat → ClassId} {D : va_G} {σ : Nat → Nat} {np b0 : Nat} {M : Mc} {N : Md} {p0 : Int32} {r : Nat ⊕ (Int32 × Mc)} (hf : fX11_ask M p0 = some r) : Met l yL_ask (.codeWith yL_ask cL_ask 4 (some .int) [(0, 9, 12, 13)] :: lw_g) (rmX 8 1) (PR Y D σ np b0 [.ref (σ 0), .int p0, .ref (σ 145)] M N) (QR Y D σ np b0 (some (.int (wT eB M N r).1)) (wT eB M N r).2.1 (wT eB M N r).2.2) 1 (6 * 1) (xA b0) := by
  refine x_metH (by decide) (Nat.le_of_ble_eq_true rfl) (fun p e s m args below meth c hE hr hT => ?_)
  refine x_pick [0, 1, 2] (L' := [(0, .ref (σ 0)), (1, .int p0), (2, .ref (σ 145))]) rfl ?_
  refine x_aload_n hE 2 dL_ask_0 rfl rfl ?_
  refine x_iconst hE 0 dL_ask_1 (by decide) ?_
  refine x_aload_n hE 0 dL_ask_2 rfl rfl ?_
  refine x_iload_n hE 1 dL_ask_3 rfl rfl ?_
  refine x_callXHV hE [.int p0] (rest := [.int 0, .ref (σ 145)]) rfl yokX11_ask yvX11_ask lkL_60 rfl cl_11 (hE.kd kO_11) (by decide) ⟨Nat.le_of_ble_eq_true rfl, Nat.le_of_ble_eq_true rfl⟩ ⟨Nat.le_of_ble_eq_true rfl, Nat.le_of_ble_eq_true rfl⟩ rfl (Nat.le_of_ble_eq_true rfl) dL_ask_4 (mX11_ask l hfl hf) (fun k hk => ?_) (fun a ha => ⟨some (.int a.1), a.2, N, rfl, ?_⟩)
  · have hk1 := t_fX11_ask k (hf.trans (congrArg some hk))
    subst hk
    have hk2 : k = 1 := by simpa using hk1
    refine xcat1 hE hT (by decide) (by decide) kL_1 ca_1 hk2 (fun q => ?_)
    subst hk2
    refine x_astore_n hE (L' := (3, .ref q) :: [(0, .ref (σ 0)), (1, .int p0), (2, .ref (σ 145))]) dL_ask_12 rfl (by decide) rfl ?_
    refine x_iconst hE (nI 1) dL_ask_13 (by decide) ?_
    exact x_ireturn hE (v := nI 1) hr rfl dL_ask_14
  · subst ha
    refine x_i2l hE dL_ask_7 ?_
    refine x_last hE 0 (hE.kd kA_145) (by unfold vp_in; decide) (by decide) dL_ask_8 ?_
    refine x_goto hE 15 dL_ask_9 (by decide) ?_
    refine x_iconst hE 0 dL_ask_15 (by decide) ?_
    exact x_ireturn hE (v := 0) hr rfl dL_ask_16
theorem yowL_ask : YOW yL_ask cL_ask 4 3 (some .int) [(0, 9, 12, 13)] := ⟨mem_g 1097 (by decide +kernel) (by decide +kernel), mem_g 130 (by decide +kernel) (by decide +kernel), by decide +kernel, by decide +kernel, by decide +kernel⟩
theorem ysL_ask : Cond.static yL_ask ∈ lw_g := mem_g 1096 (by decide +kernel) (by decide +kernel)
theorem dL_draw_0 : decode cL_draw 0 = .ok (.aload_n 2, 1) := by decide +kernel
theorem dL_draw_1 : decode cL_draw 1 = .ok (.iconst 0, 1) := by decide +kernel
theorem dL_draw_2 : decode cL_draw 2 = .ok (.aload_n 0, 1) := by decide +kernel
theorem dL_draw_3 : decode cL_draw 3 = .ok (.iload_n 1, 1) := by decide +kernel
theorem dL_draw_4 : decode cL_draw 4 = .ok (.invokevirtual 63, 3) := by decide +kernel
theorem dL_draw_7 : decode cL_draw 7 = .ok (.i2l, 1) := by decide +kernel
theorem dL_draw_8 : decode cL_draw 8 = .ok (.lastore, 1) := by decide +kernel
theorem dL_draw_9 : decode cL_draw 9 = .ok (.goto 6, 3) := by decide +kernel
theorem dL_draw_12 : decode cL_draw 12 = .ok (.astore_n 3, 1) := by decide +kernel
theorem dL_draw_13 : decode cL_draw 13 = .ok (.iconst 1, 1) := by decide +kernel
theorem dL_draw_14 : decode cL_draw 14 = .ok (.ireturn, 1) := by decide +kernel
theorem dL_draw_15 : decode cL_draw 15 = .ok (.iconst 0, 1) := by decide +kernel
theorem dL_draw_16 : decode cL_draw 16 = .ok (.ireturn, 1) := by decide +kernel
theorem lkL_63 : Cond.methodLink "SettlerColonyLaw" 63 yX11_draw ∈ lw_g := mem_g 1122 (by decide +kernel) (by decide +kernel)
theorem mL_draw (l : Launch) (hfl : l.stackTraces = false) {Y : Nat → ClassId} {D : va_G} {σ : Nat → Nat} {np b0 : Nat} {M : Mc} {N : Md} {p0 : Int32} {r : Nat ⊕ (Int32 × Mc)} (hf : fX11_draw M p0 = some r) : Met l yL_draw (.codeWith yL_draw cL_draw 4 (some .int) [(0, 9, 12, 15)] :: lw_g) (rmX 8 1) (PR Y D σ np b0 [.ref (σ 0), .int p0, .ref (σ 145)] M N) (QR Y D σ np b0 (some (.int (wT eA M N r).1)) (wT eA M N r).2.1 (wT eA M N r).2.2) 1 (6 * 1) (xA b0) := by
  refine x_metH (by decide) (Nat.le_of_ble_eq_true rfl) (fun p e s m args below meth c hE hr hT => ?_)
  refine x_pick [0, 1, 2] (L' := [(0, .ref (σ 0)), (1, .int p0), (2, .ref (σ 145))]) rfl ?_
  refine x_aload_n hE 2 dL_draw_0 rfl rfl ?_
  refine x_iconst hE 0 dL_draw_1 (by decide) ?_
  refine x_aload_n hE 0 dL_draw_2 rfl rfl ?_
  refine x_iload_n hE 1 dL_draw_3 rfl rfl ?_
  refine x_callXHV hE [.int p0] (rest := [.int 0, .ref (σ 145)]) rfl yokX11_draw yvX11_draw lkL_63 rfl cl_11 (hE.kd kO_11) (by decide) ⟨Nat.le_of_ble_eq_true rfl, Nat.le_of_ble_eq_true rfl⟩ ⟨Nat.le_of_ble_eq_true rfl, Nat.le_of_ble_eq_true rfl⟩ rfl (Nat.le_of_ble_eq_true rfl) dL_draw_4 (mX11_draw l hfl hf) (fun k hk => ?_) (fun a ha => ⟨some (.int a.1), a.2, N, rfl, ?_⟩)
  · have hk1 := t_fX11_draw k (hf.trans (congrArg some hk))
    subst hk
    have hk2 : k = 2 := by simpa using hk1
    refine xcat1 hE hT (by decide) (by decide) kL_2 ca_2 hk2 (fun q => ?_)
    subst hk2
    refine x_astore_n hE (L' := (3, .ref q) :: [(0, .ref (σ 0)), (1, .int p0), (2, .ref (σ 145))]) dL_draw_12 rfl (by decide) rfl ?_
    refine x_iconst hE (nI 1) dL_draw_13 (by decide) ?_
    exact x_ireturn hE (v := nI 1) hr rfl dL_draw_14
  · subst ha
    refine x_i2l hE dL_draw_7 ?_
    refine x_last hE 0 (hE.kd kA_145) (by unfold vp_in; decide) (by decide) dL_draw_8 ?_
    refine x_goto hE 15 dL_draw_9 (by decide) ?_
    refine x_iconst hE 0 dL_draw_15 (by decide) ?_
    exact x_ireturn hE (v := 0) hr rfl dL_draw_16
theorem yowL_draw : YOW yL_draw cL_draw 4 3 (some .int) [(0, 9, 12, 15)] := ⟨mem_g 1121 (by decide +kernel) (by decide +kernel), mem_g 130 (by decide +kernel) (by decide +kernel), by decide +kernel, by decide +kernel, by decide +kernel⟩
theorem ysL_draw : Cond.static yL_draw ∈ lw_g := mem_g 1120 (by decide +kernel) (by decide +kernel)
theorem dL_acre_0 : decode cL_acre 0 = .ok (.aload_n 2, 1) := by decide +kernel
theorem dL_acre_1 : decode cL_acre 1 = .ok (.iconst 0, 1) := by decide +kernel
theorem dL_acre_2 : decode cL_acre 2 = .ok (.aload_n 0, 1) := by decide +kernel
theorem dL_acre_3 : decode cL_acre 3 = .ok (.iload_n 1, 1) := by decide +kernel
theorem dL_acre_4 : decode cL_acre 4 = .ok (.invokevirtual 66, 3) := by decide +kernel
theorem dL_acre_7 : decode cL_acre 7 = .ok (.i2l, 1) := by decide +kernel
theorem dL_acre_8 : decode cL_acre 8 = .ok (.lastore, 1) := by decide +kernel
theorem dL_acre_9 : decode cL_acre 9 = .ok (.goto 6, 3) := by decide +kernel
theorem dL_acre_12 : decode cL_acre 12 = .ok (.astore_n 3, 1) := by decide +kernel
theorem dL_acre_13 : decode cL_acre 13 = .ok (.iconst 1, 1) := by decide +kernel
theorem dL_acre_14 : decode cL_acre 14 = .ok (.ireturn, 1) := by decide +kernel
theorem dL_acre_15 : decode cL_acre 15 = .ok (.iconst 0, 1) := by decide +kernel
theorem dL_acre_16 : decode cL_acre 16 = .ok (.ireturn, 1) := by decide +kernel
theorem lkL_66 : Cond.methodLink "SettlerColonyLaw" 66 yX11_acre ∈ lw_g := mem_g 1145 (by decide +kernel) (by decide +kernel)
theorem mL_acre (l : Launch) (hfl : l.stackTraces = false) {Y : Nat → ClassId} {D : va_G} {σ : Nat → Nat} {np b0 : Nat} {M : Mc} {N : Md} {p0 : Int32} {r : Nat ⊕ Int32} (hf : fX11_acre M p0 = some r) : Met l yL_acre (.codeWith yL_acre cL_acre 4 (some .int) [(0, 9, 12, 13)] :: lw_g) (rmX 7 1) (PR Y D σ np b0 [.ref (σ 0), .int p0, .ref (σ 145)] M N) (QR Y D σ np b0 (some (.int (wV eB M N r).1)) (wV eB M N r).2.1 (wV eB M N r).2.2) 1 (6 * 1) (xA b0) := by
  refine x_metH (by decide) (Nat.le_of_ble_eq_true rfl) (fun p e s m args below meth c hE hr hT => ?_)
  refine x_pick [0, 1, 2] (L' := [(0, .ref (σ 0)), (1, .int p0), (2, .ref (σ 145))]) rfl ?_
  refine x_aload_n hE 2 dL_acre_0 rfl rfl ?_
  refine x_iconst hE 0 dL_acre_1 (by decide) ?_
  refine x_aload_n hE 0 dL_acre_2 rfl rfl ?_
  refine x_iload_n hE 1 dL_acre_3 rfl rfl ?_
  refine x_callXHV hE [.int p0] (rest := [.int 0, .ref (σ 145)]) rfl yokX11_acre yvX11_acre lkL_66 rfl cl_11 (hE.kd kO_11) (by decide) ⟨Nat.le_of_ble_eq_true rfl, Nat.le_of_ble_eq_true rfl⟩ ⟨Nat.le_of_ble_eq_true rfl, Nat.le_of_ble_eq_true rfl⟩ rfl (Nat.le_of_ble_eq_true rfl) dL_acre_4 (mX11_acre l hfl hf) (fun k hk => ?_) (fun a ha => ⟨some (.int a), M, N, rfl, ?_⟩)
  · have hk1 := t_fX11_acre k (hf.trans (congrArg some hk))
    subst hk
    have hk2 : k = 1 := by simpa using hk1
    refine xcat1 hE hT (by decide) (by decide) kL_1 ca_1 hk2 (fun q => ?_)
    subst hk2
    refine x_astore_n hE (L' := (3, .ref q) :: [(0, .ref (σ 0)), (1, .int p0), (2, .ref (σ 145))]) dL_acre_12 rfl (by decide) rfl ?_
    refine x_iconst hE (nI 1) dL_acre_13 (by decide) ?_
    exact x_ireturn hE (v := nI 1) hr rfl dL_acre_14
  · subst ha
    refine x_i2l hE dL_acre_7 ?_
    refine x_last hE 0 (hE.kd kA_145) (by unfold vp_in; decide) (by decide) dL_acre_8 ?_
    refine x_goto hE 15 dL_acre_9 (by decide) ?_
    refine x_iconst hE 0 dL_acre_15 (by decide) ?_
    exact x_ireturn hE (v := 0) hr rfl dL_acre_16
theorem yowL_acre : YOW yL_acre cL_acre 4 3 (some .int) [(0, 9, 12, 13)] := ⟨mem_g 1144 (by decide +kernel) (by decide +kernel), mem_g 130 (by decide +kernel) (by decide +kernel), by decide +kernel, by decide +kernel, by decide +kernel⟩
theorem ysL_acre : Cond.static yL_acre ∈ lw_g := mem_g 1143 (by decide +kernel) (by decide +kernel)
theorem dL_buy_0 : decode cL_buy 0 = .ok (.aload_n 3, 1) := by decide +kernel
theorem dL_buy_1 : decode cL_buy 1 = .ok (.iconst 0, 1) := by decide +kernel
theorem dL_buy_2 : decode cL_buy 2 = .ok (.aload_n 0, 1) := by decide +kernel
theorem dL_buy_3 : decode cL_buy 3 = .ok (.iload_n 1, 1) := by decide +kernel
theorem dL_buy_4 : decode cL_buy 4 = .ok (.iload_n 2, 1) := by decide +kernel
theorem dL_buy_5 : decode cL_buy 5 = .ok (.invokevirtual 69, 3) := by decide +kernel
theorem dL_buy_8 : decode cL_buy 8 = .ok (.i2l, 1) := by decide +kernel
theorem dL_buy_9 : decode cL_buy 9 = .ok (.lastore, 1) := by decide +kernel
theorem dL_buy_10 : decode cL_buy 10 = .ok (.goto 7, 3) := by decide +kernel
theorem dL_buy_13 : decode cL_buy 13 = .ok (.astore 4, 2) := by decide +kernel
theorem dL_buy_15 : decode cL_buy 15 = .ok (.iconst 1, 1) := by decide +kernel
theorem dL_buy_16 : decode cL_buy 16 = .ok (.ireturn, 1) := by decide +kernel
theorem dL_buy_17 : decode cL_buy 17 = .ok (.iconst 0, 1) := by decide +kernel
theorem dL_buy_18 : decode cL_buy 18 = .ok (.ireturn, 1) := by decide +kernel
theorem lkL_69 : Cond.methodLink "SettlerColonyLaw" 69 yX11_buy ∈ lw_g := mem_g 1156 (by decide +kernel) (by decide +kernel)
theorem mL_buy (l : Launch) (hfl : l.stackTraces = false) {Y : Nat → ClassId} {D : va_G} {σ : Nat → Nat} {np b0 : Nat} {M : Mc} {N : Md} {p0 : Int32} {p1 : Int32} {r : Nat ⊕ (Int32 × Mc)} (hf : fX11_buy M p0 p1 = some r) : Met l yL_buy (.codeWith yL_buy cL_buy 5 (some .int) [(0, 10, 13, 13)] :: lw_g) (rmX 8 2) (PR Y D σ np b0 [.ref (σ 0), .int p0, .int p1, .ref (σ 145)] M N) (QR Y D σ np b0 (some (.int (wT eB M N r).1)) (wT eB M N r).2.1 (wT eB M N r).2.2) 2 (6 * 2) (xA b0) := by
  refine x_metH (by decide) (Nat.le_of_ble_eq_true rfl) (fun p e s m args below meth c hE hr hT => ?_)
  refine x_pick [0, 1, 2, 3] (L' := [(0, .ref (σ 0)), (1, .int p0), (2, .int p1), (3, .ref (σ 145))]) rfl ?_
  refine x_aload_n hE 3 dL_buy_0 rfl rfl ?_
  refine x_iconst hE 0 dL_buy_1 (by decide) ?_
  refine x_aload_n hE 0 dL_buy_2 rfl rfl ?_
  refine x_iload_n hE 1 dL_buy_3 rfl rfl ?_
  refine x_iload_n hE 2 dL_buy_4 rfl rfl ?_
  refine x_callXHV hE [.int p0, .int p1] (rest := [.int 0, .ref (σ 145)]) rfl yokX11_buy yvX11_buy lkL_69 rfl cl_11 (hE.kd kO_11) (by decide) ⟨Nat.le_of_ble_eq_true rfl, Nat.le_of_ble_eq_true rfl⟩ ⟨Nat.le_of_ble_eq_true rfl, Nat.le_of_ble_eq_true rfl⟩ rfl (Nat.le_of_ble_eq_true rfl) dL_buy_5 (mX11_buy l hfl hf) (fun k hk => ?_) (fun a ha => ⟨some (.int a.1), a.2, N, rfl, ?_⟩)
  · have hk1 := t_fX11_buy k (hf.trans (congrArg some hk))
    subst hk
    have hk2 : k = 1 := by simpa using hk1
    refine xcat1 hE hT (by decide) (by decide) kL_1 ca_1 hk2 (fun q => ?_)
    subst hk2
    refine x_astore hE (L' := (4, .ref q) :: [(0, .ref (σ 0)), (1, .int p0), (2, .int p1), (3, .ref (σ 145))]) dL_buy_13 (by decide) rfl ?_
    refine x_iconst hE (nI 1) dL_buy_15 (by decide) ?_
    exact x_ireturn hE (v := nI 1) hr rfl dL_buy_16
  · subst ha
    refine x_i2l hE dL_buy_8 ?_
    refine x_last hE 0 (hE.kd kA_145) (by unfold vp_in; decide) (by decide) dL_buy_9 ?_
    refine x_goto hE 17 dL_buy_10 (by decide) ?_
    refine x_iconst hE 0 dL_buy_17 (by decide) ?_
    exact x_ireturn hE (v := 0) hr rfl dL_buy_18
theorem yowL_buy : YOW yL_buy cL_buy 5 4 (some .int) [(0, 10, 13, 13)] := ⟨mem_g 1155 (by decide +kernel) (by decide +kernel), mem_g 130 (by decide +kernel) (by decide +kernel), by decide +kernel, by decide +kernel, by decide +kernel⟩
theorem ysL_buy : Cond.static yL_buy ∈ lw_g := mem_g 1154 (by decide +kernel) (by decide +kernel)
theorem dL_order_0 : decode cL_order 0 = .ok (.aload_n 2, 1) := by decide +kernel
theorem dL_order_1 : decode cL_order 1 = .ok (.iconst 0, 1) := by decide +kernel
theorem dL_order_2 : decode cL_order 2 = .ok (.aload_n 0, 1) := by decide +kernel
theorem dL_order_3 : decode cL_order 3 = .ok (.iload_n 1, 1) := by decide +kernel
theorem dL_order_4 : decode cL_order 4 = .ok (.invokevirtual 72, 3) := by decide +kernel
theorem dL_order_7 : decode cL_order 7 = .ok (.i2l, 1) := by decide +kernel
theorem dL_order_8 : decode cL_order 8 = .ok (.lastore, 1) := by decide +kernel
theorem dL_order_9 : decode cL_order 9 = .ok (.goto 6, 3) := by decide +kernel
theorem dL_order_12 : decode cL_order 12 = .ok (.astore_n 3, 1) := by decide +kernel
theorem dL_order_13 : decode cL_order 13 = .ok (.iconst 1, 1) := by decide +kernel
theorem dL_order_14 : decode cL_order 14 = .ok (.ireturn, 1) := by decide +kernel
theorem dL_order_15 : decode cL_order 15 = .ok (.iconst 0, 1) := by decide +kernel
theorem dL_order_16 : decode cL_order 16 = .ok (.ireturn, 1) := by decide +kernel
theorem lkL_72 : Cond.methodLink "SettlerColonyLaw" 72 yX11_order ∈ lw_g := mem_g 1205 (by decide +kernel) (by decide +kernel)
theorem mL_order (l : Launch) (hfl : l.stackTraces = false) {Y : Nat → ClassId} {D : va_G} {σ : Nat → Nat} {np b0 : Nat} {M : Mc} {N : Md} {p0 : Int32} {r : Nat ⊕ (Int32 × Mc)} (hf : fX11_order M p0 = some r) : Met l yL_order (.codeWith yL_order cL_order 4 (some .int) [(0, 9, 12, 13)] :: lw_g) (rmX 8 1) (PR Y D σ np b0 [.ref (σ 0), .int p0, .ref (σ 145)] M N) (QR Y D σ np b0 (some (.int (wT eB M N r).1)) (wT eB M N r).2.1 (wT eB M N r).2.2) 1 (6 * 1) (xA b0) := by
  refine x_metH (by decide) (Nat.le_of_ble_eq_true rfl) (fun p e s m args below meth c hE hr hT => ?_)
  refine x_pick [0, 1, 2] (L' := [(0, .ref (σ 0)), (1, .int p0), (2, .ref (σ 145))]) rfl ?_
  refine x_aload_n hE 2 dL_order_0 rfl rfl ?_
  refine x_iconst hE 0 dL_order_1 (by decide) ?_
  refine x_aload_n hE 0 dL_order_2 rfl rfl ?_
  refine x_iload_n hE 1 dL_order_3 rfl rfl ?_
  refine x_callXHV hE [.int p0] (rest := [.int 0, .ref (σ 145)]) rfl yokX11_order yvX11_order lkL_72 rfl cl_11 (hE.kd kO_11) (by decide) ⟨Nat.le_of_ble_eq_true rfl, Nat.le_of_ble_eq_true rfl⟩ ⟨Nat.le_of_ble_eq_true rfl, Nat.le_of_ble_eq_true rfl⟩ rfl (Nat.le_of_ble_eq_true rfl) dL_order_4 (mX11_order l hfl hf) (fun k hk => ?_) (fun a ha => ⟨some (.int a.1), a.2, N, rfl, ?_⟩)
  · have hk1 := t_fX11_order k (hf.trans (congrArg some hk))
    subst hk
    have hk2 : k = 1 := by simpa using hk1
    refine xcat1 hE hT (by decide) (by decide) kL_1 ca_1 hk2 (fun q => ?_)
    subst hk2
    refine x_astore_n hE (L' := (3, .ref q) :: [(0, .ref (σ 0)), (1, .int p0), (2, .ref (σ 145))]) dL_order_12 rfl (by decide) rfl ?_
    refine x_iconst hE (nI 1) dL_order_13 (by decide) ?_
    exact x_ireturn hE (v := nI 1) hr rfl dL_order_14
  · subst ha
    refine x_i2l hE dL_order_7 ?_
    refine x_last hE 0 (hE.kd kA_145) (by unfold vp_in; decide) (by decide) dL_order_8 ?_
    refine x_goto hE 15 dL_order_9 (by decide) ?_
    refine x_iconst hE 0 dL_order_15 (by decide) ?_
    exact x_ireturn hE (v := 0) hr rfl dL_order_16
theorem yowL_order : YOW yL_order cL_order 4 3 (some .int) [(0, 9, 12, 13)] := ⟨mem_g 1204 (by decide +kernel) (by decide +kernel), mem_g 130 (by decide +kernel) (by decide +kernel), by decide +kernel, by decide +kernel, by decide +kernel⟩
theorem ysL_order : Cond.static yL_order ∈ lw_g := mem_g 1203 (by decide +kernel) (by decide +kernel)
theorem dL_choose_0 : decode cL_choose 0 = .ok (.aload_n 3, 1) := by decide +kernel
theorem dL_choose_1 : decode cL_choose 1 = .ok (.iconst 0, 1) := by decide +kernel
theorem dL_choose_2 : decode cL_choose 2 = .ok (.aload_n 0, 1) := by decide +kernel
theorem dL_choose_3 : decode cL_choose 3 = .ok (.iload_n 1, 1) := by decide +kernel
theorem dL_choose_4 : decode cL_choose 4 = .ok (.iload_n 2, 1) := by decide +kernel
theorem dL_choose_5 : decode cL_choose 5 = .ok (.invokevirtual 75, 3) := by decide +kernel
theorem dL_choose_8 : decode cL_choose 8 = .ok (.i2l, 1) := by decide +kernel
theorem dL_choose_9 : decode cL_choose 9 = .ok (.lastore, 1) := by decide +kernel
theorem dL_choose_10 : decode cL_choose 10 = .ok (.goto 7, 3) := by decide +kernel
theorem dL_choose_13 : decode cL_choose 13 = .ok (.astore 4, 2) := by decide +kernel
theorem dL_choose_15 : decode cL_choose 15 = .ok (.iconst 1, 1) := by decide +kernel
theorem dL_choose_16 : decode cL_choose 16 = .ok (.ireturn, 1) := by decide +kernel
theorem dL_choose_17 : decode cL_choose 17 = .ok (.iconst 0, 1) := by decide +kernel
theorem dL_choose_18 : decode cL_choose 18 = .ok (.ireturn, 1) := by decide +kernel
theorem lkL_75 : Cond.methodLink "SettlerColonyLaw" 75 yX11_choose ∈ lw_g := mem_g 1224 (by decide +kernel) (by decide +kernel)
theorem mL_choose (l : Launch) (hfl : l.stackTraces = false) {Y : Nat → ClassId} {D : va_G} {σ : Nat → Nat} {np b0 : Nat} {M : Mc} {N : Md} {p0 : Int32} {p1 : Int32} {r : Nat ⊕ (Int32 × Mc)} (hf : fX11_choose M p0 p1 = some r) : Met l yL_choose (.codeWith yL_choose cL_choose 5 (some .int) [(0, 10, 13, 13)] :: lw_g) (rmX 8 2) (PR Y D σ np b0 [.ref (σ 0), .int p0, .int p1, .ref (σ 145)] M N) (QR Y D σ np b0 (some (.int (wT eB M N r).1)) (wT eB M N r).2.1 (wT eB M N r).2.2) 2 (6 * 2) (xA b0) := by
  refine x_metH (by decide) (Nat.le_of_ble_eq_true rfl) (fun p e s m args below meth c hE hr hT => ?_)
  refine x_pick [0, 1, 2, 3] (L' := [(0, .ref (σ 0)), (1, .int p0), (2, .int p1), (3, .ref (σ 145))]) rfl ?_
  refine x_aload_n hE 3 dL_choose_0 rfl rfl ?_
  refine x_iconst hE 0 dL_choose_1 (by decide) ?_
  refine x_aload_n hE 0 dL_choose_2 rfl rfl ?_
  refine x_iload_n hE 1 dL_choose_3 rfl rfl ?_
  refine x_iload_n hE 2 dL_choose_4 rfl rfl ?_
  refine x_callXHV hE [.int p0, .int p1] (rest := [.int 0, .ref (σ 145)]) rfl yokX11_choose yvX11_choose lkL_75 rfl cl_11 (hE.kd kO_11) (by decide) ⟨Nat.le_of_ble_eq_true rfl, Nat.le_of_ble_eq_true rfl⟩ ⟨Nat.le_of_ble_eq_true rfl, Nat.le_of_ble_eq_true rfl⟩ rfl (Nat.le_of_ble_eq_true rfl) dL_choose_5 (mX11_choose l hfl hf) (fun k hk => ?_) (fun a ha => ⟨some (.int a.1), a.2, N, rfl, ?_⟩)
  · have hk1 := t_fX11_choose k (hf.trans (congrArg some hk))
    subst hk
    have hk2 : k = 1 := by simpa using hk1
    refine xcat1 hE hT (by decide) (by decide) kL_1 ca_1 hk2 (fun q => ?_)
    subst hk2
    refine x_astore hE (L' := (4, .ref q) :: [(0, .ref (σ 0)), (1, .int p0), (2, .int p1), (3, .ref (σ 145))]) dL_choose_13 (by decide) rfl ?_
    refine x_iconst hE (nI 1) dL_choose_15 (by decide) ?_
    exact x_ireturn hE (v := nI 1) hr rfl dL_choose_16
  · subst ha
    refine x_i2l hE dL_choose_8 ?_
    refine x_last hE 0 (hE.kd kA_145) (by unfold vp_in; decide) (by decide) dL_choose_9 ?_
    refine x_goto hE 17 dL_choose_10 (by decide) ?_
    refine x_iconst hE 0 dL_choose_17 (by decide) ?_
    exact x_ireturn hE (v := 0) hr rfl dL_choose_18
theorem yowL_choose : YOW yL_choose cL_choose 5 4 (some .int) [(0, 10, 13, 13)] := ⟨mem_g 1223 (by decide +kernel) (by decide +kernel), mem_g 130 (by decide +kernel) (by decide +kernel), by decide +kernel, by decide +kernel, by decide +kernel⟩
theorem ysL_choose : Cond.static yL_choose ∈ lw_g := mem_g 1222 (by decide +kernel) (by decide +kernel)
theorem dL_run_0 : decode cL_run 0 = .ok (.aload_n 3, 1) := by decide +kernel
theorem dL_run_1 : decode cL_run 1 = .ok (.iconst 0, 1) := by decide +kernel
theorem dL_run_2 : decode cL_run 2 = .ok (.aload_n 0, 1) := by decide +kernel
theorem dL_run_3 : decode cL_run 3 = .ok (.iload_n 1, 1) := by decide +kernel
theorem dL_run_4 : decode cL_run 4 = .ok (.iload_n 2, 1) := by decide +kernel
theorem dL_run_5 : decode cL_run 5 = .ok (.invokevirtual 78, 3) := by decide +kernel
theorem dL_run_8 : decode cL_run 8 = .ok (.i2l, 1) := by decide +kernel
theorem dL_run_9 : decode cL_run 9 = .ok (.lastore, 1) := by decide +kernel
theorem dL_run_10 : decode cL_run 10 = .ok (.goto 7, 3) := by decide +kernel
theorem dL_run_13 : decode cL_run 13 = .ok (.astore 4, 2) := by decide +kernel
theorem dL_run_15 : decode cL_run 15 = .ok (.iconst 1, 1) := by decide +kernel
theorem dL_run_16 : decode cL_run 16 = .ok (.ireturn, 1) := by decide +kernel
theorem dL_run_17 : decode cL_run 17 = .ok (.iconst 0, 1) := by decide +kernel
theorem dL_run_18 : decode cL_run 18 = .ok (.ireturn, 1) := by decide +kernel
theorem lkL_78 : Cond.methodLink "SettlerColonyLaw" 78 yX11_run ∈ lw_g := mem_g 1249 (by decide +kernel) (by decide +kernel)
theorem mL_run (l : Launch) (hfl : l.stackTraces = false) {Y : Nat → ClassId} {D : va_G} {σ : Nat → Nat} {np b0 : Nat} {M : Mc} {N : Md} {p0 : Int32} {p1 : Int32} {r : Nat ⊕ (Int32 × Mc)} (hf : fX11_run M p0 p1 = some r) : Met l yL_run (.codeWith yL_run cL_run 5 (some .int) [(0, 10, 13, 13)] :: lw_g) (rmX 8 2) (PR Y D σ np b0 [.ref (σ 0), .int p0, .int p1, .ref (σ 145)] M N) (QR Y D σ np b0 (some (.int (wT eB M N r).1)) (wT eB M N r).2.1 (wT eB M N r).2.2) 2 (6 * 2) (xA b0) := by
  refine x_metH (by decide) (Nat.le_of_ble_eq_true rfl) (fun p e s m args below meth c hE hr hT => ?_)
  refine x_pick [0, 1, 2, 3] (L' := [(0, .ref (σ 0)), (1, .int p0), (2, .int p1), (3, .ref (σ 145))]) rfl ?_
  refine x_aload_n hE 3 dL_run_0 rfl rfl ?_
  refine x_iconst hE 0 dL_run_1 (by decide) ?_
  refine x_aload_n hE 0 dL_run_2 rfl rfl ?_
  refine x_iload_n hE 1 dL_run_3 rfl rfl ?_
  refine x_iload_n hE 2 dL_run_4 rfl rfl ?_
  refine x_callXHV hE [.int p0, .int p1] (rest := [.int 0, .ref (σ 145)]) rfl yokX11_run yvX11_run lkL_78 rfl cl_11 (hE.kd kO_11) (by decide) ⟨Nat.le_of_ble_eq_true rfl, Nat.le_of_ble_eq_true rfl⟩ ⟨Nat.le_of_ble_eq_true rfl, Nat.le_of_ble_eq_true rfl⟩ rfl (Nat.le_of_ble_eq_true rfl) dL_run_5 (mX11_run l hfl hf) (fun k hk => ?_) (fun a ha => ⟨some (.int a.1), a.2, N, rfl, ?_⟩)
  · have hk1 := t_fX11_run k (hf.trans (congrArg some hk))
    subst hk
    have hk2 : k = 1 := by simpa using hk1
    refine xcat1 hE hT (by decide) (by decide) kL_1 ca_1 hk2 (fun q => ?_)
    subst hk2
    refine x_astore hE (L' := (4, .ref q) :: [(0, .ref (σ 0)), (1, .int p0), (2, .int p1), (3, .ref (σ 145))]) dL_run_13 (by decide) rfl ?_
    refine x_iconst hE (nI 1) dL_run_15 (by decide) ?_
    exact x_ireturn hE (v := nI 1) hr rfl dL_run_16
  · subst ha
    refine x_i2l hE dL_run_8 ?_
    refine x_last hE 0 (hE.kd kA_145) (by unfold vp_in; decide) (by decide) dL_run_9 ?_
    refine x_goto hE 17 dL_run_10 (by decide) ?_
    refine x_iconst hE 0 dL_run_17 (by decide) ?_
    exact x_ireturn hE (v := 0) hr rfl dL_run_18
theorem yowL_run : YOW yL_run cL_run 5 4 (some .int) [(0, 10, 13, 13)] := ⟨mem_g 1248 (by decide +kernel) (by decide +kernel), mem_g 130 (by decide +kernel) (by decide +kernel), by decide +kernel, by decide +kernel, by decide +kernel⟩
theorem ysL_run : Cond.static yL_run ∈ lw_g := mem_g 1247 (by decide +kernel) (by decide +kernel)
theorem dL_squat_0 : decode cL_squat 0 = .ok (.aload_n 3, 1) := by decide +kernel
theorem dL_squat_1 : decode cL_squat 1 = .ok (.iconst 0, 1) := by decide +kernel
theorem dL_squat_2 : decode cL_squat 2 = .ok (.aload_n 0, 1) := by decide +kernel
theorem dL_squat_3 : decode cL_squat 3 = .ok (.iload_n 1, 1) := by decide +kernel
theorem dL_squat_4 : decode cL_squat 4 = .ok (.iload_n 2, 1) := by decide +kernel
theorem dL_squat_5 : decode cL_squat 5 = .ok (.invokevirtual 81, 3) := by decide +kernel
theorem dL_squat_8 : decode cL_squat 8 = .ok (.i2l, 1) := by decide +kernel
theorem dL_squat_9 : decode cL_squat 9 = .ok (.lastore, 1) := by decide +kernel
theorem dL_squat_10 : decode cL_squat 10 = .ok (.goto 7, 3) := by decide +kernel
theorem dL_squat_13 : decode cL_squat 13 = .ok (.astore 4, 2) := by decide +kernel
theorem dL_squat_15 : decode cL_squat 15 = .ok (.iconst 1, 1) := by decide +kernel
theorem dL_squat_16 : decode cL_squat 16 = .ok (.ireturn, 1) := by decide +kernel
theorem dL_squat_17 : decode cL_squat 17 = .ok (.iconst 0, 1) := by decide +kernel
theorem dL_squat_18 : decode cL_squat 18 = .ok (.ireturn, 1) := by decide +kernel
theorem lkL_81 : Cond.methodLink "SettlerColonyLaw" 81 yX11_squat ∈ lw_g := mem_g 1267 (by decide +kernel) (by decide +kernel)
theorem mL_squat (l : Launch) (hfl : l.stackTraces = false) {Y : Nat → ClassId} {D : va_G} {σ : Nat → Nat} {np b0 : Nat} {M : Mc} {N : Md} {p0 : Int32} {p1 : Int32} {r : Nat ⊕ (Int32 × Mc)} (hf : fX11_squat M p0 p1 = some r) : Met l yL_squat (.codeWith yL_squat cL_squat 5 (some .int) [(0, 10, 13, 13)] :: lw_g) (rmX 8 2) (PR Y D σ np b0 [.ref (σ 0), .int p0, .int p1, .ref (σ 145)] M N) (QR Y D σ np b0 (some (.int (wT eB M N r).1)) (wT eB M N r).2.1 (wT eB M N r).2.2) 2 (6 * 2) (xA b0) := by
  refine x_metH (by decide) (Nat.le_of_ble_eq_true rfl) (fun p e s m args below meth c hE hr hT => ?_)
  refine x_pick [0, 1, 2, 3] (L' := [(0, .ref (σ 0)), (1, .int p0), (2, .int p1), (3, .ref (σ 145))]) rfl ?_
  refine x_aload_n hE 3 dL_squat_0 rfl rfl ?_
  refine x_iconst hE 0 dL_squat_1 (by decide) ?_
  refine x_aload_n hE 0 dL_squat_2 rfl rfl ?_
  refine x_iload_n hE 1 dL_squat_3 rfl rfl ?_
  refine x_iload_n hE 2 dL_squat_4 rfl rfl ?_
  refine x_callXHV hE [.int p0, .int p1] (rest := [.int 0, .ref (σ 145)]) rfl yokX11_squat yvX11_squat lkL_81 rfl cl_11 (hE.kd kO_11) (by decide) ⟨Nat.le_of_ble_eq_true rfl, Nat.le_of_ble_eq_true rfl⟩ ⟨Nat.le_of_ble_eq_true rfl, Nat.le_of_ble_eq_true rfl⟩ rfl (Nat.le_of_ble_eq_true rfl) dL_squat_5 (mX11_squat l hfl hf) (fun k hk => ?_) (fun a ha => ⟨some (.int a.1), a.2, N, rfl, ?_⟩)
  · have hk1 := t_fX11_squat k (hf.trans (congrArg some hk))
    subst hk
    have hk2 : k = 1 := by simpa using hk1
    refine xcat1 hE hT (by decide) (by decide) kL_1 ca_1 hk2 (fun q => ?_)
    subst hk2
    refine x_astore hE (L' := (4, .ref q) :: [(0, .ref (σ 0)), (1, .int p0), (2, .int p1), (3, .ref (σ 145))]) dL_squat_13 (by decide) rfl ?_
    refine x_iconst hE (nI 1) dL_squat_15 (by decide) ?_
    exact x_ireturn hE (v := nI 1) hr rfl dL_squat_16
  · subst ha
    refine x_i2l hE dL_squat_8 ?_
    refine x_last hE 0 (hE.kd kA_145) (by unfold vp_in; decide) (by decide) dL_squat_9 ?_
    refine x_goto hE 17 dL_squat_10 (by decide) ?_
    refine x_iconst hE 0 dL_squat_17 (by decide) ?_
    exact x_ireturn hE (v := 0) hr rfl dL_squat_18
theorem yowL_squat : YOW yL_squat cL_squat 5 4 (some .int) [(0, 10, 13, 13)] := ⟨mem_g 1266 (by decide +kernel) (by decide +kernel), mem_g 130 (by decide +kernel) (by decide +kernel), by decide +kernel, by decide +kernel, by decide +kernel⟩
theorem ysL_squat : Cond.static yL_squat ∈ lw_g := mem_g 1265 (by decide +kernel) (by decide +kernel)
theorem dL_stock_0 : decode cL_stock 0 = .ok (.aload 4, 2) := by decide +kernel
theorem dL_stock_2 : decode cL_stock 2 = .ok (.iconst 0, 1) := by decide +kernel
theorem dL_stock_3 : decode cL_stock 3 = .ok (.aload_n 0, 1) := by decide +kernel
theorem dL_stock_4 : decode cL_stock 4 = .ok (.iload_n 1, 1) := by decide +kernel
theorem dL_stock_5 : decode cL_stock 5 = .ok (.iload_n 2, 1) := by decide +kernel
theorem dL_stock_6 : decode cL_stock 6 = .ok (.iload_n 3, 1) := by decide +kernel
theorem dL_stock_7 : decode cL_stock 7 = .ok (.invokevirtual 84, 3) := by decide +kernel
theorem dL_stock_10 : decode cL_stock 10 = .ok (.i2l, 1) := by decide +kernel
theorem dL_stock_11 : decode cL_stock 11 = .ok (.lastore, 1) := by decide +kernel
theorem dL_stock_12 : decode cL_stock 12 = .ok (.goto 11, 3) := by decide +kernel
theorem dL_stock_15 : decode cL_stock 15 = .ok (.astore 5, 2) := by decide +kernel
theorem dL_stock_17 : decode cL_stock 17 = .ok (.iconst 1, 1) := by decide +kernel
theorem dL_stock_18 : decode cL_stock 18 = .ok (.ireturn, 1) := by decide +kernel
theorem dL_stock_19 : decode cL_stock 19 = .ok (.astore 5, 2) := by decide +kernel
theorem dL_stock_21 : decode cL_stock 21 = .ok (.iconst 2, 1) := by decide +kernel
theorem dL_stock_22 : decode cL_stock 22 = .ok (.ireturn, 1) := by decide +kernel
theorem dL_stock_23 : decode cL_stock 23 = .ok (.iconst 0, 1) := by decide +kernel
theorem dL_stock_24 : decode cL_stock 24 = .ok (.ireturn, 1) := by decide +kernel
theorem lkL_84 : Cond.methodLink "SettlerColonyLaw" 84 yX11_stock ∈ lw_g := mem_g 1278 (by decide +kernel) (by decide +kernel)
theorem mL_stock (l : Launch) (hfl : l.stackTraces = false) {Y : Nat → ClassId} {D : va_G} {σ : Nat → Nat} {np b0 : Nat} {M : Mc} {N : Md} {p0 : Int32} {p1 : Int32} {p2 : Int32} {r : Nat ⊕ (Int32 × Mc)} (hf : fX11_stock M p0 p1 p2 = some r) : Met l yL_stock (.codeWith yL_stock cL_stock 6 (some .int) [(0, 12, 15, 13), (0, 12, 19, 15)] :: lw_g) (rmX 8 3) (PR Y D σ np b0 [.ref (σ 0), .int p0, .int p1, .int p2, .ref (σ 145)] M N) (QR Y D σ np b0 (some (.int (wT eB M N r).1)) (wT eB M N r).2.1 (wT eB M N r).2.2) 3 (6 * 3) (xA b0) := by
  refine x_metH (by decide) (Nat.le_of_ble_eq_true rfl) (fun p e s m args below meth c hE hr hT => ?_)
  refine x_pick [0, 1, 2, 3, 4] (L' := [(0, .ref (σ 0)), (1, .int p0), (2, .int p1), (3, .int p2), (4, .ref (σ 145))]) rfl ?_
  refine x_aload hE 4 dL_stock_0 rfl ?_
  refine x_iconst hE 0 dL_stock_2 (by decide) ?_
  refine x_aload_n hE 0 dL_stock_3 rfl rfl ?_
  refine x_iload_n hE 1 dL_stock_4 rfl rfl ?_
  refine x_iload_n hE 2 dL_stock_5 rfl rfl ?_
  refine x_iload_n hE 3 dL_stock_6 rfl rfl ?_
  refine x_callXHV hE [.int p0, .int p1, .int p2] (rest := [.int 0, .ref (σ 145)]) rfl yokX11_stock yvX11_stock lkL_84 rfl cl_11 (hE.kd kO_11) (by decide) ⟨Nat.le_of_ble_eq_true rfl, Nat.le_of_ble_eq_true rfl⟩ ⟨Nat.le_of_ble_eq_true rfl, Nat.le_of_ble_eq_true rfl⟩ rfl (Nat.le_of_ble_eq_true rfl) dL_stock_7 (mX11_stock l hfl hf) (fun k hk => ?_) (fun a ha => ⟨some (.int a.1), a.2, N, rfl, ?_⟩)
  · have hk1 := t_fX11_stock k (hf.trans (congrArg some hk))
    subst hk
    have hk2 : k = 1 ∨ k = 2 := by simpa using hk1
    refine xcat2 hE hT (by decide) (by decide) (by decide) kL_1 kL_2 ca_1 ca_2 hE.2.2.2.2.2.2.2.2.2.2.2.2.2.2.2.2.2.2.2.1 hk2 (fun h q => ?_) (fun h q => ?_)
    · subst h
      refine x_astore hE (L' := (5, .ref q) :: [(0, .ref (σ 0)), (1, .int p0), (2, .int p1), (3, .int p2), (4, .ref (σ 145))]) dL_stock_15 (by decide) rfl ?_
      refine x_iconst hE (nI 1) dL_stock_17 (by decide) ?_
      exact x_ireturn hE (v := nI 1) hr rfl dL_stock_18
    · subst h
      refine x_astore hE (L' := (5, .ref q) :: [(0, .ref (σ 0)), (1, .int p0), (2, .int p1), (3, .int p2), (4, .ref (σ 145))]) dL_stock_19 (by decide) rfl ?_
      refine x_iconst hE (nI 2) dL_stock_21 (by decide) ?_
      exact x_ireturn hE (v := nI 2) hr rfl dL_stock_22
  · subst ha
    refine x_i2l hE dL_stock_10 ?_
    refine x_last hE 0 (hE.kd kA_145) (by unfold vp_in; decide) (by decide) dL_stock_11 ?_
    refine x_goto hE 23 dL_stock_12 (by decide) ?_
    refine x_iconst hE 0 dL_stock_23 (by decide) ?_
    exact x_ireturn hE (v := 0) hr rfl dL_stock_24
theorem yowL_stock : YOW yL_stock cL_stock 6 5 (some .int) [(0, 12, 15, 13), (0, 12, 19, 15)] := ⟨mem_g 1277 (by decide +kernel) (by decide +kernel), mem_g 130 (by decide +kernel) (by decide +kernel), by decide +kernel, by decide +kernel, by decide +kernel⟩
theorem ysL_stock : Cond.static yL_stock ∈ lw_g := mem_g 1276 (by decide +kernel) (by decide +kernel)
theorem dL_fence_0 : decode cL_fence 0 = .ok (.aload_n 3, 1) := by decide +kernel
theorem dL_fence_1 : decode cL_fence 1 = .ok (.iconst 0, 1) := by decide +kernel
theorem dL_fence_2 : decode cL_fence 2 = .ok (.aload_n 0, 1) := by decide +kernel
theorem dL_fence_3 : decode cL_fence 3 = .ok (.iload_n 1, 1) := by decide +kernel
theorem dL_fence_4 : decode cL_fence 4 = .ok (.iload_n 2, 1) := by decide +kernel
theorem dL_fence_5 : decode cL_fence 5 = .ok (.invokevirtual 87, 3) := by decide +kernel
theorem dL_fence_8 : decode cL_fence 8 = .ok (.i2l, 1) := by decide +kernel
theorem dL_fence_9 : decode cL_fence 9 = .ok (.lastore, 1) := by decide +kernel
theorem dL_fence_10 : decode cL_fence 10 = .ok (.goto 7, 3) := by decide +kernel
theorem dL_fence_13 : decode cL_fence 13 = .ok (.astore 4, 2) := by decide +kernel
theorem dL_fence_15 : decode cL_fence 15 = .ok (.iconst 1, 1) := by decide +kernel
theorem dL_fence_16 : decode cL_fence 16 = .ok (.ireturn, 1) := by decide +kernel
theorem dL_fence_17 : decode cL_fence 17 = .ok (.iconst 0, 1) := by decide +kernel
theorem dL_fence_18 : decode cL_fence 18 = .ok (.ireturn, 1) := by decide +kernel
theorem lkL_87 : Cond.methodLink "SettlerColonyLaw" 87 yX11_fence ∈ lw_g := mem_g 1297 (by decide +kernel) (by decide +kernel)
theorem mL_fence (l : Launch) (hfl : l.stackTraces = false) {Y : Nat → ClassId} {D : va_G} {σ : Nat → Nat} {np b0 : Nat} {M : Mc} {N : Md} {p0 : Int32} {p1 : Int32} {r : Nat ⊕ (Int32 × Mc)} (hf : fX11_fence M p0 p1 = some r) : Met l yL_fence (.codeWith yL_fence cL_fence 5 (some .int) [(0, 10, 13, 13)] :: lw_g) (rmX 8 2) (PR Y D σ np b0 [.ref (σ 0), .int p0, .int p1, .ref (σ 145)] M N) (QR Y D σ np b0 (some (.int (wT eB M N r).1)) (wT eB M N r).2.1 (wT eB M N r).2.2) 2 (6 * 2) (xA b0) := by
  refine x_metH (by decide) (Nat.le_of_ble_eq_true rfl) (fun p e s m args below meth c hE hr hT => ?_)
  refine x_pick [0, 1, 2, 3] (L' := [(0, .ref (σ 0)), (1, .int p0), (2, .int p1), (3, .ref (σ 145))]) rfl ?_
  refine x_aload_n hE 3 dL_fence_0 rfl rfl ?_
  refine x_iconst hE 0 dL_fence_1 (by decide) ?_
  refine x_aload_n hE 0 dL_fence_2 rfl rfl ?_
  refine x_iload_n hE 1 dL_fence_3 rfl rfl ?_
  refine x_iload_n hE 2 dL_fence_4 rfl rfl ?_
  refine x_callXHV hE [.int p0, .int p1] (rest := [.int 0, .ref (σ 145)]) rfl yokX11_fence yvX11_fence lkL_87 rfl cl_11 (hE.kd kO_11) (by decide) ⟨Nat.le_of_ble_eq_true rfl, Nat.le_of_ble_eq_true rfl⟩ ⟨Nat.le_of_ble_eq_true rfl, Nat.le_of_ble_eq_true rfl⟩ rfl (Nat.le_of_ble_eq_true rfl) dL_fence_5 (mX11_fence l hfl hf) (fun k hk => ?_) (fun a ha => ⟨some (.int a.1), a.2, N, rfl, ?_⟩)
  · have hk1 := t_fX11_fence k (hf.trans (congrArg some hk))
    subst hk
    have hk2 : k = 1 := by simpa using hk1
    refine xcat1 hE hT (by decide) (by decide) kL_1 ca_1 hk2 (fun q => ?_)
    subst hk2
    refine x_astore hE (L' := (4, .ref q) :: [(0, .ref (σ 0)), (1, .int p0), (2, .int p1), (3, .ref (σ 145))]) dL_fence_13 (by decide) rfl ?_
    refine x_iconst hE (nI 1) dL_fence_15 (by decide) ?_
    exact x_ireturn hE (v := nI 1) hr rfl dL_fence_16
  · subst ha
    refine x_i2l hE dL_fence_8 ?_
    refine x_last hE 0 (hE.kd kA_145) (by unfold vp_in; decide) (by decide) dL_fence_9 ?_
    refine x_goto hE 17 dL_fence_10 (by decide) ?_
    refine x_iconst hE 0 dL_fence_17 (by decide) ?_
    exact x_ireturn hE (v := 0) hr rfl dL_fence_18
theorem yowL_fence : YOW yL_fence cL_fence 5 4 (some .int) [(0, 10, 13, 13)] := ⟨mem_g 1296 (by decide +kernel) (by decide +kernel), mem_g 130 (by decide +kernel) (by decide +kernel), by decide +kernel, by decide +kernel, by decide +kernel⟩
theorem ysL_fence : Cond.static yL_fence ∈ lw_g := mem_g 1295 (by decide +kernel) (by decide +kernel)
theorem dL_vote_0 : decode cL_vote 0 = .ok (.aload 4, 2) := by decide +kernel
theorem dL_vote_2 : decode cL_vote 2 = .ok (.iconst 0, 1) := by decide +kernel
theorem dL_vote_3 : decode cL_vote 3 = .ok (.aload_n 0, 1) := by decide +kernel
theorem dL_vote_4 : decode cL_vote 4 = .ok (.iload_n 1, 1) := by decide +kernel
theorem dL_vote_5 : decode cL_vote 5 = .ok (.iload_n 2, 1) := by decide +kernel
theorem dL_vote_6 : decode cL_vote 6 = .ok (.iload_n 3, 1) := by decide +kernel
theorem dL_vote_7 : decode cL_vote 7 = .ok (.invokevirtual 93, 3) := by decide +kernel
theorem dL_vote_10 : decode cL_vote 10 = .ok (.i2l, 1) := by decide +kernel
theorem dL_vote_11 : decode cL_vote 11 = .ok (.lastore, 1) := by decide +kernel
theorem dL_vote_12 : decode cL_vote 12 = .ok (.goto 7, 3) := by decide +kernel
theorem dL_vote_15 : decode cL_vote 15 = .ok (.astore 5, 2) := by decide +kernel
theorem dL_vote_17 : decode cL_vote 17 = .ok (.iconst 1, 1) := by decide +kernel
theorem dL_vote_18 : decode cL_vote 18 = .ok (.ireturn, 1) := by decide +kernel
theorem dL_vote_19 : decode cL_vote 19 = .ok (.iconst 0, 1) := by decide +kernel
theorem dL_vote_20 : decode cL_vote 20 = .ok (.ireturn, 1) := by decide +kernel
theorem lkL_93 : Cond.methodLink "SettlerColonyLaw" 93 yX11_vote ∈ lw_g := mem_g 1519 (by decide +kernel) (by decide +kernel)
theorem mL_vote (l : Launch) (hfl : l.stackTraces = false) {Y : Nat → ClassId} {D : va_G} {σ : Nat → Nat} {np b0 : Nat} {M : Mc} {N : Md} {p0 : Int32} {p1 : Int32} {p2 : Int32} {r : Nat ⊕ (Int32 × Mc)} (hf : fX11_vote M p0 p1 p2 = some r) : Met l yL_vote (.codeWith yL_vote cL_vote 6 (some .int) [(0, 12, 15, 13)] :: lw_g) (rmX 8 2) (PR Y D σ np b0 [.ref (σ 0), .int p0, .int p1, .int p2, .ref (σ 145)] M N) (QR Y D σ np b0 (some (.int (wT eB M N r).1)) (wT eB M N r).2.1 (wT eB M N r).2.2) 2 (6 * 2) (xA b0) := by
  refine x_metH (by decide) (Nat.le_of_ble_eq_true rfl) (fun p e s m args below meth c hE hr hT => ?_)
  refine x_pick [0, 1, 2, 3, 4] (L' := [(0, .ref (σ 0)), (1, .int p0), (2, .int p1), (3, .int p2), (4, .ref (σ 145))]) rfl ?_
  refine x_aload hE 4 dL_vote_0 rfl ?_
  refine x_iconst hE 0 dL_vote_2 (by decide) ?_
  refine x_aload_n hE 0 dL_vote_3 rfl rfl ?_
  refine x_iload_n hE 1 dL_vote_4 rfl rfl ?_
  refine x_iload_n hE 2 dL_vote_5 rfl rfl ?_
  refine x_iload_n hE 3 dL_vote_6 rfl rfl ?_
  refine x_callXHV hE [.int p0, .int p1, .int p2] (rest := [.int 0, .ref (σ 145)]) rfl yokX11_vote yvX11_vote lkL_93 rfl cl_11 (hE.kd kO_11) (by decide) ⟨Nat.le_of_ble_eq_true rfl, Nat.le_of_ble_eq_true rfl⟩ ⟨Nat.le_of_ble_eq_true rfl, Nat.le_of_ble_eq_true rfl⟩ rfl (Nat.le_of_ble_eq_true rfl) dL_vote_7 (mX11_vote l hfl hf) (fun k hk => ?_) (fun a ha => ⟨some (.int a.1), a.2, N, rfl, ?_⟩)
  · have hk1 := t_fX11_vote k (hf.trans (congrArg some hk))
    subst hk
    have hk2 : k = 1 := by simpa using hk1
    refine xcat1 hE hT (by decide) (by decide) kL_1 ca_1 hk2 (fun q => ?_)
    subst hk2
    refine x_astore hE (L' := (5, .ref q) :: [(0, .ref (σ 0)), (1, .int p0), (2, .int p1), (3, .int p2), (4, .ref (σ 145))]) dL_vote_15 (by decide) rfl ?_
    refine x_iconst hE (nI 1) dL_vote_17 (by decide) ?_
    exact x_ireturn hE (v := nI 1) hr rfl dL_vote_18
  · subst ha
    refine x_i2l hE dL_vote_10 ?_
    refine x_last hE 0 (hE.kd kA_145) (by unfold vp_in; decide) (by decide) dL_vote_11 ?_
    refine x_goto hE 19 dL_vote_12 (by decide) ?_
    refine x_iconst hE 0 dL_vote_19 (by decide) ?_
    exact x_ireturn hE (v := 0) hr rfl dL_vote_20
theorem yowL_vote : YOW yL_vote cL_vote 6 5 (some .int) [(0, 12, 15, 13)] := ⟨mem_g 1518 (by decide +kernel) (by decide +kernel), mem_g 130 (by decide +kernel) (by decide +kernel), by decide +kernel, by decide +kernel, by decide +kernel⟩
theorem ysL_vote : Cond.static yL_vote ∈ lw_g := mem_g 1517 (by decide +kernel) (by decide +kernel)
theorem dL_close_0 : decode cL_close 0 = .ok (.aload_n 2, 1) := by decide +kernel
theorem dL_close_1 : decode cL_close 1 = .ok (.iconst 0, 1) := by decide +kernel
theorem dL_close_2 : decode cL_close 2 = .ok (.aload_n 0, 1) := by decide +kernel
theorem dL_close_3 : decode cL_close 3 = .ok (.iload_n 1, 1) := by decide +kernel
theorem dL_close_4 : decode cL_close 4 = .ok (.invokevirtual 96, 3) := by decide +kernel
theorem dL_close_7 : decode cL_close 7 = .ok (.i2l, 1) := by decide +kernel
theorem dL_close_8 : decode cL_close 8 = .ok (.lastore, 1) := by decide +kernel
theorem dL_close_9 : decode cL_close 9 = .ok (.goto 6, 3) := by decide +kernel
theorem dL_close_12 : decode cL_close 12 = .ok (.astore_n 3, 1) := by decide +kernel
theorem dL_close_13 : decode cL_close 13 = .ok (.iconst 1, 1) := by decide +kernel
theorem dL_close_14 : decode cL_close 14 = .ok (.ireturn, 1) := by decide +kernel
theorem dL_close_15 : decode cL_close 15 = .ok (.iconst 0, 1) := by decide +kernel
theorem dL_close_16 : decode cL_close 16 = .ok (.ireturn, 1) := by decide +kernel
theorem lkL_96 : Cond.methodLink "SettlerColonyLaw" 96 yX11_close ∈ lw_g := mem_g 1550 (by decide +kernel) (by decide +kernel)
theorem mL_close (l : Launch) (hfl : l.stackTraces = false) {Y : Nat → ClassId} {D : va_G} {σ : Nat → Nat} {np b0 : Nat} {M : Mc} {N : Md} {p0 : Int32} {r : Nat ⊕ (Int32 × Mc)} (hf : fX11_close M p0 = some r) : Met l yL_close (.codeWith yL_close cL_close 4 (some .int) [(0, 9, 12, 13)] :: lw_g) (rmX 8 1) (PR Y D σ np b0 [.ref (σ 0), .int p0, .ref (σ 145)] M N) (QR Y D σ np b0 (some (.int (wT eB M N r).1)) (wT eB M N r).2.1 (wT eB M N r).2.2) 1 (6 * 1) (xA b0) := by
  refine x_metH (by decide) (Nat.le_of_ble_eq_true rfl) (fun p e s m args below meth c hE hr hT => ?_)
  refine x_pick [0, 1, 2] (L' := [(0, .ref (σ 0)), (1, .int p0), (2, .ref (σ 145))]) rfl ?_
  refine x_aload_n hE 2 dL_close_0 rfl rfl ?_
  refine x_iconst hE 0 dL_close_1 (by decide) ?_
  refine x_aload_n hE 0 dL_close_2 rfl rfl ?_
  refine x_iload_n hE 1 dL_close_3 rfl rfl ?_
  refine x_callXHV hE [.int p0] (rest := [.int 0, .ref (σ 145)]) rfl yokX11_close yvX11_close lkL_96 rfl cl_11 (hE.kd kO_11) (by decide) ⟨Nat.le_of_ble_eq_true rfl, Nat.le_of_ble_eq_true rfl⟩ ⟨Nat.le_of_ble_eq_true rfl, Nat.le_of_ble_eq_true rfl⟩ rfl (Nat.le_of_ble_eq_true rfl) dL_close_4 (mX11_close l hfl hf) (fun k hk => ?_) (fun a ha => ⟨some (.int a.1), a.2, N, rfl, ?_⟩)
  · have hk1 := t_fX11_close k (hf.trans (congrArg some hk))
    subst hk
    have hk2 : k = 1 := by simpa using hk1
    refine xcat1 hE hT (by decide) (by decide) kL_1 ca_1 hk2 (fun q => ?_)
    subst hk2
    refine x_astore_n hE (L' := (3, .ref q) :: [(0, .ref (σ 0)), (1, .int p0), (2, .ref (σ 145))]) dL_close_12 rfl (by decide) rfl ?_
    refine x_iconst hE (nI 1) dL_close_13 (by decide) ?_
    exact x_ireturn hE (v := nI 1) hr rfl dL_close_14
  · subst ha
    refine x_i2l hE dL_close_7 ?_
    refine x_last hE 0 (hE.kd kA_145) (by unfold vp_in; decide) (by decide) dL_close_8 ?_
    refine x_goto hE 15 dL_close_9 (by decide) ?_
    refine x_iconst hE 0 dL_close_15 (by decide) ?_
    exact x_ireturn hE (v := 0) hr rfl dL_close_16
theorem yowL_close : YOW yL_close cL_close 4 3 (some .int) [(0, 9, 12, 13)] := ⟨mem_g 1549 (by decide +kernel) (by decide +kernel), mem_g 130 (by decide +kernel) (by decide +kernel), by decide +kernel, by decide +kernel, by decide +kernel⟩
theorem ysL_close : Cond.static yL_close ∈ lw_g := mem_g 1548 (by decide +kernel) (by decide +kernel)
theorem dL_assent_0 : decode cL_assent 0 = .ok (.aload_n 3, 1) := by decide +kernel
theorem dL_assent_1 : decode cL_assent 1 = .ok (.iconst 0, 1) := by decide +kernel
theorem dL_assent_2 : decode cL_assent 2 = .ok (.aload_n 0, 1) := by decide +kernel
theorem dL_assent_3 : decode cL_assent 3 = .ok (.iload_n 1, 1) := by decide +kernel
theorem dL_assent_4 : decode cL_assent 4 = .ok (.iload_n 2, 1) := by decide +kernel
theorem dL_assent_5 : decode cL_assent 5 = .ok (.invokevirtual 99, 3) := by decide +kernel
theorem dL_assent_8 : decode cL_assent 8 = .ok (.i2l, 1) := by decide +kernel
theorem dL_assent_9 : decode cL_assent 9 = .ok (.lastore, 1) := by decide +kernel
theorem dL_assent_10 : decode cL_assent 10 = .ok (.goto 7, 3) := by decide +kernel
theorem dL_assent_13 : decode cL_assent 13 = .ok (.astore 4, 2) := by decide +kernel
theorem dL_assent_15 : decode cL_assent 15 = .ok (.iconst 1, 1) := by decide +kernel
theorem dL_assent_16 : decode cL_assent 16 = .ok (.ireturn, 1) := by decide +kernel
theorem dL_assent_17 : decode cL_assent 17 = .ok (.iconst 0, 1) := by decide +kernel
theorem dL_assent_18 : decode cL_assent 18 = .ok (.ireturn, 1) := by decide +kernel
theorem lkL_99 : Cond.methodLink "SettlerColonyLaw" 99 yX11_assent ∈ lw_g := mem_g 1561 (by decide +kernel) (by decide +kernel)
theorem mL_assent (l : Launch) (hfl : l.stackTraces = false) {Y : Nat → ClassId} {D : va_G} {σ : Nat → Nat} {np b0 : Nat} {M : Mc} {N : Md} {p0 : Int32} {p1 : Int32} {r : Nat ⊕ (Int32 × Mc)} (hf : fX11_assent M p0 p1 = some r) : Met l yL_assent (.codeWith yL_assent cL_assent 5 (some .int) [(0, 10, 13, 13)] :: lw_g) (rmX 8 1) (PR Y D σ np b0 [.ref (σ 0), .int p0, .int p1, .ref (σ 145)] M N) (QR Y D σ np b0 (some (.int (wT eB M N r).1)) (wT eB M N r).2.1 (wT eB M N r).2.2) 1 (6 * 1) (xA b0) := by
  refine x_metH (by decide) (Nat.le_of_ble_eq_true rfl) (fun p e s m args below meth c hE hr hT => ?_)
  refine x_pick [0, 1, 2, 3] (L' := [(0, .ref (σ 0)), (1, .int p0), (2, .int p1), (3, .ref (σ 145))]) rfl ?_
  refine x_aload_n hE 3 dL_assent_0 rfl rfl ?_
  refine x_iconst hE 0 dL_assent_1 (by decide) ?_
  refine x_aload_n hE 0 dL_assent_2 rfl rfl ?_
  refine x_iload_n hE 1 dL_assent_3 rfl rfl ?_
  refine x_iload_n hE 2 dL_assent_4 rfl rfl ?_
  refine x_callXHV hE [.int p0, .int p1] (rest := [.int 0, .ref (σ 145)]) rfl yokX11_assent yvX11_assent lkL_99 rfl cl_11 (hE.kd kO_11) (by decide) ⟨Nat.le_of_ble_eq_true rfl, Nat.le_of_ble_eq_true rfl⟩ ⟨Nat.le_of_ble_eq_true rfl, Nat.le_of_ble_eq_true rfl⟩ rfl (Nat.le_of_ble_eq_true rfl) dL_assent_5 (mX11_assent l hfl hf) (fun k hk => ?_) (fun a ha => ⟨some (.int a.1), a.2, N, rfl, ?_⟩)
  · have hk1 := t_fX11_assent k (hf.trans (congrArg some hk))
    subst hk
    have hk2 : k = 1 := by simpa using hk1
    refine xcat1 hE hT (by decide) (by decide) kL_1 ca_1 hk2 (fun q => ?_)
    subst hk2
    refine x_astore hE (L' := (4, .ref q) :: [(0, .ref (σ 0)), (1, .int p0), (2, .int p1), (3, .ref (σ 145))]) dL_assent_13 (by decide) rfl ?_
    refine x_iconst hE (nI 1) dL_assent_15 (by decide) ?_
    exact x_ireturn hE (v := nI 1) hr rfl dL_assent_16
  · subst ha
    refine x_i2l hE dL_assent_8 ?_
    refine x_last hE 0 (hE.kd kA_145) (by unfold vp_in; decide) (by decide) dL_assent_9 ?_
    refine x_goto hE 17 dL_assent_10 (by decide) ?_
    refine x_iconst hE 0 dL_assent_17 (by decide) ?_
    exact x_ireturn hE (v := 0) hr rfl dL_assent_18
theorem yowL_assent : YOW yL_assent cL_assent 5 4 (some .int) [(0, 10, 13, 13)] := ⟨mem_g 1560 (by decide +kernel) (by decide +kernel), mem_g 130 (by decide +kernel) (by decide +kernel), by decide +kernel, by decide +kernel, by decide +kernel⟩
theorem ysL_assent : Cond.static yL_assent ∈ lw_g := mem_g 1559 (by decide +kernel) (by decide +kernel)
theorem dL_force_0 : decode cL_force 0 = .ok (.aload_n 2, 1) := by decide +kernel
theorem dL_force_1 : decode cL_force 1 = .ok (.iconst 0, 1) := by decide +kernel
theorem dL_force_2 : decode cL_force 2 = .ok (.aload_n 0, 1) := by decide +kernel
theorem dL_force_3 : decode cL_force 3 = .ok (.iload_n 1, 1) := by decide +kernel
theorem dL_force_4 : decode cL_force 4 = .ok (.invokevirtual 103, 3) := by decide +kernel
theorem dL_force_7 : decode cL_force 7 = .ok (.i2l, 1) := by decide +kernel
theorem dL_force_8 : decode cL_force 8 = .ok (.lastore, 1) := by decide +kernel
theorem dL_force_9 : decode cL_force 9 = .ok (.goto 6, 3) := by decide +kernel
theorem dL_force_12 : decode cL_force 12 = .ok (.astore_n 3, 1) := by decide +kernel
theorem dL_force_13 : decode cL_force 13 = .ok (.iconst 1, 1) := by decide +kernel
theorem dL_force_14 : decode cL_force 14 = .ok (.ireturn, 1) := by decide +kernel
theorem dL_force_15 : decode cL_force 15 = .ok (.iconst 0, 1) := by decide +kernel
theorem dL_force_16 : decode cL_force 16 = .ok (.ireturn, 1) := by decide +kernel
theorem lkL_103 : Cond.methodLink "SettlerColonyLaw" 103 yX11_force ∈ lw_g := mem_g 1580 (by decide +kernel) (by decide +kernel)
theorem mL_force (l : Launch) (hfl : l.stackTraces = false) {Y : Nat → ClassId} {D : va_G} {σ : Nat → Nat} {np b0 : Nat} {M : Mc} {N : Md} {p0 : Int32} {r : Nat ⊕ Int32} (hf : fX11_force M p0 = some r) : Met l yL_force (.codeWith yL_force cL_force 4 (some .int) [(0, 9, 12, 13)] :: lw_g) (rmX 8 1) (PR Y D σ np b0 [.ref (σ 0), .int p0, .ref (σ 145)] M N) (QR Y D σ np b0 (some (.int (wV eB M N r).1)) (wV eB M N r).2.1 (wV eB M N r).2.2) 1 (6 * 1) (xA b0) := by
  refine x_metH (by decide) (Nat.le_of_ble_eq_true rfl) (fun p e s m args below meth c hE hr hT => ?_)
  refine x_pick [0, 1, 2] (L' := [(0, .ref (σ 0)), (1, .int p0), (2, .ref (σ 145))]) rfl ?_
  refine x_aload_n hE 2 dL_force_0 rfl rfl ?_
  refine x_iconst hE 0 dL_force_1 (by decide) ?_
  refine x_aload_n hE 0 dL_force_2 rfl rfl ?_
  refine x_iload_n hE 1 dL_force_3 rfl rfl ?_
  refine x_callXHV hE [.int p0] (rest := [.int 0, .ref (σ 145)]) rfl yokX11_force yvX11_force lkL_103 rfl cl_11 (hE.kd kO_11) (by decide) ⟨Nat.le_of_ble_eq_true rfl, Nat.le_of_ble_eq_true rfl⟩ ⟨Nat.le_of_ble_eq_true rfl, Nat.le_of_ble_eq_true rfl⟩ rfl (Nat.le_of_ble_eq_true rfl) dL_force_4 (mX11_force l hfl hf) (fun k hk => ?_) (fun a ha => ⟨some (.int a), M, N, rfl, ?_⟩)
  · have hk1 := t_fX11_force k (hf.trans (congrArg some hk))
    subst hk
    have hk2 : k = 1 := by simpa using hk1
    refine xcat1 hE hT (by decide) (by decide) kL_1 ca_1 hk2 (fun q => ?_)
    subst hk2
    refine x_astore_n hE (L' := (3, .ref q) :: [(0, .ref (σ 0)), (1, .int p0), (2, .ref (σ 145))]) dL_force_12 rfl (by decide) rfl ?_
    refine x_iconst hE (nI 1) dL_force_13 (by decide) ?_
    exact x_ireturn hE (v := nI 1) hr rfl dL_force_14
  · subst ha
    refine x_i2l hE dL_force_7 ?_
    refine x_last hE 0 (hE.kd kA_145) (by unfold vp_in; decide) (by decide) dL_force_8 ?_
    refine x_goto hE 15 dL_force_9 (by decide) ?_
    refine x_iconst hE 0 dL_force_15 (by decide) ?_
    exact x_ireturn hE (v := 0) hr rfl dL_force_16
theorem yowL_force : YOW yL_force cL_force 4 3 (some .int) [(0, 9, 12, 13)] := ⟨mem_g 1579 (by decide +kernel) (by decide +kernel), mem_g 130 (by decide +kernel) (by decide +kernel), by decide +kernel, by decide +kernel, by decide +kernel⟩
theorem ysL_force : Cond.static yL_force ∈ lw_g := mem_g 1578 (by decide +kernel) (by decide +kernel)
theorem dL_means_0 : decode cL_means 0 = .ok (.aload_n 3, 1) := by decide +kernel
theorem dL_means_1 : decode cL_means 1 = .ok (.iconst 0, 1) := by decide +kernel
theorem dL_means_2 : decode cL_means 2 = .ok (.aload_n 0, 1) := by decide +kernel
theorem dL_means_3 : decode cL_means 3 = .ok (.iload_n 1, 1) := by decide +kernel
theorem dL_means_4 : decode cL_means 4 = .ok (.iload_n 2, 1) := by decide +kernel
theorem dL_means_5 : decode cL_means 5 = .ok (.invokevirtual 106, 3) := by decide +kernel
theorem dL_means_8 : decode cL_means 8 = .ok (.i2l, 1) := by decide +kernel
theorem dL_means_9 : decode cL_means 9 = .ok (.lastore, 1) := by decide +kernel
theorem dL_means_10 : decode cL_means 10 = .ok (.goto 11, 3) := by decide +kernel
theorem dL_means_13 : decode cL_means 13 = .ok (.astore 4, 2) := by decide +kernel
theorem dL_means_15 : decode cL_means 15 = .ok (.iconst 1, 1) := by decide +kernel
theorem dL_means_16 : decode cL_means 16 = .ok (.ireturn, 1) := by decide +kernel
theorem dL_means_17 : decode cL_means 17 = .ok (.astore 4, 2) := by decide +kernel
theorem dL_means_19 : decode cL_means 19 = .ok (.iconst 2, 1) := by decide +kernel
theorem dL_means_20 : decode cL_means 20 = .ok (.ireturn, 1) := by decide +kernel
theorem dL_means_21 : decode cL_means 21 = .ok (.iconst 0, 1) := by decide +kernel
theorem dL_means_22 : decode cL_means 22 = .ok (.ireturn, 1) := by decide +kernel
theorem lkL_106 : Cond.methodLink "SettlerColonyLaw" 106 yX11_means ∈ lw_g := mem_g 1587 (by decide +kernel) (by decide +kernel)
theorem mL_means (l : Launch) (hfl : l.stackTraces = false) {Y : Nat → ClassId} {D : va_G} {σ : Nat → Nat} {np b0 : Nat} {M : Mc} {N : Md} {p0 : Int32} {p1 : Int32} {r : Nat ⊕ (Int32 × Mc)} (hf : fX11_means M p0 p1 = some r) : Met l yL_means (.codeWith yL_means cL_means 5 (some .int) [(0, 10, 13, 13), (0, 10, 17, 15)] :: lw_g) (rmX 8 2) (PR Y D σ np b0 [.ref (σ 0), .int p0, .int p1, .ref (σ 145)] M N) (QR Y D σ np b0 (some (.int (wT eB M N r).1)) (wT eB M N r).2.1 (wT eB M N r).2.2) 2 (6 * 2) (xA b0) := by
  refine x_metH (by decide) (Nat.le_of_ble_eq_true rfl) (fun p e s m args below meth c hE hr hT => ?_)
  refine x_pick [0, 1, 2, 3] (L' := [(0, .ref (σ 0)), (1, .int p0), (2, .int p1), (3, .ref (σ 145))]) rfl ?_
  refine x_aload_n hE 3 dL_means_0 rfl rfl ?_
  refine x_iconst hE 0 dL_means_1 (by decide) ?_
  refine x_aload_n hE 0 dL_means_2 rfl rfl ?_
  refine x_iload_n hE 1 dL_means_3 rfl rfl ?_
  refine x_iload_n hE 2 dL_means_4 rfl rfl ?_
  refine x_callXHV hE [.int p0, .int p1] (rest := [.int 0, .ref (σ 145)]) rfl yokX11_means yvX11_means lkL_106 rfl cl_11 (hE.kd kO_11) (by decide) ⟨Nat.le_of_ble_eq_true rfl, Nat.le_of_ble_eq_true rfl⟩ ⟨Nat.le_of_ble_eq_true rfl, Nat.le_of_ble_eq_true rfl⟩ rfl (Nat.le_of_ble_eq_true rfl) dL_means_5 (mX11_means l hfl hf) (fun k hk => ?_) (fun a ha => ⟨some (.int a.1), a.2, N, rfl, ?_⟩)
  · have hk1 := t_fX11_means k (hf.trans (congrArg some hk))
    subst hk
    have hk2 : k = 1 ∨ k = 2 := by simpa using hk1
    refine xcat2 hE hT (by decide) (by decide) (by decide) kL_1 kL_2 ca_1 ca_2 hE.2.2.2.2.2.2.2.2.2.2.2.2.2.2.2.2.2.2.2.1 hk2 (fun h q => ?_) (fun h q => ?_)
    · subst h
      refine x_astore hE (L' := (4, .ref q) :: [(0, .ref (σ 0)), (1, .int p0), (2, .int p1), (3, .ref (σ 145))]) dL_means_13 (by decide) rfl ?_
      refine x_iconst hE (nI 1) dL_means_15 (by decide) ?_
      exact x_ireturn hE (v := nI 1) hr rfl dL_means_16
    · subst h
      refine x_astore hE (L' := (4, .ref q) :: [(0, .ref (σ 0)), (1, .int p0), (2, .int p1), (3, .ref (σ 145))]) dL_means_17 (by decide) rfl ?_
      refine x_iconst hE (nI 2) dL_means_19 (by decide) ?_
      exact x_ireturn hE (v := nI 2) hr rfl dL_means_20
  · subst ha
    refine x_i2l hE dL_means_8 ?_
    refine x_last hE 0 (hE.kd kA_145) (by unfold vp_in; decide) (by decide) dL_means_9 ?_
    refine x_goto hE 21 dL_means_10 (by decide) ?_
    refine x_iconst hE 0 dL_means_21 (by decide) ?_
    exact x_ireturn hE (v := 0) hr rfl dL_means_22
theorem yowL_means : YOW yL_means cL_means 5 4 (some .int) [(0, 10, 13, 13), (0, 10, 17, 15)] := ⟨mem_g 1586 (by decide +kernel) (by decide +kernel), mem_g 130 (by decide +kernel) (by decide +kernel), by decide +kernel, by decide +kernel, by decide +kernel⟩
theorem ysL_means : Cond.static yL_means ∈ lw_g := mem_g 1585 (by decide +kernel) (by decide +kernel)
theorem dL_why_0 : decode cL_why 0 = .ok (.aload_n 2, 1) := by decide +kernel
theorem dL_why_1 : decode cL_why 1 = .ok (.iconst 0, 1) := by decide +kernel
theorem dL_why_2 : decode cL_why 2 = .ok (.aload_n 0, 1) := by decide +kernel
theorem dL_why_3 : decode cL_why 3 = .ok (.iload_n 1, 1) := by decide +kernel
theorem dL_why_4 : decode cL_why 4 = .ok (.invokevirtual 109, 3) := by decide +kernel
theorem dL_why_7 : decode cL_why 7 = .ok (.i2l, 1) := by decide +kernel
theorem dL_why_8 : decode cL_why 8 = .ok (.lastore, 1) := by decide +kernel
theorem dL_why_9 : decode cL_why 9 = .ok (.goto 6, 3) := by decide +kernel
theorem dL_why_12 : decode cL_why 12 = .ok (.astore_n 3, 1) := by decide +kernel
theorem dL_why_13 : decode cL_why 13 = .ok (.iconst 1, 1) := by decide +kernel
theorem dL_why_14 : decode cL_why 14 = .ok (.ireturn, 1) := by decide +kernel
theorem dL_why_15 : decode cL_why 15 = .ok (.iconst 0, 1) := by decide +kernel
theorem dL_why_16 : decode cL_why 16 = .ok (.ireturn, 1) := by decide +kernel
theorem lkL_109 : Cond.methodLink "SettlerColonyLaw" 109 yX11_why ∈ lw_g := mem_g 1595 (by decide +kernel) (by decide +kernel)
theorem mL_why (l : Launch) (hfl : l.stackTraces = false) {Y : Nat → ClassId} {D : va_G} {σ : Nat → Nat} {np b0 : Nat} {M : Mc} {N : Md} {p0 : Int32} {r : Nat ⊕ Int32} (hf : fX11_why M p0 = some r) : Met l yL_why (.codeWith yL_why cL_why 4 (some .int) [(0, 9, 12, 15)] :: lw_g) (rmX 8 1) (PR Y D σ np b0 [.ref (σ 0), .int p0, .ref (σ 145)] M N) (QR Y D σ np b0 (some (.int (wV eA M N r).1)) (wV eA M N r).2.1 (wV eA M N r).2.2) 1 (6 * 1) (xA b0) := by
  refine x_metH (by decide) (Nat.le_of_ble_eq_true rfl) (fun p e s m args below meth c hE hr hT => ?_)
  refine x_pick [0, 1, 2] (L' := [(0, .ref (σ 0)), (1, .int p0), (2, .ref (σ 145))]) rfl ?_
  refine x_aload_n hE 2 dL_why_0 rfl rfl ?_
  refine x_iconst hE 0 dL_why_1 (by decide) ?_
  refine x_aload_n hE 0 dL_why_2 rfl rfl ?_
  refine x_iload_n hE 1 dL_why_3 rfl rfl ?_
  refine x_callXHV hE [.int p0] (rest := [.int 0, .ref (σ 145)]) rfl yokX11_why yvX11_why lkL_109 rfl cl_11 (hE.kd kO_11) (by decide) ⟨Nat.le_of_ble_eq_true rfl, Nat.le_of_ble_eq_true rfl⟩ ⟨Nat.le_of_ble_eq_true rfl, Nat.le_of_ble_eq_true rfl⟩ rfl (Nat.le_of_ble_eq_true rfl) dL_why_4 (mX11_why l hfl hf) (fun k hk => ?_) (fun a ha => ⟨some (.int a), M, N, rfl, ?_⟩)
  · have hk1 := t_fX11_why k (hf.trans (congrArg some hk))
    subst hk
    have hk2 : k = 2 := by simpa using hk1
    refine xcat1 hE hT (by decide) (by decide) kL_2 ca_2 hk2 (fun q => ?_)
    subst hk2
    refine x_astore_n hE (L' := (3, .ref q) :: [(0, .ref (σ 0)), (1, .int p0), (2, .ref (σ 145))]) dL_why_12 rfl (by decide) rfl ?_
    refine x_iconst hE (nI 1) dL_why_13 (by decide) ?_
    exact x_ireturn hE (v := nI 1) hr rfl dL_why_14
  · subst ha
    refine x_i2l hE dL_why_7 ?_
    refine x_last hE 0 (hE.kd kA_145) (by unfold vp_in; decide) (by decide) dL_why_8 ?_
    refine x_goto hE 15 dL_why_9 (by decide) ?_
    refine x_iconst hE 0 dL_why_15 (by decide) ?_
    exact x_ireturn hE (v := 0) hr rfl dL_why_16
theorem yowL_why : YOW yL_why cL_why 4 3 (some .int) [(0, 9, 12, 15)] := ⟨mem_g 1594 (by decide +kernel) (by decide +kernel), mem_g 130 (by decide +kernel) (by decide +kernel), by decide +kernel, by decide +kernel, by decide +kernel⟩
theorem ysL_why : Cond.static yL_why ∈ lw_g := mem_g 1593 (by decide +kernel) (by decide +kernel)
theorem dL_fund_0 : decode cL_fund 0 = .ok (.aload_n 2, 1) := by decide +kernel
theorem dL_fund_1 : decode cL_fund 1 = .ok (.iconst 0, 1) := by decide +kernel
theorem dL_fund_2 : decode cL_fund 2 = .ok (.aload_n 0, 1) := by decide +kernel
theorem dL_fund_3 : decode cL_fund 3 = .ok (.iload_n 1, 1) := by decide +kernel
theorem dL_fund_4 : decode cL_fund 4 = .ok (.invokevirtual 112, 3) := by decide +kernel
theorem dL_fund_7 : decode cL_fund 7 = .ok (.i2l, 1) := by decide +kernel
theorem dL_fund_8 : decode cL_fund 8 = .ok (.lastore, 1) := by decide +kernel
theorem dL_fund_9 : decode cL_fund 9 = .ok (.goto 6, 3) := by decide +kernel
theorem dL_fund_12 : decode cL_fund 12 = .ok (.astore_n 3, 1) := by decide +kernel
theorem dL_fund_13 : decode cL_fund 13 = .ok (.iconst 1, 1) := by decide +kernel
theorem dL_fund_14 : decode cL_fund 14 = .ok (.ireturn, 1) := by decide +kernel
theorem dL_fund_15 : decode cL_fund 15 = .ok (.iconst 0, 1) := by decide +kernel
theorem dL_fund_16 : decode cL_fund 16 = .ok (.ireturn, 1) := by decide +kernel
theorem lkL_112 : Cond.methodLink "SettlerColonyLaw" 112 yX11_fund ∈ lw_g := mem_g 1603 (by decide +kernel) (by decide +kernel)
theorem mL_fund (l : Launch) (hfl : l.stackTraces = false) {Y : Nat → ClassId} {D : va_G} {σ : Nat → Nat} {np b0 : Nat} {M : Mc} {N : Md} {p0 : Int32} {r : Nat ⊕ (Int32 × Mc)} (hf : fX11_fund M p0 = some r) : Met l yL_fund (.codeWith yL_fund cL_fund 4 (some .int) [(0, 9, 12, 15)] :: lw_g) (rmX 8 1) (PR Y D σ np b0 [.ref (σ 0), .int p0, .ref (σ 145)] M N) (QR Y D σ np b0 (some (.int (wT eA M N r).1)) (wT eA M N r).2.1 (wT eA M N r).2.2) 1 (6 * 1) (xA b0) := by
  refine x_metH (by decide) (Nat.le_of_ble_eq_true rfl) (fun p e s m args below meth c hE hr hT => ?_)
  refine x_pick [0, 1, 2] (L' := [(0, .ref (σ 0)), (1, .int p0), (2, .ref (σ 145))]) rfl ?_
  refine x_aload_n hE 2 dL_fund_0 rfl rfl ?_
  refine x_iconst hE 0 dL_fund_1 (by decide) ?_
  refine x_aload_n hE 0 dL_fund_2 rfl rfl ?_
  refine x_iload_n hE 1 dL_fund_3 rfl rfl ?_
  refine x_callXHV hE [.int p0] (rest := [.int 0, .ref (σ 145)]) rfl yokX11_fund yvX11_fund lkL_112 rfl cl_11 (hE.kd kO_11) (by decide) ⟨Nat.le_of_ble_eq_true rfl, Nat.le_of_ble_eq_true rfl⟩ ⟨Nat.le_of_ble_eq_true rfl, Nat.le_of_ble_eq_true rfl⟩ rfl (Nat.le_of_ble_eq_true rfl) dL_fund_4 (mX11_fund l hfl hf) (fun k hk => ?_) (fun a ha => ⟨some (.int a.1), a.2, N, rfl, ?_⟩)
  · have hk1 := t_fX11_fund k (hf.trans (congrArg some hk))
    subst hk
    have hk2 : k = 2 := by simpa using hk1
    refine xcat1 hE hT (by decide) (by decide) kL_2 ca_2 hk2 (fun q => ?_)
    subst hk2
    refine x_astore_n hE (L' := (3, .ref q) :: [(0, .ref (σ 0)), (1, .int p0), (2, .ref (σ 145))]) dL_fund_12 rfl (by decide) rfl ?_
    refine x_iconst hE (nI 1) dL_fund_13 (by decide) ?_
    exact x_ireturn hE (v := nI 1) hr rfl dL_fund_14
  · subst ha
    refine x_i2l hE dL_fund_7 ?_
    refine x_last hE 0 (hE.kd kA_145) (by unfold vp_in; decide) (by decide) dL_fund_8 ?_
    refine x_goto hE 15 dL_fund_9 (by decide) ?_
    refine x_iconst hE 0 dL_fund_15 (by decide) ?_
    exact x_ireturn hE (v := 0) hr rfl dL_fund_16
theorem yowL_fund : YOW yL_fund cL_fund 4 3 (some .int) [(0, 9, 12, 15)] := ⟨mem_g 1602 (by decide +kernel) (by decide +kernel), mem_g 130 (by decide +kernel) (by decide +kernel), by decide +kernel, by decide +kernel, by decide +kernel⟩
theorem ysL_fund : Cond.static yL_fund ∈ lw_g := mem_g 1601 (by decide +kernel) (by decide +kernel)
theorem dL_bill_0 : decode cL_bill 0 = .ok (.aload_n 2, 1) := by decide +kernel
theorem dL_bill_1 : decode cL_bill 1 = .ok (.iconst 0, 1) := by decide +kernel
theorem dL_bill_2 : decode cL_bill 2 = .ok (.aload_n 0, 1) := by decide +kernel
theorem dL_bill_3 : decode cL_bill 3 = .ok (.iload_n 1, 1) := by decide +kernel
theorem dL_bill_4 : decode cL_bill 4 = .ok (.invokevirtual 115, 3) := by decide +kernel
theorem dL_bill_7 : decode cL_bill 7 = .ok (.i2l, 1) := by decide +kernel
theorem dL_bill_8 : decode cL_bill 8 = .ok (.lastore, 1) := by decide +kernel
theorem dL_bill_9 : decode cL_bill 9 = .ok (.goto 6, 3) := by decide +kernel
theorem dL_bill_12 : decode cL_bill 12 = .ok (.astore_n 3, 1) := by decide +kernel
theorem dL_bill_13 : decode cL_bill 13 = .ok (.iconst 1, 1) := by decide +kernel
theorem dL_bill_14 : decode cL_bill 14 = .ok (.ireturn, 1) := by decide +kernel
theorem dL_bill_15 : decode cL_bill 15 = .ok (.iconst 0, 1) := by decide +kernel
theorem dL_bill_16 : decode cL_bill 16 = .ok (.ireturn, 1) := by decide +kernel
theorem lkL_115 : Cond.methodLink "SettlerColonyLaw" 115 yX11_bill ∈ lw_g := mem_g 1611 (by decide +kernel) (by decide +kernel)
theorem mL_bill (l : Launch) (hfl : l.stackTraces = false) {Y : Nat → ClassId} {D : va_G} {σ : Nat → Nat} {np b0 : Nat} {M : Mc} {N : Md} {p0 : Int32} {r : Nat ⊕ (Int32 × Mc)} (hf : fX11_bill M p0 = some r) : Met l yL_bill (.codeWith yL_bill cL_bill 4 (some .int) [(0, 9, 12, 15)] :: lw_g) (rmX 8 1) (PR Y D σ np b0 [.ref (σ 0), .int p0, .ref (σ 145)] M N) (QR Y D σ np b0 (some (.int (wT eA M N r).1)) (wT eA M N r).2.1 (wT eA M N r).2.2) 1 (6 * 1) (xA b0) := by
  refine x_metH (by decide) (Nat.le_of_ble_eq_true rfl) (fun p e s m args below meth c hE hr hT => ?_)
  refine x_pick [0, 1, 2] (L' := [(0, .ref (σ 0)), (1, .int p0), (2, .ref (σ 145))]) rfl ?_
  refine x_aload_n hE 2 dL_bill_0 rfl rfl ?_
  refine x_iconst hE 0 dL_bill_1 (by decide) ?_
  refine x_aload_n hE 0 dL_bill_2 rfl rfl ?_
  refine x_iload_n hE 1 dL_bill_3 rfl rfl ?_
  refine x_callXHV hE [.int p0] (rest := [.int 0, .ref (σ 145)]) rfl yokX11_bill yvX11_bill lkL_115 rfl cl_11 (hE.kd kO_11) (by decide) ⟨Nat.le_of_ble_eq_true rfl, Nat.le_of_ble_eq_true rfl⟩ ⟨Nat.le_of_ble_eq_true rfl, Nat.le_of_ble_eq_true rfl⟩ rfl (Nat.le_of_ble_eq_true rfl) dL_bill_4 (mX11_bill l hfl hf) (fun k hk => ?_) (fun a ha => ⟨some (.int a.1), a.2, N, rfl, ?_⟩)
  · have hk1 := t_fX11_bill k (hf.trans (congrArg some hk))
    subst hk
    have hk2 : k = 2 := by simpa using hk1
    refine xcat1 hE hT (by decide) (by decide) kL_2 ca_2 hk2 (fun q => ?_)
    subst hk2
    refine x_astore_n hE (L' := (3, .ref q) :: [(0, .ref (σ 0)), (1, .int p0), (2, .ref (σ 145))]) dL_bill_12 rfl (by decide) rfl ?_
    refine x_iconst hE (nI 1) dL_bill_13 (by decide) ?_
    exact x_ireturn hE (v := nI 1) hr rfl dL_bill_14
  · subst ha
    refine x_i2l hE dL_bill_7 ?_
    refine x_last hE 0 (hE.kd kA_145) (by unfold vp_in; decide) (by decide) dL_bill_8 ?_
    refine x_goto hE 15 dL_bill_9 (by decide) ?_
    refine x_iconst hE 0 dL_bill_15 (by decide) ?_
    exact x_ireturn hE (v := 0) hr rfl dL_bill_16
theorem yowL_bill : YOW yL_bill cL_bill 4 3 (some .int) [(0, 9, 12, 15)] := ⟨mem_g 1610 (by decide +kernel) (by decide +kernel), mem_g 130 (by decide +kernel) (by decide +kernel), by decide +kernel, by decide +kernel, by decide +kernel⟩
theorem ysL_bill : Cond.static yL_bill ∈ lw_g := mem_g 1609 (by decide +kernel) (by decide +kernel)
theorem dL_pass_0 : decode cL_pass 0 = .ok (.aload_n 2, 1) := by decide +kernel
theorem dL_pass_1 : decode cL_pass 1 = .ok (.iconst 0, 1) := by decide +kernel
theorem dL_pass_2 : decode cL_pass 2 = .ok (.aload_n 0, 1) := by decide +kernel
theorem dL_pass_3 : decode cL_pass 3 = .ok (.iload_n 1, 1) := by decide +kernel
theorem dL_pass_4 : decode cL_pass 4 = .ok (.invokevirtual 118, 3) := by decide +kernel
theorem dL_pass_7 : decode cL_pass 7 = .ok (.i2l, 1) := by decide +kernel
theorem dL_pass_8 : decode cL_pass 8 = .ok (.lastore, 1) := by decide +kernel
theorem dL_pass_9 : decode cL_pass 9 = .ok (.goto 6, 3) := by decide +kernel
theorem dL_pass_12 : decode cL_pass 12 = .ok (.astore_n 3, 1) := by decide +kernel
theorem dL_pass_13 : decode cL_pass 13 = .ok (.iconst 1, 1) := by decide +kernel
theorem dL_pass_14 : decode cL_pass 14 = .ok (.ireturn, 1) := by decide +kernel
theorem dL_pass_15 : decode cL_pass 15 = .ok (.iconst 0, 1) := by decide +kernel
theorem dL_pass_16 : decode cL_pass 16 = .ok (.ireturn, 1) := by decide +kernel
theorem lkL_118 : Cond.methodLink "SettlerColonyLaw" 118 yX11_pass ∈ lw_g := mem_g 1623 (by decide +kernel) (by decide +kernel)
theorem mL_pass (l : Launch) (hfl : l.stackTraces = false) {Y : Nat → ClassId} {D : va_G} {σ : Nat → Nat} {np b0 : Nat} {M : Mc} {N : Md} {p0 : Int32} {r : Nat ⊕ (Int32 × Mc)} (hf : fX11_pass M p0 = some r) : Met l yL_pass (.codeWith yL_pass cL_pass 4 (some .int) [(0, 9, 12, 13)] :: lw_g) (rmX 8 1) (PR Y D σ np b0 [.ref (σ 0), .int p0, .ref (σ 145)] M N) (QR Y D σ np b0 (some (.int (wT eB M N r).1)) (wT eB M N r).2.1 (wT eB M N r).2.2) 1 (6 * 1) (xA b0) := by
  refine x_metH (by decide) (Nat.le_of_ble_eq_true rfl) (fun p e s m args below meth c hE hr hT => ?_)
  refine x_pick [0, 1, 2] (L' := [(0, .ref (σ 0)), (1, .int p0), (2, .ref (σ 145))]) rfl ?_
  refine x_aload_n hE 2 dL_pass_0 rfl rfl ?_
  refine x_iconst hE 0 dL_pass_1 (by decide) ?_
  refine x_aload_n hE 0 dL_pass_2 rfl rfl ?_
  refine x_iload_n hE 1 dL_pass_3 rfl rfl ?_
  refine x_callXHV hE [.int p0] (rest := [.int 0, .ref (σ 145)]) rfl yokX11_pass yvX11_pass lkL_118 rfl cl_11 (hE.kd kO_11) (by decide) ⟨Nat.le_of_ble_eq_true rfl, Nat.le_of_ble_eq_true rfl⟩ ⟨Nat.le_of_ble_eq_true rfl, Nat.le_of_ble_eq_true rfl⟩ rfl (Nat.le_of_ble_eq_true rfl) dL_pass_4 (mX11_pass l hfl hf) (fun k hk => ?_) (fun a ha => ⟨some (.int a.1), a.2, N, rfl, ?_⟩)
  · have hk1 := t_fX11_pass k (hf.trans (congrArg some hk))
    subst hk
    have hk2 : k = 1 := by simpa using hk1
    refine xcat1 hE hT (by decide) (by decide) kL_1 ca_1 hk2 (fun q => ?_)
    subst hk2
    refine x_astore_n hE (L' := (3, .ref q) :: [(0, .ref (σ 0)), (1, .int p0), (2, .ref (σ 145))]) dL_pass_12 rfl (by decide) rfl ?_
    refine x_iconst hE (nI 1) dL_pass_13 (by decide) ?_
    exact x_ireturn hE (v := nI 1) hr rfl dL_pass_14
  · subst ha
    refine x_i2l hE dL_pass_7 ?_
    refine x_last hE 0 (hE.kd kA_145) (by unfold vp_in; decide) (by decide) dL_pass_8 ?_
    refine x_goto hE 15 dL_pass_9 (by decide) ?_
    refine x_iconst hE 0 dL_pass_15 (by decide) ?_
    exact x_ireturn hE (v := 0) hr rfl dL_pass_16
theorem yowL_pass : YOW yL_pass cL_pass 4 3 (some .int) [(0, 9, 12, 13)] := ⟨mem_g 1622 (by decide +kernel) (by decide +kernel), mem_g 130 (by decide +kernel) (by decide +kernel), by decide +kernel, by decide +kernel, by decide +kernel⟩
theorem ysL_pass : Cond.static yL_pass ∈ lw_g := mem_g 1621 (by decide +kernel) (by decide +kernel)
theorem dL_billed_0 : decode cL_billed 0 = .ok (.aload_n 2, 1) := by decide +kernel
theorem dL_billed_1 : decode cL_billed 1 = .ok (.iconst 0, 1) := by decide +kernel
theorem dL_billed_2 : decode cL_billed 2 = .ok (.aload_n 0, 1) := by decide +kernel
theorem dL_billed_3 : decode cL_billed 3 = .ok (.iload_n 1, 1) := by decide +kernel
theorem dL_billed_4 : decode cL_billed 4 = .ok (.invokevirtual 121, 3) := by decide +kernel
theorem dL_billed_7 : decode cL_billed 7 = .ok (.i2l, 1) := by decide +kernel
theorem dL_billed_8 : decode cL_billed 8 = .ok (.lastore, 1) := by decide +kernel
theorem dL_billed_9 : decode cL_billed 9 = .ok (.goto 6, 3) := by decide +kernel
theorem dL_billed_12 : decode cL_billed 12 = .ok (.astore_n 3, 1) := by decide +kernel
theorem dL_billed_13 : decode cL_billed 13 = .ok (.iconst 1, 1) := by decide +kernel
theorem dL_billed_14 : decode cL_billed 14 = .ok (.ireturn, 1) := by decide +kernel
theorem dL_billed_15 : decode cL_billed 15 = .ok (.iconst 0, 1) := by decide +kernel
theorem dL_billed_16 : decode cL_billed 16 = .ok (.ireturn, 1) := by decide +kernel
theorem lkL_121 : Cond.methodLink "SettlerColonyLaw" 121 yX11_billed ∈ lw_g := mem_g 1638 (by decide +kernel) (by decide +kernel)
theorem mL_billed (l : Launch) (hfl : l.stackTraces = false) {Y : Nat → ClassId} {D : va_G} {σ : Nat → Nat} {np b0 : Nat} {M : Mc} {N : Md} {p0 : Int32} {r : Nat ⊕ Int32} (hf : fX11_billed M p0 = some r) : Met l yL_billed (.codeWith yL_billed cL_billed 4 (some .int) [(0, 9, 12, 13)] :: lw_g) (rmX 8 1) (PR Y D σ np b0 [.ref (σ 0), .int p0, .ref (σ 145)] M N) (QR Y D σ np b0 (some (.int (wV eB M N r).1)) (wV eB M N r).2.1 (wV eB M N r).2.2) 1 (6 * 1) (xA b0) := by
  refine x_metH (by decide) (Nat.le_of_ble_eq_true rfl) (fun p e s m args below meth c hE hr hT => ?_)
  refine x_pick [0, 1, 2] (L' := [(0, .ref (σ 0)), (1, .int p0), (2, .ref (σ 145))]) rfl ?_
  refine x_aload_n hE 2 dL_billed_0 rfl rfl ?_
  refine x_iconst hE 0 dL_billed_1 (by decide) ?_
  refine x_aload_n hE 0 dL_billed_2 rfl rfl ?_
  refine x_iload_n hE 1 dL_billed_3 rfl rfl ?_
  refine x_callXHV hE [.int p0] (rest := [.int 0, .ref (σ 145)]) rfl yokX11_billed yvX11_billed lkL_121 rfl cl_11 (hE.kd kO_11) (by decide) ⟨Nat.le_of_ble_eq_true rfl, Nat.le_of_ble_eq_true rfl⟩ ⟨Nat.le_of_ble_eq_true rfl, Nat.le_of_ble_eq_true rfl⟩ rfl (Nat.le_of_ble_eq_true rfl) dL_billed_4 (mX11_billed l hfl hf) (fun k hk => ?_) (fun a ha => ⟨some (.int a), M, N, rfl, ?_⟩)
  · have hk1 := t_fX11_billed k (hf.trans (congrArg some hk))
    subst hk
    have hk2 : k = 1 := by simpa using hk1
    refine xcat1 hE hT (by decide) (by decide) kL_1 ca_1 hk2 (fun q => ?_)
    subst hk2
    refine x_astore_n hE (L' := (3, .ref q) :: [(0, .ref (σ 0)), (1, .int p0), (2, .ref (σ 145))]) dL_billed_12 rfl (by decide) rfl ?_
    refine x_iconst hE (nI 1) dL_billed_13 (by decide) ?_
    exact x_ireturn hE (v := nI 1) hr rfl dL_billed_14
  · subst ha
    refine x_i2l hE dL_billed_7 ?_
    refine x_last hE 0 (hE.kd kA_145) (by unfold vp_in; decide) (by decide) dL_billed_8 ?_
    refine x_goto hE 15 dL_billed_9 (by decide) ?_
    refine x_iconst hE 0 dL_billed_15 (by decide) ?_
    exact x_ireturn hE (v := 0) hr rfl dL_billed_16
theorem yowL_billed : YOW yL_billed cL_billed 4 3 (some .int) [(0, 9, 12, 13)] := ⟨mem_g 1637 (by decide +kernel) (by decide +kernel), mem_g 130 (by decide +kernel) (by decide +kernel), by decide +kernel, by decide +kernel, by decide +kernel⟩
theorem ysL_billed : Cond.static yL_billed ∈ lw_g := mem_g 1636 (by decide +kernel) (by decide +kernel)
theorem dL_week_0 : decode cL_week 0 = .ok (.aload_n 2, 1) := by decide +kernel
theorem dL_week_1 : decode cL_week 1 = .ok (.iconst 0, 1) := by decide +kernel
theorem dL_week_2 : decode cL_week 2 = .ok (.aload_n 0, 1) := by decide +kernel
theorem dL_week_3 : decode cL_week 3 = .ok (.iload_n 1, 1) := by decide +kernel
theorem dL_week_4 : decode cL_week 4 = .ok (.invokevirtual 124, 3) := by decide +kernel
theorem dL_week_7 : decode cL_week 7 = .ok (.i2l, 1) := by decide +kernel
theorem dL_week_8 : decode cL_week 8 = .ok (.lastore, 1) := by decide +kernel
theorem dL_week_9 : decode cL_week 9 = .ok (.goto 9, 3) := by decide +kernel
theorem dL_week_12 : decode cL_week 12 = .ok (.astore_n 3, 1) := by decide +kernel
theorem dL_week_13 : decode cL_week 13 = .ok (.iconst 1, 1) := by decide +kernel
theorem dL_week_14 : decode cL_week 14 = .ok (.ireturn, 1) := by decide +kernel
theorem dL_week_15 : decode cL_week 15 = .ok (.astore_n 3, 1) := by decide +kernel
theorem dL_week_16 : decode cL_week 16 = .ok (.iconst 2, 1) := by decide +kernel
theorem dL_week_17 : decode cL_week 17 = .ok (.ireturn, 1) := by decide +kernel
theorem dL_week_18 : decode cL_week 18 = .ok (.iconst 0, 1) := by decide +kernel
theorem dL_week_19 : decode cL_week 19 = .ok (.ireturn, 1) := by decide +kernel
theorem lkL_124 : Cond.methodLink "SettlerColonyLaw" 124 yX11_week ∈ lw_g := mem_g 1650 (by decide +kernel) (by decide +kernel)
theorem mL_week (l : Launch) (hfl : l.stackTraces = false) {Y : Nat → ClassId} {D : va_G} {σ : Nat → Nat} {np b0 : Nat} {M : Mc} {N : Md} {p0 : Int32} {r : Nat ⊕ (Int32 × Mc)} (hf : fX11_week M p0 = some r) : Met l yL_week (.codeWith yL_week cL_week 4 (some .int) [(0, 9, 12, 15), (0, 9, 15, 127)] :: lw_g) (rmX 8 2) (PR Y D σ np b0 [.ref (σ 0), .int p0, .ref (σ 145)] M N) (QR Y D σ np b0 (some (.int (wT eA M N r).1)) (wT eA M N r).2.1 (wT eA M N r).2.2) 2 (6 * 2) (xA b0) := by
  refine x_metH (by decide) (Nat.le_of_ble_eq_true rfl) (fun p e s m args below meth c hE hr hT => ?_)
  refine x_pick [0, 1, 2] (L' := [(0, .ref (σ 0)), (1, .int p0), (2, .ref (σ 145))]) rfl ?_
  refine x_aload_n hE 2 dL_week_0 rfl rfl ?_
  refine x_iconst hE 0 dL_week_1 (by decide) ?_
  refine x_aload_n hE 0 dL_week_2 rfl rfl ?_
  refine x_iload_n hE 1 dL_week_3 rfl rfl ?_
  refine x_callXHV hE [.int p0] (rest := [.int 0, .ref (σ 145)]) rfl yokX11_week yvX11_week lkL_124 rfl cl_11 (hE.kd kO_11) (by decide) ⟨Nat.le_of_ble_eq_true rfl, Nat.le_of_ble_eq_true rfl⟩ ⟨Nat.le_of_ble_eq_true rfl, Nat.le_of_ble_eq_true rfl⟩ rfl (Nat.le_of_ble_eq_true rfl) dL_week_4 (mX11_week l hfl hf) (fun k hk => ?_) (fun a ha => ⟨some (.int a.1), a.2, N, rfl, ?_⟩)
  · have hk1 := t_fX11_week k (hf.trans (congrArg some hk))
    subst hk
    have hk2 : k = 2 ∨ k = 3 := by simpa using hk1
    refine xcat2 hE hT (by decide) (by decide) (by decide) kL_2 kL_3 ca_2 ca_3 hE.2.2.2.2.2.2.2.2.2.2.2.2.2.2.2.2.2.2.2.2 hk2 (fun h q => ?_) (fun h q => ?_)
    · subst h
      refine x_astore_n hE (L' := (3, .ref q) :: [(0, .ref (σ 0)), (1, .int p0), (2, .ref (σ 145))]) dL_week_12 rfl (by decide) rfl ?_
      refine x_iconst hE (nI 1) dL_week_13 (by decide) ?_
      exact x_ireturn hE (v := nI 1) hr rfl dL_week_14
    · subst h
      refine x_astore_n hE (L' := (3, .ref q) :: [(0, .ref (σ 0)), (1, .int p0), (2, .ref (σ 145))]) dL_week_15 rfl (by decide) rfl ?_
      refine x_iconst hE (nI 2) dL_week_16 (by decide) ?_
      exact x_ireturn hE (v := nI 2) hr rfl dL_week_17
  · subst ha
    refine x_i2l hE dL_week_7 ?_
    refine x_last hE 0 (hE.kd kA_145) (by unfold vp_in; decide) (by decide) dL_week_8 ?_
    refine x_goto hE 18 dL_week_9 (by decide) ?_
    refine x_iconst hE 0 dL_week_18 (by decide) ?_
    exact x_ireturn hE (v := 0) hr rfl dL_week_19
theorem yowL_week : YOW yL_week cL_week 4 3 (some .int) [(0, 9, 12, 15), (0, 9, 15, 127)] := ⟨mem_g 1648 (by decide +kernel) (by decide +kernel), mem_g 130 (by decide +kernel) (by decide +kernel), by decide +kernel, by decide +kernel, by decide +kernel⟩
theorem ysL_week : Cond.static yL_week ∈ lw_g := mem_g 1647 (by decide +kernel) (by decide +kernel)
theorem dL_as_0 : decode cL_as 0 = .ok (.aload 4, 2) := by decide +kernel
theorem dL_as_2 : decode cL_as 2 = .ok (.iconst 0, 1) := by decide +kernel
theorem dL_as_3 : decode cL_as 3 = .ok (.aload_n 0, 1) := by decide +kernel
theorem dL_as_4 : decode cL_as 4 = .ok (.iload_n 1, 1) := by decide +kernel
theorem dL_as_5 : decode cL_as 5 = .ok (.iload_n 2, 1) := by decide +kernel
theorem dL_as_6 : decode cL_as 6 = .ok (.iload_n 3, 1) := by decide +kernel
theorem dL_as_7 : decode cL_as 7 = .ok (.invokevirtual 129, 3) := by decide +kernel
theorem dL_as_10 : decode cL_as 10 = .ok (.i2l, 1) := by decide +kernel
theorem dL_as_11 : decode cL_as 11 = .ok (.lastore, 1) := by decide +kernel
theorem dL_as_12 : decode cL_as 12 = .ok (.goto 7, 3) := by decide +kernel
theorem dL_as_15 : decode cL_as 15 = .ok (.astore 5, 2) := by decide +kernel
theorem dL_as_17 : decode cL_as 17 = .ok (.iconst 1, 1) := by decide +kernel
theorem dL_as_18 : decode cL_as 18 = .ok (.ireturn, 1) := by decide +kernel
theorem dL_as_19 : decode cL_as 19 = .ok (.iconst 0, 1) := by decide +kernel
theorem dL_as_20 : decode cL_as 20 = .ok (.ireturn, 1) := by decide +kernel
theorem lkL_129 : Cond.methodLink "SettlerColonyLaw" 129 yX11_as ∈ lw_g := mem_g 1848 (by decide +kernel) (by decide +kernel)
theorem mL_as (l : Launch) (hfl : l.stackTraces = false) {Y : Nat → ClassId} {D : va_G} {σ : Nat → Nat} {np b0 : Nat} {M : Mc} {N : Md} {p0 : Int32} {p1 : Int32} {p2 : Int32} {r : Nat ⊕ Int32} (hf : fX11_as M p0 p1 p2 = some r) : Met l yL_as (.codeWith yL_as cL_as 6 (some .int) [(0, 12, 15, 15)] :: lw_g) (rmX 8 1) (PR Y D σ np b0 [.ref (σ 0), .int p0, .int p1, .int p2, .ref (σ 145)] M N) (QR Y D σ np b0 (some (.int (wV eA M N r).1)) (wV eA M N r).2.1 (wV eA M N r).2.2) 1 (6 * 1) (xA b0) := by
  refine x_metH (by decide) (Nat.le_of_ble_eq_true rfl) (fun p e s m args below meth c hE hr hT => ?_)
  refine x_pick [0, 1, 2, 3, 4] (L' := [(0, .ref (σ 0)), (1, .int p0), (2, .int p1), (3, .int p2), (4, .ref (σ 145))]) rfl ?_
  refine x_aload hE 4 dL_as_0 rfl ?_
  refine x_iconst hE 0 dL_as_2 (by decide) ?_
  refine x_aload_n hE 0 dL_as_3 rfl rfl ?_
  refine x_iload_n hE 1 dL_as_4 rfl rfl ?_
  refine x_iload_n hE 2 dL_as_5 rfl rfl ?_
  refine x_iload_n hE 3 dL_as_6 rfl rfl ?_
  refine x_callXHV hE [.int p0, .int p1, .int p2] (rest := [.int 0, .ref (σ 145)]) rfl yokX11_as yvX11_as lkL_129 rfl cl_11 (hE.kd kO_11) (by decide) ⟨Nat.le_of_ble_eq_true rfl, Nat.le_of_ble_eq_true rfl⟩ ⟨Nat.le_of_ble_eq_true rfl, Nat.le_of_ble_eq_true rfl⟩ rfl (Nat.le_of_ble_eq_true rfl) dL_as_7 (mX11_as l hfl hf) (fun k hk => ?_) (fun a ha => ⟨some (.int a), M, N, rfl, ?_⟩)
  · have hk1 := t_fX11_as k (hf.trans (congrArg some hk))
    subst hk
    have hk2 : k = 2 := by simpa using hk1
    refine xcat1 hE hT (by decide) (by decide) kL_2 ca_2 hk2 (fun q => ?_)
    subst hk2
    refine x_astore hE (L' := (5, .ref q) :: [(0, .ref (σ 0)), (1, .int p0), (2, .int p1), (3, .int p2), (4, .ref (σ 145))]) dL_as_15 (by decide) rfl ?_
    refine x_iconst hE (nI 1) dL_as_17 (by decide) ?_
    exact x_ireturn hE (v := nI 1) hr rfl dL_as_18
  · subst ha
    refine x_i2l hE dL_as_10 ?_
    refine x_last hE 0 (hE.kd kA_145) (by unfold vp_in; decide) (by decide) dL_as_11 ?_
    refine x_goto hE 19 dL_as_12 (by decide) ?_
    refine x_iconst hE 0 dL_as_19 (by decide) ?_
    exact x_ireturn hE (v := 0) hr rfl dL_as_20
theorem yowL_as : YOW yL_as cL_as 6 5 (some .int) [(0, 12, 15, 15)] := ⟨mem_g 1847 (by decide +kernel) (by decide +kernel), mem_g 130 (by decide +kernel) (by decide +kernel), by decide +kernel, by decide +kernel, by decide +kernel⟩
theorem ysL_as : Cond.static yL_as ∈ lw_g := mem_g 1846 (by decide +kernel) (by decide +kernel)
theorem dL_tried_0 : decode cL_tried 0 = .ok (.aload 5, 2) := by decide +kernel
theorem dL_tried_2 : decode cL_tried 2 = .ok (.iconst 0, 1) := by decide +kernel
theorem dL_tried_3 : decode cL_tried 3 = .ok (.aload_n 0, 1) := by decide +kernel
theorem dL_tried_4 : decode cL_tried 4 = .ok (.iload_n 1, 1) := by decide +kernel
theorem dL_tried_5 : decode cL_tried 5 = .ok (.iload_n 2, 1) := by decide +kernel
theorem dL_tried_6 : decode cL_tried 6 = .ok (.iload_n 3, 1) := by decide +kernel
theorem dL_tried_7 : decode cL_tried 7 = .ok (.iload 4, 2) := by decide +kernel
theorem dL_tried_9 : decode cL_tried 9 = .ok (.invokevirtual 132, 3) := by decide +kernel
theorem dL_tried_12 : decode cL_tried 12 = .ok (.i2l, 1) := by decide +kernel
theorem dL_tried_13 : decode cL_tried 13 = .ok (.lastore, 1) := by decide +kernel
theorem dL_tried_14 : decode cL_tried 14 = .ok (.goto 11, 3) := by decide +kernel
theorem dL_tried_17 : decode cL_tried 17 = .ok (.astore 6, 2) := by decide +kernel
theorem dL_tried_19 : decode cL_tried 19 = .ok (.iconst 1, 1) := by decide +kernel
theorem dL_tried_20 : decode cL_tried 20 = .ok (.ireturn, 1) := by decide +kernel
theorem dL_tried_21 : decode cL_tried 21 = .ok (.astore 6, 2) := by decide +kernel
theorem dL_tried_23 : decode cL_tried 23 = .ok (.iconst 2, 1) := by decide +kernel
theorem dL_tried_24 : decode cL_tried 24 = .ok (.ireturn, 1) := by decide +kernel
theorem dL_tried_25 : decode cL_tried 25 = .ok (.iconst 0, 1) := by decide +kernel
theorem dL_tried_26 : decode cL_tried 26 = .ok (.ireturn, 1) := by decide +kernel
theorem lkL_132 : Cond.methodLink "SettlerColonyLaw" 132 yX11_tried ∈ lw_g := mem_g 1856 (by decide +kernel) (by decide +kernel)
theorem mL_tried (l : Launch) (hfl : l.stackTraces = false) {Y : Nat → ClassId} {D : va_G} {σ : Nat → Nat} {np b0 : Nat} {M : Mc} {N : Md} {p0 : Int32} {p1 : Int32} {p2 : Int32} {p3 : Int32} {r : Nat ⊕ (Int32 × Mc)} (hf : fX11_tried M p0 p1 p2 p3 = some r) : Met l yL_tried (.codeWith yL_tried cL_tried 7 (some .int) [(0, 14, 17, 15), (0, 14, 21, 127)] :: lw_g) (rmX 8 3) (PR Y D σ np b0 [.ref (σ 0), .int p0, .int p1, .int p2, .int p3, .ref (σ 145)] M N) (QR Y D σ np b0 (some (.int (wT eA M N r).1)) (wT eA M N r).2.1 (wT eA M N r).2.2) 3 (6 * 3) (xA b0) := by
  refine x_metH (by decide) (Nat.le_of_ble_eq_true rfl) (fun p e s m args below meth c hE hr hT => ?_)
  refine x_pick [0, 1, 2, 3, 4, 5] (L' := [(0, .ref (σ 0)), (1, .int p0), (2, .int p1), (3, .int p2), (4, .int p3), (5, .ref (σ 145))]) rfl ?_
  refine x_aload hE 5 dL_tried_0 rfl ?_
  refine x_iconst hE 0 dL_tried_2 (by decide) ?_
  refine x_aload_n hE 0 dL_tried_3 rfl rfl ?_
  refine x_iload_n hE 1 dL_tried_4 rfl rfl ?_
  refine x_iload_n hE 2 dL_tried_5 rfl rfl ?_
  refine x_iload_n hE 3 dL_tried_6 rfl rfl ?_
  refine x_iload hE 4 dL_tried_7 rfl ?_
  refine x_callXHV hE [.int p0, .int p1, .int p2, .int p3] (rest := [.int 0, .ref (σ 145)]) rfl yokX11_tried yvX11_tried lkL_132 rfl cl_11 (hE.kd kO_11) (by decide) ⟨Nat.le_of_ble_eq_true rfl, Nat.le_of_ble_eq_true rfl⟩ ⟨Nat.le_of_ble_eq_true rfl, Nat.le_of_ble_eq_true rfl⟩ rfl (Nat.le_of_ble_eq_true rfl) dL_tried_9 (mX11_tried l hfl hf) (fun k hk => ?_) (fun a ha => ⟨some (.int a.1), a.2, N, rfl, ?_⟩)
  · have hk1 := t_fX11_tried k (hf.trans (congrArg some hk))
    subst hk
    have hk2 : k = 2 ∨ k = 3 := by simpa using hk1
    refine xcat2 hE hT (by decide) (by decide) (by decide) kL_2 kL_3 ca_2 ca_3 hE.2.2.2.2.2.2.2.2.2.2.2.2.2.2.2.2.2.2.2.2 hk2 (fun h q => ?_) (fun h q => ?_)
    · subst h
      refine x_astore hE (L' := (6, .ref q) :: [(0, .ref (σ 0)), (1, .int p0), (2, .int p1), (3, .int p2), (4, .int p3), (5, .ref (σ 145))]) dL_tried_17 (by decide) rfl ?_
      refine x_iconst hE (nI 1) dL_tried_19 (by decide) ?_
      exact x_ireturn hE (v := nI 1) hr rfl dL_tried_20
    · subst h
      refine x_astore hE (L' := (6, .ref q) :: [(0, .ref (σ 0)), (1, .int p0), (2, .int p1), (3, .int p2), (4, .int p3), (5, .ref (σ 145))]) dL_tried_21 (by decide) rfl ?_
      refine x_iconst hE (nI 2) dL_tried_23 (by decide) ?_
      exact x_ireturn hE (v := nI 2) hr rfl dL_tried_24
  · subst ha
    refine x_i2l hE dL_tried_12 ?_
    refine x_last hE 0 (hE.kd kA_145) (by unfold vp_in; decide) (by decide) dL_tried_13 ?_
    refine x_goto hE 25 dL_tried_14 (by decide) ?_
    refine x_iconst hE 0 dL_tried_25 (by decide) ?_
    exact x_ireturn hE (v := 0) hr rfl dL_tried_26
theorem yowL_tried : YOW yL_tried cL_tried 7 6 (some .int) [(0, 14, 17, 15), (0, 14, 21, 127)] := ⟨mem_g 1855 (by decide +kernel) (by decide +kernel), mem_g 130 (by decide +kernel) (by decide +kernel), by decide +kernel, by decide +kernel, by decide +kernel⟩
theorem ysL_tried : Cond.static yL_tried ∈ lw_g := mem_g 1854 (by decide +kernel) (by decide +kernel)
theorem dL_prices_0 : decode cL_prices 0 = .ok (.aload_n 0, 1) := by decide +kernel
theorem dL_prices_1 : decode cL_prices 1 = .ok (.iload_n 1, 1) := by decide +kernel
theorem dL_prices_2 : decode cL_prices 2 = .ok (.iload_n 2, 1) := by decide +kernel
theorem dL_prices_3 : decode cL_prices 3 = .ok (.iload_n 3, 1) := by decide +kernel
theorem dL_prices_4 : decode cL_prices 4 = .ok (.invokevirtual 136, 3) := by decide +kernel
theorem dL_prices_7 : decode cL_prices 7 = .ok (.goto 7, 3) := by decide +kernel
theorem dL_prices_10 : decode cL_prices 10 = .ok (.astore 4, 2) := by decide +kernel
theorem dL_prices_12 : decode cL_prices 12 = .ok (.iconst 1, 1) := by decide +kernel
theorem dL_prices_13 : decode cL_prices 13 = .ok (.ireturn, 1) := by decide +kernel
theorem dL_prices_14 : decode cL_prices 14 = .ok (.iconst 0, 1) := by decide +kernel
theorem dL_prices_15 : decode cL_prices 15 = .ok (.ireturn, 1) := by decide +kernel
theorem lkL_136 : Cond.methodLink "SettlerColonyLaw" 136 yX11_prices ∈ lw_g := mem_g 1867 (by decide +kernel) (by decide +kernel)
theorem mL_prices (l : Launch) (hfl : l.stackTraces = false) {Y : Nat → ClassId} {D : va_G} {σ : Nat → Nat} {np b0 : Nat} {M : Mc} {N : Md} {p0 : Int32} {p1 : Int32} {p2 : Int32} {r : Nat ⊕ Mc} (hf : fX11_prices M p0 p1 p2 = some r) : Met l yL_prices (.codeWith yL_prices cL_prices 5 (some .int) [(0, 7, 10, 15)] :: lw_g) (rmX 8 1) (PR Y D σ np b0 [.ref (σ 0), .int p0, .int p1, .int p2] M N) (QR Y D σ np b0 (some (.int (wS eA M N r).1)) (wS eA M N r).2.1 (wS eA M N r).2.2) 1 (6 * 1) (xA b0) := by
  refine x_metH (by decide) (Nat.le_of_ble_eq_true rfl) (fun p e s m args below meth c hE hr hT => ?_)
  refine x_pick [0, 1, 2, 3] (L' := [(0, .ref (σ 0)), (1, .int p0), (2, .int p1), (3, .int p2)]) rfl ?_
  refine x_aload_n hE 0 dL_prices_0 rfl rfl ?_
  refine x_iload_n hE 1 dL_prices_1 rfl rfl ?_
  refine x_iload_n hE 2 dL_prices_2 rfl rfl ?_
  refine x_iload_n hE 3 dL_prices_3 rfl rfl ?_
  refine x_callXHV hE [.int p0, .int p1, .int p2] (rest := []) rfl yokX11_prices yvX11_prices lkL_136 rfl cl_11 (hE.kd kO_11) (by decide) ⟨Nat.le_of_ble_eq_true rfl, Nat.le_of_ble_eq_true rfl⟩ ⟨Nat.le_of_ble_eq_true rfl, Nat.le_of_ble_eq_true rfl⟩ rfl (Nat.le_of_ble_eq_true rfl) dL_prices_4 (mX11_prices l hfl hf) (fun k hk => ?_) (fun a ha => ⟨none, a, N, rfl, ?_⟩)
  · have hk1 := t_fX11_prices k (hf.trans (congrArg some hk))
    subst hk
    have hk2 : k = 2 := by simpa using hk1
    refine xcat1 hE hT (by decide) (by decide) kL_2 ca_2 hk2 (fun q => ?_)
    subst hk2
    refine x_astore hE (L' := (4, .ref q) :: [(0, .ref (σ 0)), (1, .int p0), (2, .int p1), (3, .int p2)]) dL_prices_10 (by decide) rfl ?_
    refine x_iconst hE (nI 1) dL_prices_12 (by decide) ?_
    exact x_ireturn hE (v := nI 1) hr rfl dL_prices_13
  · subst ha
    refine x_goto hE 14 dL_prices_7 (by decide) ?_
    refine x_iconst hE 0 dL_prices_14 (by decide) ?_
    exact x_ireturn hE (v := 0) hr rfl dL_prices_15
theorem yowL_prices : YOW yL_prices cL_prices 5 4 (some .int) [(0, 7, 10, 15)] := ⟨mem_g 1866 (by decide +kernel) (by decide +kernel), mem_g 130 (by decide +kernel) (by decide +kernel), by decide +kernel, by decide +kernel, by decide +kernel⟩
theorem ysL_prices : Cond.static yL_prices ∈ lw_g := mem_g 1865 (by decide +kernel) (by decide +kernel)
theorem dL_worst_0 : decode cL_worst 0 = .ok (.aload_n 0, 1) := by decide +kernel
theorem dL_worst_1 : decode cL_worst 1 = .ok (.iload_n 1, 1) := by decide +kernel
theorem dL_worst_2 : decode cL_worst 2 = .ok (.iload_n 2, 1) := by decide +kernel
theorem dL_worst_3 : decode cL_worst 3 = .ok (.iload_n 3, 1) := by decide +kernel
theorem dL_worst_4 : decode cL_worst 4 = .ok (.iload 4, 2) := by decide +kernel
theorem dL_worst_6 : decode cL_worst 6 = .ok (.invokevirtual 140, 3) := by decide +kernel
theorem dL_worst_9 : decode cL_worst 9 = .ok (.goto 7, 3) := by decide +kernel
theorem dL_worst_12 : decode cL_worst 12 = .ok (.astore 5, 2) := by decide +kernel
theorem dL_worst_14 : decode cL_worst 14 = .ok (.iconst 1, 1) := by decide +kernel
theorem dL_worst_15 : decode cL_worst 15 = .ok (.ireturn, 1) := by decide +kernel
theorem dL_worst_16 : decode cL_worst 16 = .ok (.iconst 0, 1) := by decide +kernel
theorem dL_worst_17 : decode cL_worst 17 = .ok (.ireturn, 1) := by decide +kernel
theorem lkL_140 : Cond.methodLink "SettlerColonyLaw" 140 yX11_worst ∈ lw_g := mem_g 1880 (by decide +kernel) (by decide +kernel)
theorem mL_worst (l : Launch) (hfl : l.stackTraces = false) {Y : Nat → ClassId} {D : va_G} {σ : Nat → Nat} {np b0 : Nat} {M : Mc} {N : Md} {p0 : Int32} {p1 : Int32} {p2 : Int32} {p3 : Int32} {r : Nat ⊕ Mc} (hf : fX11_worst M p0 p1 p2 p3 = some r) : Met l yL_worst (.codeWith yL_worst cL_worst 6 (some .int) [(0, 9, 12, 15)] :: lw_g) (rmX 8 1) (PR Y D σ np b0 [.ref (σ 0), .int p0, .int p1, .int p2, .int p3] M N) (QR Y D σ np b0 (some (.int (wS eA M N r).1)) (wS eA M N r).2.1 (wS eA M N r).2.2) 1 (6 * 1) (xA b0) := by
  refine x_metH (by decide) (Nat.le_of_ble_eq_true rfl) (fun p e s m args below meth c hE hr hT => ?_)
  refine x_pick [0, 1, 2, 3, 4] (L' := [(0, .ref (σ 0)), (1, .int p0), (2, .int p1), (3, .int p2), (4, .int p3)]) rfl ?_
  refine x_aload_n hE 0 dL_worst_0 rfl rfl ?_
  refine x_iload_n hE 1 dL_worst_1 rfl rfl ?_
  refine x_iload_n hE 2 dL_worst_2 rfl rfl ?_
  refine x_iload_n hE 3 dL_worst_3 rfl rfl ?_
  refine x_iload hE 4 dL_worst_4 rfl ?_
  refine x_callXHV hE [.int p0, .int p1, .int p2, .int p3] (rest := []) rfl yokX11_worst yvX11_worst lkL_140 rfl cl_11 (hE.kd kO_11) (by decide) ⟨Nat.le_of_ble_eq_true rfl, Nat.le_of_ble_eq_true rfl⟩ ⟨Nat.le_of_ble_eq_true rfl, Nat.le_of_ble_eq_true rfl⟩ rfl (Nat.le_of_ble_eq_true rfl) dL_worst_6 (mX11_worst l hfl hf) (fun k hk => ?_) (fun a ha => ⟨none, a, N, rfl, ?_⟩)
  · have hk1 := t_fX11_worst k (hf.trans (congrArg some hk))
    subst hk
    have hk2 : k = 2 := by simpa using hk1
    refine xcat1 hE hT (by decide) (by decide) kL_2 ca_2 hk2 (fun q => ?_)
    subst hk2
    refine x_astore hE (L' := (5, .ref q) :: [(0, .ref (σ 0)), (1, .int p0), (2, .int p1), (3, .int p2), (4, .int p3)]) dL_worst_12 (by decide) rfl ?_
    refine x_iconst hE (nI 1) dL_worst_14 (by decide) ?_
    exact x_ireturn hE (v := nI 1) hr rfl dL_worst_15
  · subst ha
    refine x_goto hE 16 dL_worst_9 (by decide) ?_
    refine x_iconst hE 0 dL_worst_16 (by decide) ?_
    exact x_ireturn hE (v := 0) hr rfl dL_worst_17
theorem yowL_worst : YOW yL_worst cL_worst 6 5 (some .int) [(0, 9, 12, 15)] := ⟨mem_g 1879 (by decide +kernel) (by decide +kernel), mem_g 130 (by decide +kernel) (by decide +kernel), by decide +kernel, by decide +kernel, by decide +kernel⟩
theorem ysL_worst : Cond.static yL_worst ∈ lw_g := mem_g 1878 (by decide +kernel) (by decide +kernel)
theorem dL_planned_0 : decode cL_planned 0 = .ok (.aload_n 3, 1) := by decide +kernel
theorem dL_planned_1 : decode cL_planned 1 = .ok (.iconst 0, 1) := by decide +kernel
theorem dL_planned_2 : decode cL_planned 2 = .ok (.aload_n 0, 1) := by decide +kernel
theorem dL_planned_3 : decode cL_planned 3 = .ok (.iload_n 1, 1) := by decide +kernel
theorem dL_planned_4 : decode cL_planned 4 = .ok (.iload_n 2, 1) := by decide +kernel
theorem dL_planned_5 : decode cL_planned 5 = .ok (.invokevirtual 144, 3) := by decide +kernel
theorem dL_planned_8 : decode cL_planned 8 = .ok (.i2l, 1) := by decide +kernel
theorem dL_planned_9 : decode cL_planned 9 = .ok (.lastore, 1) := by decide +kernel
theorem dL_planned_10 : decode cL_planned 10 = .ok (.goto 11, 3) := by decide +kernel
theorem dL_planned_13 : decode cL_planned 13 = .ok (.astore 4, 2) := by decide +kernel
theorem dL_planned_15 : decode cL_planned 15 = .ok (.iconst 1, 1) := by decide +kernel
theorem dL_planned_16 : decode cL_planned 16 = .ok (.ireturn, 1) := by decide +kernel
theorem dL_planned_17 : decode cL_planned 17 = .ok (.astore 4, 2) := by decide +kernel
theorem dL_planned_19 : decode cL_planned 19 = .ok (.iconst 2, 1) := by decide +kernel
theorem dL_planned_20 : decode cL_planned 20 = .ok (.ireturn, 1) := by decide +kernel
theorem dL_planned_21 : decode cL_planned 21 = .ok (.iconst 0, 1) := by decide +kernel
theorem dL_planned_22 : decode cL_planned 22 = .ok (.ireturn, 1) := by decide +kernel
theorem lkL_144 : Cond.methodLink "SettlerColonyLaw" 144 yX11_planned ∈ lw_g := mem_g 1890 (by decide +kernel) (by decide +kernel)
theorem mL_planned (l : Launch) (hfl : l.stackTraces = false) {Y : Nat → ClassId} {D : va_G} {σ : Nat → Nat} {np b0 : Nat} {M : Mc} {N : Md} {p0 : Int32} {p1 : Int32} {r : Nat ⊕ (Int32 × Mc)} (hf : fX11_planned M p0 p1 = some r) : Met l yL_planned (.codeWith yL_planned cL_planned 5 (some .int) [(0, 10, 13, 15), (0, 10, 17, 127)] :: lw_g) (rmX 9 2) (PR Y D σ np b0 [.ref (σ 0), .int p0, .int p1, .ref (σ 145)] M N) (QR Y D σ np b0 (some (.int (wT eA M N r).1)) (wT eA M N r).2.1 (wT eA M N r).2.2) 2 (6 * 2) (xA b0) := by
  refine x_metH (by decide) (Nat.le_of_ble_eq_true rfl) (fun p e s m args below meth c hE hr hT => ?_)
  refine x_pick [0, 1, 2, 3] (L' := [(0, .ref (σ 0)), (1, .int p0), (2, .int p1), (3, .ref (σ 145))]) rfl ?_
  refine x_aload_n hE 3 dL_planned_0 rfl rfl ?_
  refine x_iconst hE 0 dL_planned_1 (by decide) ?_
  refine x_aload_n hE 0 dL_planned_2 rfl rfl ?_
  refine x_iload_n hE 1 dL_planned_3 rfl rfl ?_
  refine x_iload_n hE 2 dL_planned_4 rfl rfl ?_
  refine x_callXHV hE [.int p0, .int p1] (rest := [.int 0, .ref (σ 145)]) rfl yokX11_planned yvX11_planned lkL_144 rfl cl_11 (hE.kd kO_11) (by decide) ⟨Nat.le_of_ble_eq_true rfl, Nat.le_of_ble_eq_true rfl⟩ ⟨Nat.le_of_ble_eq_true rfl, Nat.le_of_ble_eq_true rfl⟩ rfl (Nat.le_of_ble_eq_true rfl) dL_planned_5 (mX11_planned l hfl hf) (fun k hk => ?_) (fun a ha => ⟨some (.int a.1), a.2, N, rfl, ?_⟩)
  · have hk1 := t_fX11_planned k (hf.trans (congrArg some hk))
    subst hk
    have hk2 : k = 2 ∨ k = 3 := by simpa using hk1
    refine xcat2 hE hT (by decide) (by decide) (by decide) kL_2 kL_3 ca_2 ca_3 hE.2.2.2.2.2.2.2.2.2.2.2.2.2.2.2.2.2.2.2.2 hk2 (fun h q => ?_) (fun h q => ?_)
    · subst h
      refine x_astore hE (L' := (4, .ref q) :: [(0, .ref (σ 0)), (1, .int p0), (2, .int p1), (3, .ref (σ 145))]) dL_planned_13 (by decide) rfl ?_
      refine x_iconst hE (nI 1) dL_planned_15 (by decide) ?_
      exact x_ireturn hE (v := nI 1) hr rfl dL_planned_16
    · subst h
      refine x_astore hE (L' := (4, .ref q) :: [(0, .ref (σ 0)), (1, .int p0), (2, .int p1), (3, .ref (σ 145))]) dL_planned_17 (by decide) rfl ?_
      refine x_iconst hE (nI 2) dL_planned_19 (by decide) ?_
      exact x_ireturn hE (v := nI 2) hr rfl dL_planned_20
  · subst ha
    refine x_i2l hE dL_planned_8 ?_
    refine x_last hE 0 (hE.kd kA_145) (by unfold vp_in; decide) (by decide) dL_planned_9 ?_
    refine x_goto hE 21 dL_planned_10 (by decide) ?_
    refine x_iconst hE 0 dL_planned_21 (by decide) ?_
    exact x_ireturn hE (v := 0) hr rfl dL_planned_22
theorem yowL_planned : YOW yL_planned cL_planned 5 4 (some .int) [(0, 10, 13, 15), (0, 10, 17, 127)] := ⟨mem_g 1889 (by decide +kernel) (by decide +kernel), mem_g 130 (by decide +kernel) (by decide +kernel), by decide +kernel, by decide +kernel, by decide +kernel⟩
theorem ysL_planned : Cond.static yL_planned ∈ lw_g := mem_g 1888 (by decide +kernel) (by decide +kernel)

section XW3
variable {p : Program} {l : Launch} {e : Env} {R : Room} {s : State} {m : MethodId} {args : Array Value} {below : List Frame} {meth : Method} {c : Code} {nL : Nat} {Y : Nat → ClassId} {D : va_G} {σ : Nat → Nat} {np b0 cells slots : Nat} {Q : State → Prop} {pc : Nat} {L : List (Nat × Value)} {rest : List Value} {cm : Mc} {dm : Md} {cc : ByteArray} {own : String}
theorem eok_up (hE : EOK p s m args meth c cc nL own Y D σ np b0) {σ' : Nat → Nat} {np1 : Nat} (h : OkS b0 σ' np1) (hn : np ≤ np1) : EOK p s m args meth c cc nL own Y D σ' np1 b0 := ⟨hE.1, hE.2.1, hE.2.2.1, hE.2.2.2.1, hE.2.2.2.2.1, hE.2.2.2.2.2.1, hE.2.2.2.2.2.2.1, h, hE.2.2.2.2.2.2.2.2.1, Nat.le_trans hE.2.2.2.2.2.2.2.2.2.1 hn, hE.2.2.2.2.2.2.2.2.2.2⟩
theorem x_retL {v : Option Value} {c1 : Mc} {d1 : Md} {np1 : Nat} {av : Array Value} {st0 : List Value} {mc ms : Nat} {H : Heap} {locs : List Loc} {ls : Array Slot} (hE : EOK p s m args meth c cc nL own Y D σ np b0) (hn : np ≤ np1)
    (hr : va_Run p l e R s m args below meth c H locs cells slots mc ms (F0 m pc ls st0) rest (QL Y D σ np b0 v c1 np1 d1 av) (xA b0)) (hS : va_S (xA b0) s.heap H locs) (hl : lv_has ls nL L)
    (k : ∀ σ' : Nat → Nat, (∀ k, k < np → σ' k = σ k) → EOK p s m args meth c cc nL own Y D σ' np1 b0 → Xw p l e R s m args below meth c nL Y D σ' np1 b0 (cells + mc) (slots + ms) Q (pc + 3) L (v.toList ++ rest) c1 d1) : W p l e R s m args below meth c H locs cells slots Q (F0 m pc ls st0) := by
  intro T hT X
  obtain ⟨v', st₀, t, T', L', h0, X', hL, e1, e2, ⟨σ', hs', hv, hp, hb, hos, hz, hk⟩, st⟩ := hr T hT X
  cases hv
  rw [h0] at hz hk
  have hS1 : va_S (xA b0) s.heap T'.heap (locs ++ L') := by
    refine ⟨Nat.le_trans hS.1 (by rw [e1]; exact hz), fun q h1 h2 => ?_, fun q hq => ?_⟩
    · rw [e1, hk q (Nat.lt_of_lt_of_le h1 hS.1) h2]
      exact hS.2.1 q h1 h2
    · rcases List.mem_append.mp hq with h | h
      · exact hS.2.2 q h
      · exact hL q h
  obtain ⟨t2, a1, b1⟩ := k σ' hs' (eok_up hE hos hn) T'.heap (locs ++ L') ls (by rw [e1]; exact hp) hS1 hb hl T' rfl X'
  exact ⟨t2, st t2 a1, b1⟩
theorem x_retHL {α : Type} {qc : α → Array Value → State → Outcome → State → Prop} {y : Nat ⊕ α} {av : Array Value} {st0 : List Value} {kc : Nat} {H : Heap} {locs : List Loc} {ls : Array Slot} (hE : EOK p s m args meth c cc nL own Y D σ np b0)
    (hr : vx_Run p l e R s m args below meth c H locs cells slots kc (6 * kc) (F0 m pc ls st0) rest (QX qc y av) (XX Y D σ np b0 cm dm y) (xA b0)) (hS : va_S (xA b0) s.heap H locs) (hl : lv_has ls nL L)
    (hcat : ∀ k, y = .inl k → xCat p l e R s m args below meth c nL Y D σ np b0 (cells + kc) (slots + 6 * kc) Q own pc L cm dm k)
    (hy : ∀ a, y = .inr a → ∃ (v : Option Value) (c1 : Mc) (np1 : Nat) (d1 : Md), qc a = QL Y D σ np b0 v c1 np1 d1 ∧ np ≤ np1 ∧ ∀ σ' : Nat → Nat, (∀ k, k < np → σ' k = σ k) → EOK p s m args meth c cc nL own Y D σ' np1 b0 → Xw p l e R s m args below meth c nL Y D σ' np1 b0 (cells + kc) (slots + 6 * kc) Q (pc + 3) L (v.toList ++ rest) c1 d1) :
    W p l e R s m args below meth c H locs cells slots Q (F0 m pc ls st0) := by
  intro T hT2 X
  rcases hr T hT2 X with ⟨v', st₀, t, T', L', h0, X', hL, e1, e2, ⟨a', hy', hq⟩, st⟩ | ⟨qa, st₀, t, T', L', E, ce, h0, X', hL, e1, e2, ⟨k, hy', rfl, hp, hb, hz, hk⟩, hce, hcv, hcl, st⟩
  · obtain ⟨v, c1, np1, d1, hqc, hn, kk⟩ := hy a' hy'
    rw [hqc] at hq
    obtain ⟨σ', hs', hv, hp, hb, hos, hz, hk⟩ := hq
    cases hv
    rw [h0] at hz hk
    have hS1 : va_S (xA b0) s.heap T'.heap (locs ++ L') := by
      refine ⟨Nat.le_trans hS.1 (by rw [e1]; exact hz), fun q h1 h2 => ?_, fun q hq => ?_⟩
      · rw [e1, hk q (Nat.lt_of_lt_of_le h1 hS.1) h2]
        exact hS.2.1 q h1 h2
      · rcases List.mem_append.mp hq with h | h
        · exact hS.2.2 q h
        · exact hL q h
    obtain ⟨t2, a1, b1⟩ := kk σ' hs' (eok_up hE hos hn) T'.heap (locs ++ L') ls (by rw [e1]; exact hp) hS1 hb hl T' rfl X'
    exact ⟨t2, st t2 a1, b1⟩
  · rw [h0] at hz hk
    have hS1 : va_S (xA b0) s.heap T'.heap (locs ++ L') := by
      refine ⟨Nat.le_trans hS.1 (by rw [e1]; exact hz), fun q h1 h2 => ?_, fun q hq => ?_⟩
      · rw [e1, hk q (Nat.lt_of_lt_of_le h1 hS.1) h2]
        exact hS.2.1 q h1 h2
      · rcases List.mem_append.mp hq with h | h
        · exact hS.2.2 q h
        · exact hL q h
    obtain ⟨pre, x, suf, name, c1, c2, c3, c4, c5, c6, kk⟩ := hcat k hy'
    obtain ⟨t2, a1, b1⟩ := vx_catch (E := xE k) (ce := ce) (q := qa) (rest := rest) hE.2.2.2.1 pre x suf c1 c2 c3 c4 c5 c6 (by rw [e1]; exact hce) hcv hcl (kk qa T'.heap (locs ++ L') ls (by rw [e1]; exact hp) hS1 hb hl) T' rfl X'
    exact ⟨t2, st.trans a1, b1⟩
theorem x_callXHL (hE : EOK p s m args meth c cc nL own Y D σ np b0) {α : Type} {qc : α → Array Value → State → Outcome → State → Prop} {z : Nat ⊕ α} {y : MethodName} {bytes : ByteArray} {maxL n index dq kc : Nat} {ret : Option FieldType} {C : String} {T : u_T} {N ci k : Nat} {ty0 : Nat → FieldType} {lk : List Nat} (As : List Value) {st0 : List Value} (h0 : As.reverse ++ .ref (σ k) :: rest = st0)
    (hY : YOK y bytes maxL n ret) (hV : YV y) (hw : Cond.methodLink own index y ∈ lw_g) (hC : y.cls = C) (hc2 : CLok ci C T N ty0) (hk : k < np ∧ kd k = (ci, 0, lk)) (hci : ci < 100) (hR : (rmX dq kc).frames + 1 ≤ R.frames ∧ 8 + (maxL + 11) + (rmX dq kc).locals ≤ R.locals) (hcs : cells + kc ≤ R.cells ∧ slots + 6 * kc ≤ R.slots) (hn : As.length = n) (hst : (rest.map fun v => v.category).sum ≤ 8) (hd : decode cc pc = .ok (.invokevirtual index, 3))
    (hM : vx_Met l y (.code y bytes maxL ret :: lw_g) (rmX dq kc) (PR Y D σ np b0 (.ref (σ k) :: As) cm dm) (QX qc z) (XX Y D σ np b0 cm dm z) kc (6 * kc) (xA b0))
    (hcat : ∀ k, z = .inl k → xCat p l e R s m args below meth c nL Y D σ np b0 (cells + kc) (slots + 6 * kc) Q own pc L cm dm k)
    (hy : ∀ a, z = .inr a → ∃ (v : Option Value) (c1 : Mc) (np1 : Nat) (d1 : Md), qc a = QL Y D σ np b0 v c1 np1 d1 ∧ np ≤ np1 ∧ ∀ σ' : Nat → Nat, (∀ k, k < np → σ' k = σ k) → EOK p s m args meth c cc nL own Y D σ' np1 b0 → Xw p l e R s m args below meth c nL Y D σ' np1 b0 (cells + kc) (slots + 6 * kc) Q (pc + 3) L (v.toList ++ rest) c1 d1) :
    Xw p l e R s m args below meth c nL Y D σ np b0 cells slots Q pc L st0 cm dm := by
  subst h0
  subst hC
  intro H locs ls hP hS hB hl
  refine x_retHL hE (vx_runV (As := As) (rest := rest) (Ts := lw_g) ⟨hE.1, hE.2.1, hE.2.2.1, hE.2.2.2.1, hE.2.2.2.2.1⟩ hM ⟨cb_of hE hY hw rfl rfl hR, hE.2.2.2.2.1 _ hV.1, hE.2.2.2.2.1 _ hV.2⟩ ⟨pr_blind, x_recv hE hP hc2 hk hci, fun U hU hW => pr_of hE hP hS hB hU hW⟩ rfl hn hl.1 rfl ?_ hd hcs) hS hl hcat hy
  show 2 * 0 + _ ≤ 8
  rw [Nat.mul_zero, Nat.zero_add]
  exact hst
theorem x_callSWL (hE : EOK p s m args meth c cc nL own Y D σ np b0) {y : MethodName} {bytes : ByteArray} {maxL n index dq kc np1 : Nat} {ret : Option FieldType} {hh : List (Nat × Nat × Nat × Nat)} {v : Option Value} {c1 : Mc} {d1 : Md} (As : List Value) {st0 : List Value} (h0 : As.reverse ++ rest = st0) (hn1 : np ≤ np1)
    (hY : YOW y bytes maxL n ret hh) (hV : Cond.static y ∈ lw_g) (hw : Cond.methodLink own index y ∈ lw_g) (hR : (rmX dq kc).frames + 1 ≤ R.frames ∧ 8 + (maxL + 11) + (rmX dq kc).locals ≤ R.locals) (hcs : cells + kc ≤ R.cells ∧ slots + 6 * kc ≤ R.slots) (hn : As.length = n) (hst : (rest.map fun v => v.category).sum ≤ 8) (hd : decode cc pc = .ok (.invokestatic index, 3))
    (hM : Met l y (.codeWith y bytes maxL ret hh :: lw_g) (rmX dq kc) (PR Y D σ np b0 As cm dm) (QL Y D σ np b0 v c1 np1 d1) kc (6 * kc) (xA b0))
    (kk : ∀ σ' : Nat → Nat, (∀ k, k < np → σ' k = σ k) → EOK p s m args meth c cc nL own Y D σ' np1 b0 → Xw p l e R s m args below meth c nL Y D σ' np1 b0 (cells + kc) (slots + 6 * kc) Q (pc + 3) L (v.toList ++ rest) c1 d1) : Xw p l e R s m args below meth c nL Y D σ np b0 cells slots Q pc L st0 cm dm := by
  subst h0
  intro H locs ls hP hS hB hl
  refine x_retL hE hn1 (vx_runSW (As := As) (rest := rest) (Ts := lw_g) ⟨hE.1, hE.2.1, hE.2.2.1, hE.2.2.2.1, hE.2.2.2.2.1⟩ hM (csw_of hE hY hV hw hR) ⟨pr_blind, fun U hU hW => pr_of hE hP hS hB hU hW⟩ rfl hn hl.1 rfl ?_ hd hcs) hS hl kk
  show 2 * 0 + _ ≤ 8
  rw [Nat.mul_zero, Nat.zero_add]
  exact hst
end XW3
def wL (M : Mc) (N : Md) (np : Nat) (r : Nat ⊕ (Int32 × Mc × Nat)) : Int32 × Mc × Nat × Md := match r with
  | .inl k => (eA k, M, np, N)
  | .inr a => (0, a.2.1, a.2.2, wrd N 145 0 a.1.toInt64)
theorem dL_law_0 : decode cL_law 0 = .ok (.aload_n 2, 1) := by decide +kernel
theorem dL_law_1 : decode cL_law 1 = .ok (.iconst 0, 1) := by decide +kernel
theorem dL_law_2 : decode cL_law 2 = .ok (.aload_n 0, 1) := by decide +kernel
theorem dL_law_3 : decode cL_law 3 = .ok (.iload_n 1, 1) := by decide +kernel
theorem dL_law_4 : decode cL_law 4 = .ok (.invokevirtual 90, 3) := by decide +kernel
theorem dL_law_7 : decode cL_law 7 = .ok (.i2l, 1) := by decide +kernel
theorem dL_law_8 : decode cL_law 8 = .ok (.lastore, 1) := by decide +kernel
theorem dL_law_9 : decode cL_law 9 = .ok (.goto 6, 3) := by decide +kernel
theorem dL_law_12 : decode cL_law 12 = .ok (.astore_n 3, 1) := by decide +kernel
theorem dL_law_13 : decode cL_law 13 = .ok (.iconst 1, 1) := by decide +kernel
theorem dL_law_14 : decode cL_law 14 = .ok (.ireturn, 1) := by decide +kernel
theorem dL_law_15 : decode cL_law 15 = .ok (.iconst 0, 1) := by decide +kernel
theorem dL_law_16 : decode cL_law 16 = .ok (.ireturn, 1) := by decide +kernel
theorem lkL_90 : Cond.methodLink "SettlerColonyLaw" 90 yX11_law ∈ lw_g := mem_g 1316 (by decide +kernel) (by decide +kernel)
theorem mL_law (l : Launch) (hfl : l.stackTraces = false) {Y : Nat → ClassId} {D : va_G} {σ : Nat → Nat} {np b0 : Nat} {M : Mc} {N : Md} {p0 : Int32} {r : Nat ⊕ (Int32 × Mc × Nat)} (hal : (np - 146) % 4 = 0) (hf : fX11_law np M p0 = some r) (hk0 : ∀ k, r = .inl k → k = 2) (hnp : ∀ a, r = .inr a → np ≤ a.2.2) : Met l yL_law (.codeWith yL_law cL_law 4 (some .int) [(0, 9, 12, 15)] :: lw_g) (rmX 135 55) (PR Y D σ np b0 [.ref (σ 0), .int p0, .ref (σ 145)] M N) (QL Y D σ np b0 (some (.int (wL M N np r).1)) (wL M N np r).2.1 (wL M N np r).2.2.1 (wL M N np r).2.2.2) 55 (6 * 55) (xA b0) := by
  refine x_metH (by decide) (Nat.le_of_ble_eq_true rfl) (fun p e s m args below meth c hE hr hT => ?_)
  refine x_pick [0, 1, 2] (L' := [(0, .ref (σ 0)), (1, .int p0), (2, .ref (σ 145))]) rfl ?_
  refine x_aload_n hE 2 dL_law_0 rfl rfl ?_
  refine x_iconst hE 0 dL_law_1 (by decide) ?_
  refine x_aload_n hE 0 dL_law_2 rfl rfl ?_
  refine x_iload_n hE 1 dL_law_3 rfl rfl ?_
  refine x_callXHL hE [.int p0] (rest := [.int 0, .ref (σ 145)]) rfl yokX11_law yvX11_law lkL_90 rfl cl_11 (hE.kd kO_11) (by decide) ⟨Nat.le_of_ble_eq_true rfl, Nat.le_of_ble_eq_true rfl⟩ ⟨Nat.le_of_ble_eq_true rfl, Nat.le_of_ble_eq_true rfl⟩ rfl (Nat.le_of_ble_eq_true rfl) dL_law_4 (mX11_law l hfl hal hf) (fun k hk => ?_) (fun a ha => ⟨some (.int a.1), a.2.1, a.2.2, N, rfl, hnp a ha, fun σ' hs' hE' => ?_⟩)
  · have hk2 := hk0 k hk
    subst hk
    refine xcat1 hE hT (by decide) (by decide) kL_2 ca_2 hk2 (fun q => ?_)
    subst hk2
    refine x_astore_n hE (L' := (3, .ref q) :: [(0, .ref (σ 0)), (1, .int p0), (2, .ref (σ 145))]) dL_law_12 rfl (by decide) rfl ?_
    refine x_iconst hE (nI 1) dL_law_13 (by decide) ?_
    exact x_ireturnL hE (v := nI 1) hr rfl dL_law_14
  · subst ha
    have h145 : σ' 145 = σ 145 := hs' 145 (hE.kd kA_145).1
    rw [← h145]
    refine x_i2l hE' dL_law_7 ?_
    refine x_last hE' 0 (hE'.kd kA_145) (by unfold vp_in; decide) (by decide) dL_law_8 ?_
    refine x_goto hE' 15 dL_law_9 (by decide) ?_
    refine x_iconst hE' 0 dL_law_15 (by decide) ?_
    intro H locs ls hP hS hB hl
    exact W.iret hE'.1 hE'.2.1 hr (fun t ht hW => ⟨σ', hs', rfl, by rw [ht]; exact hP, hB, hE'.2.2.2.2.2.2.2.1, hS.F ht⟩) hS.2.2 dL_law_16 hE'.2.2.2.2.2.2.2.2.2.2.1
theorem yowL_law : YOW yL_law cL_law 4 3 (some .int) [(0, 9, 12, 15)] := ⟨mem_g 1315 (by decide +kernel) (by decide +kernel), mem_g 130 (by decide +kernel) (by decide +kernel), by decide +kernel, by decide +kernel, by decide +kernel⟩
theorem ysL_law : Cond.static yL_law ∈ lw_g := mem_g 1314 (by decide +kernel) (by decide +kernel)

