/-! ===== in a week nobody but one who starves changes the count of the hungry ===== -/
section KBs
variable {w0 : Nat} {s v : Int32} {W : Nat → Int32}
theorem hB_fJ7_fill_53178_L5 {n0 : Nat} {k0 : Nat} (h_k0 : k0 ≠ w0 + 15 ∧ k0 ≠ 16) : ∀ (n : Nat) (M : Mc) (X1 : Int32) (X2 : Int32) (X3 : Int32), KB w0 s v W M → KG gM (KB w0 s v W) (fJ7_fill_53178_L5 n0 k0 n M X1 X2 X3)  := by
  intro n
  induction n with
  | zero => intros; rw [fJ7_fill_53178_L5]; exact K_none
  | succ n ih =>
    intro M X1 X2 X3 hM
    rw [fJ7_fill_53178_L5]
    exact (K_ite (K_sM hM) (K_chk fun hb_ => (K_ltM (K_wrB hM (by omega)) fun _ h1 => (ih _ _ _ _ h1))))
theorem hB_fJ7_fill_53178 {M : Mc} {n0 : Nat} {k0 : Nat} {p0 : Int32} (hM : KB w0 s v W M) (h_k0 : k0 ≠ w0 + 15 ∧ k0 ≠ 16) : KG gM (KB w0 s v W) (fJ7_fill_53178 M n0 k0 p0) := by
  unfold fJ7_fill_53178
  exact (K_ltV fun _ => (hB_fJ7_fill_53178_L5 (by omega) _ _ _ _ _ hM))
theorem hB_fX1_present {M : Mc} {bi : Nat} {p0 : Int32} (hM : KB w0 s v W M) (h_bi : bi = w0 + 32 ∧ 17 ≤ w0) : KG gM (KB w0 s v W) (fX1_present M bi p0) := by
  unfold fX1_present
  exact (K_bndV fun _ => (K_ite (K_sM hM) (K_chk fun hb_ => (K_ite (K_chk fun hb_ => (K_ltM (K_wrB hM (by omega)) fun _ h2 => (K_chk fun hb_ => (K_chk fun hb_ => (K_ltM (K_wrB h2 (by omega)) fun _ h3 => (K_sM h3)))))) (K_chk fun hb_ => (K_ltM (K_wrB hM (by omega)) fun _ h4 => (K_chk fun hb_ => (K_ltM (K_wrB h4 (by omega)) fun _ h5 => (K_sM h5)))))))))
theorem hB_fX1_comeBack {M : Mc} {bi : Nat} {p0 : Int32} (hM : KB w0 s v W M) (h_bi : bi = w0 + 32 ∧ 17 ≤ w0) : KG gP (KB w0 s v W) (fX1_comeBack M bi p0) := by
  unfold fX1_comeBack
  exact (K_bndV fun _ => (K_ite (K_sP hM) (K_chk fun hb_ => (K_ltM (K_wrB hM (by omega)) fun _ h6 => (K_chk fun hb_ => (K_chk fun hb_ => (K_chk fun hb_ => (K_sP h6))))))))
theorem hB_fX1_readDue_J73 {bi : Nat} {K4 : Mc → Int32 → Int32 → Int32 → Option (Int32 × Mc)} {M : Mc} {X1 : Int32} {X2 : Int32} {X3 : Int32} (hM : KB w0 s v W M) (h_bi : bi = w0 + 32 ∧ 17 ≤ w0) (hK4 : ∀ (y0 : Mc) (y1 : Int32) (y2 : Int32) (y3 : Int32), KB w0 s v W y0 → KG gP (KB w0 s v W) (K4 y0 y1 y2 y3)) : KG gP (KB w0 s v W) (fX1_readDue_J73 bi K4 M X1 X2 X3) := by
  unfold fX1_readDue_J73
  exact (hK4 _ _ _ _ hM)
theorem hB_fX1_readDue_J45 {bi : Nat} {K4 : Mc → Int32 → Int32 → Int32 → Option (Int32 × Mc)} {M : Mc} {X1 : Int32} {X2 : Int32} {X3 : Int32} (hM : KB w0 s v W M) (h_bi : bi = w0 + 32 ∧ 17 ≤ w0) (hK4 : ∀ (y0 : Mc) (y1 : Int32) (y2 : Int32) (y3 : Int32), KB w0 s v W y0 → KG gP (KB w0 s v W) (K4 y0 y1 y2 y3)) : KG gP (KB w0 s v W) (fX1_readDue_J45 bi K4 M X1 X2 X3) := by
  unfold fX1_readDue_J45
  exact (K_chk fun hb_ => (K_ite (K_chk fun hb_ => (K_ite (K_bn2M (hB_fX1_comeBack hM (by omega)) fun _ _ h7 => (K_ltV fun _ => (hB_fX1_readDue_J73 h7 (by omega) hK4))) (hB_fX1_readDue_J73 hM (by omega) hK4))) (hB_fX1_readDue_J73 hM (by omega) hK4)))
theorem hB_fX1_readDue_L4 {bi : Nat} (h_bi : bi = w0 + 32 ∧ 17 ≤ w0) : ∀ (n : Nat) (M : Mc) (X1 : Int32) (X2 : Int32) (X3 : Int32), KB w0 s v W M → KG gP (KB w0 s v W) (fX1_readDue_L4 bi n M X1 X2 X3)  := by
  intro n
  induction n with
  | zero => intros; rw [fX1_readDue_L4]; exact K_none
  | succ n ih =>
    intro M X1 X2 X3 hM
    rw [fX1_readDue_L4]
    exact (K_ite (K_sP hM) (K_ite (K_sP hM) (K_chk fun hb_ => (K_ite (K_chk fun hb_ => (K_ite (K_bndM (hB_fX1_present hM (by omega)) fun _ h8 => (hB_fX1_readDue_J73 h8 (by omega) (fun _ _ _ _ hc_ => (ih _ _ _ _ hc_)))) (hB_fX1_readDue_J45 hM (by omega) (fun _ _ _ _ hc_ => (ih _ _ _ _ hc_))))) (hB_fX1_readDue_J45 hM (by omega) (fun _ _ _ _ hc_ => (ih _ _ _ _ hc_)))))))
theorem hB_fX1_readDue {M : Mc} {bi : Nat} {p0 : Int32} (hM : KB w0 s v W M) (h_bi : bi = w0 + 32 ∧ 17 ≤ w0) : KG gP (KB w0 s v W) (fX1_readDue M bi p0) := by
  unfold fX1_readDue
  exact (hB_fX1_readDue_L4 (by omega) _ _ _ _ _ hM)
theorem hB_fX3_spend {M : Mc} {q : Nat} {p0 : Int32} {p1 : Int32} (hM : KB w0 s v W M) (h_q : q = w0 + 15 ∧ 17 ≤ w0) : KG gM (KB w0 s v W) (fX3_spend M q p0 p1) := by
  unfold fX3_spend
  exact (K_bndV fun _ => (K_ite (K_sM hM) (K_chk fun hb_ => (K_chk fun hb_ => (K_ltM (K_wrB hM (by omega)) fun _ h9 => (K_sM h9))))))
theorem hB_fX3_earn {M : Mc} {q : Nat} {p0 : Int32} {p1 : Int32} (hM : KB w0 s v W M) (h_q : q = w0 + 15 ∧ 17 ≤ w0) : KG gM (KB w0 s v W) (fX3_earn M q p0 p1) := by
  unfold fX3_earn
  exact (K_bndV fun _ => (K_ite (K_sM hM) (K_chk fun hb_ => (K_chk fun hb_ => (K_ltM (K_wrB hM (by omega)) fun _ h10 => (K_sM h10))))))
theorem hB_fX3_disembark_J53 {q : Nat} {K2 : Mc → Int32 → Int32 → Option (Mc)} {M : Mc} {X1 : Int32} {X2 : Int32} (hM : KB w0 s v W M) (h_q : q = w0 + 15 ∧ 17 ≤ w0) (hK2 : ∀ (y0 : Mc) (y1 : Int32) (y2 : Int32), KB w0 s v W y0 → KG gM (KB w0 s v W) (K2 y0 y1 y2)) : KG gM (KB w0 s v W) (fX3_disembark_J53 q K2 M X1 X2) := by
  unfold fX3_disembark_J53
  exact (hK2 _ _ _ hM)
theorem hB_fX3_disembark_L2 {q : Nat} (h_q : q = w0 + 15 ∧ 17 ≤ w0) : ∀ (n : Nat) (M : Mc) (X1 : Int32) (X2 : Int32), KB w0 s v W M → KG gM (KB w0 s v W) (fX3_disembark_L2 q n M X1 X2)  := by
  intro n
  induction n with
  | zero => intros; rw [fX3_disembark_L2]; exact K_none
  | succ n ih =>
    intro M X1 X2 hM
    rw [fX3_disembark_L2]
    exact (K_ite (K_sM hM) (K_ite (K_sM hM) (K_chk fun hb_ => (K_ite (K_chk fun hb_ => (K_ite (K_chk fun hb_ => (K_ltM (K_wrB hM (by omega)) fun _ h11 => (K_ltM (K_wrB h11 (by omega)) fun _ h12 => (hB_fX3_disembark_J53 h12 (by omega) (fun _ _ _ hc_ => (ih _ _ _ hc_)))))) (hB_fX3_disembark_J53 hM (by omega) (fun _ _ _ hc_ => (ih _ _ _ hc_))))) (hB_fX3_disembark_J53 hM (by omega) (fun _ _ _ hc_ => (ih _ _ _ hc_)))))))
theorem hB_fX3_disembark {M : Mc} {q : Nat} {p0 : Int32} (hM : KB w0 s v W M) (h_q : q = w0 + 15 ∧ 17 ≤ w0) : KG gM (KB w0 s v W) (fX3_disembark M q p0) := by
  unfold fX3_disembark
  exact (hB_fX3_disembark_L2 (by omega) _ _ _ _ hM)
theorem hB_fX3_release_J48 {q : Nat} {M : Mc} {X1 : Int32} (hM : KB w0 s v W M) (h_q : q = w0 + 15 ∧ 17 ≤ w0) : KG gM (KB w0 s v W) (fX3_release_J48 q M X1) := by
  unfold fX3_release_J48
  exact (K_chk fun hb_ => (K_ltM (K_wrB hM (by omega)) fun _ h13 => (K_chk fun hb_ => (K_ltM (K_wrB h13 (by omega)) fun _ h14 => (K_sM h14)))))
theorem hB_fX3_release {M : Mc} {q : Nat} {p0 : Int32} (hM : KB w0 s v W M) (h_q : q = w0 + 15 ∧ 17 ≤ w0) : KG gM (KB w0 s v W) (fX3_release M q p0) := by
  unfold fX3_release
  exact (K_ite (K_sM hM) (K_ite (K_sM hM) (K_chk fun hb_ => (K_ite (K_chk fun hb_ => (K_ltV fun _ => (K_ite (hB_fX3_release_J48 hM (by omega)) (K_ite (hB_fX3_release_J48 hM (by omega)) (K_chk fun hb_ => (K_chk fun hb_ => (K_ltM (K_wrB hM (by omega)) fun _ h15 => (hB_fX3_release_J48 h15 (by omega))))))))) (K_sM hM)))))
theorem hB_fX3_gainFarm {M : Mc} {q : Nat} {p0 : Int32} (hM : KB w0 s v W M) (h_q : q = w0 + 15 ∧ 17 ≤ w0) : KG gM (KB w0 s v W) (fX3_gainFarm M q p0) := by
  unfold fX3_gainFarm
  exact (K_bndV fun _ => (K_ite (K_sM hM) (K_bndM (hB_fX3_release hM (by omega)) fun _ h16 => (K_chk fun hb_ => (K_chk fun hb_ => (K_ltM (K_wrB h16 (by omega)) fun _ h17 => (K_chk fun hb_ => (K_ltM (K_wrB h17 (by omega)) fun _ h18 => (K_sM h18)))))))))
theorem hB_fX3_loseFarm_J67 {q : Nat} {K38 : Mc → Int32 → Int32 → Option (Mc)} {M : Mc} {X1 : Int32} {X2 : Int32} (hM : KB w0 s v W M) (h_q : q = w0 + 15 ∧ 17 ≤ w0) (hK38 : ∀ (y0 : Mc) (y1 : Int32) (y2 : Int32), KB w0 s v W y0 → KG gM (KB w0 s v W) (K38 y0 y1 y2)) : KG gM (KB w0 s v W) (fX3_loseFarm_J67 q K38 M X1 X2) := by
  unfold fX3_loseFarm_J67
  exact (hK38 _ _ _ hM)
theorem hB_fX3_loseFarm_L38 {q : Nat} (h_q : q = w0 + 15 ∧ 17 ≤ w0) : ∀ (n : Nat) (M : Mc) (X1 : Int32) (X2 : Int32), KB w0 s v W M → KG gM (KB w0 s v W) (fX3_loseFarm_L38 q n M X1 X2)  := by
  intro n
  induction n with
  | zero => intros; rw [fX3_loseFarm_L38]; exact K_none
  | succ n ih =>
    intro M X1 X2 hM
    rw [fX3_loseFarm_L38]
    exact (K_ite (K_sM hM) (K_ite (K_sM hM) (K_chk fun hb_ => (K_ite (K_bndM (hB_fX3_release hM (by omega)) fun _ h19 => (hB_fX3_loseFarm_J67 h19 (by omega) (fun _ _ _ hc_ => (ih _ _ _ hc_)))) (hB_fX3_loseFarm_J67 hM (by omega) (fun _ _ _ hc_ => (ih _ _ _ hc_)))))))
theorem hB_fX3_loseFarm {M : Mc} {q : Nat} {p0 : Int32} (hM : KB w0 s v W M) (h_q : q = w0 + 15 ∧ 17 ≤ w0) : KG gM (KB w0 s v W) (fX3_loseFarm M q p0) := by
  unfold fX3_loseFarm
  exact (K_bndV fun _ => (K_ite (K_sM hM) (K_chk fun hb_ => (K_chk fun hb_ => (K_ltM (K_wrB hM (by omega)) fun _ h20 => (K_chk fun hb_ => (K_ite (K_chk fun hb_ => (K_ltM (K_wrB h20 (by omega)) fun _ h21 => (hB_fX3_loseFarm_L38 (by omega) _ _ _ _ h21))) (K_sM h20))))))))
theorem hB_fX3_hireBy {M : Mc} {q : Nat} {p0 : Int32} {p1 : Int32} (hM : KB w0 s v W M) (h_q : q = w0 + 15 ∧ 17 ≤ w0) : KG gM (KB w0 s v W) (fX3_hireBy M q p0 p1) := by
  unfold fX3_hireBy
  exact (K_bndV fun _ => (K_ite (K_sM hM) (K_bndV fun _ => (K_ite (K_sM hM) (K_chk fun hb_ => (K_chk fun hb_ => (K_ltM (K_wrB hM (by omega)) fun _ h22 => (K_chk fun hb_ => (K_ltM (K_wrB h22 (by omega)) fun _ h23 => (K_chk fun hb_ => (K_ltM (K_wrB h23 (by omega)) fun _ h24 => (K_sM h24))))))))))))
theorem hB_fX3_payWage {M : Mc} {q : Nat} {p0 : Int32} {p1 : Int32} (hM : KB w0 s v W M) (h_q : q = w0 + 15 ∧ 17 ≤ w0) : KG gM (KB w0 s v W) (fX3_payWage M q p0 p1) := by
  unfold fX3_payWage
  exact (K_bndV fun _ => (K_ite (K_sM hM) (K_chk fun hb_ => (K_ltV fun _ => (K_bndV fun _ => (K_ite (K_bndM (hB_fX3_release hM (by omega)) fun _ h25 => (K_sM h25)) (K_bndM (hB_fX3_spend hM (by omega)) fun _ h26 => (K_bndM (hB_fX3_earn h26 (by omega)) fun _ h27 => (K_sM h27)))))))))
theorem hB_fX4_open_J41 {g : Nat} {M : Mc} {X1 : Int32} (hM : KB w0 s v W M) (h_g : g = w0 + 1 ∧ 17 ≤ w0) : KG gM (KB w0 s v W) (fX4_open_J41 g M X1) := by
  unfold fX4_open_J41
  exact (K_chk fun hb_ => (K_ltM (K_wrB hM (by omega)) fun _ h28 => (K_chk fun hb_ => (K_ltM (K_wrB h28 (by omega)) fun _ h29 => (K_chk fun hb_ => (K_ltM (K_wrB h29 (by omega)) fun _ h30 => (K_chk fun hb_ => (K_ltM (K_wrB h30 (by omega)) fun _ h31 => (K_chk fun hb_ => (K_ltM (K_wrB h31 (by omega)) fun _ h32 => (K_chk fun hb_ => (K_ltM (K_wrB h32 (by omega)) fun _ h33 => (K_chk fun hb_ => (K_ltM (K_wrB h33 (by omega)) fun _ h34 => (K_sM h34)))))))))))))))
theorem hB_fX4_open_J31 {g : Nat} {M : Mc} {X1 : Int32} (hM : KB w0 s v W M) (h_g : g = w0 + 1 ∧ 17 ≤ w0) : KG gM (KB w0 s v W) (fX4_open_J31 g M X1) := by
  unfold fX4_open_J31
  exact (K_ltM (K_wrB hM (by omega)) fun _ h35 => (hB_fX4_open_J41 h35 (by omega)))
theorem hB_fX4_open {M : Mc} {g : Nat} {p0 : Int32} (hM : KB w0 s v W M) (h_g : g = w0 + 1 ∧ 17 ≤ w0) : KG gM (KB w0 s v W) (fX4_open M g p0) := by
  unfold fX4_open
  exact (K_ite (K_sM hM) (K_ite (K_chk fun hb_ => (K_ite (hB_fX4_open_J31 hM (by omega)) (K_chk fun hb_ => (K_ite (hB_fX4_open_J31 hM (by omega)) (hB_fX4_open_J41 hM (by omega)))))) (K_sM hM)))
theorem hB_fX4_dig {M : Mc} {g : Nat} {p0 : Int32} (hM : KB w0 s v W M) (h_g : g = w0 + 1 ∧ 17 ≤ w0) : KG gM (KB w0 s v W) (fX4_dig M g p0) := by
  unfold fX4_dig
  exact (K_bndV fun _ => (K_ite (K_sM hM) (K_chk fun hb_ => (K_chk fun hb_ => (K_ltM (K_wrB hM (by omega)) fun _ h36 => (K_chk fun hb_ => (K_ite (K_sM h36) (K_bndM (hB_fX4_open h36 (by omega)) fun _ h37 => (K_sM h37)))))))))
theorem hB_fX4_giveFarm {M : Mc} {g : Nat} {p0 : Int32} {p1 : Int32} {p2 : Int32} {p3 : Int32} {p4 : Int32} (hM : KB w0 s v W M) (h_g : g = w0 + 1 ∧ 17 ≤ w0) : KG gM (KB w0 s v W) (fX4_giveFarm M g p0 p1 p2 p3 p4) := by
  unfold fX4_giveFarm
  exact (K_bndV fun _ => (K_ite (K_sM hM) (K_bndM (hB_fX4_open hM (by omega)) fun _ h38 => (K_chk fun hb_ => (K_ltM (K_wrB h38 (by omega)) fun _ h39 => (K_chk fun hb_ => (K_ltM (K_wrB h39 (by omega)) fun _ h40 => (K_chk fun hb_ => (K_ltM (K_wrB h40 (by omega)) fun _ h41 => (K_chk fun hb_ => (K_ltM (K_wrB h41 (by omega)) fun _ h42 => (K_ltM (K_wrB h42 (by omega)) fun _ h43 => (K_sM h43)))))))))))))
theorem hB_fX4_addStock_J19 {g : Nat} {M : Mc} {X1 : Int32} (hM : KB w0 s v W M) (h_g : g = w0 + 1 ∧ 17 ≤ w0) : KG gP (KB w0 s v W) (fX4_addStock_J19 g M X1) := by
  unfold fX4_addStock_J19
  exact (K_bndV fun _ => (K_sP hM))
theorem hB_fX4_addStock {M : Mc} {g : Nat} {p0 : Int32} {p1 : Int32} (hM : KB w0 s v W M) (h_g : g = w0 + 1 ∧ 17 ≤ w0) : KG gP (KB w0 s v W) (fX4_addStock M g p0 p1) := by
  unfold fX4_addStock
  exact (K_bndV fun _ => (K_ite (hB_fX4_addStock_J19 hM (by omega)) (K_chk fun hb_ => (K_chk fun hb_ => (K_ltM (K_wrB hM (by omega)) fun _ h44 => (hB_fX4_addStock_J19 h44 (by omega)))))))
theorem hB_fX4_endRuns_J33 {g : Nat} {K2 : Mc → Int32 → Int32 → Option (Mc)} {M : Mc} {X1 : Int32} {X2 : Int32} (hM : KB w0 s v W M) (h_g : g = w0 + 1 ∧ 17 ≤ w0) (hK2 : ∀ (y0 : Mc) (y1 : Int32) (y2 : Int32), KB w0 s v W y0 → KG gM (KB w0 s v W) (K2 y0 y1 y2)) : KG gM (KB w0 s v W) (fX4_endRuns_J33 g K2 M X1 X2) := by
  unfold fX4_endRuns_J33
  exact (hK2 _ _ _ hM)
theorem hB_fX4_endRuns_L2 {g : Nat} (h_g : g = w0 + 1 ∧ 17 ≤ w0) : ∀ (n : Nat) (M : Mc) (X1 : Int32) (X2 : Int32), KB w0 s v W M → KG gM (KB w0 s v W) (fX4_endRuns_L2 g n M X1 X2)  := by
  intro n
  induction n with
  | zero => intros; rw [fX4_endRuns_L2]; exact K_none
  | succ n ih =>
    intro M X1 X2 hM
    rw [fX4_endRuns_L2]
    exact (K_ite (K_sM hM) (K_chk fun hb_ => (K_ite (K_chk fun hb_ => (K_ite (K_bndM (hB_fX4_open hM (by omega)) fun _ h45 => (hB_fX4_endRuns_J33 h45 (by omega) (fun _ _ _ hc_ => (ih _ _ _ hc_)))) (hB_fX4_endRuns_J33 hM (by omega) (fun _ _ _ hc_ => (ih _ _ _ hc_))))) (hB_fX4_endRuns_J33 hM (by omega) (fun _ _ _ hc_ => (ih _ _ _ hc_))))))
theorem hB_fX4_endRuns {M : Mc} {g : Nat} {p0 : Int32} (hM : KB w0 s v W M) (h_g : g = w0 + 1 ∧ 17 ≤ w0) : KG gM (KB w0 s v W) (fX4_endRuns M g p0) := by
  unfold fX4_endRuns
  exact (hB_fX4_endRuns_L2 (by omega) _ _ _ _ hM)
theorem hB_fX4_breed_J43 {g : Nat} {K2 : Mc → Int32 → Option (Mc)} {M : Mc} {X1 : Int32} (hM : KB w0 s v W M) (h_g : g = w0 + 1 ∧ 17 ≤ w0) (hK2 : ∀ (y0 : Mc) (y1 : Int32), KB w0 s v W y0 → KG gM (KB w0 s v W) (K2 y0 y1)) : KG gM (KB w0 s v W) (fX4_breed_J43 g K2 M X1) := by
  unfold fX4_breed_J43
  exact (hK2 _ _ hM)
theorem hB_fX4_breed_L2 {g : Nat} (h_g : g = w0 + 1 ∧ 17 ≤ w0) : ∀ (n : Nat) (M : Mc) (X1 : Int32), KB w0 s v W M → KG gM (KB w0 s v W) (fX4_breed_L2 g n M X1)  := by
  intro n
  induction n with
  | zero => intros; rw [fX4_breed_L2]; exact K_none
  | succ n ih =>
    intro M X1 hM
    rw [fX4_breed_L2]
    exact (K_ite (K_sM hM) (K_bndV fun _ => (K_ite (hB_fX4_breed_J43 hM (by omega) (fun _ _ hc_ => (ih _ _ hc_))) (K_chk fun hb_ => (K_chk fun hb_ => (K_chk fun hb_ => (K_ltM (K_wrB hM (by omega)) fun _ h46 => (hB_fX4_breed_J43 h46 (by omega) (fun _ _ hc_ => (ih _ _ hc_))))))))))
theorem hB_fX4_breed {M : Mc} {g : Nat} (hM : KB w0 s v W M) (h_g : g = w0 + 1 ∧ 17 ≤ w0) : KG gM (KB w0 s v W) (fX4_breed M g) := by
  unfold fX4_breed
  exact (hB_fX4_breed_L2 (by omega) _ _ _ hM)
theorem hB_fX4_wet {M : Mc} {g : Nat} {p0 : Int32} {p1 : Int32} (hM : KB w0 s v W M) (h_g : g = w0 + 1 ∧ 17 ≤ w0) : KG gM (KB w0 s v W) (fX4_wet M g p0 p1) := by
  unfold fX4_wet
  exact (K_bndV fun _ => (K_ite (K_sM hM) (K_chk fun hb_ => (K_chk fun hb_ => (K_ltM (K_wrB hM (by omega)) fun _ h47 => (K_sM h47))))))
theorem hB_fX4_seeZones_J40 {g : Nat} {K2 : Mc → Int32 → Option (Mc)} {M : Mc} {X1 : Int32} (hM : KB w0 s v W M) (h_g : g = w0 + 1 ∧ 17 ≤ w0) (hK2 : ∀ (y0 : Mc) (y1 : Int32), KB w0 s v W y0 → KG gM (KB w0 s v W) (K2 y0 y1)) : KG gM (KB w0 s v W) (fX4_seeZones_J40 g K2 M X1) := by
  unfold fX4_seeZones_J40
  exact (hK2 _ _ hM)
theorem hB_fX4_seeZones_L2 {g : Nat} (h_g : g = w0 + 1 ∧ 17 ≤ w0) : ∀ (n : Nat) (M : Mc) (X1 : Int32), KB w0 s v W M → KG gM (KB w0 s v W) (fX4_seeZones_L2 g n M X1)  := by
  intro n
  induction n with
  | zero => intros; rw [fX4_seeZones_L2]; exact K_none
  | succ n ih =>
    intro M X1 hM
    rw [fX4_seeZones_L2]
    exact (K_ite (K_sM hM) (K_bndV fun _ => (K_ite (hB_fX4_seeZones_J40 hM (by omega) (fun _ _ hc_ => (ih _ _ hc_))) (K_chk fun hb_ => (K_chk fun hb_ => (K_ltM (K_wrB hM (by omega)) fun _ h48 => (K_chk fun hb_ => (K_chk fun hb_ => (K_chk fun hb_ => (K_ltM (K_wrB h48 (by omega)) fun _ h49 => (hB_fX4_seeZones_J40 h49 (by omega) (fun _ _ hc_ => (ih _ _ hc_)))))))))))))
theorem hB_fX4_seeZones {M : Mc} {g : Nat} (hM : KB w0 s v W M) (h_g : g = w0 + 1 ∧ 17 ≤ w0) : KG gM (KB w0 s v W) (fX4_seeZones M g) := by
  unfold fX4_seeZones
  exact (hB_fX4_seeZones_L2 (by omega) _ _ _ hM)
theorem hB_fX4_newYear {M : Mc} {g : Nat} (hM : KB w0 s v W M) (h_g : g = w0 + 1 ∧ 17 ≤ w0) : KG gM (KB w0 s v W) (fX4_newYear M g) := by
  unfold fX4_newYear
  exact (K_bndM (hB_fJ7_fill_53178 hM (by omega)) fun _ h50 => (K_sM h50))
theorem hB_fX5_dropDone_L11 {pa : Nat} {g : Nat} (h_pa : pa = w0 + 27 ∧ 17 ≤ w0) (h_g : g = w0 + 1 ∧ 17 ≤ w0) : ∀ (n : Nat) (M : Mc) (X1 : Int32) (X3 : Int32), KB w0 s v W M → KG gM (KB w0 s v W) (fX5_dropDone_L11 pa g n M X1 X3)  := by
  intro n
  induction n with
  | zero => intros; rw [fX5_dropDone_L11]; exact K_none
  | succ n ih =>
    intro M X1 X3 hM
    rw [fX5_dropDone_L11]
    exact (K_ite (K_sM hM) (K_chk fun hb_ => (K_ite (K_sM hM) (K_bndV fun _ => (K_bndV fun _ => (K_ite (K_cpyB hM (by omega) fun _ h51 => (K_chk fun hb_ => (K_chk fun hb_ => (K_ltM (K_wrB h51 (by omega)) fun _ h52 => (ih _ _ _ h52))))) (K_sM hM)))))))
theorem hB_fX5_dropDone {M : Mc} {pa : Nat} {g : Nat} {p0 : Int32} (hM : KB w0 s v W M) (h_pa : pa = w0 + 27 ∧ 17 ≤ w0) (h_g : g = w0 + 1 ∧ 17 ≤ w0) : KG gM (KB w0 s v W) (fX5_dropDone M pa g p0) := by
  unfold fX5_dropDone
  exact (K_bndV fun _ => (K_ite (K_sM hM) (hB_fX5_dropDone_L11 (by omega) (by omega) _ _ _ _ hM)))
theorem hB_fX5_goMile_J106 {pa : Nat} {g : Nat} {M : Mc} {Z0 : Int32} {Z1 : Int32} {Z2 : Int32} (hM : KB w0 s v W M) (h_pa : pa = w0 + 27 ∧ 17 ≤ w0) (h_g : g = w0 + 1 ∧ 17 ≤ w0) : KG gM (KB w0 s v W) (fX5_goMile_J106 pa g M Z0 Z1 Z2) := by
  unfold fX5_goMile_J106
  exact (K_chk fun hb_ => (K_ltM (K_wrB hM (by omega)) fun _ h53 => (K_sM h53)))
theorem hB_fX5_goMile_J77 {pa : Nat} {g : Nat} {M : Mc} {Z0 : Int32} {Z1 : Int32} {Z2 : Int32} (hM : KB w0 s v W M) (h_pa : pa = w0 + 27 ∧ 17 ≤ w0) (h_g : g = w0 + 1 ∧ 17 ≤ w0) : KG gM (KB w0 s v W) (fX5_goMile_J77 pa g M Z0 Z1 Z2) := by
  unfold fX5_goMile_J77
  exact (K_chk fun hb_ => (K_ltM (K_wrB hM (by omega)) fun _ h54 => (K_sM h54)))
theorem hB_fX5_goMile {M : Mc} {pa : Nat} {g : Nat} {p0 : Int32} (hM : KB w0 s v W M) (h_pa : pa = w0 + 27 ∧ 17 ≤ w0) (h_g : g = w0 + 1 ∧ 17 ≤ w0) : KG gM (KB w0 s v W) (fX5_goMile M pa g p0) := by
  unfold fX5_goMile
  exact (K_bndV fun _ => (K_ite (K_sM hM) (K_bndV fun _ => (K_chk fun hb_ => (K_ite (K_bndM (hB_fX4_dig hM (by omega)) fun _ h55 => (K_sM h55)) (K_chk fun hb_ => (K_ite (K_chk fun hb_ => (K_chk fun hb_ => (K_ite (hB_fX5_goMile_J106 hM (by omega) (by omega)) (hB_fX5_goMile_J106 hM (by omega) (by omega))))) (K_chk fun hb_ => (K_chk fun hb_ => (K_ite (hB_fX5_goMile_J77 hM (by omega) (by omega)) (hB_fX5_goMile_J77 hM (by omega) (by omega))))))))))))
theorem hB_fX5_goOut_J65 {pa : Nat} {g : Nat} {K7 : Mc → Int32 → Option (Mc)} {M : Mc} {X2 : Int32} (hM : KB w0 s v W M) (h_pa : pa = w0 + 27 ∧ 17 ≤ w0) (h_g : g = w0 + 1 ∧ 17 ≤ w0) (hK7 : ∀ (y0 : Mc) (y1 : Int32), KB w0 s v W y0 → KG gM (KB w0 s v W) (K7 y0 y1)) : KG gM (KB w0 s v W) (fX5_goOut_J65 pa g K7 M X2) := by
  unfold fX5_goOut_J65
  exact (hK7 _ _ hM)
theorem hB_fX5_goOut_L27 {pa : Nat} {g : Nat} {K7 : Mc → Int32 → Option (Mc)} (h_pa : pa = w0 + 27 ∧ 17 ≤ w0) (h_g : g = w0 + 1 ∧ 17 ≤ w0) (hK7 : ∀ (y0 : Mc) (y1 : Int32), KB w0 s v W y0 → KG gM (KB w0 s v W) (K7 y0 y1)) : ∀ (n : Nat) (M : Mc) (X2 : Int32) (X3 : Int32), KB w0 s v W M → KG gM (KB w0 s v W) (fX5_goOut_L27 pa g K7 n M X2 X3)  := by
  intro n
  induction n with
  | zero => intros; rw [fX5_goOut_L27]; exact K_none
  | succ n ih =>
    intro M X2 X3 hM
    rw [fX5_goOut_L27]
    exact (K_ite (hB_fX5_goOut_J65 hM (by omega) (by omega) hK7) (K_bndM (hB_fX5_dropDone hM (by omega) (by omega)) fun _ h56 => (K_ite (hB_fX5_goOut_J65 h56 (by omega) (by omega) hK7) (K_chk fun hb_ => (K_ite (K_bndM (hB_fX5_goMile h56 (by omega) (by omega)) fun _ h57 => (ih _ _ _ h57)) (hB_fX5_goOut_J65 h56 (by omega) (by omega) hK7))))))
theorem hB_fX5_goOut_L7 {pa : Nat} {g : Nat} (h_pa : pa = w0 + 27 ∧ 17 ≤ w0) (h_g : g = w0 + 1 ∧ 17 ≤ w0) : ∀ (n : Nat) (M : Mc) (X2 : Int32), KB w0 s v W M → KG gM (KB w0 s v W) (fX5_goOut_L7 pa g n M X2)  := by
  intro n
  induction n with
  | zero => intros; rw [fX5_goOut_L7]; exact K_none
  | succ n ih =>
    intro M X2 hM
    rw [fX5_goOut_L7]
    exact (K_ite (K_sM hM) (K_ite (K_sM hM) (K_chk fun hb_ => (K_ltV fun _ => (hB_fX5_goOut_L27 (by omega) (by omega) (fun _ _ hc_ => (ih _ _ hc_)) _ _ _ _ hM)))))
theorem hB_fX5_goOut {M : Mc} {pa : Nat} {g : Nat} (hM : KB w0 s v W M) (h_pa : pa = w0 + 27 ∧ 17 ≤ w0) (h_g : g = w0 + 1 ∧ 17 ≤ w0) : KG gM (KB w0 s v W) (fX5_goOut M pa g) := by
  unfold fX5_goOut
  exact (hB_fX5_goOut_L7 (by omega) (by omega) _ _ _ hM)
theorem hB_fX8_value_J275 {z : Nat} {k0 : Nat} {k1 : Nat} {K50 : Mc → Int32 → Int32 → Int32 → Option (Int32 × Mc)} {M : Mc} {X1 : Int32} {X5 : Int32} {X8 : Int32} (hM : KB w0 s v W M) (h_k0 : k0 ≠ w0 + 15 ∧ k0 ≠ 16) (h_k1 : k1 ≠ w0 + 15 ∧ k1 ≠ 16) (hK50 : ∀ (y0 : Mc) (y1 : Int32) (y2 : Int32) (y3 : Int32), KB w0 s v W y0 → KG gP (KB w0 s v W) (K50 y0 y1 y2 y3)) : KG gP (KB w0 s v W) (fX8_value_J275 z k0 k1 K50 M X1 X5 X8) := by
  unfold fX8_value_J275
  exact (K_ltV fun _ => (hK50 _ _ _ _ hM))
theorem hB_fX8_value_J252 {z : Nat} {k0 : Nat} {k1 : Nat} {K50 : Mc → Int32 → Int32 → Int32 → Option (Int32 × Mc)} {M : Mc} {X1 : Int32} {X5 : Int32} {X8 : Int32} {Z0 : Int32} {Z1 : Int32} (hM : KB w0 s v W M) (h_k0 : k0 ≠ w0 + 15 ∧ k0 ≠ 16) (h_k1 : k1 ≠ w0 + 15 ∧ k1 ≠ 16) (hK50 : ∀ (y0 : Mc) (y1 : Int32) (y2 : Int32) (y3 : Int32), KB w0 s v W y0 → KG gP (KB w0 s v W) (K50 y0 y1 y2 y3)) : KG gP (KB w0 s v W) (fX8_value_J252 z k0 k1 K50 M X1 X5 X8 Z0 Z1) := by
  unfold fX8_value_J252
  exact (K_chk fun hb_ => (K_ltM (K_wrB hM (by omega)) fun _ h58 => (hB_fX8_value_J275 h58 (by omega) (by omega) hK50)))
theorem hB_fX8_value_J217 {z : Nat} {k0 : Nat} {k1 : Nat} {K50 : Mc → Int32 → Int32 → Int32 → Option (Int32 × Mc)} {M : Mc} {X1 : Int32} {X5 : Int32} {X8 : Int32} {Z0 : Int32} {Z1 : Int32} (hM : KB w0 s v W M) (h_k0 : k0 ≠ w0 + 15 ∧ k0 ≠ 16) (h_k1 : k1 ≠ w0 + 15 ∧ k1 ≠ 16) (hK50 : ∀ (y0 : Mc) (y1 : Int32) (y2 : Int32) (y3 : Int32), KB w0 s v W y0 → KG gP (KB w0 s v W) (K50 y0 y1 y2 y3)) : KG gP (KB w0 s v W) (fX8_value_J217 z k0 k1 K50 M X1 X5 X8 Z0 Z1) := by
  unfold fX8_value_J217
  exact (K_chk fun hb_ => (K_ltM (K_wrB hM (by omega)) fun _ h59 => (hB_fX8_value_J275 h59 (by omega) (by omega) hK50)))
theorem hB_fX8_value_J192 {z : Nat} {k0 : Nat} {k1 : Nat} {K50 : Mc → Int32 → Int32 → Int32 → Option (Int32 × Mc)} {M : Mc} {X1 : Int32} {X5 : Int32} {X8 : Int32} {Z0 : Int32} {Z1 : Int32} (hM : KB w0 s v W M) (h_k0 : k0 ≠ w0 + 15 ∧ k0 ≠ 16) (h_k1 : k1 ≠ w0 + 15 ∧ k1 ≠ 16) (hK50 : ∀ (y0 : Mc) (y1 : Int32) (y2 : Int32) (y3 : Int32), KB w0 s v W y0 → KG gP (KB w0 s v W) (K50 y0 y1 y2 y3)) : KG gP (KB w0 s v W) (fX8_value_J192 z k0 k1 K50 M X1 X5 X8 Z0 Z1) := by
  unfold fX8_value_J192
  exact (K_chk fun hb_ => (K_ltM (K_wrB hM (by omega)) fun _ h60 => (hB_fX8_value_J275 h60 (by omega) (by omega) hK50)))
theorem hB_fX8_value_J121 {z : Nat} {k0 : Nat} {k1 : Nat} {K50 : Mc → Int32 → Int32 → Int32 → Option (Int32 × Mc)} {M : Mc} {X1 : Int32} {X4 : Int32} {X5 : Int32} {X6 : Int32} {Z0 : Int32} (hM : KB w0 s v W M) (h_k0 : k0 ≠ w0 + 15 ∧ k0 ≠ 16) (h_k1 : k1 ≠ w0 + 15 ∧ k1 ≠ 16) (hK50 : ∀ (y0 : Mc) (y1 : Int32) (y2 : Int32) (y3 : Int32), KB w0 s v W y0 → KG gP (KB w0 s v W) (K50 y0 y1 y2 y3)) : KG gP (KB w0 s v W) (fX8_value_J121 z k0 k1 K50 M X1 X4 X5 X6 Z0) := by
  unfold fX8_value_J121
  exact (K_ltV fun _ => (K_ite (K_sP hM) (K_ite (K_sP hM) (K_ite (K_ite (K_ite (K_ite (hB_fX8_value_J192 hM (by omega) (by omega) hK50) (K_chk fun hb_ => (hB_fX8_value_J192 hM (by omega) (by omega) hK50))) (K_ite (K_chk fun hb_ => (K_ite (hB_fX8_value_J217 hM (by omega) (by omega) hK50) (hB_fX8_value_J217 hM (by omega) (by omega) hK50))) (K_ite (K_chk fun hb_ => (K_ite (K_chk fun hb_ => (hB_fX8_value_J252 hM (by omega) (by omega) hK50)) (K_chk fun hb_ => (hB_fX8_value_J252 hM (by omega) (by omega) hK50)))) (K_chk fun hb_ => (K_chk fun hb_ => (K_bndV fun _ => (K_chk fun hb_ => (K_ltM (K_wrB hM (by omega)) fun _ h61 => (hB_fX8_value_J275 h61 (by omega) (by omega) hK50))))))))) (K_chk fun hb_ => (K_ltM (K_wrB hM (by omega)) fun _ h62 => (hB_fX8_value_J275 h62 (by omega) (by omega) hK50)))) (K_sP hM)))))
theorem hB_fX8_value_L50 {z : Nat} {k0 : Nat} {k1 : Nat} (h_k0 : k0 ≠ w0 + 15 ∧ k0 ≠ 16) (h_k1 : k1 ≠ w0 + 15 ∧ k1 ≠ 16) : ∀ (n : Nat) (M : Mc) (X1 : Int32) (X4 : Int32) (X5 : Int32), KB w0 s v W M → KG gP (KB w0 s v W) (fX8_value_L50 z k0 k1 n M X1 X4 X5)  := by
  intro n
  induction n with
  | zero => intros; rw [fX8_value_L50]; exact K_none
  | succ n ih =>
    intro M X1 X4 X5 hM
    rw [fX8_value_L50]
    exact (K_chk fun hb_ => (K_ite (K_ite (K_chk fun hb_ => (K_sP hM)) (K_sP hM)) (K_ite (K_sP hM) (K_ite (K_chk fun hb_ => (K_ltV fun _ => (K_ite (K_ite (hB_fX8_value_J121 hM (by omega) (by omega) (fun _ _ _ _ hc_ => (ih _ _ _ _ hc_))) (K_ite (hB_fX8_value_J121 hM (by omega) (by omega) (fun _ _ _ _ hc_ => (ih _ _ _ _ hc_))) (hB_fX8_value_J121 hM (by omega) (by omega) (fun _ _ _ _ hc_ => (ih _ _ _ _ hc_))))) (hB_fX8_value_J121 hM (by omega) (by omega) (fun _ _ _ _ hc_ => (ih _ _ _ _ hc_)))))) (K_sP hM)))))
theorem hB_fX8_value {M : Mc} {z : Nat} {k0 : Nat} {k1 : Nat} {p0 : Int32} (hM : KB w0 s v W M) (h_k0 : k0 ≠ w0 + 15 ∧ k0 ≠ 16) (h_k1 : k1 ≠ w0 + 15 ∧ k1 ≠ 16) : KG gP (KB w0 s v W) (fX8_value M z k0 k1 p0) := by
  unfold fX8_value
  exact (K_ite (K_sP hM) (K_ite (K_sP hM) (K_ite (K_sP hM) (K_ite (K_chk fun hb_ => (K_ltV fun _ => (hB_fX8_value_L50 (by omega) (by omega) _ _ _ _ _ hM))) (K_sP hM)))))
theorem hB_fX2_hear {M : Mc} {co : Nat} {p0 : Int32} (hM : KB w0 s v W M) (h_co : co = w0 + 37 ∧ 17 ≤ w0) : KG gP (KB w0 s v W) (fX2_hear M co p0) := by
  unfold fX2_hear
  exact (K_bndV fun _ => (K_ite (K_sP hM) (K_bndV fun _ => (K_ite (K_sP hM) (K_chk fun hb_ => (K_ite (K_chk fun hb_ => (K_ltM (K_wrB hM (by omega)) fun _ h63 => (K_sP h63))) (K_chk fun hb_ => (K_ltM (K_wrB hM (by omega)) fun _ h64 => (K_ltM (K_wrB h64 (by omega)) fun _ h65 => (K_chk fun hb_ => (K_ltV fun _ => (K_ite (K_sP h65) (K_ite (K_sP h65) (K_sP h65))))))))))))))
theorem hB_fX2_meaning_J33 {co : Nat} {M : Mc} {X2 : Int32} {X3 : Int32} {X4 : Int32} {X5 : Int32} {X6 : Int32} (hM : KB w0 s v W M) (h_co : co = w0 + 37 ∧ 17 ≤ w0) : KG gP (KB w0 s v W) (fX2_meaning_J33 co M X2 X3 X4 X5 X6) := by
  unfold fX2_meaning_J33
  exact (K_ite (K_sP hM) (K_ite (K_sP hM) (K_chk fun hb_ => (K_sP hM))))
theorem hB_fX2_meaning_J144 {co : Nat} {M : Mc} {X9 : Int32} {X10 : Int32} {Z0 : Int32} (hM : KB w0 s v W M) (h_co : co = w0 + 37 ∧ 17 ≤ w0) : KG gP (KB w0 s v W) (fX2_meaning_J144 co M X9 X10 Z0) := by
  unfold fX2_meaning_J144
  exact (K_sP hM)
theorem hB_fX2_meaning_J129 {co : Nat} {M : Mc} {X2 : Int32} {X9 : Int32} {Z0 : Int32} (hM : KB w0 s v W M) (h_co : co = w0 + 37 ∧ 17 ≤ w0) : KG gP (KB w0 s v W) (fX2_meaning_J129 co M X2 X9 Z0) := by
  unfold fX2_meaning_J129
  exact (K_ite (hB_fX2_meaning_J144 hM (by omega)) (hB_fX2_meaning_J144 hM (by omega)))
theorem hB_fX2_meaning {M : Mc} {co : Nat} {p0 : Int32} {p1 : Int32} {p2 : Int32} {p3 : Int32} {p4 : Int32} {p5 : Int32} (hM : KB w0 s v W M) (h_co : co = w0 + 37 ∧ 17 ≤ w0) : KG gP (KB w0 s v W) (fX2_meaning M co p0 p1 p2 p3 p4 p5) := by
  unfold fX2_meaning
  exact (K_bndV fun _ => (K_ite (hB_fX2_meaning_J33 hM (by omega)) (K_ite (hB_fX2_meaning_J33 hM (by omega)) (K_chk fun hb_ => (K_ltV fun _ => (K_ite (K_ite (K_sP hM) (K_ite (K_sP hM) (K_chk fun hb_ => (K_sP hM)))) (K_chk fun hb_ => (K_ltM (K_wrB hM (by omega)) fun _ h66 => (K_chk fun hb_ => (K_ltM (K_wrB h66 (by omega)) fun _ h67 => (K_chk fun hb_ => (K_ltM (K_wrB h67 (by omega)) fun _ h68 => (K_chk fun hb_ => (K_ltM (K_wrB h68 (by omega)) fun _ h69 => (K_chk fun hb_ => (K_ltM (K_wrB h69 (by omega)) fun _ h70 => (K_bn2M (hB_fX8_value h70 (by omega) (by omega)) fun _ _ h71 => (K_ite (hB_fX2_meaning_J129 h71 (by omega)) (hB_fX2_meaning_J129 h71 (by omega))))))))))))))))))))
theorem hB_fX10_meaning {M : Mc} {w : Nat} {p0 : Int32} {p1 : Int32} (hM : KB w0 s v W M) (h_w : w = w0 ∧ 17 ≤ w0) : KG gP (KB w0 s v W) (fX10_meaning M w p0 p1) := by
  unfold fX10_meaning
  exact (K_bn2M (hB_fX2_meaning hM (by omega)) fun _ _ h72 => (K_sP h72))
theorem hB_fX10_sell_J74 {w : Nat} {M : Mc} {X1 : Int32} {X2 : Int32} {X3 : Int32} {X4 : Int32} {Z0 : Int32} (hM : KB w0 s v W M) (h_w : w = w0 ∧ 17 ≤ w0) : KG gM (KB w0 s v W) (fX10_sell_J74 w M X1 X2 X3 X4 Z0) := by
  unfold fX10_sell_J74
  exact (K_ltV fun _ => (K_bndM (hB_fX3_spend hM (by omega)) fun _ h73 => (K_ltM (K_wrB h73 (by omega)) fun _ h74 => (K_ltM (K_wrB h74 (by omega)) fun _ h75 => (K_bndM (hB_fX4_giveFarm h75 (by omega)) fun _ h76 => (K_bndM (hB_fX3_gainFarm h76 (by omega)) fun _ h77 => (K_sM h77)))))))
theorem hB_fX10_sell_J48 {w : Nat} {M : Mc} {X1 : Int32} {X2 : Int32} {X3 : Int32} {X4 : Int32} (hM : KB w0 s v W M) (h_w : w = w0 ∧ 17 ≤ w0) : KG gM (KB w0 s v W) (fX10_sell_J48 w M X1 X2 X3 X4) := by
  unfold fX10_sell_J48
  exact (K_ite (K_bndV fun _ => (hB_fX10_sell_J74 hM (by omega))) (hB_fX10_sell_J74 hM (by omega)))
theorem hB_fX10_sell {M : Mc} {w : Nat} {p0 : Int32} {p1 : Int32} {p2 : Int32} (hM : KB w0 s v W M) (h_w : w = w0 ∧ 17 ≤ w0) : KG gM (KB w0 s v W) (fX10_sell M w p0 p1 p2) := by
  unfold fX10_sell
  exact (K_ltV fun _ => (K_ite (K_bn2M (hB_fX2_meaning hM (by omega)) fun _ _ h78 => (hB_fX10_sell_J48 h78 (by omega))) (hB_fX10_sell_J48 hM (by omega))))
theorem hB_fX10_takeBack {M : Mc} {w : Nat} {p0 : Int32} (hM : KB w0 s v W M) (h_w : w = w0 ∧ 17 ≤ w0) : KG gM (KB w0 s v W) (fX10_takeBack M w p0) := by
  unfold fX10_takeBack
  exact (K_bndV fun _ => (K_bndV fun _ => (K_bndM (hB_fX4_open hM (by omega)) fun _ h79 => (K_bndM (hB_fX3_earn h79 (by omega)) fun _ h80 => (K_bndM (hB_fX3_loseFarm h80 (by omega)) fun _ h81 => (K_ltM (K_wrB h81 (by omega)) fun _ h82 => (K_sM h82)))))))
theorem hB_fX10_undoSales_J25 {w : Nat} {K2 : Mc → Int32 → Int32 → Option (Mc)} {M : Mc} {X1 : Int32} {X2 : Int32} (hM : KB w0 s v W M) (h_w : w = w0 ∧ 17 ≤ w0) (hK2 : ∀ (y0 : Mc) (y1 : Int32) (y2 : Int32), KB w0 s v W y0 → KG gM (KB w0 s v W) (K2 y0 y1 y2)) : KG gM (KB w0 s v W) (fX10_undoSales_J25 w K2 M X1 X2) := by
  unfold fX10_undoSales_J25
  exact (hK2 _ _ _ hM)
theorem hB_fX10_undoSales_L2 {w : Nat} (h_w : w = w0 ∧ 17 ≤ w0) : ∀ (n : Nat) (M : Mc) (X1 : Int32) (X2 : Int32), KB w0 s v W M → KG gM (KB w0 s v W) (fX10_undoSales_L2 w n M X1 X2)  := by
  intro n
  induction n with
  | zero => intros; rw [fX10_undoSales_L2]; exact K_none
  | succ n ih =>
    intro M X1 X2 hM
    rw [fX10_undoSales_L2]
    exact (K_ite (K_sM hM) (K_bndV fun _ => (K_ite (hB_fX10_undoSales_J25 hM (by omega) (fun _ _ _ hc_ => (ih _ _ _ hc_))) (K_bndM (hB_fX10_takeBack hM (by omega)) fun _ h83 => (hB_fX10_undoSales_J25 h83 (by omega) (fun _ _ _ hc_ => (ih _ _ _ hc_)))))))
theorem hB_fX10_undoSales {M : Mc} {w : Nat} {p0 : Int32} (hM : KB w0 s v W M) (h_w : w = w0 ∧ 17 ≤ w0) : KG gM (KB w0 s v W) (fX10_undoSales M w p0) := by
  unfold fX10_undoSales
  exact (hB_fX10_undoSales_L2 (by omega) _ _ _ _ hM)
theorem hB_fX10_readLaws_J39 {w : Nat} {K2 : Mc → Int32 → Option (Mc)} {M : Mc} {X1 : Int32} (hM : KB w0 s v W M) (h_w : w = w0 ∧ 17 ≤ w0) (hK2 : ∀ (y0 : Mc) (y1 : Int32), KB w0 s v W y0 → KG gM (KB w0 s v W) (K2 y0 y1)) : KG gM (KB w0 s v W) (fX10_readLaws_J39 w K2 M X1) := by
  unfold fX10_readLaws_J39
  exact (hK2 _ _ hM)
theorem hB_fX10_readLaws_L2 {w : Nat} (h_w : w = w0 ∧ 17 ≤ w0) : ∀ (n : Nat) (M : Mc) (X1 : Int32), KB w0 s v W M → KG gM (KB w0 s v W) (fX10_readLaws_L2 w n M X1)  := by
  intro n
  induction n with
  | zero => intros; rw [fX10_readLaws_L2]; exact K_none
  | succ n ih =>
    intro M X1 hM
    rw [fX10_readLaws_L2]
    exact (K_ite (K_sM hM) (K_bndV fun _ => (K_ite (hB_fX10_readLaws_J39 hM (by omega) (fun _ _ hc_ => (ih _ _ hc_))) (K_bn2M (hB_fX2_hear hM (by omega)) fun _ _ h84 => (K_ite (hB_fX10_readLaws_J39 h84 (by omega) (fun _ _ hc_ => (ih _ _ hc_))) (K_bndM (hB_fX10_undoSales h84 (by omega)) fun _ h85 => (hB_fX10_readLaws_J39 h85 (by omega) (fun _ _ hc_ => (ih _ _ hc_)))))))))
theorem hB_fX10_readLaws {M : Mc} {w : Nat} (hM : KB w0 s v W M) (h_w : w = w0 ∧ 17 ≤ w0) : KG gM (KB w0 s v W) (fX10_readLaws M w) := by
  unfold fX10_readLaws
  exact (hB_fX10_readLaws_L2 (by omega) _ _ _ hM)
theorem hB_fX10_lookAround_J78 {w : Nat} {M : Mc} {X1 : Int32} (hM : KB w0 s v W M) (h_w : w = w0 ∧ 17 ≤ w0) : KG gM (KB w0 s v W) (fX10_lookAround_J78 w M X1) := by
  unfold fX10_lookAround_J78
  exact (K_bn2M (hB_fX2_meaning hM (by omega)) fun _ _ h86 => (K_ltM (K_wrB h86 (by omega)) fun _ h87 => (K_ltM (K_wrB h87 (by omega)) fun _ h88 => (K_ltM (K_wrB h88 (by omega)) fun _ h89 => (K_sM h89)))))
theorem hB_fX10_lookAround {M : Mc} {w : Nat} (hM : KB w0 s v W M) (h_w : w = w0 ∧ 17 ≤ w0) : KG gM (KB w0 s v W) (fX10_lookAround M w) := by
  unfold fX10_lookAround
  exact (K_ltV fun _ => (K_bndV fun _ => (K_ltM (K_wrB hM (by omega)) fun _ h90 => (K_ltM (K_wrB h90 (by omega)) fun _ h91 => (K_ite (K_bndV fun _ => (K_bn2M (hB_fX2_meaning h91 (by omega)) fun _ _ h92 => (K_ltM (K_wrB h92 (by omega)) fun _ h93 => (hB_fX10_lookAround_J78 h93 (by omega))))) (hB_fX10_lookAround_J78 h91 (by omega)))))))
theorem hB_fX10_seekWork_J34 {w : Nat} {M : Mc} {X1 : Int32} {X2 : Int32} {Z0 : Int32} (hM : KB w0 s v W M) (h_w : w = w0 ∧ 17 ≤ w0) : KG gM (KB w0 s v W) (fX10_seekWork_J34 w M X1 X2 Z0) := by
  unfold fX10_seekWork_J34
  exact (K_chp (K_ltM (K_wrB hM (by omega)) fun _ h94 => (K_bndM (hB_fX3_hireBy h94 (by omega)) fun _ h95 => (K_sM h95))))
theorem hB_fX10_seekWork_J22 {w : Nat} {M : Mc} {X1 : Int32} {Z0 : Int32} (hM : KB w0 s v W M) (h_w : w = w0 ∧ 17 ≤ w0) : KG gM (KB w0 s v W) (fX10_seekWork_J22 w M X1 Z0) := by
  unfold fX10_seekWork_J22
  exact (K_ite (hB_fX10_seekWork_J34 hM (by omega)) (hB_fX10_seekWork_J34 hM (by omega)))
theorem hB_fX10_seekWork {M : Mc} {w : Nat} {p0 : Int32} (hM : KB w0 s v W M) (h_w : w = w0 ∧ 17 ≤ w0) : KG gM (KB w0 s v W) (fX10_seekWork M w p0) := by
  unfold fX10_seekWork
  exact (K_ite (K_bndV fun _ => (hB_fX10_seekWork_J22 hM (by omega))) (hB_fX10_seekWork_J22 hM (by omega)))
theorem hB_fX10_rainFalls_J39 {w : Nat} {K2 : Mc → Int32 → Option (Mc)} {M : Mc} {X1 : Int32} {Z0 : Int32} {Z1 : Int32} (hM : KB w0 s v W M) (h_w : w = w0 ∧ 17 ≤ w0) (hK2 : ∀ (y0 : Mc) (y1 : Int32), KB w0 s v W y0 → KG gM (KB w0 s v W) (K2 y0 y1)) : KG gM (KB w0 s v W) (fX10_rainFalls_J39 w K2 M X1 Z0 Z1) := by
  unfold fX10_rainFalls_J39
  exact (K_bndM (hB_fX4_wet hM (by omega)) fun _ h96 => (hK2 _ _ h96))
theorem hB_fX10_rainFalls_L2 {w : Nat} (h_w : w = w0 ∧ 17 ≤ w0) : ∀ (n : Nat) (M : Mc) (X1 : Int32), KB w0 s v W M → KG gM (KB w0 s v W) (fX10_rainFalls_L2 w n M X1)  := by
  intro n
  induction n with
  | zero => intros; rw [fX10_rainFalls_L2]; exact K_none
  | succ n ih =>
    intro M X1 hM
    rw [fX10_rainFalls_L2]
    exact (K_ite (K_sM hM) (K_ite (K_bndV fun _ => (hB_fX10_rainFalls_J39 hM (by omega) (fun _ _ hc_ => (ih _ _ hc_)))) (hB_fX10_rainFalls_J39 hM (by omega) (fun _ _ hc_ => (ih _ _ hc_)))))
theorem hB_fX10_rainFalls {M : Mc} {w : Nat} (hM : KB w0 s v W M) (h_w : w = w0 ∧ 17 ≤ w0) : KG gM (KB w0 s v W) (fX10_rainFalls M w) := by
  unfold fX10_rainFalls
  exact (hB_fX10_rainFalls_L2 (by omega) _ _ _ hM)
theorem hB_fX10_stray {M : Mc} {w : Nat} {p0 : Int32} (hM : KB w0 s v W M) (h_w : w = w0 ∧ 17 ≤ w0) : KG gM (KB w0 s v W) (fX10_stray M w p0) := by
  unfold fX10_stray
  exact (K_bndV fun _ => (K_ltV fun _ => (K_bndV fun _ => (K_ite (K_bn2M (hB_fX4_addStock hM (by omega)) fun _ _ h97 => (K_sM h97)) (K_bndV fun _ => (K_bndV fun _ => (K_bn2M (hB_fX10_meaning hM (by omega)) fun _ _ h98 => (K_ltV fun _ => (K_bndM (hB_fX3_spend h98 (by omega)) fun _ h99 => (K_bndV fun _ => (K_bndM (hB_fX3_earn h99 (by omega)) fun _ h100 => (K_sM h100))))))))))))
theorem hB_fX10_reap {M : Mc} {w : Nat} {p0 : Int32} (hM : KB w0 s v W M) (h_w : w = w0 ∧ 17 ≤ w0) : KG gM (KB w0 s v W) (fX10_reap M w p0) := by
  unfold fX10_reap
  exact (K_bndV fun _ => (K_bndV fun _ => (K_ite (K_bndV fun _ => (K_bndV fun _ => (K_bndV fun _ => (K_bndV fun _ => (K_ltV fun _ => (K_ltM (K_wrB hM (by omega)) fun _ h101 => (K_bndM (hB_fX3_earn h101 (by omega)) fun _ h102 => (K_sM h102)))))))) (K_sM hM))))
theorem hB_fX10_endYear_J31 {w : Nat} {K9 : Mc → Int32 → Option (Mc)} {M : Mc} {X1 : Int32} (hM : KB w0 s v W M) (h_w : w = w0 ∧ 17 ≤ w0) (hK9 : ∀ (y0 : Mc) (y1 : Int32), KB w0 s v W y0 → KG gM (KB w0 s v W) (K9 y0 y1)) : KG gM (KB w0 s v W) (fX10_endYear_J31 w K9 M X1) := by
  unfold fX10_endYear_J31
  exact (hK9 _ _ hM)
theorem hB_fX10_endYear_L9 {w : Nat} (h_w : w = w0 ∧ 17 ≤ w0) : ∀ (n : Nat) (M : Mc) (X1 : Int32), KB w0 s v W M → KG gM (KB w0 s v W) (fX10_endYear_L9 w n M X1)  := by
  intro n
  induction n with
  | zero => intros; rw [fX10_endYear_L9]; exact K_none
  | succ n ih =>
    intro M X1 hM
    rw [fX10_endYear_L9]
    exact (K_ite (K_bndM (hB_fX4_breed hM (by omega)) fun _ h103 => (K_bndM (hB_fX4_newYear h103 (by omega)) fun _ h104 => (K_sM h104))) (K_bndV fun _ => (K_ite (hB_fX10_endYear_J31 hM (by omega) (fun _ _ hc_ => (ih _ _ hc_))) (K_bndM (hB_fX10_reap hM (by omega)) fun _ h105 => (hB_fX10_endYear_J31 h105 (by omega) (fun _ _ hc_ => (ih _ _ hc_)))))))
theorem hB_fX10_endYear {M : Mc} {w : Nat} (hM : KB w0 s v W M) (h_w : w = w0 ∧ 17 ≤ w0) : KG gM (KB w0 s v W) (fX10_endYear M w) := by
  unfold fX10_endYear
  exact (K_bndM (hB_fX4_seeZones hM (by omega)) fun _ h106 => (hB_fX10_endYear_L9 (by omega) _ _ _ h106))
theorem hB_fX10_goOn_J80 {w : Nat} {K53 : Mc → Int32 → Option (Mc)} {M : Mc} {X1 : Int32} (hM : KB w0 s v W M) (h_w : w = w0 ∧ 17 ≤ w0) (hK53 : ∀ (y0 : Mc) (y1 : Int32), KB w0 s v W y0 → KG gM (KB w0 s v W) (K53 y0 y1)) : KG gM (KB w0 s v W) (fX10_goOn_J80 w K53 M X1) := by
  unfold fX10_goOn_J80
  exact (hK53 _ _ hM)
theorem hB_fX10_goOn_J147 {w : Nat} {M : Mc} (hM : KB w0 s v W M) (h_w : w = w0 ∧ 17 ≤ w0) : KG gM (KB w0 s v W) (fX10_goOn_J147 w M) := by
  unfold fX10_goOn_J147
  exact (K_ltM (K_wrB hM (by omega)) fun _ h107 => (K_sM h107))
theorem hB_fX10_goOn_J114 {w : Nat} {K92 : Mc → Int32 → Option (Mc)} {M : Mc} {X1 : Int32} (hM : KB w0 s v W M) (h_w : w = w0 ∧ 17 ≤ w0) (hK92 : ∀ (y0 : Mc) (y1 : Int32), KB w0 s v W y0 → KG gM (KB w0 s v W) (K92 y0 y1)) : KG gM (KB w0 s v W) (fX10_goOn_J114 w K92 M X1) := by
  unfold fX10_goOn_J114
  exact (hK92 _ _ hM)
theorem hB_fX10_goOn_L92 {w : Nat} (h_w : w = w0 ∧ 17 ≤ w0) : ∀ (n : Nat) (M : Mc) (X1 : Int32), KB w0 s v W M → KG gM (KB w0 s v W) (fX10_goOn_L92 w n M X1)  := by
  intro n
  induction n with
  | zero => intros; rw [fX10_goOn_L92]; exact K_none
  | succ n ih =>
    intro M X1 hM
    rw [fX10_goOn_L92]
    exact (K_ite (K_bndM (hB_fX4_endRuns hM (by omega)) fun _ h108 => (K_ite (K_bndM (hB_fX10_endYear h108 (by omega)) fun _ h109 => (hB_fX10_goOn_J147 h109 (by omega))) (hB_fX10_goOn_J147 h108 (by omega)))) (K_bndV fun _ => (K_ite (hB_fX10_goOn_J114 hM (by omega) (fun _ _ hc_ => (ih _ _ hc_))) (K_bndM (hB_fX10_stray hM (by omega)) fun _ h110 => (hB_fX10_goOn_J114 h110 (by omega) (fun _ _ hc_ => (ih _ _ hc_)))))))
theorem hQ_starve {M : Mc} {q : Nat} {p0 : Int32} (hM : KB w0 s v W M) (h_q : q = w0 + 15 ∧ 17 ≤ w0) : KG gM (KB1 w0 s v W) (fX3_starve M q p0) := by
  obtain ⟨rfl, hw⟩ := h_q
  unfold fX3_starve
  refine K_bndV fun _ => K_ite (K_sM (Or.inl hM)) (K_chk fun _ => K_chk fun _ => K_ltM (P := KB w0 s v W) (K_wrB hM (by omega)) fun M3 h3 => ?_)
  rw [za_lt]
  refine K_sM (Or.inr ⟨?_, ?_, ?_⟩)
  · rw [za_wri (by omega)]; exact h3.1
  · rw [za_wrs, h3.2.1]
  · rw [za_wrc (by omega)]; exact h3.2.2

theorem hQ_fX10_act_J108 {w : Nat} {M : Mc} {X1 : Int32} (hM : KB w0 s v W M) (h_w : w = w0 ∧ 17 ≤ w0) : KG gM (KB1 w0 s v W) (fX10_act_J108 w M X1) := by
  unfold fX10_act_J108
  exact (K_ite (K_bndM (hQ_starve hM (by omega)) fun _ hz_ => K_sM hz_) (K_ltM (K_wrB hM (by omega)) fun _ h111 => (K_sM (Or.inl h111))))
theorem hQ_fX10_act_J91 {w : Nat} {M : Mc} {X1 : Int32} (hM : KB w0 s v W M) (h_w : w = w0 ∧ 17 ≤ w0) : KG gM (KB1 w0 s v W) (fX10_act_J91 w M X1) := by
  unfold fX10_act_J91
  exact (K_bndV fun _ => (K_ite (K_bndM (hB_fX10_seekWork hM (by omega)) fun _ h112 => (hQ_fX10_act_J108 h112 (by omega))) (hQ_fX10_act_J108 hM (by omega))))
theorem hQ_fX10_act_J35 {w : Nat} {M : Mc} {X1 : Int32} (hM : KB w0 s v W M) (h_w : w = w0 ∧ 17 ≤ w0) : KG gM (KB1 w0 s v W) (fX10_act_J35 w M X1) := by
  unfold fX10_act_J35
  exact (K_bndV fun _ => (K_ite (hQ_fX10_act_J91 hM (by omega)) (K_ite (hQ_fX10_act_J91 hM (by omega)) (K_bndV fun _ => (K_ite (hQ_fX10_act_J91 hM (by omega)) (K_bndM (hB_fX10_sell hM (by omega)) fun _ h113 => (K_ltM (K_wrB h113 (by omega)) fun _ h114 => (hQ_fX10_act_J91 h114 (by omega)))))))))
theorem hQ_fX10_act_J11 {w : Nat} {M : Mc} {X1 : Int32} (hM : KB w0 s v W M) (h_w : w = w0 ∧ 17 ≤ w0) : KG gM (KB1 w0 s v W) (fX10_act_J11 w M X1) := by
  unfold fX10_act_J11
  exact (K_bndV fun _ => (K_ite (K_bndM (hB_fX3_payWage hM (by omega)) fun _ h115 => (hQ_fX10_act_J35 h115 (by omega))) (hQ_fX10_act_J35 hM (by omega))))
theorem hQ_fX10_act {M : Mc} {w : Nat} {p0 : Int32} (hM : KB w0 s v W M) (h_w : w = w0 ∧ 17 ≤ w0) : KG gM (KB1 w0 s v W) (fX10_act M w p0) := by
  unfold fX10_act
  exact (K_ite (hQ_fX10_act_J11 hM (by omega)) (K_bndM (hB_fX10_lookAround hM (by omega)) fun _ h116 => (hQ_fX10_act_J11 h116 (by omega))))
/-- a week, person by person -/
theorem hun_L {n : Nat} (hn : n ≤ 100) : ∀ k fu i h (M : Mc), i + k = n → k < fu → 17 ≤ w0 → KB w0 (nI n) (nI h) W M → KG gM (fun M' => (∃ j, j ≤ k ∧ M' (w0 + 15) 2 = nI (h + j)) ∧ M' 16 = W) (fX10_goOn_L53 w0 fu M (nI i))
  | k, 0, _, _, _, _, hf, _, _ => by omega
  | 0, fu + 1, i, h, M, hi, _, hw, hM => by
    obtain rfl : i = n := by omega
    rw [fX10_goOn_L53, hM.1, if_pos (nI_le (Nat.le_refl _) (by omega))]
    refine K_bndM (hB_fX10_rainFalls hM (by omega)) fun M2 h2 => ?_
    intro r M' e1 e2
    have := hB_fX10_goOn_L92 ⟨rfl, hw⟩ FU M2 0 h2 r M' e1 e2
    exact ⟨⟨0, Nat.le_refl _, this.2.1⟩, this.2.2⟩
  | k + 1, fu + 1, i, h, M, hi, hf, hw, hM => by
    rw [fX10_goOn_L53, hM.1, if_neg (nI_ge (by omega) (by omega))]
    unfold fX10_goOn_J80
    rw [nI_add]
    refine K_bndV fun _ => K_ite ?_ (K_bndM (hQ_fX10_act hM ⟨rfl, hw⟩) fun M2 h2 => ?_)
    · intro r M' e1 e2
      obtain ⟨⟨j, j1, j2⟩, j3⟩ := hun_L hn k fu (i + 1) h M (by omega) (by omega) hw hM r M' e1 e2
      exact ⟨⟨j, by omega, j2⟩, j3⟩
    · rcases h2 with h2 | h2
      · intro r M' e1 e2
        obtain ⟨⟨j, j1, j2⟩, j3⟩ := hun_L hn k fu (i + 1) h M2 (by omega) (by omega) hw h2 r M' e1 e2
        exact ⟨⟨j, by omega, j2⟩, j3⟩
      · rw [nI_add] at h2
        intro r M' e1 e2
        obtain ⟨⟨j, j1, j2⟩, j3⟩ := hun_L hn k fu (i + 1) (h + 1) M2 (by omega) (by omega) hw h2 r M' e1 e2
        exact ⟨⟨j + 1, by omega, by rw [j2]; congr 1; omega⟩, j3⟩
theorem hun_week2 {n h : Nat} {M M' : Mc} (hw : 17 ≤ w0) (hn : n ≤ 100) (h0 : M (w0 + 15) 0 = nI n) (h2 : M (w0 + 15) 2 = nI h) (e : fX10_goOn M w0 = some M') : (∃ j, j ≤ n ∧ M' (w0 + 15) 2 = nI (h + j)) ∧ M' 16 = M 16 := by
  have key : KG gM (fun M' => (∃ j, j ≤ n ∧ M' (w0 + 15) 2 = nI (h + j)) ∧ M' 16 = M 16) (fX10_goOn M w0) := by
    unfold fX10_goOn
    refine K_bndM (hB_fX3_disembark (M := M) (w0 := w0) (s := nI n) (v := nI h) (W := M 16) ⟨h0, h2, rfl⟩ (by omega)) fun M2 g2 => K_bndM (hB_fX10_readLaws g2 (by omega)) fun M4 g4 => K_bn2M (hB_fX1_readDue g4 (by omega)) fun v6 M7 g7 => K_ltM (K_wrB g7 (by omega)) fun M8 g8 => K_bndM (hB_fX5_goOut g8 (by omega) (by omega)) fun M10 g10 => K_ltM (K_wrB g10 (by omega)) fun M11 g11 => ?_
    rw [za_0]
    exact hun_L hn n FU 0 h M11 (by omega) (by rw [za_FU]; omega) hw g11
  exact key M' M' e rfl
theorem hun_week {n h : Nat} {M M' : Mc} (hw : 17 ≤ w0) (hn : n ≤ 100) (h0 : M (w0 + 15) 0 = nI n) (h2 : M (w0 + 15) 2 = nI h) (e : fX10_goOn M w0 = some M') : ∃ j, j ≤ n ∧ M' (w0 + 15) 2 = nI (h + j) := (hun_week2 hw hn h0 h2 e).1

end KBs
