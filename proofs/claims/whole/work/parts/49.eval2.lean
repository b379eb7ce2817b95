theorem ev_num {v : Nat} (h : v < 2 ^ 31) : ¬ nI v < (-5 : Int32) := by
  rw [Int32.lt_iff_toInt_lt, nI_toInt h]; have h2 : (-5 : Int32).toInt = -5 := by decide
  omega
theorem ev_fact : ∀ k, k < 5 → ¬ ((-1 : Int32) - nI k < (-5 : Int32)) ∧ (-1 : Int32) - nI k < 0 ∧ (-1 : Int32) - ((-1 : Int32) - nI k) = nI k ∧ (k = 0 ∨ ¬ nI k = 0) ∧ (k = 1 ∨ ¬ nI k = nI 1) ∧ (k = 2 ∨ ¬ nI k = nI 2) ∧ (k = 3 ∨ ¬ nI k = nI 3) := by decide +kernel
section EV
variable {z k0 k1 : Nat} {C R : Mc} {k i e len d m b : Nat}
/-- the class's step begins -/
theorem ev_c (hk : k < 8) (he : C (z + 3) k = nI e) (hi : i < e) (he3 : e ≤ 300) (hl : dlen C (z + 1) = len) (hil : i < len) (hlen : len ≤ 300) (fu : Nat) (X4 : Int32) : fX8_value_L50 z k0 k1 (fu + 1) C (nI k) X4 (nI i) =
    (if C (z + 1) i < (-5) then (if C (z + 1) i = (-18) then (fX8_value_J121 z k0 k1 (fun M X0 X1 X2 => fX8_value_L50 z k0 k1 fu M X0 X1 X2) C (nI k) X4 (nI i) (C (z + 1) i) (nI 1)) else (if C (z + 1) i = (-19) then (fX8_value_J121 z k0 k1 (fun M X0 X1 X2 => fX8_value_L50 z k0 k1 fu M X0 X1 X2) C (nI k) X4 (nI i) (C (z + 1) i) (nI 3)) else (fX8_value_J121 z k0 k1 (fun M X0 X1 X2 => fX8_value_L50 z k0 k1 fu M X0 X1 X2) C (nI k) X4 (nI i) (C (z + 1) i) (nI 2)))) else (fX8_value_J121 z k0 k1 (fun M X0 X1 X2 => fX8_value_L50 z k0 k1 fu M X0 X1 X2) C (nI k) X4 (nI i) (C (z + 1) i) 0)) := by
  rw [fX8_value_L50]
  rw [za_chk _ (by omega) (by omega), nI_clamp (by omega), he, if_neg (nI_ge hi (by omega)), if_neg (nI_pos (by omega)), hl, if_pos (nI_lt hil (by omega)), za_chk _ hil (by omega), za_lt, nI_clamp (by omega)]
/-- the class's step, with its places told -/
theorem ev_j {K : Mc → Int32 → Int32 → Int32 → Option (Int32 × Mc)} {X1 X6 : Int32} (hd : d < 300) (hm : d = m + b) (hb : b ≤ 3) : fX8_value_J121 z k0 k1 K C X1 (nI d) (nI i) X6 (nI b) = (if X6 < 0 then (if nI b = 0 then (if (nI 5) ≤ ((-1) - X6) then (fX8_value_J192 z k0 k1 K C X1 (nI i) (nI m) 0 (nI m)) else chk ((-1) - X6) (5) ((fX8_value_J192 z k0 k1 K C X1 (nI i) (nI m) (C k0 ((-1) - X6).toNatClampNeg) (nI m)))) else (if nI b = (nI 1) then chk (nI m) (300) ((if (C k1 (nI m).toNatClampNeg) = 0 then (fX8_value_J217 z k0 k1 K C X1 (nI i) (nI m) (nI 1) (nI m)) else (fX8_value_J217 z k0 k1 K C X1 (nI i) (nI m) 0 (nI m)))) else (if nI b = (nI 3) then chk (nI m) (300) ((if (C k1 (nI m).toNatClampNeg) = 0 then chk (nI m + (nI 2)) (300) ((fX8_value_J252 z k0 k1 K C X1 (nI i) (nI m) (C k1 (nI m + (nI 2)).toNatClampNeg) (nI m))) else chk (nI m + (nI 1)) (300) ((fX8_value_J252 z k0 k1 K C X1 (nI i) (nI m) (C k1 (nI m + (nI 1)).toNatClampNeg) (nI m))))) else chk (nI m) (300) (chk (nI m + (nI 1)) (300) (bnd (fX8_join X6 (C k1 (nI m).toNatClampNeg) (C k1 (nI m + (nI 1)).toNatClampNeg)) fun v5 => chk (nI m) 300 (lt (wr C k1 (nI m).toNatClampNeg v5) fun M6 => (fX8_value_J275 z k0 k1 K M6 X1 (nI i) (nI m)))))))) else chk (nI m) 300 (lt (wr C k1 (nI m).toNatClampNeg X6) fun M7 => (fX8_value_J275 z k0 k1 K M7 X1 (nI i) (nI m)))) := by
  unfold fX8_value_J121
  rw [show nI d - nI b = nI m by rw [za_sub (by omega)]; congr 1; omega, za_lt, if_neg (nI_pos (by omega)), if_neg (nI_ge (by omega) (by omega)), if_pos (nI_le (by omega) (by omega))]
theorem ev_275 {K : Mc → Int32 → Int32 → Int32 → Option (Int32 × Mc)} {X1 : Int32} : fX8_value_J275 z k0 k1 K C X1 (nI i) (nI m) = K C X1 (nI (m + 1)) (nI (i + 1)) := by
  unfold fX8_value_J275; rw [za_lt, nI_add, nI_add]
/-- one cell of the code, on both sides -/
theorem ev_step {ri f : Nat} {wk sd pe so : Int32} {T T' : List Bool} (hk : k < 8) (he : C (z + 3) k = nI e) (hi : i < e) (he3 : e ≤ 300) (hl : dlen C (z + 1) = len) (hil : i < len) (hlen : len ≤ 300) (hri : ri < 4800)
    (hf0 : C k0 0 = wk) (hf1 : C k0 1 = wk / nI 52) (hf2 : C k0 2 = sd) (hf3 : C k0 3 = pe) (hf4 : C k0 4 = so) (hT3 : T.length < 300)
    (hc : cS (C (z + 1) i) (R 135 ri) (R 136 ri) T T') (hst : ∀ j, j < T.length → C k1 j = R 140 j) (hok : okT (R 140) T) :
    ∃ v p, (∀ fu, fX8_value_L50 z k0 k1 (fu + 1) C (nI k) (nI T.length) (nI i) = fX8_value_L50 z k0 k1 fu (wr C k1 p v) (nI k) (nI T'.length) (nI (i + 1))) ∧ (∀ fu, fX12_value_L22 (fu + 1) R wk sd pe so (nI T.length) (nI ri) = fX12_value_L22 fu (wr R 140 p v) wk sd pe so (nI T'.length) (nI (ri + 1))) ∧ (∀ j, j < T'.length → wr C k1 p v k1 j = wr R 140 p v 140 j) ∧ okT (wr R 140 p v 140) T' ∧ T'.length ≤ T.length + 1 := by
  have hstk : ∀ (v : Int32) (p : Nat) (b : Bool) (T0 : List Bool), T0.length = p → p ≤ T.length → (∀ g, okT g T → okT g T0) → (b = true → isZ v) → (∀ j, j < (b :: T0).length → wr C k1 p v k1 j = wr R 140 p v 140 j) ∧ okT (wr R 140 p v 140) (b :: T0) := by
    intro v p b T0 hp hpT ho hb
    refine ⟨fun j hj => ?_, ⟨fun h => by rw [hp, za_wrs]; exact hb h, okT_cg (fun j hj => za_wri (by omega)) (ho _ hok)⟩⟩
    by_cases e : j = p
    · subst e; rw [za_wrs, za_wrs]
    · rw [za_wri e, za_wri e]; exact hst j (by simp at hj; omega)
  rcases hc with ⟨v, hv, hx, hcd, hnu, rfl⟩ | ⟨q, hq, hx, hcd, hnu, rfl⟩ | ⟨b, r, T0, hB, rfl, rfl⟩ | ⟨hx, hcd, T0, rfl, rfl⟩ | ⟨hx, hcd, T0, rfl, rfl⟩
  · refine ⟨nI v, T.length, fun fu => ?_, fun fu => ?_, (hstk _ _ false T rfl (Nat.le_refl _) (fun _ h => h) (fun h => absurd h (by decide))).1, (hstk _ _ false T rfl (Nat.le_refl _) (fun _ h => h) (fun h => absurd h (by decide))).2, by simp⟩
    · rw [ev_c hk he hi he3 hl hil hlen, hx, if_neg (ev_num hv), za_0, ev_j hT3 (m := T.length) rfl (by omega), ← za_0, if_neg (nI_pos hv), za_chk _ hT3 (by omega), za_lt, ev_275, nI_clamp (by omega)]
      rfl
    · rw [fX12_value_L22]
      rw [za_chk _ hri (by omega), nI_clamp (by omega), hcd, if_neg (by decide +kernel), za_chk _ hri (by omega), za_lt, za_chk _ hri (by omega), za_lt, if_pos rfl, hnu]
      unfold fX12_value_J64
      rw [if_pos rfl]
      unfold fX12_value_J126 fX12_value_J250
      rw [za_chk _ (by omega) (by omega), za_lt, nI_clamp (by omega), nI_add, nI_add]
      rfl
  · obtain ⟨q1, q2, q3, q4, q5, q6, q7⟩ := ev_fact q hq
    have hval : ∃ u, C k0 q = u ∧ ∀ fu, fX12_value_J64 (fun M X0 X1 X2 X3 X4 X5 => fX12_value_L22 fu M X0 X1 X2 X3 X4 X5) R wk sd pe so (nI T.length) (nI ri) (nI 15) (nI q) = fX12_value_J126 (fun M X0 X1 X2 X3 X4 X5 => fX12_value_L22 fu M X0 X1 X2 X3 X4 X5) R wk sd pe so (nI T.length) (nI ri) u (nI T.length) := by
      rcases (show q = 0 ∨ q = 1 ∨ q = 2 ∨ q = 3 ∨ q = 4 by omega) with rfl | rfl | rfl | rfl | rfl
      · exact ⟨wk, hf0, fun fu => by unfold fX12_value_J64; rw [if_neg (by decide +kernel), if_pos (by decide +kernel)]⟩
      · exact ⟨wk / nI 52, hf1, fun fu => by unfold fX12_value_J64; rw [if_neg (by decide +kernel), if_neg (by decide +kernel), if_pos rfl]⟩
      · exact ⟨sd, hf2, fun fu => by unfold fX12_value_J64; rw [if_neg (by decide +kernel), if_neg (by decide +kernel), if_neg (by decide +kernel), if_pos rfl]⟩
      · exact ⟨pe, hf3, fun fu => by unfold fX12_value_J64; rw [if_neg (by decide +kernel), if_neg (by decide +kernel), if_neg (by decide +kernel), if_neg (by decide +kernel), if_pos rfl]⟩
      · exact ⟨so, hf4, fun fu => by unfold fX12_value_J64; rw [if_neg (by decide +kernel), if_neg (by decide +kernel), if_neg (by decide +kernel), if_neg (by decide +kernel), if_neg (by decide +kernel)]⟩
    obtain ⟨u, hu, hR⟩ := hval
    refine ⟨u, T.length, fun fu => ?_, fun fu => ?_, (hstk _ _ false T rfl (Nat.le_refl _) (fun _ h => h) (fun h => absurd h (by decide))).1, (hstk _ _ false T rfl (Nat.le_refl _) (fun _ h => h) (fun h => absurd h (by decide))).2, by simp⟩
    · rw [ev_c hk he hi he3 hl hil hlen, hx, if_neg q1, za_0, ev_j hT3 (m := T.length) rfl (by omega), ← za_0, if_pos q2, if_pos rfl, q3, if_neg (nI_ge hq (by omega)), za_chk _ hq (by omega), nI_clamp (by omega), hu]
      unfold fX8_value_J192
      rw [za_chk _ hT3 (by omega), za_lt, ev_275, nI_clamp (by omega)]
      rfl
    · rw [fX12_value_L22]
      rw [za_chk _ hri (by omega), nI_clamp (by omega), hcd, if_neg (by decide +kernel), za_chk _ hri (by omega), za_lt, za_chk _ hri (by omega), za_lt, if_neg (by decide +kernel), if_pos rfl, hnu, hR]
      unfold fX12_value_J126 fX12_value_J250
      rw [za_chk _ (by omega) (by omega), za_lt, nI_clamp (by omega), nI_add, nI_add]
      rfl
  · have hl0 : (b :: b :: T0).length = T0.length + 2 := rfl
    have ha : b = true → isZ (R 140 T0.length) := fun h => hok.2.1 h
    have hb2 : b = true → isZ (R 140 (T0.length + 1)) := fun h => hok.1 h
    obtain ⟨v, hj, hw, hz⟩ := join_w hB ha hb2
    have hxx : C (z + 1) i < -5 ∧ C (z + 1) i ≠ -18 ∧ C (z + 1) i ≠ -19 ∧ C (z + 1) i < 0 ∧ R 135 ri ≠ nI 16 ∧ R 135 ri ≠ 0 ∧ R 135 ri ≠ nI 15 ∧ R 135 ri ≠ nI 11 ∧ R 135 ri ≠ nI 8 := by
      unfold cB at hB
      rcases hB with ⟨h1, h2, _, _⟩ | ⟨h1, h2, _, _⟩ | ⟨h1, h2, _, _⟩ | ⟨h1, h2, _, _⟩ | ⟨h1, h2, _, _⟩ | ⟨h1, h2, _, _⟩ | ⟨h1, h2, _, _⟩ | ⟨h1, h2, _, _⟩ | ⟨h1, h2, _, _⟩ | ⟨h1, h2, _, _⟩ | ⟨h1, h2, _, _⟩ | ⟨h1, h2, _, _⟩ <;> rw [h1, h2] <;> decide +kernel
    obtain ⟨x1, x2, x3, x4, y1, y2, y3, y4, y5⟩ := hxx
    refine ⟨v, T0.length, fun fu => ?_, fun fu => ?_, (hstk _ _ r T0 rfl (by rw [hl0]; omega) (fun _ h => h.2.2) hz).1, (hstk _ _ r T0 rfl (by rw [hl0]; omega) (fun _ h => h.2.2) hz).2, by simp⟩
    · rw [ev_c hk he hi he3 hl hil hlen, if_pos x1, if_neg x2, if_neg x3, ev_j hT3 (m := T0.length) hl0 (by omega), if_pos x4, if_neg (by decide +kernel), if_neg (by decide +kernel), if_neg (by decide +kernel), nI_add, za_chk _ (by omega) (by omega), za_chk _ (by omega) (by omega), nI_clamp (by omega), nI_clamp (by omega), hst _ (by omega), hst _ (by omega), hj, za_bnd, za_chk _ (by omega) (by omega), za_lt, ev_275]
      rfl
    · rw [fX12_value_L22]
      have e1 : nI (b :: b :: T0).length + (-1) = nI (T0.length + 1) := pk_m1 _
      have e2 : nI (T0.length + 1) - nI 1 = nI T0.length := by rw [za_sub (by omega)]; rfl
      rw [za_chk _ hri (by omega), nI_clamp (by omega), if_neg y1, za_chk _ hri (by omega), za_lt, za_chk _ hri (by omega), za_lt, if_neg y2, if_neg y3, if_neg y4, if_neg y5, e1, e2, za_chk _ (by omega) (by omega), za_chk _ (by omega) (by omega), nI_clamp (by omega), nI_clamp (by omega), hw, za_bnd, za_chk _ (by omega) (by omega), za_lt]
      unfold fX12_value_J250
      rw [nI_add]
      rfl
  · have hl0 : (true :: T0).length = T0.length + 1 := rfl
    have ha : isZ (R 140 T0.length) := hok.1 rfl
    refine ⟨nI 1 - R 140 T0.length, T0.length, fun fu => ?_, fun fu => ?_, (hstk _ _ true T0 rfl (by rw [hl0]; omega) (fun _ h => h.2) (fun _ => ?_)).1, (hstk _ _ true T0 rfl (by rw [hl0]; omega) (fun _ h => h.2) (fun _ => ?_)).2, by simp⟩
    · rw [ev_c hk he hi he3 hl hil hlen, hx, if_pos (by decide +kernel), if_pos rfl, ev_j hT3 (m := T0.length) hl0 (by omega), if_pos (by decide +kernel), if_neg (by decide +kernel), if_pos rfl, za_chk _ (by omega) (by omega), nI_clamp (by omega), hst _ (by omega)]
      unfold fX8_value_J217
      rw [za_chk _ (by omega) (by omega), za_chk _ (by omega) (by omega), za_lt, za_lt, nI_clamp (by omega), ev_275, ev_275]
      rcases ha with h | h
      · rw [h, if_pos rfl]; rfl
      · rw [h, if_neg (by decide +kernel)]; rfl
    · rw [fX12_value_L22]
      have e2 : nI (true :: T0).length - nI 1 = nI T0.length := by rw [hl0, za_sub (by omega)]; rfl
      rw [za_chk _ hri (by omega), nI_clamp (by omega), hcd, if_neg (by decide +kernel), za_chk _ hri (by omega), za_lt, za_chk _ hri (by omega), za_lt, if_neg (by decide +kernel), if_neg (by decide +kernel), if_pos rfl, e2, za_chk _ (by omega) (by omega), za_chk _ (by omega) (by omega), za_lt, nI_clamp (by omega)]
      unfold fX12_value_J250
      rw [nI_add]
    · rcases ha with h | h <;> rw [h]
      · exact Or.inr (by decide +kernel)
      · exact Or.inl (by decide +kernel)
    · rcases ha with h | h <;> rw [h]
      · exact Or.inr (by decide +kernel)
      · exact Or.inl (by decide +kernel)
  · have hl0 : (false :: false :: true :: T0).length = T0.length + 3 := rfl
    have ha : isZ (R 140 T0.length) := hok.2.2.1 rfl
    refine ⟨if R 140 T0.length = nI 1 then R 140 (T0.length + 1) else R 140 (T0.length + 2), T0.length, fun fu => ?_, fun fu => ?_, (hstk _ _ false T0 rfl (by rw [hl0]; omega) (fun _ h => h.2.2.2) (fun h => absurd h (by decide))).1, (hstk _ _ false T0 rfl (by rw [hl0]; omega) (fun _ h => h.2.2.2) (fun h => absurd h (by decide))).2, by simp⟩
    · rw [ev_c hk he hi he3 hl hil hlen, hx, if_pos (by decide +kernel), if_neg (by decide +kernel), if_pos rfl, ev_j hT3 (m := T0.length) hl0 (by omega), if_pos (by decide +kernel), if_neg (by decide +kernel), if_neg (by decide +kernel), if_pos rfl, nI_add, nI_add, za_chk _ (by omega) (by omega), za_chk _ (by omega) (by omega), za_chk _ (by omega) (by omega), nI_clamp (by omega), nI_clamp (by omega), nI_clamp (by omega), hst _ (by omega), hst _ (by omega), hst _ (by omega)]
      unfold fX8_value_J252
      rw [za_chk _ (by omega) (by omega), za_chk _ (by omega) (by omega), za_lt, za_lt, nI_clamp (by omega), ev_275, ev_275]
      rcases ha with h | h
      · rw [h, if_pos (show (0 : Int32) = 0 from rfl), if_neg (by decide +kernel)]; rfl
      · rw [h, if_neg (by decide +kernel), if_pos (show (1 : Int32) = nI 1 from rfl)]; rfl
    · rw [fX12_value_L22]
      have e1 : nI (false :: false :: true :: T0).length + (-2) = nI (T0.length + 1) := by
        rw [hl0, show (-2 : Int32) = - nI 2 by decide +kernel, ← Int32.sub_eq_add_neg, za_sub (by omega)]; rfl
      have e2 : nI (T0.length + 1) - nI 1 = nI T0.length := by rw [za_sub (by omega)]; rfl
      rw [za_chk _ hri (by omega), nI_clamp (by omega), hcd, if_neg (by decide +kernel), za_chk _ hri (by omega), za_lt, za_chk _ hri (by omega), za_lt, if_neg (by decide +kernel), if_neg (by decide +kernel), if_neg (by decide +kernel), if_pos rfl, e1, e2, nI_add, za_chk _ (by omega) (by omega), za_chk _ (by omega) (by omega), za_chk _ (by omega) (by omega), nI_clamp (by omega), nI_clamp (by omega), nI_clamp (by omega)]
      unfold fX12_value_J213 fX12_value_J250
      rw [za_chk _ (by omega) (by omega), za_chk _ (by omega) (by omega), za_lt, za_lt, nI_clamp (by omega), nI_add]
      split <;> rfl
end EV
