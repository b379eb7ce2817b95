/-! ===== a sale ===== -/
section SL
variable {w n t x a y m p c : Nat} {C R : Mc}
def farmC (C : Mc) (w c p kd mm : Nat) (te : Int32) : Mc := wr (wr (wr (wr (wr (wr (wr (wr (wr (wr (wr (wr (wr (wr C (w + 5) c (nI 1)) (w + 6) c (-1)) (w + 7) c (-1)) (w + 8) c 0) (w + 9) c 0) (w + 10) c (-1)) (w + 11) c (-1)) (w + 5) c (nI kd)) (w + 6) c (nI p)) (w + 10) c (nI mm)) (w + 11) c te) (w + 1) 9 (C (w + 1) 9 + nI 1)) (w + 21) p (C (w + 21) p + nI 1)) (w + 18) p (nI 4)
def farmR (R : Mc) (c p kd mm : Nat) (te : Int32) : Mc := wr (wr (wr (wr (moHolds R c (nI kd) (nI p)) 128 (8 * c + 5) (nI mm)) 128 (8 * c + 6) te) 128 (768 + 8 * p + 2) (nI 4)) 128 (768 + 8 * p + 3) (-1)
theorem gf_ground {kd mm : Nat} {te : Int32} : moFarm (moOpen C (w + 1) c) (w + 1) c (nI kd) (nI p) (nI mm) te = wr (wr (wr (wr (wr (wr (wr (wr (wr (wr (wr (wr C (w + 5) c (nI 1)) (w + 6) c (-1)) (w + 7) c (-1)) (w + 8) c 0) (w + 9) c 0) (w + 10) c (-1)) (w + 11) c (-1)) (w + 5) c (nI kd)) (w + 6) c (nI p)) (w + 10) c (nI mm)) (w + 11) c te) (w + 1) 9 (C (w + 1) 9 + nI 1) := by
  unfold moFarm
  rw [show moOpen C (w + 1) c (w + 1) 9 = C (w + 1) 9 by unfold moOpen; simp (disch := omega) only [za_wra]]
  rfl
theorem farm_free {kd mm b : Nat} {te : Int32} : moGain (moFree (moFarm (moOpen C (w + 1) c) (w + 1) c (nI kd) (nI p) (nI mm) te) (w + 15) p b) (w + 15) p = farmC (moFree C (w + 15) p b) w c p kd mm te := by
  rw [gf_ground]
  unfold moGain moFree farmC
  simp (disch := omega) only [za_wra, za_wri]
  funext b' j
  simp only [za_wr, Nat.add_assoc, Nat.reduceAdd]
  by_cases h1 : b' < w + 15
  · have e18 : ¬ b' = w + 18 := by omega
    have e19 : ¬ b' = w + 19 := by omega
    have e20 : ¬ b' = w + 20 := by omega
    have e21 : ¬ b' = w + 21 := by omega
    simp only [e18, e19, e20, e21, false_and, if_false]
  · have e1 : ¬ b' = w + 1 := by omega
    have e5 : ¬ b' = w + 5 := by omega
    have e6 : ¬ b' = w + 6 := by omega
    have e7 : ¬ b' = w + 7 := by omega
    have e8 : ¬ b' = w + 8 := by omega
    have e9 : ¬ b' = w + 9 := by omega
    have e10 : ¬ b' = w + 10 := by omega
    have e11 : ¬ b' = w + 11 := by omega
    simp only [e1, e5, e6, e7, e8, e9, e10, e11, false_and, if_false]
theorem farm_freeR {kd mm : Nat} {te : Int32} (hc : c < 96) (hp : p < 100) : farmR (wr (wr R 128 (768 + 8 * p + 2) (nI 2)) 128 (768 + 8 * p + 3) (-1)) c p kd mm te = farmR R c p kd mm te := by
  unfold farmR moHolds
  funext b' j
  simp only [za_wr]
  by_cases h1 : j = 768 + 8 * p + 3
  · by_cases h0 : b' = 128
    · rw [if_pos ⟨h0, h1⟩, if_pos ⟨h0, h1⟩]
    · simp only [h0, false_and, if_false]
  · by_cases h2 : j = 768 + 8 * p + 2
    · by_cases h0 : b' = 128
      · rw [if_neg (fun q => h1 q.2), if_pos ⟨h0, h2⟩, if_neg (fun q => h1 q.2), if_pos ⟨h0, h2⟩]
      · simp only [h0, false_and, if_false]
    · simp only [h1, h2, and_false, if_false]
/-- a lot becomes the farm of one who is here: the class's two calls, the reference's rows -/
theorem farm_sim {s kd mm : Nat} {te : Int32} (h : RV w n t n a y m C R) (hp : p < n) (hc : c < 96) (h1c : C (w + 5) c = nI 1) (hkd : kd = 3 ∨ kd = 5) (hm : mm ≤ 1000) (hte : kd = 3 → te = -1 ∨ ∃ l, l < 12 ∧ te = nI l) (hst : C (w + 18) p = nI s) (hs2 : 2 ≤ s) (hs4 : s ≤ 4) :
    ∃ C1 C', fX4_giveFarm C (w + 1) (nI c) (nI kd) (nI p) (nI mm) te = some C1 ∧ fX3_gainFarm C1 (w + 15) (nI p) = some C' ∧ RV w n t n a y m C' (farmR R c p kd mm te) ∧ FC w C C' ∧ FD R (farmR R c p kd mm te) ∧ C' (w + 15) 1 = C (w + 15) 1 ∧ (∀ j, C' w j = C w j) ∧ C' (w + 18) p = nI 4 := by
  have hw := h.w17
  have hn := rw_n100 h.1
  have hn0 : C (w + 15) 0 = nI n := h.1.2.1.1
  have hop : fX4_open C (w + 1) (nI c) = some (moOpen C (w + 1) c) := lg_openN hc (by rw [show C (w + 1 + 4) c = nI 1 from h1c]; decide +kernel)
  have hgv := lg_give (g := w + 1) (k := nI kd) (pp := nI p) (pr := nI mm) (l := te) hc hop
  have fd : FD R (farmR R c p kd mm te) := by
    unfold farmR moHolds
    exact fd_wr (fd_wr (fd_wr (fd_wr (fd_wr (fd_wr (fd_wr (fd_wr (fd_wr (fd_wr (fd_wr FD.rf (by first | omega | (have := rw_n100 h.1; omega))) (by first | omega | (have := rw_n100 h.1; omega))) (by first | omega | (have := rw_n100 h.1; omega))) (by first | omega | (have := rw_n100 h.1; omega))) (by first | omega | (have := rw_n100 h.1; omega))) (by first | omega | (have := rw_n100 h.1; omega))) (by first | omega | (have := rw_n100 h.1; omega))) (by first | omega | (have := rw_n100 h.1; omega))) (by first | omega | (have := rw_n100 h.1; omega))) (by first | omega | (have := rw_n100 h.1; omega))) (by first | omega | (have := rw_n100 h.1; omega))
  have gr : ∀ k, 12 ≤ k → moFarm (moOpen C (w + 1) c) (w + 1) c (nI kd) (nI p) (nI mm) te (w + k) = C (w + k) := fun k hk => by
    rw [gf_ground]; simp (disch := omega) only [za_wrc]
  have hn1 : moFarm (moOpen C (w + 1) c) (w + 1) c (nI kd) (nI p) (nI mm) te (w + 15) 0 = nI n := by rw [gr 15 (by omega)]; exact hn0
  have key : ∀ C0, FC w C C0 → (∀ j, C0 w j = C w j) → C0 (w + 15) 1 = C (w + 15) 1 → C0 (w + 37) 1 = C (w + 37) 1 → FC w C (farmC C0 w c p kd mm te) ∧ (∀ j, farmC C0 w c p kd mm te w j = C w j) ∧ farmC C0 w c p kd mm te (w + 15) 1 = C (w + 15) 1 ∧ farmC C0 w c p kd mm te (w + 37) 1 = C (w + 37) 1 ∧ farmC C0 w c p kd mm te (w + 18) p = nI 4 := by
    intro C0 f0 f1 f2 f3
    refine ⟨?_, fun j => ?_, ?_, ?_, by unfold farmC; exact za_wrs _ _ _ _⟩
    · unfold farmC
      exact fc_wr (fc_wr (fc_wr (fc_wr (fc_wr (fc_wr (fc_wr (fc_wr (fc_wr (fc_wr (fc_wr (fc_wr (fc_wr (fc_wr f0 (by omega)) (by omega)) (by omega)) (by omega)) (by omega)) (by omega)) (by omega)) (by omega)) (by omega)) (by omega)) (by omega)) (by omega)) (by omega)) (by omega)
    · unfold farmC; simp (disch := omega) only [za_wra]; exact f1 j
    · unfold farmC; simp (disch := omega) only [za_wra]; exact f2
    · unfold farmC; simp (disch := omega) only [za_wra]; exact f3
  by_cases h3 : s = 3
  · subst h3
    obtain ⟨s', s1, s2, s3⟩ := h.1.2.2.2.1 p hp
    obtain rfl : s' = 3 := st_eq (by have := s2.1; omega) (by omega) s1 hst
    obtain ⟨b, b1, b2, b3⟩ := s2.2.2.2.1 rfl
    have hR : RW w n t n a y (moFree C (w + 15) p b) (wr (wr R 128 (768 + 8 * p + 2) (nI 2)) 128 (768 + 8 * p + 3) (-1)) := op_free hp hn b1 hst b2 h.1
    have e5 : moFree C (w + 15) p b (w + 5) c = nI 1 := by unfold moFree; rw [za_wra (by omega), za_wra (by omega), za_wra (by omega)]; exact h1c
    have e18 : moFree C (w + 15) p b (w + 18) p = nI 2 := by unfold moFree; exact za_wrs _ _ _ _
    have hF : RW w n t n a y (farmC (moFree C (w + 15) p b) w c p kd mm te) (farmR (wr (wr R 128 (768 + 8 * p + 2) (nI 2)) 128 (768 + 8 * p + 3) (-1)) c p kd mm te) := op_farm (s := 2) hc hp hn e5 hkd hm hte e18 (by omega) (by omega) (by omega) hR
    rw [farm_freeR hc (by omega)] at hF
    obtain ⟨k1, k2, k3, k4, k5⟩ := key (moFree C (w + 15) p b) (fc_wr (fc_wr (fc_wr FC.rf (by omega)) (by omega)) (by omega)) (fun j => by unfold moFree; rw [za_wra (by omega), za_wra (by omega), za_wra (by omega)]) (by unfold moFree; rw [za_wra (by omega), za_wra (by omega), za_wra (by omega)]) (by unfold moFree; rw [za_wra (by omega), za_wra (by omega), za_wra (by omega)])
    refine ⟨_, _, hgv, lf_gain hn1 hn hp (lf_rel (b := b) (by omega) ?_ ?_ (by omega)), ?_⟩
    · rw [show w + 15 + 3 = w + 18 from rfl, gr 18 (by omega)]; exact hst
    · rw [show w + 15 + 4 = w + 19 from rfl, gr 19 (by omega)]; exact b2
    · rw [farm_free]
      exact ⟨h.step hF k1 fd k4 (k2 _) (k2 _) (k2 _), k1, fd, k3, k2, k5⟩
  · have hF : RW w n t n a y (farmC C w c p kd mm te) (farmR R c p kd mm te) := op_farm (s := s) hc hp hn h1c hkd hm hte hst hs2 h3 hs4 h.1
    obtain ⟨k1, k2, k3, k4, k5⟩ := key C FC.rf (fun _ => rfl) rfl rfl
    have e : moGain (moFarm (moOpen C (w + 1) c) (w + 1) c (nI kd) (nI p) (nI mm) te) (w + 15) p = farmC C w c p kd mm te := by
      unfold moGain farmC
      rw [gr 21 (by omega), gf_ground]
    refine ⟨_, _, hgv, lf_gain hn1 hn hp (lf_reln (by omega) ?_), ?_⟩
    · rw [show w + 15 + 3 = w + 18 from rfl, gr 18 (by omega), hst]
      exact fun q => h3 (za_inj (by omega) (by omega) q)
    · rw [e]
      exact ⟨h.step hF k1 fd k4 (k2 _) (k2 _) (k2 _), k1, fd, k3, k2, k5⟩
theorem rv_sales (v : Int32) (h : RV w n t x a y m C R) : RV w n t x a y m (wr C w 9 v) (wr R 128 2119 v) :=
  h.step (op_sales v h.1) (fc_wr FC.rf (by omega)) (fd_wr FD.rf (by first | omega | (have := rw_n100 h.1; omega))) (za_wra (by omega)) (za_wri (by omega)) (za_wri (by omega)) (za_wri (by omega))
theorem rv_tre (v : Int32) (h : RV w n t x a y m C R) : RV w n t x a y m (wr C w 8 v) (wr R 128 2118 v) :=
  h.step (op_tre v h.1) (fc_wr FC.rf (by omega)) (fd_wr FD.rf (by first | omega | (have := rw_n100 h.1; omega))) (za_wra (by omega)) (za_wri (by omega)) (za_wri (by omega)) (za_wri (by omega))
theorem rv_store (v : Int32) (h : RV w n t x a y m C R) : RV w n t x a y m (wr C w 7 v) (wr R 128 2117 v) :=
  h.step (op_store v h.1) (fc_wr FC.rf (by omega)) (fd_wr FD.rf (by first | omega | (have := rw_n100 h.1; omega))) (za_wra (by omega)) (za_wri (by omega)) (za_wri (by omega)) (za_wri (by omega))
end SL
