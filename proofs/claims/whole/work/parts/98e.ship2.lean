section AT
variable {n t m p c : Nat} {C R C' R' C1 R2 : Mc} {N L N' L' : Md} {e : Nat → Int32}
theorem i64_le {a b c d K : Nat} (ha : a < 2 ^ 31) (hb : b < 2 ^ 31) (hc : c < 2 ^ 31) (hd : d < 2 ^ 31) (hK : K < 2 ^ 31) : (lg_cmp ((((nI a).toInt64 + (nI b).toInt64) + (nI c).toInt64) + (nI d).toInt64) (nI K).toInt64 ≤ 0) ↔ a + b + c + d ≤ K := by
  rw [lg_cmp_le, Int64.le_iff_toInt_le, i64_s ha hb hc hd, i64_n hK]; omega
theorem c_ship (h : IV n t m C R N L) (p0 p1 p2 p3 : Int32) : OM eB C R N L (oV (fX11_ship C p0 p1 p2 p3)) (fX12_ship R p0 p1 p2 p3) := by
  unfold fX11_ship fX12_ship
  have ih := iv_thr (v := 0) h
  have hn := rw_n100 h.1.1
  have ht := iv_t h
  obtain ⟨a1, a2, k, k1, k2, k3⟩ := ih.2.2.1
  simp only [za_lt]
  by_cases g0 : p0 < 0
  · exact om_r (b := -1) h (by rw [if_pos g0]; rfl) (if_pos g0)
  by_cases g1 : p1 < 0
  · exact om_r (b := -1) h (by rw [if_neg g0, if_pos g1]; rfl) (by rw [if_neg g0, if_pos g1])
  by_cases g2 : p2 < 0
  · exact om_r (b := -1) h (by rw [if_neg g0, if_neg g1, if_pos g2]; rfl) (by rw [if_neg g0, if_neg g1, if_pos g2])
  by_cases g3 : ¬ 0 ≤ p3
  · exact om_r (b := -1) h (by rw [if_neg g0, if_neg g1, if_neg g2, if_neg g3]; rfl) (by rw [if_neg g0, if_neg g1, if_neg g2, if_neg g3])
  have g3 := Decidable.of_not_not g3
  rw [if_neg g0, if_neg g1, if_neg g2, if_pos g3, if_neg g0, if_neg g1, if_neg g2, if_pos g3]
  obtain ⟨c0, d0, rfl⟩ := nI_of (x := p0) g0
  obtain ⟨c1, d1, rfl⟩ := nI_of (x := p1) g1
  obtain ⟨c2, d2, rfl⟩ := nI_of (x := p2) g2
  obtain ⟨c3, d3, rfl⟩ := nI_of (x := p3) (by grind)
  rw [k2, za_chk (n := 2129) _ (by omega) (by omega), nI_clamp (n := 2129) (by omega), k3]
  by_cases q0 : k = 20
  · subst q0
    exact om_r (b := -2) h (by rw [if_neg (nI_nlt (by omega) (by omega))]; rfl) (if_pos rfl)
  rw [if_pos (nI_lt (by omega) (by omega)), if_neg (fun z => q0 (za_inj (by omega) (by omega) z)), h.1.1.2.1.1, za_sub hn, za_chk (n := 2124) _ (by omega) (by omega), nI_clamp (n := 2124) (by omega), rw_n ih.1.1, za_sub hn]
  by_cases q1 : ¬ c0 + c1 + c2 + c3 ≤ 100 - n
  · have q1' := fun z => q1 ((i64_le d0 d1 d2 d3 (by omega)).mp z)
    exact om_r (b := -3) h (by rw [if_neg q1']; rfl) (if_neg q1')
  have q1 := Decidable.of_not_not q1
  rw [if_pos ((i64_le d0 d1 d2 d3 (by omega)).mpr q1), if_pos ((i64_le d0 d1 d2 d3 (by omega)).mpr q1), i64_eq d0 d1 d2 d3 (by omega)]
  obtain ⟨v, v1, v2⟩ := home_c ih
  rw [v1, v2 _ rfl rfl, za_bnd, za_bnd]
  obtain ⟨t1, t2⟩ := i64_10 (c0 + c1 + c2 + c3) (by omega)
  by_cases q2 : ¬ (10 : Int64) * (nI (c0 + c1 + c2 + c3)).toInt64 ≤ v.toInt64
  · exact om_r (b := -4) h (by rw [if_neg (fun z => q2 ((lg_cmp_le _ _).mp z))]; rfl) (if_neg (fun z => q2 ((lg_cmp_ge _ _).mp z)))
  have q2 := Decidable.of_not_not q2
  rw [if_pos ((lg_cmp_le _ _).mpr q2), if_pos ((lg_cmp_ge _ _).mpr q2), t1, t2]
  obtain ⟨S, hS⟩ : ∃ S, c0 + c1 + c2 + c3 = S := ⟨_, rfl⟩
  rw [hS] at q1 ⊢
  rw [za_chk (n := 2124) _ (by omega) (by omega), za_chk (n := 2116) _ (by omega) (by omega), za_chk (n := 2121) _ (by omega) (by omega), za_chk (n := 2121) _ (by omega) (by omega), nI_clamp (n := 2116) (by omega), nI_clamp (n := 2121) (by omega), rw_t ih.1.1, nI_add, show wr C 0 12 (C 0 12 + nI (10 * S)) 17 6 = nI t by rw [za_wra (by omega)]; exact iv_tc h, nI_add, a2]
  have hI : IV n t m (wr C 0 12 (C 0 12 + nI (10 * S))) (wr (wr R 127 0 0) 128 2121 (C 0 12 + nI (10 * S))) N L := by
    refine iv_home ih (fun b b1 => za_wrc b1) (fun j hj => za_wri (by omega)) (fun b b1 => za_wrc b1) (fun j j1 j2 j3 => za_wri j2) ⟨?_, ?_, k, k1, ?_, ?_⟩
    · rw [za_wri (by omega), za_wri (by omega)]; exact a1
    · rw [za_wrs, za_wrs]
    · rw [za_wri (by omega)]; exact k2
    · rw [za_wri (by omega)]; exact k3
  obtain ⟨C1, R1, s1, s2, s3, s4, s5⟩ := sail_L (d := t + 34) (X1 := nI c0) (X2 := nI c1) (X3 := nI c2) (X5 := (nI S).toInt64) (by omega) n FU FU 0 _ _ (by omega) (by rw [za_FU]; omega) (by rw [za_FU]; omega) hI
  rw [nI_0] at s1 s2
  obtain ⟨C2, R2, e1, e2, e3, e4, e5, e6, e7⟩ := board_L (d := t + 34) (c0 := c0) (c1 := c1) (c2 := c2) (s := S) (tr := 0) (cnt := c0) (a := 0) (by omega) (by omega) (by omega) (by omega) (by omega) (fun j _ j2 => by rw [if_neg (by omega)]) c0 FU (FU - c0) 0 n C1 R1 (by omega) (by rw [za_FU]; omega) (by omega) s3
  obtain ⟨C3, R3, f1, f2, f3, f4, f5, f6, f7⟩ := board_L (d := t + 34) (c0 := c0) (c1 := c1) (c2 := c2) (s := S) (tr := 1) (cnt := c1) (a := c0) (by omega) (by omega) (by omega) (by omega) (by omega) (fun j j1 j2 => by rw [if_pos j1, if_neg (by omega)]) c1 FU (FU - c0 - c1) 0 (n + c0) C2 R2 (by omega) (by rw [za_FU]; omega) (by omega) e3
  obtain ⟨C4, R4, u1, u2, u3, u4, u5, u6, u7⟩ := board_L (d := t + 34) (c0 := c0) (c1 := c1) (c2 := c2) (s := S) (tr := 2) (cnt := c2) (a := c0 + c1) (by omega) (by omega) (by omega) (by omega) (by omega) (fun j j1 j2 => by rw [if_pos (by omega), if_pos (by omega), if_neg (by omega)]) c2 FU (FU - c0 - c1 - c2) 0 (n + c0 + c1) C3 R3 (by omega) (by rw [za_FU]; omega) (by omega) f3
  obtain ⟨C5, R5, w1, w2, w3, w4, w5, w6, w7⟩ := board_L (d := t + 34) (c0 := c0) (c1 := c1) (c2 := c2) (s := S) (tr := 3) (cnt := c3) (a := c0 + c1 + c2) (by omega) (by omega) (by omega) (by omega) (by omega) (fun j j1 j2 => by rw [if_pos (by omega), if_pos (by omega), if_pos (by omega)]) c3 FU (FU - c0 - c1 - c2 - c3) 0 (n + c0 + c1 + c2) C4 R4 (by omega) (by rw [za_FU]; omega) (by omega) u3
  have hfu : FU = 100000 := rfl
  rw [show FU - c0 + c0 = FU by rw [hfu]; omega, show 0 + 0 = 0 from rfl, nI_0, show 0 + c0 = c0 by omega] at e2
  rw [show FU - c0 - c1 + c1 = FU - c0 by rw [hfu]; omega, show c0 + 0 = c0 from rfl] at f2
  rw [show FU - c0 - c1 - c2 + c2 = FU - c0 - c1 by rw [hfu]; omega, show c0 + c1 + 0 = c0 + c1 from rfl] at u2
  rw [show FU - c0 - c1 - c2 - c3 + c3 = FU - c0 - c1 - c2 by rw [hfu]; omega, show c0 + c1 + c2 + 0 = c0 + c1 + c2 from rfl, hS] at w2
  rw [nI_0] at e1 f1 u1 w1
  have hend : ∃ f, FU - c0 - c1 - c2 - c3 = f + 1 := ⟨FU - c0 - c1 - c2 - c3 - 1, by rw [hfu]; omega⟩
  obtain ⟨f, hf⟩ := hend
  obtain ⟨b1, b2, k', k1', k2', k3'⟩ := w3.2.2.1
  have e10 : C5 0 10 = nI k := by
    rw [w7, u7, f7, e7, s4.1 0 (by omega), za_wri (by omega)]; exact k2
  obtain rfl : k' = k := za_inj (by omega) (by omega) (k2'.symm.trans e10)
  have hJ : IV (n + c0 + c1 + c2 + c3) t m (wr C5 0 10 (nI (k' + 1))) (wr R5 128 2129 (nI (k' + 1))) N L := by
    refine iv_home w3 (fun b b1 => za_wrc b1) (fun j hj => za_wri (by omega)) (fun b b1 => za_wrc b1) (fun j j1 j2 j3 => za_wri j3) ⟨?_, ?_, k' + 1, by omega, za_wrs _ _ _ _, za_wrs _ _ _ _⟩
    · rw [za_wri (by omega), za_wri (by omega)]; exact b1
    · rw [za_wri (by omega), za_wri (by omega)]; exact b2
  refine om_v (b := nI k') hJ ?_ ?_ ?_ ?_ ?_
  · unfold fX3_sailOrders fX3_add
    rw [s1, za_bnd]
    rw [show (0 : Int32) = nI 0 from za_0] at e1 ⊢
    rw [e1, za_bnd]
    rw [show (0 : Int32) = nI 0 from za_0] at f1 u1 w1
    rw [f1, za_bnd, u1, za_bnd, w1, za_bnd, e10, nI_add]
    rfl
  · refine s2.trans (e2.trans (f2.trans (u2.trans (w2.trans ?_))))
    rw [hf, fX12_ship_L193, if_pos (by rw [lg_cmp_ge, Int64.le_iff_toInt_le]; exact Int.le_refl _), za_chk (n := 2129) _ (by omega) (by omega), za_chk (n := 2129) _ (by omega) (by omega), za_lt, za_chk (n := 2129) _ (by omega) (by omega), nI_clamp (n := 2129) (by omega), k3', nI_add, za_wrs, nis rfl]
  · exact (gc_wr GC.rf (by omega) : GC C (wr C 0 12 (C 0 12 + nI (10 * S)))).tr (GC.tr (C1 := C1) (fun a h1 h2 => s4.1 a (by omega)) (e4.tr (f4.tr (u4.tr (w4.tr (gc_wr GC.rf (by omega)))))))
  · exact (gr_wr (gr_wr GR2.rf (by omega)) (by omega) : GR2 R (wr (wr R 127 0 0) 128 2121 (C 0 12 + nI (10 * S)))).tr (GR2.tr (C1 := R1) (fun a h1 => s5.1 a (by omega) (by omega)) (e5.tr (f5.tr (u5.tr (w5.tr (gr_wr GR2.rf (by omega)))))))
  · rw [za_wra (by omega), w6, u6, f6, e6, s5.1 127 (by omega) (by omega), za_wra (by omega), za_wrs]
end AT
