section AX
variable {n t m p c : Nat} {C R C' R' C1 R2 : Mc} {N L N' L' : Md} {e : Nat → Int32}
def isS (s : Int32) : Prop := s = nI 24 ∨ s = nI 16 ∨ s = nI 8 ∨ s = nI 0
theorem byte_s {s : Int32} (h : isS s) (x : Int32) : (vp_nar .byte ((x >>> (s &&& 31)).toInt8.toInt32)) &&& nI 255 = iushr5 x s &&& nI 255 := by
  rcases h with rfl | rfl | rfl | rfl
  · exact byte_sh (k := 24) (by omega) x _ (by decide +kernel) (by decide +kernel) (by decide +kernel)
  · exact byte_sh (k := 16) (by omega) x _ (by decide +kernel) (by decide +kernel) (by decide +kernel)
  · exact byte_sh (k := 8) (by omega) x _ (by decide +kernel) (by decide +kernel) (by decide +kernel)
  · exact byte_sh (k := 0) (by omega) x _ (by decide +kernel) (by decide +kernel) (by decide +kernel)
theorem tape_1 {k : Nat} {x b' v : Int32} (h : IV n t m C R N L) (h8 : C 0 8 = nI k) (hk : k < 300) (hb : b' &&& nI 255 = v &&& nI 255) : IV n t m (wr (wr C 123 k (v &&& nI 255)) 0 8 (nI (k + 1))) (wr (wr R 134 k b') 127 9 (nI (k + 1))) N L := by
  have ec : ∀ b, b ≠ 123 → b ≠ 0 → wr (wr C 123 k (v &&& nI 255)) 0 8 (nI (k + 1)) b = C b := fun b b1 b2 => by rw [za_wrc b2, za_wrc b1]
  have e0 : ∀ j, j ≠ 8 → wr (wr C 123 k (v &&& nI 255)) 0 8 (nI (k + 1)) 0 j = C 0 j := fun j j1 => by rw [za_wri j1, za_wra (by omega)]
  have er : ∀ b, b ≠ 134 → b ≠ 127 → wr (wr R 134 k b') 127 9 (nI (k + 1)) b = R b := fun b b1 b2 => by rw [za_wrc b2, za_wrc b1]
  have e7 : ∀ j, j ≠ 9 → wr (wr R 134 k b') 127 9 (nI (k + 1)) 127 j = R 127 j := fun j j1 => by rw [za_wri j1, za_wra (by omega)]
  refine iv_ot h (fun b hb => ec b (by omega) (by omega)) (fun b hb => er b (by omega) (by omega)) (fun j hj => e7 j (by omega)) (AL_c h.2.1 (fun b _ _ => ec b (by omega) (by omega)) (er _ (by omega) (by omega)) (er _ (by omega) (by omega))) (fun j _ _ => e0 j (by omega)) ?_ (by rw [e0 9 (by omega), e7 13 (by omega)]; exact h.2.2.2.2.2.2.2.1) (IC_c h.2.2.2.2.2.2.2.2.2.1 (e0 14 (by omega)) (e0 16 (by omega)) (ec 124 (by omega) (by omega)) (ec 125 (by omega) (by omega)) (e7 28 (by omega)) (e7 29 (by omega)) (er 142 (by omega) (by omega)) (er 143 (by omega) (by omega))) (II_c h.2.2.2.2.2.2.2.2.2.2.1 (by rw [ec 121 (by omega) (by omega)]) (ec 122 (by omega) (by omega)) (e7 31 (by omega)) (er 144 (by omega) (by omega)))
  obtain ⟨k', k1, k2, k3, k4⟩ := h.2.2.2.2.2.2.1
  obtain rfl : k' = k := za_inj (by omega) (by omega) (k2.symm.trans h8)
  refine ⟨k' + 1, by omega, za_wrs _ _ _ _, za_wrs _ _ _ _, fun i hi => ?_⟩
  rw [za_wra (a := 123) (by omega), za_wra (a := 134) (by omega)]
  by_cases ei : i = k'
  · subst ei
    obtain ⟨b, b1, b2⟩ := and_255 v
    rw [za_wrs, za_wrs]
    exact ⟨b, b1, b2, hb.trans b2⟩
  · rw [za_wri ei, za_wri ei]; exact k4 i (by omega)
theorem tc_1 {k fu : Nat} {x s : Int32} (h8 : C 0 8 = nI k) (hk : k < 300) (hs : isS s) : fX11_tapeNumber_L3 (fu + 1) C x s = fX11_tapeNumber_L3 fu (wr (wr C 123 k (iushr5 x s &&& nI 255)) 0 8 (nI (k + 1))) x (s + (-8)) := by
  rw [fX11_tapeNumber_L3, if_neg (by rcases hs with rfl | rfl | rfl | rfl <;> decide +kernel), h8, za_inY hk (by omega), za_bnd, if_neg za_n10, za_chk _ hk (by omega), za_lt, nI_clamp (by omega), za_lt, za_wra (by omega), h8, nI_add]
theorem tr_1 {k fu : Nat} {x s X1 X2 X3 X4 X5 X6 : Int32} {K : Mc → Int32 → Int32 → Int32 → Int32 → Int32 → Int32 → Option (Int32 × Mc)} (h9 : R 127 9 = nI k) (hk : k < 300) (hs : isS s) : fX12_feed_L77 K (fu + 1) R X1 X2 X3 X4 X5 X6 x s = fX12_feed_L77 K fu (wr (wr R 134 k (vp_nar .byte ((x >>> (s &&& 31)).toInt8.toInt32))) 127 9 (nI (k + 1))) X1 X2 X3 X4 X5 X6 x (s + (-8)) := by
  rw [fX12_feed_L77, if_neg (by rcases hs with rfl | rfl | rfl | rfl <;> decide +kernel), h9, za_chk _ hk (by omega), za_lt, nI_clamp (by omega), za_lt, za_wra (by omega), h9, nI_add]
theorem tape_4 {k : Nat} (x : Int32) (h : IV n t m C R N L) (h8 : C 0 8 = nI k) (hk : k + 4 ≤ 300) : ∃ C' R', fX11_tapeNumber C x = some C' ∧ (∀ K X1 X2 X3 X4 X5 X6, fX12_feed_J71 K R X1 X2 X3 X4 X5 X6 x = K R' X1 X2 X3 X4 X5 (X6 + nI 1)) ∧ IV n t m C' R' N L ∧ C' 0 8 = nI (k + 4) ∧ GC C C' ∧ GR2 R R' ∧ R' 127 0 = R 127 0 := by
  have s1 : isS (nI 24) := Or.inl rfl
  have s2 : isS (nI 16) := Or.inr (Or.inl rfl)
  have s3 : isS (nI 8) := Or.inr (Or.inr (Or.inl rfl))
  have s4 : isS (nI 0) := Or.inr (Or.inr (Or.inr rfl))
  have a1 : nI 24 + (-8) = nI 16 := by decide +kernel
  have a2 : nI 16 + (-8) = nI 8 := by decide +kernel
  have a3 : nI 8 + (-8) = nI 0 := by decide +kernel
  have h1 := tape_1 (x := x) h h8 (by omega) (byte_s s1 x)
  have h2 := tape_1 (x := x) h1 (za_wrs _ _ _ _) (by omega) (byte_s s2 x)
  have h3 := tape_1 (x := x) h2 (za_wrs _ _ _ _) (by omega) (byte_s s3 x)
  have h4 := tape_1 (x := x) h3 (za_wrs _ _ _ _) (by omega) (byte_s s4 x)
  have h9 : R 127 9 = nI k := by
    obtain ⟨k', _, k2, k3, _⟩ := h.2.2.2.2.2.2.1
    rw [k3, ← k2, h8]
  refine ⟨_, _, ?_, ?_, h4, za_wrs _ _ _ _, gc_wr (gc_wr (gc_wr (gc_wr (gc_wr (gc_wr (gc_wr (gc_wr GC.rf (by omega)) (by omega)) (by omega)) (by omega)) (by omega)) (by omega)) (by omega)) (by omega), gr_wr (gr_wr (gr_wr (gr_wr (gr_wr (gr_wr (gr_wr (gr_wr GR2.rf (by omega)) (by omega)) (by omega)) (by omega)) (by omega)) (by omega)) (by omega)) (by omega), by simp (disch := omega) only [za_wra, za_wri]⟩
  · unfold fX11_tapeNumber
    rw [show FU = 99995 + 1 + 1 + 1 + 1 + 1 from rfl, tc_1 h8 (by omega) s1, a1, tc_1 (za_wrs _ _ _ _) (by omega) s2, a2, tc_1 (za_wrs _ _ _ _) (by omega) s3, a3, tc_1 (za_wrs _ _ _ _) (by omega) s4, fX11_tapeNumber_L3, if_pos (by decide +kernel)]
  · intro K X1 X2 X3 X4 X5 X6
    unfold fX12_feed_J71
    rw [show FU = 99995 + 1 + 1 + 1 + 1 + 1 from rfl, tr_1 h9 (by omega) s1, a1, tr_1 (za_wrs _ _ _ _) (by omega) s2, a2, tr_1 (za_wrs _ _ _ _) (by omega) s3, a3, tr_1 (za_wrs _ _ _ _) (by omega) s4, fX12_feed_L77, if_pos (by decide +kernel)]
end AX
