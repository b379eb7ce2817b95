section AY
variable {n t m p c : Nat} {C R C' R' C1 R2 : Mc} {N L N' L' : Md} {e : Nat → Int32}
theorem fd_0 {fu : Nat} {a b c d f : Int32} (h : ∀ K X1 X2 X3 X4 X5 X6, fX12_feed_J71 K R X1 X2 X3 X4 X5 X6 a = K R' X1 X2 X3 X4 X5 (X6 + nI 1)) : fX12_feed_L23 (fu + 1) R a b c d f 0 = fX12_feed_L23 fu R' a b c d f (nI 1) := by
  rw [fX12_feed_L23, if_neg (by decide +kernel), if_pos rfl, h]
  rfl
theorem fd_1 {fu : Nat} {a b c d f : Int32} (h : ∀ K X1 X2 X3 X4 X5 X6, fX12_feed_J71 K R X1 X2 X3 X4 X5 X6 b = K R' X1 X2 X3 X4 X5 (X6 + nI 1)) : fX12_feed_L23 (fu + 1) R a b c d f (nI 1) = fX12_feed_L23 fu R' a b c d f (nI 2) := by
  rw [fX12_feed_L23, if_neg (by decide +kernel), if_neg (by decide +kernel), if_pos rfl, h, nI_add]
theorem fd_2 {fu : Nat} {a b c d f : Int32} (h : ∀ K X1 X2 X3 X4 X5 X6, fX12_feed_J71 K R X1 X2 X3 X4 X5 X6 c = K R' X1 X2 X3 X4 X5 (X6 + nI 1)) : fX12_feed_L23 (fu + 1) R a b c d f (nI 2) = fX12_feed_L23 fu R' a b c d f (nI 3) := by
  rw [fX12_feed_L23, if_neg (by decide +kernel), if_neg (by decide +kernel), if_neg (by decide +kernel), if_pos rfl, h, nI_add]
theorem fd_3 {fu : Nat} {a b c d f : Int32} (h : ∀ K X1 X2 X3 X4 X5 X6, fX12_feed_J71 K R X1 X2 X3 X4 X5 X6 d = K R' X1 X2 X3 X4 X5 (X6 + nI 1)) : fX12_feed_L23 (fu + 1) R a b c d f (nI 3) = fX12_feed_L23 fu R' a b c d f (nI 4) := by
  rw [fX12_feed_L23, if_neg (by decide +kernel), if_neg (by decide +kernel), if_neg (by decide +kernel), if_neg (by decide +kernel), if_pos rfl, h, nI_add]
theorem fd_4 {fu : Nat} {a b c d f : Int32} (h : ∀ K X1 X2 X3 X4 X5 X6, fX12_feed_J71 K R X1 X2 X3 X4 X5 X6 f = K R' X1 X2 X3 X4 X5 (X6 + nI 1)) : fX12_feed_L23 (fu + 1) R a b c d f (nI 4) = fX12_feed_L23 fu R' a b c d f (nI 5) := by
  rw [fX12_feed_L23, if_neg (by decide +kernel), if_neg (by decide +kernel), if_neg (by decide +kernel), if_neg (by decide +kernel), if_neg (by decide +kernel), h, nI_add]
theorem fd_5 {fu : Nat} {a b c d f : Int32} : fX12_feed_L23 (fu + 1) R a b c d f (nI 5) = some (R 127 9, R) := by
  rw [fX12_feed_L23, if_pos (by decide +kernel)]
theorem c_feed (h : IV n t m C R N L) (p0 p1 p2 p3 p4 : Int32) : OM eB C R N L (oV (fX11_feed C p0 p1 p2 p3 p4)) (fX12_feed R p0 p1 p2 p3 p4) := by
  have ih := iv_thr (v := 0) h
  obtain ⟨k, k1, k2, k3, _⟩ := ih.2.2.2.2.2.2.1
  unfold fX11_feed fX12_feed
  rw [k2, za_lt, k3, nI_add]
  by_cases q : k ≤ 280
  · rw [if_pos (nI_le q (by omega)), if_pos (nI_le (by omega) (by omega))]
    obtain ⟨C1, R1, a1, a2, a3, a4, a5, a6, a7⟩ := tape_4 p0 ih k2 (by omega)
    obtain ⟨C2, R2, b1, b2, b3, b4, b5, b6, b7⟩ := tape_4 p1 a3 a4 (by omega)
    obtain ⟨C3, R3, c1, c2, c3, c4, c5, c6, c7⟩ := tape_4 p2 b3 b4 (by omega)
    obtain ⟨C4, R4, d1, d2, d3, d4, d5, d6, d7⟩ := tape_4 p3 c3 c4 (by omega)
    obtain ⟨C5, R5, f1, f2, f3, f4, f5, f6, f7⟩ := tape_4 p4 d3 d4 (by omega)
    have h9 : R5 127 9 = nI (k + 4 + 4 + 4 + 4 + 4) := by
      obtain ⟨k', _, w2, w3, _⟩ := f3.2.2.2.2.2.2.1
      rw [w3, ← w2, f4]
    rw [a1, za_bnd, b1, za_bnd, c1, za_bnd, d1, za_bnd, f1, za_bnd, f4]
    refine om_v (b := nI (k + 4 + 4 + 4 + 4 + 4)) f3 rfl ?_ (a5.tr (b5.tr (c5.tr (d5.tr f5)))) ((gr_wr GR2.rf (by omega)).tr (a6.tr (b6.tr (c6.tr (d6.tr f6))))) (by rw [f7, d7, c7, b7, a7, za_wrs])
    rw [show FU = 99994 + 1 + 1 + 1 + 1 + 1 + 1 from rfl, fd_0 a2, fd_1 b2, fd_2 c2, fd_3 d2, fd_4 f2, fd_5, h9]
  · exact om_r (b := -1) h (by rw [if_neg (fun z => q (by rw [nI_leI (by omega) (by omega)] at z; exact z))]; rfl) (if_neg (fun z => q (by rw [nI_leI (by omega) (by omega)] at z; omega)))
end AY
