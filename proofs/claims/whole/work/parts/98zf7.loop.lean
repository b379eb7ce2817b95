theorem gt_out {nX j : Nat} (hn : nX ≤ 3072) (hj : j ≤ 3078) (h : nX < j + 6) : nI nX - nI 6 < nI j := by
  by_cases q : 6 ≤ nX
  · rw [za_sub q]
    exact nI_lt (by omega) (by omega)
  · have h0 : nI nX - nI 6 < 0 := by
      rcases (by omega : nX = 0 ∨ nX = 1 ∨ nX = 2 ∨ nX = 3 ∨ nX = 4 ∨ nX = 5) with rfl | rfl | rfl | rfl | rfl | rfl <;> decide
    rw [Int32.lt_iff_toInt_lt] at h0 ⊢
    have h1 : (0 : Int32).toInt = 0 := by decide
    rw [nI_toInt (by omega)]
    omega
theorem gt_in {nX j : Nat} (hn : nX ≤ 3072) (h : j + 6 ≤ nX) : ¬ nI nX - nI 6 < nI j := by
  rw [za_sub (by omega)]
  exact nI_nlt (by omega) (by omega)
theorem in_50 {x : Int32} (h : 0 ≤ x.toInt ∧ x.toInt ≤ 50) : ∃ k, k ≤ 50 ∧ x = nI k := by
  refine ⟨x.toInt.toNat, by omega, ?_⟩
  apply Int32.toInt_inj.mp
  rw [nI_toInt (by omega)]
  omega
set_option maxRecDepth 100000 in
theorem law_loop {p : Program} {l : Launch} {e : Env} {s : State} {m : MethodId} {args : Array Value} {below : List Frame} {meth : Method} {c : Code} {Y : Nat → ClassId} {D : va_G} {b0 : Nat} {Q : State → Prop} {b nX : Nat} {xs : Nat → Int32} (hfl : l.stackTraces = false) (hX : va_X b nX xs s s.heap) (hb : b < b0) (hn : nX ≤ 3072)
    (hend : ∀ (σ : Nat → Nat) (np cells slots j : Nat) (M : Mc) (N : Md), EOK p s m args meth c cL_law_ 7 "SettlerColonyLaw" Y D σ np b0 → cells ≤ 600000 → slots ≤ 7000000 → Xw p l e room_1 s m args below meth c 7 Y D σ np b0 cells slots Q 3283 (Lb σ b j) [] M N) :
    ∀ (d j : Nat) (σ : Nat → Nat) (np cells slots : Nat) (M : Mc) (N : Md), nX ≤ j + d → j ≤ 3078 → EOK p s m args meth c cL_law_ 7 "SettlerColonyLaw" Y D σ np b0 → GI np M N → cells ≤ 1000 + 60 * j → slots ≤ 60000 + 400 * j → Xw p l e room_1 s m args below meth c 7 Y D σ np b0 cells slots Q 23 (Lb σ b j) [] M N := by
  intro d
  induction d with
  | zero =>
    intro j σ np cells slots M N hd hj3 hE hG hc hs
    refine x_iload hE 4 dL_law__23 rfl ?_
    refine x_aload_n hE 0 dL_law__25 rfl rfl ?_
    refine x_slen hE hX hb dL_law__26 ?_
    refine x_bipush hE (nI 6) dL_law__27 (by decide) ?_
    refine x_isub hE dL_law__29 ?_
    refine x_icmp_gt hE 3283 dL_law__30 (by decide) (A := some ()) (B := none) (r := ()) (if_pos (gt_out hn (by omega) (by omega))) (fun _ => ?_) (fun h => by cases h)
    exact hend σ np cells slots j M N hE (by omega) (by omega)
  | succ d ih =>
    intro j σ np cells slots M N hd hj3 hE hG hc hs
    refine x_iload hE 4 dL_law__23 rfl ?_
    refine x_aload_n hE 0 dL_law__25 rfl rfl ?_
    refine x_slen hE hX hb dL_law__26 ?_
    refine x_bipush hE (nI 6) dL_law__27 (by decide) ?_
    refine x_isub hE dL_law__29 ?_
    by_cases hq : j + 6 ≤ nX
    · refine x_icmp_gt hE 3283 dL_law__30 (by decide) (A := none) (B := some ()) (r := ()) (if_neg (gt_in hn hq)) (fun h => by cases h) (fun _ => ?_)
      have hK : LK p l e s m args below meth c Y D b0 cells slots Q b j := by
        intro σ' np' cells' slots' M' N' hE' hG' hc' hs'
        refine x_iinc hE' 4 (L' := [(4, .int (nI (j + 6))), (0, .ref b), (1, .ref (σ' 0)), (2, .ref (σ' 127)), (3, .ref (σ' 145))]) (nI (j + 6)) dL_law__3277 rfl (nI_add j 6) (by decide) rfl ?_
        refine x_goto hE' 23 dL_law__3280 (by decide) ?_
        refine x_pick [1, 2, 3, 4, 0] (L' := Lb σ' b (j + 6)) rfl ?_
        have b1 : cells' ≤ 1000 + 60 * (j + 6) := by omega
        have b2 : slots' ≤ 60000 + 400 * (j + 6) := by
          have b3 : 60000 + 400 * j + 330 ≤ 60000 + 400 * (j + 6) := by rw [Nat.mul_add, ← Nat.add_assoc]; exact Nat.add_le_add_left (by decide) _
          exact Nat.le_trans hs' (Nat.le_trans (Nat.add_le_add_right hs 330) b3)
        exact ih (j + 6) σ' np' cells' slots' M' N' (by omega) (by omega) hE' hG' b1 b2
      refine x_aload_n hE 0 dL_law__33 rfl rfl ?_
      refine x_iload hE 4 dL_law__34 rfl ?_
      refine x_sld hE hX hb j rfl (by omega) hn dL_law__36 ?_
      refine x_bipush hE (nI 63) dL_law__37 (by decide) ?_
      refine x_iand hE dL_law__39 ?_
      by_cases hr : 0 ≤ (xs j &&& nI 63).toInt ∧ (xs j &&& nI 63).toInt ≤ 50
      · obtain ⟨k, hk, hx⟩ := in_50 hr
        have hc1 : cells ≤ 600000 := by omega
        have hs1 : slots ≤ 7000000 := by omega
        rcases (by omega : k = 0 ∨ k = 1 ∨ k = 2 ∨ k = 3 ∨ k = 4 ∨ k = 5 ∨ k = 6 ∨ k = 7 ∨ k = 8 ∨ k = 9 ∨ k = 10 ∨ k = 11 ∨ k = 12 ∨ k = 13 ∨ k = 14 ∨ k = 15 ∨ k = 16 ∨ k = 17 ∨ k = 18 ∨ k = 19 ∨ k = 20 ∨ k = 21 ∨ k = 22 ∨ k = 23 ∨ k = 24 ∨ k = 25 ∨ k = 26 ∨ k = 27 ∨ k = 28 ∨ k = 29 ∨ k = 30 ∨ k = 31 ∨ k = 32 ∨ k = 33 ∨ k = 34 ∨ k = 35 ∨ k = 36 ∨ k = 37 ∨ k = 38 ∨ k = 39 ∨ k = 40 ∨ k = 41 ∨ k = 42 ∨ k = 43 ∨ k = 44 ∨ k = 45 ∨ k = 46 ∨ k = 47 ∨ k = 48 ∨ k = 49 ∨ k = 50) with rfl | rfl | rfl | rfl | rfl | rfl | rfl | rfl | rfl | rfl | rfl | rfl | rfl | rfl | rfl | rfl | rfl | rfl | rfl | rfl | rfl | rfl | rfl | rfl | rfl | rfl | rfl | rfl | rfl | rfl | rfl | rfl | rfl | rfl | rfl | rfl | rfl | rfl | rfl | rfl | rfl | rfl | rfl | rfl | rfl | rfl | rfl | rfl | rfl | rfl | rfl
        · exact x_tabI hE 260 dL_law__40 hx (by decide) (by decide) rfl (by decide) (wL_c0 hfl hE hX hb hq hn hG hc1 hs1 hK)
        · exact x_tabI hE 356 dL_law__40 hx (by decide) (by decide) rfl (by decide) (wL_c1 hfl hE hX hb hq hn hG hc1 hs1 hK)
        · exact x_tabI hE 424 dL_law__40 hx (by decide) (by decide) rfl (by decide) (wL_c2 hfl hE hX hb hq hn hG hc1 hs1 hK)
        · exact x_tabI hE 504 dL_law__40 hx (by decide) (by decide) rfl (by decide) (wL_c3 hfl hE hX hb hq hn hG hc1 hs1 hK)
        · exact x_tabI hE 572 dL_law__40 hx (by decide) (by decide) rfl (by decide) (wL_c4 hfl hE hX hb hq hn hG hc1 hs1 hK)
        · exact x_tabI hE 628 dL_law__40 hx (by decide) (by decide) rfl (by decide) (wL_c5 hfl hE hX hb hq hn hG hc1 hs1 hK)
        · exact x_tabI hE 684 dL_law__40 hx (by decide) (by decide) rfl (by decide) (wL_c6 hfl hE hX hb hq hn hG hc1 hs1 hK)
        · exact x_tabI hE 752 dL_law__40 hx (by decide) (by decide) rfl (by decide) (wL_c7 hfl hE hX hb hq hn hG hc1 hs1 hK)
        · exact x_tabI hE 827 dL_law__40 hx (by decide) (by decide) rfl (by decide) (wL_c8 hfl hE hX hb hq hn hG hc1 hs1 hK)
        · exact x_tabI hE 907 dL_law__40 hx (by decide) (by decide) rfl (by decide) (wL_c9 hfl hE hX hb hq hn hG hc1 hs1 hK)
        · exact x_tabI hE 975 dL_law__40 hx (by decide) (by decide) rfl (by decide) (wL_c10 hfl hE hX hb hq hn hG hc1 hs1 hK)
        · exact x_tabI hE 1031 dL_law__40 hx (by decide) (by decide) rfl (by decide) (wL_c11 hfl hE hX hb hq hn hG hc1 hs1 hK)
        · exact x_tabI hE 1099 dL_law__40 hx (by decide) (by decide) rfl (by decide) (wL_c12 hfl hE hX hb hq hn hG hc1 hs1 hK)
        · exact x_tabI hE 1167 dL_law__40 hx (by decide) (by decide) rfl (by decide) (wL_c13 hfl hE hX hb hq hn hG hc1 hs1 hK)
        · exact x_tabI hE 1223 dL_law__40 hx (by decide) (by decide) rfl (by decide) (wL_c14 hfl hE hX hb hq hn hG hc1 hs1 hK)
        · exact x_tabI hE 1279 dL_law__40 hx (by decide) (by decide) rfl (by decide) (wL_c15 hfl hE hX hb hq hn hG hc1 hs1 hK)
        · exact x_tabI hE 1335 dL_law__40 hx (by decide) (by decide) rfl (by decide) (wL_c16 hfl hE hX hb hq hn hG hc1 hs1 hK)
        · exact x_tabI hE 1391 dL_law__40 hx (by decide) (by decide) rfl (by decide) (wL_c17 hfl hE hX hb hq hn hG hc1 hs1 hK)
        · exact x_tabI hE 1459 dL_law__40 hx (by decide) (by decide) rfl (by decide) (wL_c18 hfl hE hX hb hq hn hG hc1 hs1 hK)
        · exact x_tabI hE 1515 dL_law__40 hx (by decide) (by decide) rfl (by decide) (wL_c19 hfl hE hX hb hq hn hG hc1 hs1 hK)
        · exact x_tabI hE 1583 dL_law__40 hx (by decide) (by decide) rfl (by decide) (wL_c20 hfl hE hX hb hq hn hG hc1 hs1 hK)
        · exact x_tabI hE 1651 dL_law__40 hx (by decide) (by decide) rfl (by decide) (wL_c21 hfl hE hX hb hq hn hG hc1 hs1 hK)
        · exact x_tabI hE 1719 dL_law__40 hx (by decide) (by decide) rfl (by decide) (wL_c22 hfl hE hX hb hq hn hG hc1 hs1 hK)
        · exact x_tabI hE 1799 dL_law__40 hx (by decide) (by decide) rfl (by decide) (wL_c23 hfl hE hX hb hq hn hG hc1 hs1 hK)
        · exact x_tabI hE 1867 dL_law__40 hx (by decide) (by decide) rfl (by decide) (wL_c24 hfl hE hX hb hq hn hG hc1 hs1 hK)
        · exact x_tabI hE 1940 dL_law__40 hx (by decide) (by decide) rfl (by decide) (wL_c25 hfl hE hX hb hq hn hG hc1 hs1 hK)
        · exact x_tabI hE 1996 dL_law__40 hx (by decide) (by decide) rfl (by decide) (wL_c26 hfl hE hX hb hq hn hG hc1 hs1 hK)
        · exact x_tabI hE 2009 dL_law__40 hx (by decide) (by decide) rfl (by decide) (wL_c27 hfl hE hX hb hq hn hG hc1 hs1 hK)
        · exact x_tabI hE 2105 dL_law__40 hx (by decide) (by decide) rfl (by decide) (wL_c28 hfl hE hX hb hq hn hG hc1 hs1 hK)
        · exact x_tabI hE 2161 dL_law__40 hx (by decide) (by decide) rfl (by decide) (wL_c29 hfl hE hX hb hq hn hG hc1 hs1 hK)
        · exact x_tabI hE 2245 dL_law__40 hx (by decide) (by decide) rfl (by decide) (wL_c30 hfl hE hX hb hq hn hG hc1 hs1 hK)
        · exact x_tabI hE 2301 dL_law__40 hx (by decide) (by decide) rfl (by decide) (wL_c31 hfl hE hX hb hq hn hG hc1 hs1 hK)
        · exact x_tabI hE 2369 dL_law__40 hx (by decide) (by decide) rfl (by decide) (wL_c32 hfl hE hX hb hq hn hG hc1 hs1 hK)
        · exact x_tabI hE 2425 dL_law__40 hx (by decide) (by decide) rfl (by decide) (wL_c33 hfl hE hX hb hq hn hG hc1 hs1 hK)
        · exact x_tabI hE 2438 dL_law__40 hx (by decide) (by decide) rfl (by decide) (wL_c34 hfl hE hX hb hq hn hG hc1 hs1 hK)
        · exact x_tabI hE 2499 dL_law__40 hx (by decide) (by decide) rfl (by decide) (wL_c35 hfl hE hX hb hq hn hG hc1 hs1 hK)
        · exact x_tabI hE 2512 dL_law__40 hx (by decide) (by decide) rfl (by decide) (wL_c36 hfl hE hX hb hq hn hG hc1 hs1 hK)
        · exact x_tabI hE 2568 dL_law__40 hx (by decide) (by decide) rfl (by decide) (wL_c37 hfl hE hX hb hq hn hG hc1 hs1 hK)
        · exact x_tabI hE 2624 dL_law__40 hx (by decide) (by decide) rfl (by decide) (wL_c38 hfl hE hX hb hq hn hG hc1 hs1 hK)
        · exact x_tabI hE 2680 dL_law__40 hx (by decide) (by decide) rfl (by decide) (wL_c39 hfl hE hX hb hq hn hG hc1 hs1 hK)
        · exact x_tabI hE 2736 dL_law__40 hx (by decide) (by decide) rfl (by decide) (wL_c40 hfl hE hX hb hq hn hG hc1 hs1 hK)
        · exact x_tabI hE 2792 dL_law__40 hx (by decide) (by decide) rfl (by decide) (wL_c41 hfl hE hX hb hq hn hG hc1 hs1 hK)
        · exact x_tabI hE 2872 dL_law__40 hx (by decide) (by decide) rfl (by decide) (wL_c42 hfl hE hX hb hq hn hG hc1 hs1 hK)
        · exact x_tabI hE 2964 dL_law__40 hx (by decide) (by decide) rfl (by decide) (wL_c43 hfl hE hX hb hq hn hG hc1 hs1 hK)
        · exact x_tabI hE 3024 dL_law__40 hx (by decide) (by decide) rfl (by decide) (wL_c44 hfl hE hX hb hq hn hG hc1 hs1 hK)
        · exact x_tabI hE 3096 dL_law__40 hx (by decide) (by decide) rfl (by decide) (wL_c45 hfl hE hX hb hq hn hG hc1 hs1 hK)
        · exact x_tabI hE 3164 dL_law__40 hx (by decide) (by decide) rfl (by decide) (wL_c46 hfl hE hX hb hq hn hG hc1 hs1 hK)
        · exact x_tabI hE 3177 dL_law__40 hx (by decide) (by decide) rfl (by decide) (wL_c47 hfl hE hX hb hq hn hG hc1 hs1 hK)
        · exact x_tabI hE 3202 dL_law__40 hx (by decide) (by decide) rfl (by decide) (wL_c48 hfl hE hX hb hq hn hG hc1 hs1 hK)
        · exact x_tabI hE 3239 dL_law__40 hx (by decide) (by decide) rfl (by decide) (wL_c49 hfl hE hX hb hq hn hG hc1 hs1 hK)
        · exact x_tabI hE 3252 dL_law__40 hx (by decide) (by decide) rfl (by decide) (wL_c50 hfl hE hX hb hq hn hG hc1 hs1 hK)
      · refine x_tabO hE 3277 dL_law__40 (by omega) (by decide) ?_
        exact hK σ np cells slots M N hE hG (by omega) (by omega)
    · refine x_icmp_gt hE 3283 dL_law__30 (by decide) (A := some ()) (B := none) (r := ()) (if_pos (gt_out hn (by omega) (by omega))) (fun _ => ?_) (fun h => by cases h)
      exact hend σ np cells slots j M N hE (by omega) (by omega)

