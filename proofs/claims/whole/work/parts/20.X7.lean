theorem lk_X7_77 : Cond.methodLinkNest RX7 77 yX11_inside "SettlerColony" ∈ lw_nw := mem_n 1328 (by decide +kernel) rfl
theorem dX7_byteAt_0 : decode cX7_byteAt 0 = .ok (.iload_n 2, 1) := by decide +kernel
theorem dX7_byteAt_1 : decode cX7_byteAt 1 = .ok (.iload_n 1, 1) := by decide +kernel
theorem dX7_byteAt_2 : decode cX7_byteAt 2 = .ok (.invokestatic 77, 3) := by decide +kernel
theorem dX7_byteAt_5 : decode cX7_byteAt 5 = .ok (.ifCond .eq 18, 3) := by decide +kernel
theorem dX7_byteAt_8 : decode cX7_byteAt 8 = .ok (.iload_n 2, 1) := by decide +kernel
theorem dX7_byteAt_9 : decode cX7_byteAt 9 = .ok (.aload_n 0, 1) := by decide +kernel
theorem dX7_byteAt_10 : decode cX7_byteAt 10 = .ok (.arraylength, 1) := by decide +kernel
theorem dX7_byteAt_11 : decode cX7_byteAt 11 = .ok (.invokestatic 77, 3) := by decide +kernel
theorem dX7_byteAt_14 : decode cX7_byteAt 14 = .ok (.ifCond .eq 9, 3) := by decide +kernel
theorem dX7_byteAt_17 : decode cX7_byteAt 17 = .ok (.aload_n 0, 1) := by decide +kernel
theorem dX7_byteAt_18 : decode cX7_byteAt 18 = .ok (.iload_n 2, 1) := by decide +kernel
theorem dX7_byteAt_19 : decode cX7_byteAt 19 = .ok (.iaload, 1) := by decide +kernel
theorem dX7_byteAt_20 : decode cX7_byteAt 20 = .ok (.goto 4, 3) := by decide +kernel
theorem dX7_byteAt_23 : decode cX7_byteAt 23 = .ok (.iconst (-1), 1) := by decide +kernel
theorem dX7_byteAt_24 : decode cX7_byteAt 24 = .ok (.ireturn, 1) := by decide +kernel
theorem mX7_byteAt (l : Launch) {Y : Nat → ClassId} {D : va_G} {σ : Nat → Nat} {np b0 : Nat} {M : Mc} {N : Md} {p0 : Int32} {p1 : Int32} {r : Int32} (hf : fX7_byteAt M p0 p1 = some r) : Met l yX7_byteAt (.code yX7_byteAt cX7_byteAt 3 (some .int) :: lw_g) (rmD 2) (PR Y D σ np b0 [.ref (σ (123)), .int p0, .int p1] M N) (QR Y D σ np b0 (some (.int r)) M N) 0 0 (xA b0) := by
  refine x_met (by decide) (Nat.le_of_ble_eq_true rfl) (fun p e s m args below meth c hE hr => ?_)
  unfold fX7_byteAt at hf
  refine x_pick [0, 1, 2] (L' := [(0, .ref (σ (123))), (1, .int p0), (2, .int p1)]) rfl ?_
  refine x_iload_n hE 2 dX7_byteAt_0 rfl rfl ?_
  refine x_iload_n hE 1 dX7_byteAt_1 rfl rfl ?_
  obtain ⟨v2, hc1, hf⟩ := bnd_some hf
  refine x_callSN1 hE [.int p1, .int p0] (rest := []) (v := .int v2) (c1 := M) (d1 := N) rfl yokX11_inside ysX11_inside lk_X7_77 rfl rfl ⟨Nat.le_of_ble_eq_true rfl, Nat.le_of_ble_eq_true rfl⟩ ⟨Nat.zero_le _, Nat.zero_le _⟩ rfl (Nat.le_of_ble_eq_true rfl) dX7_byteAt_2 (mX11_inside l hc1) ?_
  refine x_if_eq hE 23 dX7_byteAt_5 (by decide) hf (fun hf => ?_) (fun hf => ?_)
  · refine x_iconst hE (-1) dX7_byteAt_23 (by decide) ?_
    replace hf := Option.some.inj hf
    subst hf
    exact x_ireturn hE (v := (-1)) hr rfl dX7_byteAt_24
  · refine x_iload_n hE 2 dX7_byteAt_8 rfl rfl ?_
    refine x_aload_n hE 0 dX7_byteAt_9 rfl rfl ?_
    refine x_alen hE (nI 300) (hE.kd kA_123) (Or.inl rfl) rfl dX7_byteAt_10 ?_
    obtain ⟨v4, hc3, hf⟩ := bnd_some hf
    refine x_callSN1 hE [.int p1, .int (nI 300)] (rest := []) (v := .int v4) (c1 := M) (d1 := N) rfl yokX11_inside ysX11_inside lk_X7_77 rfl rfl ⟨Nat.le_of_ble_eq_true rfl, Nat.le_of_ble_eq_true rfl⟩ ⟨Nat.zero_le _, Nat.zero_le _⟩ rfl (Nat.le_of_ble_eq_true rfl) dX7_byteAt_11 (mX11_inside l hc3) ?_
    refine x_if_eq hE 23 dX7_byteAt_14 (by decide) hf (fun hf => ?_) (fun hf => ?_)
    · refine x_iconst hE (-1) dX7_byteAt_23 (by decide) ?_
      replace hf := Option.some.inj hf
      subst hf
      exact x_ireturn hE (v := (-1)) hr rfl dX7_byteAt_24
    · refine x_aload_n hE 0 dX7_byteAt_17 rfl rfl ?_
      refine x_iload_n hE 2 dX7_byteAt_18 rfl rfl ?_
      refine x_iald hE (hE.kd kA_123) dX7_byteAt_19 hf (fun hf => ?_)
      refine x_goto hE 24 dX7_byteAt_20 (by decide) ?_
      replace hf := Option.some.inj hf
      subst hf
      exact x_ireturn hE (v := M (123) p1.toNatClampNeg) hr rfl dX7_byteAt_24
theorem yokX7_byteAt : YOK yX7_byteAt cX7_byteAt 3 3 (some .int) := ⟨mem_g 1331 (by decide +kernel) (by decide +kernel), mem_g 141 (by decide +kernel) (by decide +kernel), by decide +kernel, by decide +kernel, by decide +kernel⟩
theorem ysX7_byteAt : Cond.static yX7_byteAt ∈ lw_g := mem_g 1330 (by decide +kernel) (by decide +kernel)
theorem dX7_isLetter_0 : decode cX7_isLetter 0 = .ok (.iload_n 0, 1) := by decide +kernel
theorem dX7_isLetter_1 : decode cX7_isLetter 1 = .ok (.bipush 97, 2) := by decide +kernel
theorem dX7_isLetter_3 : decode cX7_isLetter 3 = .ok (.if_icmp .lt 13, 3) := by decide +kernel
theorem dX7_isLetter_6 : decode cX7_isLetter 6 = .ok (.iload_n 0, 1) := by decide +kernel
theorem dX7_isLetter_7 : decode cX7_isLetter 7 = .ok (.bipush 122, 2) := by decide +kernel
theorem dX7_isLetter_9 : decode cX7_isLetter 9 = .ok (.if_icmp .gt 7, 3) := by decide +kernel
theorem dX7_isLetter_12 : decode cX7_isLetter 12 = .ok (.iconst 1, 1) := by decide +kernel
theorem dX7_isLetter_13 : decode cX7_isLetter 13 = .ok (.goto 4, 3) := by decide +kernel
theorem dX7_isLetter_16 : decode cX7_isLetter 16 = .ok (.iconst 0, 1) := by decide +kernel
theorem dX7_isLetter_17 : decode cX7_isLetter 17 = .ok (.ireturn, 1) := by decide +kernel
theorem mX7_isLetter (l : Launch) {Y : Nat → ClassId} {D : va_G} {σ : Nat → Nat} {np b0 : Nat} {M : Mc} {N : Md} {p0 : Int32} {r : Int32} (hf : fX7_isLetter p0 = some r) : Met l yX7_isLetter (.code yX7_isLetter cX7_isLetter 1 (some .boolean) :: lw_g) (rmD 1) (PR Y D σ np b0 [.int p0] M N) (QR Y D σ np b0 (some (.int r)) M N) 0 0 (xA b0) := by
  refine x_met (by decide) (Nat.le_of_ble_eq_true rfl) (fun p e s m args below meth c hE hr => ?_)
  unfold fX7_isLetter at hf
  refine x_pick [0] (L' := [(0, .int p0)]) rfl ?_
  refine x_iload_n hE 0 dX7_isLetter_0 rfl rfl ?_
  refine x_bipush hE (nI 97) dX7_isLetter_1 (by decide) ?_
  refine x_icmp_lt hE 16 dX7_isLetter_3 (by decide) hf (fun hf => ?_) (fun hf => ?_)
  · refine x_iconst hE (0 : Int32) dX7_isLetter_16 (by decide) ?_
    replace hf := Option.some.inj hf
    subst hf
    exact x_ireturn hE (v := 0) hr rfl dX7_isLetter_17
  · refine x_iload_n hE 0 dX7_isLetter_6 rfl rfl ?_
    refine x_bipush hE (nI 122) dX7_isLetter_7 (by decide) ?_
    refine x_icmp_gt hE 16 dX7_isLetter_9 (by decide) hf (fun hf => ?_) (fun hf => ?_)
    · refine x_iconst hE (0 : Int32) dX7_isLetter_16 (by decide) ?_
      replace hf := Option.some.inj hf
      subst hf
      exact x_ireturn hE (v := 0) hr rfl dX7_isLetter_17
    · refine x_iconst hE (nI 1) dX7_isLetter_12 (by decide) ?_
      refine x_goto hE 17 dX7_isLetter_13 (by decide) ?_
      replace hf := Option.some.inj hf
      subst hf
      exact x_ireturn hE (v := nI 1) hr rfl dX7_isLetter_17
theorem yokX7_isLetter : YOK yX7_isLetter cX7_isLetter 1 1 (some .boolean) := ⟨mem_g 1334 (by decide +kernel) (by decide +kernel), mem_g 141 (by decide +kernel) (by decide +kernel), by decide +kernel, by decide +kernel, by decide +kernel⟩
theorem ysX7_isLetter : Cond.static yX7_isLetter ∈ lw_g := mem_g 1333 (by decide +kernel) (by decide +kernel)
theorem lk_X7_107 : Cond.methodLink RX7 107 yJ0_length_8abf5 ∈ lw_g := mem_g 1340 (by decide +kernel) (by decide +kernel)
theorem lk_X7_81 : Cond.methodLink RX7 81 yX7_byteAt ∈ lw_g := mem_g 1329 (by decide +kernel) (by decide +kernel)
theorem lk_X7_113 : Cond.methodLink RX7 113 yJ0_charAt_5068e ∈ lw_g := mem_g 1350 (by decide +kernel) (by decide +kernel)
theorem dX7_isSpelled_0 : decode cX7_isSpelled 0 = .ok (.iload_n 3, 1) := by decide +kernel
theorem dX7_isSpelled_1 : decode cX7_isSpelled 1 = .ok (.istore 5, 2) := by decide +kernel
theorem dX7_isSpelled_3 : decode cX7_isSpelled 3 = .ok (.iload 5, 2) := by decide +kernel
theorem dX7_isSpelled_5 : decode cX7_isSpelled 5 = .ok (.iload 4, 2) := by decide +kernel
theorem dX7_isSpelled_7 : decode cX7_isSpelled 7 = .ok (.if_icmp .ge 45, 3) := by decide +kernel
theorem dX7_isSpelled_10 : decode cX7_isSpelled 10 = .ok (.iload 5, 2) := by decide +kernel
theorem dX7_isSpelled_12 : decode cX7_isSpelled 12 = .ok (.ldc 105, 2) := by decide +kernel
theorem dX7_isSpelled_14 : decode cX7_isSpelled 14 = .ok (.invokevirtual 107, 3) := by decide +kernel
theorem dX7_isSpelled_17 : decode cX7_isSpelled 17 = .ok (.invokestatic 77, 3) := by decide +kernel
theorem dX7_isSpelled_20 : decode cX7_isSpelled 20 = .ok (.ifCond .eq 32, 3) := by decide +kernel
theorem dX7_isSpelled_23 : decode cX7_isSpelled 23 = .ok (.aload_n 0, 1) := by decide +kernel
theorem dX7_isSpelled_24 : decode cX7_isSpelled 24 = .ok (.iload_n 1, 1) := by decide +kernel
theorem dX7_isSpelled_25 : decode cX7_isSpelled 25 = .ok (.iload_n 2, 1) := by decide +kernel
theorem dX7_isSpelled_26 : decode cX7_isSpelled 26 = .ok (.iload 5, 2) := by decide +kernel
theorem dX7_isSpelled_28 : decode cX7_isSpelled 28 = .ok (.iadd, 1) := by decide +kernel
theorem dX7_isSpelled_29 : decode cX7_isSpelled 29 = .ok (.iload_n 3, 1) := by decide +kernel
theorem dX7_isSpelled_30 : decode cX7_isSpelled 30 = .ok (.isub, 1) := by decide +kernel
theorem dX7_isSpelled_31 : decode cX7_isSpelled 31 = .ok (.invokestatic 81, 3) := by decide +kernel
theorem dX7_isSpelled_34 : decode cX7_isSpelled 34 = .ok (.ldc 105, 2) := by decide +kernel
theorem dX7_isSpelled_36 : decode cX7_isSpelled 36 = .ok (.iload 5, 2) := by decide +kernel
theorem dX7_isSpelled_38 : decode cX7_isSpelled 38 = .ok (.invokevirtual 113, 3) := by decide +kernel
theorem dX7_isSpelled_41 : decode cX7_isSpelled 41 = .ok (.if_icmp .eq 5, 3) := by decide +kernel
theorem dX7_isSpelled_44 : decode cX7_isSpelled 44 = .ok (.iconst 0, 1) := by decide +kernel
theorem dX7_isSpelled_45 : decode cX7_isSpelled 45 = .ok (.ireturn, 1) := by decide +kernel
theorem dX7_isSpelled_46 : decode cX7_isSpelled 46 = .ok (.iinc 5 1, 3) := by decide +kernel
theorem dX7_isSpelled_49 : decode cX7_isSpelled 49 = .ok (.goto (-46), 3) := by decide +kernel
theorem dX7_isSpelled_52 : decode cX7_isSpelled 52 = .ok (.iconst 1, 1) := by decide +kernel
theorem dX7_isSpelled_53 : decode cX7_isSpelled 53 = .ok (.ireturn, 1) := by decide +kernel
theorem wX7_isSpelled_L3 {p : Program} {l : Launch} {e : Env} {s : State} {m : MethodId} {args : Array Value} {below : List Frame} {meth : Method} {c : Code} {Y : Nat → ClassId} {D : va_G} {σ : Nat → Nat} {np b0 : Nat} {r : Int32} (hE : EOK p s m args meth c cX7_isSpelled 6 RX7 Y D σ np b0) (hr : meth.sig.returnType = (some .boolean)) : ∀ (n : Nat) (M : Mc) (N : Md) (X1 : Int32) (X2 : Int32) (X3 : Int32) (X4 : Int32) (X5 : Int32), fX7_isSpelled_L3 n M X1 X2 X3 X4 X5 = some r → Xw p l e (rmD 6) s m args below meth c 6 Y D σ np b0 0 0 (MQ below (QR Y D σ np b0 (some (.int r)) M N) args s 0 0 (xA b0)) 3 [(0, .ref (σ (123))), (1, .int X1), (2, .int X2), (3, .int X3), (4, .int X4), (5, .int X5)] [] M N := by
  intro n
  induction n with
  | zero =>
    intro M N X1 X2 X3 X4 X5 hf
    cases hf
  | succ n ih =>
    intro M N X1 X2 X3 X4 X5 hf
    rw [fX7_isSpelled_L3.eq_2] at hf
    refine x_iload hE 5 dX7_isSpelled_3 rfl ?_
    refine x_iload hE 4 dX7_isSpelled_5 rfl ?_
    refine x_icmp_ge hE 52 dX7_isSpelled_7 (by decide) hf (fun hf => ?_) (fun hf => ?_)
    · refine x_iconst hE (nI 1) dX7_isSpelled_52 (by decide) ?_
      replace hf := Option.some.inj hf
      subst hf
      exact x_ireturn hE (v := nI 1) hr rfl dX7_isSpelled_53
    · refine x_iload hE 5 dX7_isSpelled_10 rfl ?_
      refine x_ldcS hE 0 (by decide) rfl rfl dX7_isSpelled_12 ?_
      obtain ⟨v2, hc1, hf⟩ := bnd_some hf
      refine x_callVS1 hE [] (rest := [.int X5]) (v := .int v2) (c1 := M) (d1 := N) rfl yokJ0_length_8abf5 yvJ0_length_8abf5 lk_X7_107 rfl (by decide) rfl rfl ⟨Nat.le_of_ble_eq_true rfl, Nat.le_of_ble_eq_true rfl⟩ ⟨Nat.zero_le _, Nat.zero_le _⟩ rfl (Nat.le_of_ble_eq_true rfl) dX7_isSpelled_14 (mJ0_length_8abf5 l (by decide) hc1) ?_
      obtain ⟨v4, hc3, hf⟩ := bnd_some hf
      refine x_callSN1 hE [.int X5, .int v2] (rest := []) (v := .int v4) (c1 := M) (d1 := N) rfl yokX11_inside ysX11_inside lk_X7_77 rfl rfl ⟨Nat.le_of_ble_eq_true rfl, Nat.le_of_ble_eq_true rfl⟩ ⟨Nat.zero_le _, Nat.zero_le _⟩ rfl (Nat.le_of_ble_eq_true rfl) dX7_isSpelled_17 (mX11_inside l hc3) ?_
      refine x_if_eq hE 52 dX7_isSpelled_20 (by decide) hf (fun hf => ?_) (fun hf => ?_)
      · refine x_iconst hE (nI 1) dX7_isSpelled_52 (by decide) ?_
        replace hf := Option.some.inj hf
        subst hf
        exact x_ireturn hE (v := nI 1) hr rfl dX7_isSpelled_53
      · refine x_aload_n hE 0 dX7_isSpelled_23 rfl rfl ?_
        refine x_iload_n hE 1 dX7_isSpelled_24 rfl rfl ?_
        refine x_iload_n hE 2 dX7_isSpelled_25 rfl rfl ?_
        refine x_iload hE 5 dX7_isSpelled_26 rfl ?_
        refine x_iadd hE dX7_isSpelled_28 ?_
        refine x_iload_n hE 3 dX7_isSpelled_29 rfl rfl ?_
        refine x_isub hE dX7_isSpelled_30 ?_
        obtain ⟨v6, hc5, hf⟩ := bnd_some hf
        refine x_callS1 hE [.ref (σ (123)), .int X1, .int ((X2 + X5) - X3)] (rest := []) (v := .int v6) (c1 := M) (d1 := N) rfl yokX7_byteAt ysX7_byteAt lk_X7_81 rfl rfl ⟨Nat.le_of_ble_eq_true rfl, Nat.le_of_ble_eq_true rfl⟩ ⟨Nat.zero_le _, Nat.zero_le _⟩ rfl (Nat.le_of_ble_eq_true rfl) dX7_isSpelled_31 (mX7_byteAt l hc5) ?_
        refine x_ldcS hE 0 (by decide) rfl rfl dX7_isSpelled_34 ?_
        refine x_iload hE 5 dX7_isSpelled_36 rfl ?_
        obtain ⟨v8, hc7, hf⟩ := bnd_some hf
        refine x_callVS1 hE [.int X5] (rest := [.int v6]) (v := .int v8) (c1 := M) (d1 := N) rfl yokJ0_charAt_5068e yvJ0_charAt_5068e lk_X7_113 rfl (by decide) rfl rfl ⟨Nat.le_of_ble_eq_true rfl, Nat.le_of_ble_eq_true rfl⟩ ⟨Nat.zero_le _, Nat.zero_le _⟩ rfl (Nat.le_of_ble_eq_true rfl) dX7_isSpelled_38 (mJ0_charAt_5068e l (by decide) hc7) ?_
        refine x_icmp_eq hE 46 dX7_isSpelled_41 (by decide) hf (fun hf => ?_) (fun hf => ?_)
        · refine x_iinc hE 5 (X5 + nI 1) (L' := [(5, .int (X5 + nI 1)), (0, .ref (σ (123))), (1, .int X1), (2, .int X2), (3, .int X3), (4, .int X4)]) dX7_isSpelled_46 rfl rfl (by decide) rfl ?_
          refine x_pick [1, 2, 3, 4, 5, 0] (L' := [(0, .ref (σ (123))), (1, .int X1), (2, .int X2), (3, .int X3), (4, .int X4), (5, .int (X5 + nI 1))]) rfl ?_
          refine x_goto hE 3 dX7_isSpelled_49 (by decide) ?_
          exact ih _ _ _ _ _ _ _ hf
        · refine x_iconst hE (0 : Int32) dX7_isSpelled_44 (by decide) ?_
          replace hf := Option.some.inj hf
          subst hf
          exact x_ireturn hE (v := 0) hr rfl dX7_isSpelled_45
theorem mX7_isSpelled (l : Launch) {Y : Nat → ClassId} {D : va_G} {σ : Nat → Nat} {np b0 : Nat} {M : Mc} {N : Md} {p0 : Int32} {p1 : Int32} {p2 : Int32} {p3 : Int32} {r : Int32} (hf : fX7_isSpelled M p0 p1 p2 p3 = some r) : Met l yX7_isSpelled (.code yX7_isSpelled cX7_isSpelled 6 (some .boolean) :: lw_g) (rmD 6) (PR Y D σ np b0 [.ref (σ (123)), .int p0, .int p1, .int p2, .int p3] M N) (QR Y D σ np b0 (some (.int r)) M N) 0 0 (xA b0) := by
  refine x_met (by decide) (Nat.le_of_ble_eq_true rfl) (fun p e s m args below meth c hE hr => ?_)
  unfold fX7_isSpelled at hf
  refine x_pick [0, 1, 2, 3, 4] (L' := [(0, .ref (σ (123))), (1, .int p0), (2, .int p1), (3, .int p2), (4, .int p3)]) rfl ?_
  refine x_iload_n hE 3 dX7_isSpelled_0 rfl rfl ?_
  refine x_istore hE (L' := [(5, .int p2), (0, .ref (σ (123))), (1, .int p0), (2, .int p1), (3, .int p2), (4, .int p3)]) dX7_isSpelled_1 (by decide) rfl ?_
  refine x_pick [1, 2, 3, 4, 5, 0] (L' := [(0, .ref (σ (123))), (1, .int p0), (2, .int p1), (3, .int p2), (4, .int p3), (5, .int p2)]) rfl ?_
  exact wX7_isSpelled_L3 hE hr  FU _ _ _ _ _ _ _ hf
theorem yokX7_isSpelled : YOK yX7_isSpelled cX7_isSpelled 6 5 (some .boolean) := ⟨mem_g 1390 (by decide +kernel) (by decide +kernel), mem_g 141 (by decide +kernel) (by decide +kernel), by decide +kernel, by decide +kernel, by decide +kernel⟩
theorem ysX7_isSpelled : Cond.static yX7_isSpelled ∈ lw_g := mem_g 1389 (by decide +kernel) (by decide +kernel)
theorem lk_X7_11 : Cond.fieldLink RX7 11 (TX7 0).1 (TX7 0).2.1 (TX7 0).2.2.1 ∈ lw_g := mem_g 502 (by decide +kernel) (by decide +kernel)
theorem lk_X7_85 : Cond.methodLink RX7 85 yX7_isLetter ∈ lw_g := mem_g 1332 (by decide +kernel) (by decide +kernel)
theorem lk_X7_117 : Cond.methodLink RX7 117 yX7_isSpelled ∈ lw_g := mem_g 1388 (by decide +kernel) (by decide +kernel)
theorem dX7_takeWord_0 : decode cX7_takeWord 0 = .ok (.iload 4, 2) := by decide +kernel
theorem dX7_takeWord_2 : decode cX7_takeWord 2 = .ok (.aload_n 0, 1) := by decide +kernel
theorem dX7_takeWord_3 : decode cX7_takeWord 3 = .ok (.getfield 11, 3) := by decide +kernel
theorem dX7_takeWord_6 : decode cX7_takeWord 6 = .ok (.arraylength, 1) := by decide +kernel
theorem dX7_takeWord_7 : decode cX7_takeWord 7 = .ok (.invokestatic 77, 3) := by decide +kernel
theorem dX7_takeWord_10 : decode cX7_takeWord 10 = .ok (.ifCond .ne 5, 3) := by decide +kernel
theorem dX7_takeWord_13 : decode cX7_takeWord 13 = .ok (.iload_n 2, 1) := by decide +kernel
theorem dX7_takeWord_14 : decode cX7_takeWord 14 = .ok (.ireturn, 1) := by decide +kernel
theorem dX7_takeWord_15 : decode cX7_takeWord 15 = .ok (.iload_n 3, 1) := by decide +kernel
theorem dX7_takeWord_16 : decode cX7_takeWord 16 = .ok (.istore 5, 2) := by decide +kernel
theorem dX7_takeWord_18 : decode cX7_takeWord 18 = .ok (.iconst 0, 1) := by decide +kernel
theorem dX7_takeWord_19 : decode cX7_takeWord 19 = .ok (.istore 6, 2) := by decide +kernel
theorem dX7_takeWord_21 : decode cX7_takeWord 21 = .ok (.iload 6, 2) := by decide +kernel
theorem dX7_takeWord_23 : decode cX7_takeWord 23 = .ok (.iload_n 2, 1) := by decide +kernel
theorem dX7_takeWord_24 : decode cX7_takeWord 24 = .ok (.if_icmp .ge 25, 3) := by decide +kernel
theorem dX7_takeWord_27 : decode cX7_takeWord 27 = .ok (.aload_n 1, 1) := by decide +kernel
theorem dX7_takeWord_28 : decode cX7_takeWord 28 = .ok (.iload_n 2, 1) := by decide +kernel
theorem dX7_takeWord_29 : decode cX7_takeWord 29 = .ok (.iload 5, 2) := by decide +kernel
theorem dX7_takeWord_31 : decode cX7_takeWord 31 = .ok (.invokestatic 81, 3) := by decide +kernel
theorem dX7_takeWord_34 : decode cX7_takeWord 34 = .ok (.invokestatic 85, 3) := by decide +kernel
theorem dX7_takeWord_37 : decode cX7_takeWord 37 = .ok (.ifCond .eq 12, 3) := by decide +kernel
theorem dX7_takeWord_40 : decode cX7_takeWord 40 = .ok (.iinc 5 1, 3) := by decide +kernel
theorem dX7_takeWord_43 : decode cX7_takeWord 43 = .ok (.iinc 6 1, 3) := by decide +kernel
theorem dX7_takeWord_46 : decode cX7_takeWord 46 = .ok (.goto (-25), 3) := by decide +kernel
theorem dX7_takeWord_49 : decode cX7_takeWord 49 = .ok (.aload_n 0, 1) := by decide +kernel
theorem dX7_takeWord_50 : decode cX7_takeWord 50 = .ok (.getfield 11, 3) := by decide +kernel
theorem dX7_takeWord_53 : decode cX7_takeWord 53 = .ok (.iload 4, 2) := by decide +kernel
theorem dX7_takeWord_55 : decode cX7_takeWord 55 = .ok (.sipush 302, 3) := by decide +kernel
theorem dX7_takeWord_58 : decode cX7_takeWord 58 = .ok (.iastore, 1) := by decide +kernel
theorem dX7_takeWord_59 : decode cX7_takeWord 59 = .ok (.iconst 0, 1) := by decide +kernel
theorem dX7_takeWord_60 : decode cX7_takeWord 60 = .ok (.istore 6, 2) := by decide +kernel
theorem dX7_takeWord_62 : decode cX7_takeWord 62 = .ok (.iconst 0, 1) := by decide +kernel
theorem dX7_takeWord_63 : decode cX7_takeWord 63 = .ok (.istore 7, 2) := by decide +kernel
theorem dX7_takeWord_65 : decode cX7_takeWord 65 = .ok (.iconst 0, 1) := by decide +kernel
theorem dX7_takeWord_66 : decode cX7_takeWord 66 = .ok (.istore 8, 2) := by decide +kernel
theorem dX7_takeWord_68 : decode cX7_takeWord 68 = .ok (.iload 8, 2) := by decide +kernel
theorem dX7_takeWord_70 : decode cX7_takeWord 70 = .ok (.ldc 105, 2) := by decide +kernel
theorem dX7_takeWord_72 : decode cX7_takeWord 72 = .ok (.invokevirtual 107, 3) := by decide +kernel
theorem dX7_takeWord_75 : decode cX7_takeWord 75 = .ok (.if_icmp .ge 68, 3) := by decide +kernel
theorem dX7_takeWord_78 : decode cX7_takeWord 78 = .ok (.ldc 105, 2) := by decide +kernel
theorem dX7_takeWord_80 : decode cX7_takeWord 80 = .ok (.iload 8, 2) := by decide +kernel
theorem dX7_takeWord_82 : decode cX7_takeWord 82 = .ok (.invokevirtual 113, 3) := by decide +kernel
theorem dX7_takeWord_85 : decode cX7_takeWord 85 = .ok (.bipush 32, 2) := by decide +kernel
theorem dX7_takeWord_87 : decode cX7_takeWord 87 = .ok (.if_icmp .ne 50, 3) := by decide +kernel
theorem dX7_takeWord_90 : decode cX7_takeWord 90 = .ok (.iload 8, 2) := by decide +kernel
theorem dX7_takeWord_92 : decode cX7_takeWord 92 = .ok (.iload 7, 2) := by decide +kernel
theorem dX7_takeWord_94 : decode cX7_takeWord 94 = .ok (.isub, 1) := by decide +kernel
theorem dX7_takeWord_95 : decode cX7_takeWord 95 = .ok (.iload 5, 2) := by decide +kernel
theorem dX7_takeWord_97 : decode cX7_takeWord 97 = .ok (.iload_n 3, 1) := by decide +kernel
theorem dX7_takeWord_98 : decode cX7_takeWord 98 = .ok (.isub, 1) := by decide +kernel
theorem dX7_takeWord_99 : decode cX7_takeWord 99 = .ok (.if_icmp .ne 29, 3) := by decide +kernel
theorem dX7_takeWord_102 : decode cX7_takeWord 102 = .ok (.aload_n 1, 1) := by decide +kernel
theorem dX7_takeWord_103 : decode cX7_takeWord 103 = .ok (.iload_n 2, 1) := by decide +kernel
theorem dX7_takeWord_104 : decode cX7_takeWord 104 = .ok (.iload_n 3, 1) := by decide +kernel
theorem dX7_takeWord_105 : decode cX7_takeWord 105 = .ok (.iload 7, 2) := by decide +kernel
theorem dX7_takeWord_107 : decode cX7_takeWord 107 = .ok (.iload 8, 2) := by decide +kernel
theorem dX7_takeWord_109 : decode cX7_takeWord 109 = .ok (.invokestatic 117, 3) := by decide +kernel
theorem dX7_takeWord_112 : decode cX7_takeWord 112 = .ok (.ifCond .eq 16, 3) := by decide +kernel
theorem dX7_takeWord_115 : decode cX7_takeWord 115 = .ok (.aload_n 0, 1) := by decide +kernel
theorem dX7_takeWord_116 : decode cX7_takeWord 116 = .ok (.getfield 11, 3) := by decide +kernel
theorem dX7_takeWord_119 : decode cX7_takeWord 119 = .ok (.iload 4, 2) := by decide +kernel
theorem dX7_takeWord_121 : decode cX7_takeWord 121 = .ok (.sipush 400, 3) := by decide +kernel
theorem dX7_takeWord_124 : decode cX7_takeWord 124 = .ok (.iload 6, 2) := by decide +kernel
theorem dX7_takeWord_126 : decode cX7_takeWord 126 = .ok (.iadd, 1) := by decide +kernel
theorem dX7_takeWord_127 : decode cX7_takeWord 127 = .ok (.iastore, 1) := by decide +kernel
theorem dX7_takeWord_128 : decode cX7_takeWord 128 = .ok (.iload 8, 2) := by decide +kernel
theorem dX7_takeWord_130 : decode cX7_takeWord 130 = .ok (.iconst 1, 1) := by decide +kernel
theorem dX7_takeWord_131 : decode cX7_takeWord 131 = .ok (.iadd, 1) := by decide +kernel
theorem dX7_takeWord_132 : decode cX7_takeWord 132 = .ok (.istore 7, 2) := by decide +kernel
theorem dX7_takeWord_134 : decode cX7_takeWord 134 = .ok (.iinc 6 1, 3) := by decide +kernel
theorem dX7_takeWord_137 : decode cX7_takeWord 137 = .ok (.iinc 8 1, 3) := by decide +kernel
theorem dX7_takeWord_140 : decode cX7_takeWord 140 = .ok (.goto (-72), 3) := by decide +kernel
theorem dX7_takeWord_143 : decode cX7_takeWord 143 = .ok (.iload 5, 2) := by decide +kernel
theorem dX7_takeWord_145 : decode cX7_takeWord 145 = .ok (.ireturn, 1) := by decide +kernel
theorem wX7_takeWord_J137 {p : Program} {l : Launch} {e : Env} {s : State} {m : MethodId} {args : Array Value} {below : List Frame} {meth : Method} {c : Code} {Y : Nat → ClassId} {D : va_G} {σ : Nat → Nat} {np b0 : Nat} {r : Int32 × Mc} {K68 : Mc → Int32 → Int32 → Int32 → Int32 → Int32 → Int32 → Int32 → Option (Int32 × Mc)} {M : Mc} {N : Md} {X2 : Int32} {X3 : Int32} {X4 : Int32} {X5 : Int32} {X6 : Int32} {X7 : Int32} {X8 : Int32} (hE : EOK p s m args meth c cX7_takeWord 9 RX7 Y D σ np b0) (hr : meth.sig.returnType = (some .int)) (hK68 : ∀ (M : Mc) (N : Md) (X2 : Int32) (X3 : Int32) (X4 : Int32) (X5 : Int32) (X6 : Int32) (X7 : Int32) (X8 : Int32), K68 M X2 X3 X4 X5 X6 X7 X8 = some r → Xw p l e (rmD 7) s m args below meth c 9 Y D σ np b0 0 0 (MQ below (QR Y D σ np b0 (some (.int r.1)) r.2 N) args s 0 0 (xA b0)) 68 [(0, .ref (σ (114))), (1, .ref (σ (123))), (2, .int X2), (3, .int X3), (4, .int X4), (5, .int X5), (6, .int X6), (7, .int X7), (8, .int X8)] [] M N) (hf : fX7_takeWord_J137 K68 M X2 X3 X4 X5 X6 X7 X8 = some r) : Xw p l e (rmD 7) s m args below meth c 9 Y D σ np b0 0 0 (MQ below (QR Y D σ np b0 (some (.int r.1)) r.2 N) args s 0 0 (xA b0)) 137 [(0, .ref (σ (114))), (1, .ref (σ (123))), (2, .int X2), (3, .int X3), (4, .int X4), (5, .int X5), (6, .int X6), (7, .int X7), (8, .int X8)] [] M N := by
  unfold fX7_takeWord_J137 at hf
  refine x_iinc hE 8 (X8 + nI 1) (L' := [(8, .int (X8 + nI 1)), (0, .ref (σ (114))), (1, .ref (σ (123))), (2, .int X2), (3, .int X3), (4, .int X4), (5, .int X5), (6, .int X6), (7, .int X7)]) dX7_takeWord_137 rfl rfl (by decide) rfl ?_
  refine x_pick [1, 2, 3, 4, 5, 6, 7, 8, 0] (L' := [(0, .ref (σ (114))), (1, .ref (σ (123))), (2, .int X2), (3, .int X3), (4, .int X4), (5, .int X5), (6, .int X6), (7, .int X7), (8, .int (X8 + nI 1))]) rfl ?_
  refine x_goto hE 68 dX7_takeWord_140 (by decide) ?_
  exact hK68 _ _ _ _ _ _ _ _ _ hf
theorem wX7_takeWord_J128 {p : Program} {l : Launch} {e : Env} {s : State} {m : MethodId} {args : Array Value} {below : List Frame} {meth : Method} {c : Code} {Y : Nat → ClassId} {D : va_G} {σ : Nat → Nat} {np b0 : Nat} {r : Int32 × Mc} {K68 : Mc → Int32 → Int32 → Int32 → Int32 → Int32 → Int32 → Int32 → Option (Int32 × Mc)} {M : Mc} {N : Md} {X2 : Int32} {X3 : Int32} {X4 : Int32} {X5 : Int32} {X6 : Int32} {X8 : Int32} (hE : EOK p s m args meth c cX7_takeWord 9 RX7 Y D σ np b0) (hr : meth.sig.returnType = (some .int)) (hK68 : ∀ (M : Mc) (N : Md) (X2 : Int32) (X3 : Int32) (X4 : Int32) (X5 : Int32) (X6 : Int32) (X7 : Int32) (X8 : Int32), K68 M X2 X3 X4 X5 X6 X7 X8 = some r → Xw p l e (rmD 7) s m args below meth c 9 Y D σ np b0 0 0 (MQ below (QR Y D σ np b0 (some (.int r.1)) r.2 N) args s 0 0 (xA b0)) 68 [(0, .ref (σ (114))), (1, .ref (σ (123))), (2, .int X2), (3, .int X3), (4, .int X4), (5, .int X5), (6, .int X6), (7, .int X7), (8, .int X8)] [] M N) (hf : fX7_takeWord_J128 K68 M X2 X3 X4 X5 X6 X8 = some r) : Xw p l e (rmD 7) s m args below meth c 9 Y D σ np b0 0 0 (MQ below (QR Y D σ np b0 (some (.int r.1)) r.2 N) args s 0 0 (xA b0)) 128 [(0, .ref (σ (114))), (1, .ref (σ (123))), (2, .int X2), (3, .int X3), (4, .int X4), (5, .int X5), (6, .int X6), (8, .int X8)] [] M N := by
  unfold fX7_takeWord_J128 at hf
  refine x_iload hE 7 dX7_takeWord_128 rfl ?_
  refine x_iconst hE (nI 1) dX7_takeWord_130 (by decide) ?_
  refine x_iadd hE dX7_takeWord_131 ?_
  refine x_ltI hf (fun v15 hf => ?_)
  refine x_istore hE (L' := [(7, .int v15), (0, .ref (σ (114))), (1, .ref (σ (123))), (2, .int X2), (3, .int X3), (4, .int X4), (5, .int X5), (6, .int X6), (8, .int X8)]) dX7_takeWord_132 (by decide) rfl ?_
  refine x_pick [1, 2, 3, 4, 5, 6, 7, 0, 8] (L' := [(0, .ref (σ (114))), (1, .ref (σ (123))), (2, .int X2), (3, .int X3), (4, .int X4), (5, .int X5), (6, .int X6), (7, .int v15), (8, .int X8)]) rfl ?_
  refine x_iinc hE 6 (X6 + nI 1) (L' := [(6, .int (X6 + nI 1)), (0, .ref (σ (114))), (1, .ref (σ (123))), (2, .int X2), (3, .int X3), (4, .int X4), (5, .int X5), (7, .int v15), (8, .int X8)]) dX7_takeWord_134 rfl rfl (by decide) rfl ?_
  refine x_pick [1, 2, 3, 4, 5, 6, 0, 7, 8] (L' := [(0, .ref (σ (114))), (1, .ref (σ (123))), (2, .int X2), (3, .int X3), (4, .int X4), (5, .int X5), (6, .int (X6 + nI 1)), (7, .int v15), (8, .int X8)]) rfl ?_
  exact wX7_takeWord_J137 hE hr hK68 hf
theorem wX7_takeWord_L68 {p : Program} {l : Launch} {e : Env} {s : State} {m : MethodId} {args : Array Value} {below : List Frame} {meth : Method} {c : Code} {Y : Nat → ClassId} {D : va_G} {σ : Nat → Nat} {np b0 : Nat} {r : Int32 × Mc} (hE : EOK p s m args meth c cX7_takeWord 9 RX7 Y D σ np b0) (hr : meth.sig.returnType = (some .int)) : ∀ (n : Nat) (M : Mc) (N : Md) (X2 : Int32) (X3 : Int32) (X4 : Int32) (X5 : Int32) (X6 : Int32) (X7 : Int32) (X8 : Int32), fX7_takeWord_L68 n M X2 X3 X4 X5 X6 X7 X8 = some r → Xw p l e (rmD 7) s m args below meth c 9 Y D σ np b0 0 0 (MQ below (QR Y D σ np b0 (some (.int r.1)) r.2 N) args s 0 0 (xA b0)) 68 [(0, .ref (σ (114))), (1, .ref (σ (123))), (2, .int X2), (3, .int X3), (4, .int X4), (5, .int X5), (6, .int X6), (7, .int X7), (8, .int X8)] [] M N := by
  intro n
  induction n with
  | zero =>
    intro M N X2 X3 X4 X5 X6 X7 X8 hf
    cases hf
  | succ n ih =>
    intro M N X2 X3 X4 X5 X6 X7 X8 hf
    rw [fX7_takeWord_L68.eq_2] at hf
    refine x_iload hE 8 dX7_takeWord_68 rfl ?_
    refine x_ldcS hE 0 (by decide) rfl rfl dX7_takeWord_70 ?_
    obtain ⟨v9, hc8, hf⟩ := bnd_some hf
    refine x_callVS1 hE [] (rest := [.int X8]) (v := .int v9) (c1 := M) (d1 := N) rfl yokJ0_length_8abf5 yvJ0_length_8abf5 lk_X7_107 rfl (by decide) rfl rfl ⟨Nat.le_of_ble_eq_true rfl, Nat.le_of_ble_eq_true rfl⟩ ⟨Nat.zero_le _, Nat.zero_le _⟩ rfl (Nat.le_of_ble_eq_true rfl) dX7_takeWord_72 (mJ0_length_8abf5 l (by decide) hc8) ?_
    refine x_icmp_ge hE 143 dX7_takeWord_75 (by decide) hf (fun hf => ?_) (fun hf => ?_)
    · refine x_iload hE 5 dX7_takeWord_143 rfl ?_
      replace hf := Option.some.inj hf
      subst hf
      exact x_ireturn hE (v := X5) hr rfl dX7_takeWord_145
    · refine x_ldcS hE 0 (by decide) rfl rfl dX7_takeWord_78 ?_
      refine x_iload hE 8 dX7_takeWord_80 rfl ?_
      obtain ⟨v11, hc10, hf⟩ := bnd_some hf
      refine x_callVS1 hE [.int X8] (rest := []) (v := .int v11) (c1 := M) (d1 := N) rfl yokJ0_charAt_5068e yvJ0_charAt_5068e lk_X7_113 rfl (by decide) rfl rfl ⟨Nat.le_of_ble_eq_true rfl, Nat.le_of_ble_eq_true rfl⟩ ⟨Nat.zero_le _, Nat.zero_le _⟩ rfl (Nat.le_of_ble_eq_true rfl) dX7_takeWord_82 (mJ0_charAt_5068e l (by decide) hc10) ?_
      refine x_bipush hE (nI 32) dX7_takeWord_85 (by decide) ?_
      refine x_icmp_ne hE 137 dX7_takeWord_87 (by decide) hf (fun hf => ?_) (fun hf => ?_)
      · exact wX7_takeWord_J137 hE hr (fun _ _ _ _ _ _ _ _ _ hf => ih _ _ _ _ _ _ _ _ _ hf) hf
      · refine x_iload hE 8 dX7_takeWord_90 rfl ?_
        refine x_iload hE 7 dX7_takeWord_92 rfl ?_
        refine x_isub hE dX7_takeWord_94 ?_
        refine x_iload hE 5 dX7_takeWord_95 rfl ?_
        refine x_iload_n hE 3 dX7_takeWord_97 rfl rfl ?_
        refine x_isub hE dX7_takeWord_98 ?_
        refine x_icmp_ne hE 128 dX7_takeWord_99 (by decide) hf (fun hf => ?_) (fun hf => ?_)
        · refine x_pick [0, 1, 2, 3, 4, 5, 6, 8] (L' := [(0, .ref (σ (114))), (1, .ref (σ (123))), (2, .int X2), (3, .int X3), (4, .int X4), (5, .int X5), (6, .int X6), (8, .int X8)]) rfl ?_
          exact wX7_takeWord_J128 hE hr (fun _ _ _ _ _ _ _ _ _ hf => ih _ _ _ _ _ _ _ _ _ hf) hf
        · refine x_aload_n hE 1 dX7_takeWord_102 rfl rfl ?_
          refine x_iload_n hE 2 dX7_takeWord_103 rfl rfl ?_
          refine x_iload_n hE 3 dX7_takeWord_104 rfl rfl ?_
          refine x_iload hE 7 dX7_takeWord_105 rfl ?_
          refine x_iload hE 8 dX7_takeWord_107 rfl ?_
          obtain ⟨v13, hc12, hf⟩ := bnd_some hf
          refine x_callS1 hE [.ref (σ (123)), .int X2, .int X3, .int X7, .int X8] (rest := []) (v := .int v13) (c1 := M) (d1 := N) rfl yokX7_isSpelled ysX7_isSpelled lk_X7_117 rfl rfl ⟨Nat.le_of_ble_eq_true rfl, Nat.le_of_ble_eq_true rfl⟩ ⟨Nat.zero_le _, Nat.zero_le _⟩ rfl (Nat.le_of_ble_eq_true rfl) dX7_takeWord_109 (mX7_isSpelled l hc12) ?_
          refine x_if_eq hE 128 dX7_takeWord_112 (by decide) hf (fun hf => ?_) (fun hf => ?_)
          · refine x_pick [0, 1, 2, 3, 4, 5, 6, 8] (L' := [(0, .ref (σ (114))), (1, .ref (σ (123))), (2, .int X2), (3, .int X3), (4, .int X4), (5, .int X5), (6, .int X6), (8, .int X8)]) rfl ?_
            exact wX7_takeWord_J128 hE hr (fun _ _ _ _ _ _ _ _ _ hf => ih _ _ _ _ _ _ _ _ _ hf) hf
          · refine x_aload_n hE 0 dX7_takeWord_115 rfl rfl ?_
            refine x_getR hE cl_7 (hE.kd kO_7) (by decide) 0 (115) rfl (by decide) lk_X7_11 dX7_takeWord_116 ?_
            refine x_iload hE 4 dX7_takeWord_119 rfl ?_
            refine x_sipush hE (nI 400) dX7_takeWord_121 (by decide) ?_
            refine x_iload hE 6 dX7_takeWord_124 rfl ?_
            refine x_iadd hE dX7_takeWord_126 ?_
            refine x_iast hE (hE.kd kA_115) dX7_takeWord_127 hf (fun M14 hf => ?_)
            refine x_pick [0, 1, 2, 3, 4, 5, 6, 8] (L' := [(0, .ref (σ (114))), (1, .ref (σ (123))), (2, .int X2), (3, .int X3), (4, .int X4), (5, .int X5), (6, .int X6), (8, .int X8)]) rfl ?_
            exact wX7_takeWord_J128 hE hr (fun _ _ _ _ _ _ _ _ _ hf => ih _ _ _ _ _ _ _ _ _ hf) hf
theorem wX7_takeWord_J49 {p : Program} {l : Launch} {e : Env} {s : State} {m : MethodId} {args : Array Value} {below : List Frame} {meth : Method} {c : Code} {Y : Nat → ClassId} {D : va_G} {σ : Nat → Nat} {np b0 : Nat} {r : Int32 × Mc} {M : Mc} {N : Md} {X2 : Int32} {X3 : Int32} {X4 : Int32} {X5 : Int32} (hE : EOK p s m args meth c cX7_takeWord 9 RX7 Y D σ np b0) (hr : meth.sig.returnType = (some .int)) (hf : fX7_takeWord_J49 M X2 X3 X4 X5 = some r) : Xw p l e (rmD 7) s m args below meth c 9 Y D σ np b0 0 0 (MQ below (QR Y D σ np b0 (some (.int r.1)) r.2 N) args s 0 0 (xA b0)) 49 [(0, .ref (σ (114))), (1, .ref (σ (123))), (2, .int X2), (3, .int X3), (4, .int X4), (5, .int X5)] [] M N := by
  unfold fX7_takeWord_J49 at hf
  refine x_aload_n hE 0 dX7_takeWord_49 rfl rfl ?_
  refine x_getR hE cl_7 (hE.kd kO_7) (by decide) 0 (115) rfl (by decide) lk_X7_11 dX7_takeWord_50 ?_
  refine x_iload hE 4 dX7_takeWord_53 rfl ?_
  refine x_sipush hE (nI 302) dX7_takeWord_55 (by decide) ?_
  refine x_iast hE (hE.kd kA_115) dX7_takeWord_58 hf (fun M7 hf => ?_)
  refine x_iconst hE (0 : Int32) dX7_takeWord_59 (by decide) ?_
  refine x_istore hE (L' := [(6, .int 0), (0, .ref (σ (114))), (1, .ref (σ (123))), (2, .int X2), (3, .int X3), (4, .int X4), (5, .int X5)]) dX7_takeWord_60 (by decide) rfl ?_
  refine x_pick [1, 2, 3, 4, 5, 6, 0] (L' := [(0, .ref (σ (114))), (1, .ref (σ (123))), (2, .int X2), (3, .int X3), (4, .int X4), (5, .int X5), (6, .int 0)]) rfl ?_
  refine x_iconst hE (0 : Int32) dX7_takeWord_62 (by decide) ?_
  refine x_istore hE (L' := [(7, .int 0), (0, .ref (σ (114))), (1, .ref (σ (123))), (2, .int X2), (3, .int X3), (4, .int X4), (5, .int X5), (6, .int 0)]) dX7_takeWord_63 (by decide) rfl ?_
  refine x_pick [1, 2, 3, 4, 5, 6, 7, 0] (L' := [(0, .ref (σ (114))), (1, .ref (σ (123))), (2, .int X2), (3, .int X3), (4, .int X4), (5, .int X5), (6, .int 0), (7, .int 0)]) rfl ?_
  refine x_iconst hE (0 : Int32) dX7_takeWord_65 (by decide) ?_
  refine x_istore hE (L' := [(8, .int 0), (0, .ref (σ (114))), (1, .ref (σ (123))), (2, .int X2), (3, .int X3), (4, .int X4), (5, .int X5), (6, .int 0), (7, .int 0)]) dX7_takeWord_66 (by decide) rfl ?_
  refine x_pick [1, 2, 3, 4, 5, 6, 7, 8, 0] (L' := [(0, .ref (σ (114))), (1, .ref (σ (123))), (2, .int X2), (3, .int X3), (4, .int X4), (5, .int X5), (6, .int 0), (7, .int 0), (8, .int 0)]) rfl ?_
  exact wX7_takeWord_L68 hE hr  FU _ _ _ _ _ _ _ _ _ hf
theorem wX7_takeWord_L21 {p : Program} {l : Launch} {e : Env} {s : State} {m : MethodId} {args : Array Value} {below : List Frame} {meth : Method} {c : Code} {Y : Nat → ClassId} {D : va_G} {σ : Nat → Nat} {np b0 : Nat} {r : Int32 × Mc} (hE : EOK p s m args meth c cX7_takeWord 9 RX7 Y D σ np b0) (hr : meth.sig.returnType = (some .int)) : ∀ (n : Nat) (M : Mc) (N : Md) (X2 : Int32) (X3 : Int32) (X4 : Int32) (X5 : Int32) (X6 : Int32), fX7_takeWord_L21 n M X2 X3 X4 X5 X6 = some r → Xw p l e (rmD 7) s m args below meth c 9 Y D σ np b0 0 0 (MQ below (QR Y D σ np b0 (some (.int r.1)) r.2 N) args s 0 0 (xA b0)) 21 [(0, .ref (σ (114))), (1, .ref (σ (123))), (2, .int X2), (3, .int X3), (4, .int X4), (5, .int X5), (6, .int X6)] [] M N := by
  intro n
  induction n with
  | zero =>
    intro M N X2 X3 X4 X5 X6 hf
    cases hf
  | succ n ih =>
    intro M N X2 X3 X4 X5 X6 hf
    rw [fX7_takeWord_L21.eq_2] at hf
    refine x_iload hE 6 dX7_takeWord_21 rfl ?_
    refine x_iload_n hE 2 dX7_takeWord_23 rfl rfl ?_
    refine x_icmp_ge hE 49 dX7_takeWord_24 (by decide) hf (fun hf => ?_) (fun hf => ?_)
    · refine x_pick [0, 1, 2, 3, 4, 5] (L' := [(0, .ref (σ (114))), (1, .ref (σ (123))), (2, .int X2), (3, .int X3), (4, .int X4), (5, .int X5)]) rfl ?_
      exact wX7_takeWord_J49 hE hr  hf
    · refine x_aload_n hE 1 dX7_takeWord_27 rfl rfl ?_
      refine x_iload_n hE 2 dX7_takeWord_28 rfl rfl ?_
      refine x_iload hE 5 dX7_takeWord_29 rfl ?_
      obtain ⟨v4, hc3, hf⟩ := bnd_some hf
      refine x_callS1 hE [.ref (σ (123)), .int X2, .int X5] (rest := []) (v := .int v4) (c1 := M) (d1 := N) rfl yokX7_byteAt ysX7_byteAt lk_X7_81 rfl rfl ⟨Nat.le_of_ble_eq_true rfl, Nat.le_of_ble_eq_true rfl⟩ ⟨Nat.zero_le _, Nat.zero_le _⟩ rfl (Nat.le_of_ble_eq_true rfl) dX7_takeWord_31 (mX7_byteAt l hc3) ?_
      obtain ⟨v6, hc5, hf⟩ := bnd_some hf
      refine x_callS1 hE [.int v4] (rest := []) (v := .int v6) (c1 := M) (d1 := N) rfl yokX7_isLetter ysX7_isLetter lk_X7_85 rfl rfl ⟨Nat.le_of_ble_eq_true rfl, Nat.le_of_ble_eq_true rfl⟩ ⟨Nat.zero_le _, Nat.zero_le _⟩ rfl (Nat.le_of_ble_eq_true rfl) dX7_takeWord_34 (mX7_isLetter l hc5) ?_
      refine x_if_eq hE 49 dX7_takeWord_37 (by decide) hf (fun hf => ?_) (fun hf => ?_)
      · refine x_pick [0, 1, 2, 3, 4, 5] (L' := [(0, .ref (σ (114))), (1, .ref (σ (123))), (2, .int X2), (3, .int X3), (4, .int X4), (5, .int X5)]) rfl ?_
        exact wX7_takeWord_J49 hE hr  hf
      · refine x_iinc hE 5 (X5 + nI 1) (L' := [(5, .int (X5 + nI 1)), (0, .ref (σ (114))), (1, .ref (σ (123))), (2, .int X2), (3, .int X3), (4, .int X4), (6, .int X6)]) dX7_takeWord_40 rfl rfl (by decide) rfl ?_
        refine x_pick [1, 2, 3, 4, 5, 0, 6] (L' := [(0, .ref (σ (114))), (1, .ref (σ (123))), (2, .int X2), (3, .int X3), (4, .int X4), (5, .int (X5 + nI 1)), (6, .int X6)]) rfl ?_
        refine x_iinc hE 6 (X6 + nI 1) (L' := [(6, .int (X6 + nI 1)), (0, .ref (σ (114))), (1, .ref (σ (123))), (2, .int X2), (3, .int X3), (4, .int X4), (5, .int (X5 + nI 1))]) dX7_takeWord_43 rfl rfl (by decide) rfl ?_
        refine x_pick [1, 2, 3, 4, 5, 6, 0] (L' := [(0, .ref (σ (114))), (1, .ref (σ (123))), (2, .int X2), (3, .int X3), (4, .int X4), (5, .int (X5 + nI 1)), (6, .int (X6 + nI 1))]) rfl ?_
        refine x_goto hE 21 dX7_takeWord_46 (by decide) ?_
        exact ih _ _ _ _ _ _ _ hf
theorem mX7_takeWord (l : Launch) {Y : Nat → ClassId} {D : va_G} {σ : Nat → Nat} {np b0 : Nat} {M : Mc} {N : Md} {p0 : Int32} {p1 : Int32} {p2 : Int32} {r : Int32 × Mc} (hf : fX7_takeWord M p0 p1 p2 = some r) : Met l yX7_takeWord (.code yX7_takeWord cX7_takeWord 9 (some .int) :: lw_g) (rmD 7) (PR Y D σ np b0 [.ref (σ (114)), .ref (σ (123)), .int p0, .int p1, .int p2] M N) (QR Y D σ np b0 (some (.int r.1)) r.2 N) 0 0 (xA b0) := by
  refine x_met (by decide) (Nat.le_of_ble_eq_true rfl) (fun p e s m args below meth c hE hr => ?_)
  unfold fX7_takeWord at hf
  refine x_pick [0, 1, 2, 3, 4] (L' := [(0, .ref (σ (114))), (1, .ref (σ (123))), (2, .int p0), (3, .int p1), (4, .int p2)]) rfl ?_
  refine x_iload hE 4 dX7_takeWord_0 rfl ?_
  refine x_aload_n hE 0 dX7_takeWord_2 rfl rfl ?_
  refine x_getR hE cl_7 (hE.kd kO_7) (by decide) 0 (115) rfl (by decide) lk_X7_11 dX7_takeWord_3 ?_
  refine x_alen hE (nI 301) (hE.kd kA_115) (Or.inl rfl) rfl dX7_takeWord_6 ?_
  obtain ⟨v2, hc1, hf⟩ := bnd_some hf
  refine x_callSN1 hE [.int p2, .int (nI 301)] (rest := []) (v := .int v2) (c1 := M) (d1 := N) rfl yokX11_inside ysX11_inside lk_X7_77 rfl rfl ⟨Nat.le_of_ble_eq_true rfl, Nat.le_of_ble_eq_true rfl⟩ ⟨Nat.zero_le _, Nat.zero_le _⟩ rfl (Nat.le_of_ble_eq_true rfl) dX7_takeWord_7 (mX11_inside l hc1) ?_
  refine x_if_ne hE 15 dX7_takeWord_10 (by decide) hf (fun hf => ?_) (fun hf => ?_)
  · refine x_iload_n hE 3 dX7_takeWord_15 rfl rfl ?_
    refine x_istore hE (L' := [(5, .int p1), (0, .ref (σ (114))), (1, .ref (σ (123))), (2, .int p0), (3, .int p1), (4, .int p2)]) dX7_takeWord_16 (by decide) rfl ?_
    refine x_pick [1, 2, 3, 4, 5, 0] (L' := [(0, .ref (σ (114))), (1, .ref (σ (123))), (2, .int p0), (3, .int p1), (4, .int p2), (5, .int p1)]) rfl ?_
    refine x_iconst hE (0 : Int32) dX7_takeWord_18 (by decide) ?_
    refine x_istore hE (L' := [(6, .int 0), (0, .ref (σ (114))), (1, .ref (σ (123))), (2, .int p0), (3, .int p1), (4, .int p2), (5, .int p1)]) dX7_takeWord_19 (by decide) rfl ?_
    refine x_pick [1, 2, 3, 4, 5, 6, 0] (L' := [(0, .ref (σ (114))), (1, .ref (σ (123))), (2, .int p0), (3, .int p1), (4, .int p2), (5, .int p1), (6, .int 0)]) rfl ?_
    exact wX7_takeWord_L21 hE hr  FU _ _ _ _ _ _ _ hf
  · refine x_iload_n hE 2 dX7_takeWord_13 rfl rfl ?_
    replace hf := Option.some.inj hf
    subst hf
    exact x_ireturn hE (v := p0) hr rfl dX7_takeWord_14
theorem yokX7_takeWord : YOK yX7_takeWord cX7_takeWord 9 4 (some .int) := ⟨mem_g 1338 (by decide +kernel) (by decide +kernel), mem_g 141 (by decide +kernel) (by decide +kernel), by decide +kernel, by decide +kernel, by decide +kernel⟩
theorem yvX7_takeWord : YV yX7_takeWord := ⟨mem_g 1337 (by decide +kernel) (by decide +kernel), mem_g 15 (by decide +kernel) (by decide +kernel)⟩
theorem dX7_isDigit_0 : decode cX7_isDigit 0 = .ok (.iload_n 0, 1) := by decide +kernel
theorem dX7_isDigit_1 : decode cX7_isDigit 1 = .ok (.bipush 48, 2) := by decide +kernel
theorem dX7_isDigit_3 : decode cX7_isDigit 3 = .ok (.if_icmp .lt 13, 3) := by decide +kernel
theorem dX7_isDigit_6 : decode cX7_isDigit 6 = .ok (.iload_n 0, 1) := by decide +kernel
theorem dX7_isDigit_7 : decode cX7_isDigit 7 = .ok (.bipush 57, 2) := by decide +kernel
theorem dX7_isDigit_9 : decode cX7_isDigit 9 = .ok (.if_icmp .gt 7, 3) := by decide +kernel
theorem dX7_isDigit_12 : decode cX7_isDigit 12 = .ok (.iconst 1, 1) := by decide +kernel
theorem dX7_isDigit_13 : decode cX7_isDigit 13 = .ok (.goto 4, 3) := by decide +kernel
theorem dX7_isDigit_16 : decode cX7_isDigit 16 = .ok (.iconst 0, 1) := by decide +kernel
theorem dX7_isDigit_17 : decode cX7_isDigit 17 = .ok (.ireturn, 1) := by decide +kernel
theorem mX7_isDigit (l : Launch) {Y : Nat → ClassId} {D : va_G} {σ : Nat → Nat} {np b0 : Nat} {M : Mc} {N : Md} {p0 : Int32} {r : Int32} (hf : fX7_isDigit p0 = some r) : Met l yX7_isDigit (.code yX7_isDigit cX7_isDigit 1 (some .boolean) :: lw_g) (rmD 1) (PR Y D σ np b0 [.int p0] M N) (QR Y D σ np b0 (some (.int r)) M N) 0 0 (xA b0) := by
  refine x_met (by decide) (Nat.le_of_ble_eq_true rfl) (fun p e s m args below meth c hE hr => ?_)
  unfold fX7_isDigit at hf
  refine x_pick [0] (L' := [(0, .int p0)]) rfl ?_
  refine x_iload_n hE 0 dX7_isDigit_0 rfl rfl ?_
  refine x_bipush hE (nI 48) dX7_isDigit_1 (by decide) ?_
  refine x_icmp_lt hE 16 dX7_isDigit_3 (by decide) hf (fun hf => ?_) (fun hf => ?_)
  · refine x_iconst hE (0 : Int32) dX7_isDigit_16 (by decide) ?_
    replace hf := Option.some.inj hf
    subst hf
    exact x_ireturn hE (v := 0) hr rfl dX7_isDigit_17
  · refine x_iload_n hE 0 dX7_isDigit_6 rfl rfl ?_
    refine x_bipush hE (nI 57) dX7_isDigit_7 (by decide) ?_
    refine x_icmp_gt hE 16 dX7_isDigit_9 (by decide) hf (fun hf => ?_) (fun hf => ?_)
    · refine x_iconst hE (0 : Int32) dX7_isDigit_16 (by decide) ?_
      replace hf := Option.some.inj hf
      subst hf
      exact x_ireturn hE (v := 0) hr rfl dX7_isDigit_17
    · refine x_iconst hE (nI 1) dX7_isDigit_12 (by decide) ?_
      refine x_goto hE 17 dX7_isDigit_13 (by decide) ?_
      replace hf := Option.some.inj hf
      subst hf
      exact x_ireturn hE (v := nI 1) hr rfl dX7_isDigit_17
theorem yokX7_isDigit : YOK yX7_isDigit cX7_isDigit 1 1 (some .boolean) := ⟨mem_g 1393 (by decide +kernel) (by decide +kernel), mem_g 141 (by decide +kernel) (by decide +kernel), by decide +kernel, by decide +kernel, by decide +kernel⟩
theorem ysX7_isDigit : Cond.static yX7_isDigit ∈ lw_g := mem_g 1392 (by decide +kernel) (by decide +kernel)
theorem lk_X7_93 : Cond.methodLink RX7 93 yX7_isDigit ∈ lw_g := mem_g 1391 (by decide +kernel) (by decide +kernel)
theorem lk_X7_99 : Cond.methodLink RX7 99 Lib.Math.min.name ∈ lw_g := mem_g 1398 (by decide +kernel) (by decide +kernel)
theorem lk_X7_18 : Cond.fieldLink RX7 18 (TX7 2).1 (TX7 2).2.1 (TX7 2).2.2.1 ∈ lw_g := mem_g 504 (by decide +kernel) (by decide +kernel)
theorem dX7_takeNumber_0 : decode cX7_takeNumber 0 = .ok (.iload 4, 2) := by decide +kernel
theorem dX7_takeNumber_2 : decode cX7_takeNumber 2 = .ok (.aload_n 0, 1) := by decide +kernel
theorem dX7_takeNumber_3 : decode cX7_takeNumber 3 = .ok (.getfield 11, 3) := by decide +kernel
theorem dX7_takeNumber_6 : decode cX7_takeNumber 6 = .ok (.arraylength, 1) := by decide +kernel
theorem dX7_takeNumber_7 : decode cX7_takeNumber 7 = .ok (.invokestatic 77, 3) := by decide +kernel
theorem dX7_takeNumber_10 : decode cX7_takeNumber 10 = .ok (.ifCond .ne 5, 3) := by decide +kernel
theorem dX7_takeNumber_13 : decode cX7_takeNumber 13 = .ok (.iload_n 2, 1) := by decide +kernel
theorem dX7_takeNumber_14 : decode cX7_takeNumber 14 = .ok (.ireturn, 1) := by decide +kernel
theorem dX7_takeNumber_15 : decode cX7_takeNumber 15 = .ok (.iload_n 3, 1) := by decide +kernel
theorem dX7_takeNumber_16 : decode cX7_takeNumber 16 = .ok (.istore 5, 2) := by decide +kernel
theorem dX7_takeNumber_18 : decode cX7_takeNumber 18 = .ok (.iconst 0, 1) := by decide +kernel
theorem dX7_takeNumber_19 : decode cX7_takeNumber 19 = .ok (.istore 6, 2) := by decide +kernel
theorem dX7_takeNumber_21 : decode cX7_takeNumber 21 = .ok (.iconst 0, 1) := by decide +kernel
theorem dX7_takeNumber_22 : decode cX7_takeNumber 22 = .ok (.istore 7, 2) := by decide +kernel
theorem dX7_takeNumber_24 : decode cX7_takeNumber 24 = .ok (.iload 7, 2) := by decide +kernel
theorem dX7_takeNumber_26 : decode cX7_takeNumber 26 = .ok (.iload_n 2, 1) := by decide +kernel
theorem dX7_takeNumber_27 : decode cX7_takeNumber 27 = .ok (.if_icmp .ge 49, 3) := by decide +kernel
theorem dX7_takeNumber_30 : decode cX7_takeNumber 30 = .ok (.aload_n 1, 1) := by decide +kernel
theorem dX7_takeNumber_31 : decode cX7_takeNumber 31 = .ok (.iload_n 2, 1) := by decide +kernel
theorem dX7_takeNumber_32 : decode cX7_takeNumber 32 = .ok (.iload 5, 2) := by decide +kernel
theorem dX7_takeNumber_34 : decode cX7_takeNumber 34 = .ok (.invokestatic 81, 3) := by decide +kernel
theorem dX7_takeNumber_37 : decode cX7_takeNumber 37 = .ok (.invokestatic 93, 3) := by decide +kernel
theorem dX7_takeNumber_40 : decode cX7_takeNumber 40 = .ok (.ifCond .eq 36, 3) := by decide +kernel
theorem dX7_takeNumber_43 : decode cX7_takeNumber 43 = .ok (.sipush 10000, 3) := by decide +kernel
theorem dX7_takeNumber_46 : decode cX7_takeNumber 46 = .ok (.iload 6, 2) := by decide +kernel
theorem dX7_takeNumber_48 : decode cX7_takeNumber 48 = .ok (.bipush 10, 2) := by decide +kernel
theorem dX7_takeNumber_50 : decode cX7_takeNumber 50 = .ok (.imul, 1) := by decide +kernel
theorem dX7_takeNumber_51 : decode cX7_takeNumber 51 = .ok (.aload_n 1, 1) := by decide +kernel
theorem dX7_takeNumber_52 : decode cX7_takeNumber 52 = .ok (.iload_n 2, 1) := by decide +kernel
theorem dX7_takeNumber_53 : decode cX7_takeNumber 53 = .ok (.iload 5, 2) := by decide +kernel
theorem dX7_takeNumber_55 : decode cX7_takeNumber 55 = .ok (.invokestatic 81, 3) := by decide +kernel
theorem dX7_takeNumber_58 : decode cX7_takeNumber 58 = .ok (.iadd, 1) := by decide +kernel
theorem dX7_takeNumber_59 : decode cX7_takeNumber 59 = .ok (.bipush 48, 2) := by decide +kernel
theorem dX7_takeNumber_61 : decode cX7_takeNumber 61 = .ok (.isub, 1) := by decide +kernel
theorem dX7_takeNumber_62 : decode cX7_takeNumber 62 = .ok (.invokestatic 99, 3) := by decide +kernel
theorem dX7_takeNumber_65 : decode cX7_takeNumber 65 = .ok (.istore 6, 2) := by decide +kernel
theorem dX7_takeNumber_67 : decode cX7_takeNumber 67 = .ok (.iinc 5 1, 3) := by decide +kernel
theorem dX7_takeNumber_70 : decode cX7_takeNumber 70 = .ok (.iinc 7 1, 3) := by decide +kernel
theorem dX7_takeNumber_73 : decode cX7_takeNumber 73 = .ok (.goto (-49), 3) := by decide +kernel
theorem dX7_takeNumber_76 : decode cX7_takeNumber 76 = .ok (.aload_n 0, 1) := by decide +kernel
theorem dX7_takeNumber_77 : decode cX7_takeNumber 77 = .ok (.getfield 11, 3) := by decide +kernel
theorem dX7_takeNumber_80 : decode cX7_takeNumber 80 = .ok (.iload 4, 2) := by decide +kernel
theorem dX7_takeNumber_82 : decode cX7_takeNumber 82 = .ok (.sipush 300, 3) := by decide +kernel
theorem dX7_takeNumber_85 : decode cX7_takeNumber 85 = .ok (.iastore, 1) := by decide +kernel
theorem dX7_takeNumber_86 : decode cX7_takeNumber 86 = .ok (.aload_n 0, 1) := by decide +kernel
theorem dX7_takeNumber_87 : decode cX7_takeNumber 87 = .ok (.getfield 18, 3) := by decide +kernel
theorem dX7_takeNumber_90 : decode cX7_takeNumber 90 = .ok (.iload 4, 2) := by decide +kernel
theorem dX7_takeNumber_92 : decode cX7_takeNumber 92 = .ok (.iload 6, 2) := by decide +kernel
theorem dX7_takeNumber_94 : decode cX7_takeNumber 94 = .ok (.iastore, 1) := by decide +kernel
theorem dX7_takeNumber_95 : decode cX7_takeNumber 95 = .ok (.iload 5, 2) := by decide +kernel
theorem dX7_takeNumber_97 : decode cX7_takeNumber 97 = .ok (.ireturn, 1) := by decide +kernel
theorem wX7_takeNumber_J76 {p : Program} {l : Launch} {e : Env} {s : State} {m : MethodId} {args : Array Value} {below : List Frame} {meth : Method} {c : Code} {Y : Nat → ClassId} {D : va_G} {σ : Nat → Nat} {np b0 : Nat} {r : Int32 × Mc} {M : Mc} {N : Md} {X4 : Int32} {X5 : Int32} {X6 : Int32} (hE : EOK p s m args meth c cX7_takeNumber 8 RX7 Y D σ np b0) (hr : meth.sig.returnType = (some .int)) (hf : fX7_takeNumber_J76 M X4 X5 X6 = some r) : Xw p l e (rmD 3) s m args below meth c 8 Y D σ np b0 0 0 (MQ below (QR Y D σ np b0 (some (.int r.1)) r.2 N) args s 0 0 (xA b0)) 76 [(0, .ref (σ (114))), (4, .int X4), (5, .int X5), (6, .int X6)] [] M N := by
  unfold fX7_takeNumber_J76 at hf
  refine x_aload_n hE 0 dX7_takeNumber_76 rfl rfl ?_
  refine x_getR hE cl_7 (hE.kd kO_7) (by decide) 0 (115) rfl (by decide) lk_X7_11 dX7_takeNumber_77 ?_
  refine x_iload hE 1 dX7_takeNumber_80 rfl ?_
  refine x_sipush hE (nI 300) dX7_takeNumber_82 (by decide) ?_
  refine x_iast hE (hE.kd kA_115) dX7_takeNumber_85 hf (fun M10 hf => ?_)
  refine x_aload_n hE 0 dX7_takeNumber_86 rfl rfl ?_
  refine x_getR hE cl_7 (hE.kd kO_7) (by decide) 2 (117) rfl (by decide) lk_X7_18 dX7_takeNumber_87 ?_
  refine x_iload hE 1 dX7_takeNumber_90 rfl ?_
  refine x_iload hE 3 dX7_takeNumber_92 rfl ?_
  refine x_iast hE (hE.kd kA_117) dX7_takeNumber_94 hf (fun M11 hf => ?_)
  refine x_iload hE 2 dX7_takeNumber_95 rfl ?_
  replace hf := Option.some.inj hf
  subst hf
  exact x_ireturn hE (v := X5) hr rfl dX7_takeNumber_97
theorem wX7_takeNumber_L24 {p : Program} {l : Launch} {e : Env} {s : State} {m : MethodId} {args : Array Value} {below : List Frame} {meth : Method} {c : Code} {Y : Nat → ClassId} {D : va_G} {σ : Nat → Nat} {np b0 : Nat} {r : Int32 × Mc} (hE : EOK p s m args meth c cX7_takeNumber 8 RX7 Y D σ np b0) (hr : meth.sig.returnType = (some .int)) : ∀ (n : Nat) (M : Mc) (N : Md) (X2 : Int32) (X4 : Int32) (X5 : Int32) (X6 : Int32) (X7 : Int32), fX7_takeNumber_L24 n M X2 X4 X5 X6 X7 = some r → Xw p l e (rmD 3) s m args below meth c 8 Y D σ np b0 0 0 (MQ below (QR Y D σ np b0 (some (.int r.1)) r.2 N) args s 0 0 (xA b0)) 24 [(0, .ref (σ (114))), (1, .ref (σ (123))), (2, .int X2), (4, .int X4), (5, .int X5), (6, .int X6), (7, .int X7)] [] M N := by
  intro n
  induction n with
  | zero =>
    intro M N X2 X4 X5 X6 X7 hf
    cases hf
  | succ n ih =>
    intro M N X2 X4 X5 X6 X7 hf
    rw [fX7_takeNumber_L24.eq_2] at hf
    refine x_iload hE 6 dX7_takeNumber_24 rfl ?_
    refine x_iload_n hE 2 dX7_takeNumber_26 rfl rfl ?_
    refine x_icmp_ge hE 76 dX7_takeNumber_27 (by decide) hf (fun hf => ?_) (fun hf => ?_)
    · refine x_pick [0, 3, 4, 5] (L' := [(0, .ref (σ (114))), (4, .int X4), (5, .int X5), (6, .int X6)]) rfl ?_
      exact wX7_takeNumber_J76 hE hr  hf
    · refine x_aload_n hE 1 dX7_takeNumber_30 rfl rfl ?_
      refine x_iload_n hE 2 dX7_takeNumber_31 rfl rfl ?_
      refine x_iload hE 4 dX7_takeNumber_32 rfl ?_
      obtain ⟨v4, hc3, hf⟩ := bnd_some hf
      refine x_callS1 hE [.ref (σ (123)), .int X2, .int X5] (rest := []) (v := .int v4) (c1 := M) (d1 := N) rfl yokX7_byteAt ysX7_byteAt lk_X7_81 rfl rfl ⟨Nat.le_of_ble_eq_true rfl, Nat.le_of_ble_eq_true rfl⟩ ⟨Nat.zero_le _, Nat.zero_le _⟩ rfl (Nat.le_of_ble_eq_true rfl) dX7_takeNumber_34 (mX7_byteAt l hc3) ?_
      obtain ⟨v6, hc5, hf⟩ := bnd_some hf
      refine x_callS1 hE [.int v4] (rest := []) (v := .int v6) (c1 := M) (d1 := N) rfl yokX7_isDigit ysX7_isDigit lk_X7_93 rfl rfl ⟨Nat.le_of_ble_eq_true rfl, Nat.le_of_ble_eq_true rfl⟩ ⟨Nat.zero_le _, Nat.zero_le _⟩ rfl (Nat.le_of_ble_eq_true rfl) dX7_takeNumber_37 (mX7_isDigit l hc5) ?_
      refine x_if_eq hE 76 dX7_takeNumber_40 (by decide) hf (fun hf => ?_) (fun hf => ?_)
      · refine x_pick [0, 3, 4, 5] (L' := [(0, .ref (σ (114))), (4, .int X4), (5, .int X5), (6, .int X6)]) rfl ?_
        exact wX7_takeNumber_J76 hE hr  hf
      · refine x_sipush hE (nI 10000) dX7_takeNumber_43 (by decide) ?_
        refine x_iload hE 5 dX7_takeNumber_46 rfl ?_
        refine x_bipush hE (nI 10) dX7_takeNumber_48 (by decide) ?_
        refine x_imul hE dX7_takeNumber_50 ?_
        refine x_aload_n hE 1 dX7_takeNumber_51 rfl rfl ?_
        refine x_iload_n hE 2 dX7_takeNumber_52 rfl rfl ?_
        refine x_iload hE 4 dX7_takeNumber_53 rfl ?_
        obtain ⟨v8, hc7, hf⟩ := bnd_some hf
        refine x_callS1 hE [.ref (σ (123)), .int X2, .int X5] (rest := [.int (X6 * (nI 10)), .int (nI 10000)]) (v := .int v8) (c1 := M) (d1 := N) rfl yokX7_byteAt ysX7_byteAt lk_X7_81 rfl rfl ⟨Nat.le_of_ble_eq_true rfl, Nat.le_of_ble_eq_true rfl⟩ ⟨Nat.zero_le _, Nat.zero_le _⟩ rfl (Nat.le_of_ble_eq_true rfl) dX7_takeNumber_55 (mX7_byteAt l hc7) ?_
        refine x_iadd hE dX7_takeNumber_58 ?_
        refine x_bipush hE (nI 48) dX7_takeNumber_59 (by decide) ?_
        refine x_isub hE dX7_takeNumber_61 ?_
        refine x_mmin hE lk_X7_99 (Nat.le_of_ble_eq_true rfl) dX7_takeNumber_62 ?_
        refine x_ltI hf (fun v9 hf => ?_)
        refine x_istore hE (L' := [(6, .int v9), (0, .ref (σ (114))), (1, .ref (σ (123))), (2, .int X2), (4, .int X4), (5, .int X5), (7, .int X7)]) dX7_takeNumber_65 (by decide) rfl ?_
        refine x_pick [1, 2, 3, 4, 5, 0, 6] (L' := [(0, .ref (σ (114))), (1, .ref (σ (123))), (2, .int X2), (4, .int X4), (5, .int X5), (6, .int v9), (7, .int X7)]) rfl ?_
        refine x_iinc hE 4 (X5 + nI 1) (L' := [(5, .int (X5 + nI 1)), (0, .ref (σ (114))), (1, .ref (σ (123))), (2, .int X2), (4, .int X4), (6, .int v9), (7, .int X7)]) dX7_takeNumber_67 rfl rfl (by decide) rfl ?_
        refine x_pick [1, 2, 3, 4, 0, 5, 6] (L' := [(0, .ref (σ (114))), (1, .ref (σ (123))), (2, .int X2), (4, .int X4), (5, .int (X5 + nI 1)), (6, .int v9), (7, .int X7)]) rfl ?_
        refine x_iinc hE 6 (X7 + nI 1) (L' := [(7, .int (X7 + nI 1)), (0, .ref (σ (114))), (1, .ref (σ (123))), (2, .int X2), (4, .int X4), (5, .int (X5 + nI 1)), (6, .int v9)]) dX7_takeNumber_70 rfl rfl (by decide) rfl ?_
        refine x_pick [1, 2, 3, 4, 5, 6, 0] (L' := [(0, .ref (σ (114))), (1, .ref (σ (123))), (2, .int X2), (4, .int X4), (5, .int (X5 + nI 1)), (6, .int v9), (7, .int (X7 + nI 1))]) rfl ?_
        refine x_goto hE 24 dX7_takeNumber_73 (by decide) ?_
        exact ih _ _ _ _ _ _ _ hf
theorem mX7_takeNumber (l : Launch) {Y : Nat → ClassId} {D : va_G} {σ : Nat → Nat} {np b0 : Nat} {M : Mc} {N : Md} {p0 : Int32} {p1 : Int32} {p2 : Int32} {r : Int32 × Mc} (hf : fX7_takeNumber M p0 p1 p2 = some r) : Met l yX7_takeNumber (.code yX7_takeNumber cX7_takeNumber 8 (some .int) :: lw_g) (rmD 3) (PR Y D σ np b0 [.ref (σ (114)), .ref (σ (123)), .int p0, .int p1, .int p2] M N) (QR Y D σ np b0 (some (.int r.1)) r.2 N) 0 0 (xA b0) := by
  refine x_met (by decide) (Nat.le_of_ble_eq_true rfl) (fun p e s m args below meth c hE hr => ?_)
  unfold fX7_takeNumber at hf
  refine x_pick [0, 1, 2, 3, 4] (L' := [(0, .ref (σ (114))), (1, .ref (σ (123))), (2, .int p0), (3, .int p1), (4, .int p2)]) rfl ?_
  refine x_iload hE 4 dX7_takeNumber_0 rfl ?_
  refine x_aload_n hE 0 dX7_takeNumber_2 rfl rfl ?_
  refine x_getR hE cl_7 (hE.kd kO_7) (by decide) 0 (115) rfl (by decide) lk_X7_11 dX7_takeNumber_3 ?_
  refine x_alen hE (nI 301) (hE.kd kA_115) (Or.inl rfl) rfl dX7_takeNumber_6 ?_
  obtain ⟨v2, hc1, hf⟩ := bnd_some hf
  refine x_callSN1 hE [.int p2, .int (nI 301)] (rest := []) (v := .int v2) (c1 := M) (d1 := N) rfl yokX11_inside ysX11_inside lk_X7_77 rfl rfl ⟨Nat.le_of_ble_eq_true rfl, Nat.le_of_ble_eq_true rfl⟩ ⟨Nat.zero_le _, Nat.zero_le _⟩ rfl (Nat.le_of_ble_eq_true rfl) dX7_takeNumber_7 (mX11_inside l hc1) ?_
  refine x_if_ne hE 15 dX7_takeNumber_10 (by decide) hf (fun hf => ?_) (fun hf => ?_)
  · refine x_iload_n hE 3 dX7_takeNumber_15 rfl rfl ?_
    refine x_istore hE (L' := [(5, .int p1), (0, .ref (σ (114))), (1, .ref (σ (123))), (2, .int p0), (3, .int p1), (4, .int p2)]) dX7_takeNumber_16 (by decide) rfl ?_
    refine x_pick [1, 2, 3, 4, 5, 0] (L' := [(0, .ref (σ (114))), (1, .ref (σ (123))), (2, .int p0), (3, .int p1), (4, .int p2), (5, .int p1)]) rfl ?_
    refine x_iconst hE (0 : Int32) dX7_takeNumber_18 (by decide) ?_
    refine x_istore hE (L' := [(6, .int 0), (0, .ref (σ (114))), (1, .ref (σ (123))), (2, .int p0), (3, .int p1), (4, .int p2), (5, .int p1)]) dX7_takeNumber_19 (by decide) rfl ?_
    refine x_pick [1, 2, 3, 4, 5, 6, 0] (L' := [(0, .ref (σ (114))), (1, .ref (σ (123))), (2, .int p0), (3, .int p1), (4, .int p2), (5, .int p1), (6, .int 0)]) rfl ?_
    refine x_iconst hE (0 : Int32) dX7_takeNumber_21 (by decide) ?_
    refine x_istore hE (L' := [(7, .int 0), (0, .ref (σ (114))), (1, .ref (σ (123))), (2, .int p0), (3, .int p1), (4, .int p2), (5, .int p1), (6, .int 0)]) dX7_takeNumber_22 (by decide) rfl ?_
    refine x_pick [1, 2, 3, 4, 5, 6, 7, 0] (L' := [(0, .ref (σ (114))), (1, .ref (σ (123))), (2, .int p0), (3, .int p1), (4, .int p2), (5, .int p1), (6, .int 0), (7, .int 0)]) rfl ?_
    refine x_pick [0, 1, 2, 4, 5, 6, 7] (L' := [(0, .ref (σ (114))), (1, .ref (σ (123))), (2, .int p0), (4, .int p2), (5, .int p1), (6, .int 0), (7, .int 0)]) rfl ?_
    exact wX7_takeNumber_L24 hE hr  FU _ _ _ _ _ _ _ hf
  · refine x_iload_n hE 2 dX7_takeNumber_13 rfl rfl ?_
    replace hf := Option.some.inj hf
    subst hf
    exact x_ireturn hE (v := p0) hr rfl dX7_takeNumber_14
theorem yokX7_takeNumber : YOK yX7_takeNumber cX7_takeNumber 8 4 (some .int) := ⟨mem_g 1397 (by decide +kernel) (by decide +kernel), mem_g 141 (by decide +kernel) (by decide +kernel), by decide +kernel, by decide +kernel, by decide +kernel⟩
theorem yvX7_takeNumber : YV yX7_takeNumber := ⟨mem_g 1396 (by decide +kernel) (by decide +kernel), mem_g 16 (by decide +kernel) (by decide +kernel)⟩
theorem lk_X7_15 : Cond.fieldLink RX7 15 (TX7 1).1 (TX7 1).2.1 (TX7 1).2.2.1 ∈ lw_g := mem_g 503 (by decide +kernel) (by decide +kernel)
theorem lk_X7_96 : Cond.methodLink RX7 96 yX7_takeNumber ∈ lw_g := mem_g 1394 (by decide +kernel) (by decide +kernel)
theorem lk_X7_89 : Cond.methodLink RX7 89 yX7_takeWord ∈ lw_g := mem_g 1335 (by decide +kernel) (by decide +kernel)
theorem dX7_split_0 : decode cX7_split 0 = .ok (.iconst 0, 1) := by decide +kernel
theorem dX7_split_1 : decode cX7_split 1 = .ok (.istore_n 3, 1) := by decide +kernel
theorem dX7_split_2 : decode cX7_split 2 = .ok (.iconst 0, 1) := by decide +kernel
theorem dX7_split_3 : decode cX7_split 3 = .ok (.istore 4, 2) := by decide +kernel
theorem dX7_split_5 : decode cX7_split 5 = .ok (.iconst 0, 1) := by decide +kernel
theorem dX7_split_6 : decode cX7_split 6 = .ok (.istore 5, 2) := by decide +kernel
theorem dX7_split_8 : decode cX7_split 8 = .ok (.iload 5, 2) := by decide +kernel
theorem dX7_split_10 : decode cX7_split 10 = .ok (.iload_n 2, 1) := by decide +kernel
theorem dX7_split_11 : decode cX7_split 11 = .ok (.if_icmp .gt 158, 3) := by decide +kernel
theorem dX7_split_14 : decode cX7_split 14 = .ok (.iload 4, 2) := by decide +kernel
theorem dX7_split_16 : decode cX7_split 16 = .ok (.aload_n 0, 1) := by decide +kernel
theorem dX7_split_17 : decode cX7_split 17 = .ok (.getfield 11, 3) := by decide +kernel
theorem dX7_split_20 : decode cX7_split 20 = .ok (.arraylength, 1) := by decide +kernel
theorem dX7_split_21 : decode cX7_split 21 = .ok (.invokestatic 77, 3) := by decide +kernel
theorem dX7_split_24 : decode cX7_split 24 = .ok (.ifCond .eq 145, 3) := by decide +kernel
theorem dX7_split_27 : decode cX7_split 27 = .ok (.iconst 0, 1) := by decide +kernel
theorem dX7_split_28 : decode cX7_split 28 = .ok (.istore 6, 2) := by decide +kernel
theorem dX7_split_30 : decode cX7_split 30 = .ok (.iload 6, 2) := by decide +kernel
theorem dX7_split_32 : decode cX7_split 32 = .ok (.iload_n 2, 1) := by decide +kernel
theorem dX7_split_33 : decode cX7_split 33 = .ok (.if_icmp .ge 23, 3) := by decide +kernel
theorem dX7_split_36 : decode cX7_split 36 = .ok (.aload_n 1, 1) := by decide +kernel
theorem dX7_split_37 : decode cX7_split 37 = .ok (.iload_n 2, 1) := by decide +kernel
theorem dX7_split_38 : decode cX7_split 38 = .ok (.iload_n 3, 1) := by decide +kernel
theorem dX7_split_39 : decode cX7_split 39 = .ok (.invokestatic 81, 3) := by decide +kernel
theorem dX7_split_42 : decode cX7_split 42 = .ok (.bipush 32, 2) := by decide +kernel
theorem dX7_split_44 : decode cX7_split 44 = .ok (.if_icmp .ne 12, 3) := by decide +kernel
theorem dX7_split_47 : decode cX7_split 47 = .ok (.iinc 3 1, 3) := by decide +kernel
theorem dX7_split_50 : decode cX7_split 50 = .ok (.iinc 6 1, 3) := by decide +kernel
theorem dX7_split_53 : decode cX7_split 53 = .ok (.goto (-23), 3) := by decide +kernel
theorem dX7_split_56 : decode cX7_split 56 = .ok (.aload_n 0, 1) := by decide +kernel
theorem dX7_split_57 : decode cX7_split 57 = .ok (.getfield 15, 3) := by decide +kernel
theorem dX7_split_60 : decode cX7_split 60 = .ok (.iload 4, 2) := by decide +kernel
theorem dX7_split_62 : decode cX7_split 62 = .ok (.iload_n 3, 1) := by decide +kernel
theorem dX7_split_63 : decode cX7_split 63 = .ok (.iastore, 1) := by decide +kernel
theorem dX7_split_64 : decode cX7_split 64 = .ok (.aload_n 0, 1) := by decide +kernel
theorem dX7_split_65 : decode cX7_split 65 = .ok (.getfield 18, 3) := by decide +kernel
theorem dX7_split_68 : decode cX7_split 68 = .ok (.iload 4, 2) := by decide +kernel
theorem dX7_split_70 : decode cX7_split 70 = .ok (.iconst 0, 1) := by decide +kernel
theorem dX7_split_71 : decode cX7_split 71 = .ok (.iastore, 1) := by decide +kernel
theorem dX7_split_72 : decode cX7_split 72 = .ok (.aload_n 1, 1) := by decide +kernel
theorem dX7_split_73 : decode cX7_split 73 = .ok (.iload_n 2, 1) := by decide +kernel
theorem dX7_split_74 : decode cX7_split 74 = .ok (.iload_n 3, 1) := by decide +kernel
theorem dX7_split_75 : decode cX7_split 75 = .ok (.invokestatic 81, 3) := by decide +kernel
theorem dX7_split_78 : decode cX7_split 78 = .ok (.istore 6, 2) := by decide +kernel
theorem dX7_split_80 : decode cX7_split 80 = .ok (.iload 6, 2) := by decide +kernel
theorem dX7_split_82 : decode cX7_split 82 = .ok (.iconst (-1), 1) := by decide +kernel
theorem dX7_split_83 : decode cX7_split 83 = .ok (.if_icmp .ne 16, 3) := by decide +kernel
theorem dX7_split_86 : decode cX7_split 86 = .ok (.aload_n 0, 1) := by decide +kernel
theorem dX7_split_87 : decode cX7_split 87 = .ok (.getfield 11, 3) := by decide +kernel
theorem dX7_split_90 : decode cX7_split 90 = .ok (.iload 4, 2) := by decide +kernel
theorem dX7_split_92 : decode cX7_split 92 = .ok (.sipush 301, 3) := by decide +kernel
theorem dX7_split_95 : decode cX7_split 95 = .ok (.iastore, 1) := by decide +kernel
theorem dX7_split_96 : decode cX7_split 96 = .ok (.goto 57, 3) := by decide +kernel
theorem dX7_split_99 : decode cX7_split 99 = .ok (.iload 6, 2) := by decide +kernel
theorem dX7_split_101 : decode cX7_split 101 = .ok (.invokestatic 85, 3) := by decide +kernel
theorem dX7_split_104 : decode cX7_split 104 = .ok (.ifCond .eq 16, 3) := by decide +kernel
theorem dX7_split_107 : decode cX7_split 107 = .ok (.aload_n 0, 1) := by decide +kernel
theorem dX7_split_108 : decode cX7_split 108 = .ok (.aload_n 1, 1) := by decide +kernel
theorem dX7_split_109 : decode cX7_split 109 = .ok (.iload_n 2, 1) := by decide +kernel
theorem dX7_split_110 : decode cX7_split 110 = .ok (.iload_n 3, 1) := by decide +kernel
theorem dX7_split_111 : decode cX7_split 111 = .ok (.iload 4, 2) := by decide +kernel
theorem dX7_split_113 : decode cX7_split 113 = .ok (.invokevirtual 89, 3) := by decide +kernel
theorem dX7_split_116 : decode cX7_split 116 = .ok (.istore_n 3, 1) := by decide +kernel
theorem dX7_split_117 : decode cX7_split 117 = .ok (.goto 36, 3) := by decide +kernel
theorem dX7_split_120 : decode cX7_split 120 = .ok (.iload 6, 2) := by decide +kernel
theorem dX7_split_122 : decode cX7_split 122 = .ok (.invokestatic 93, 3) := by decide +kernel
theorem dX7_split_125 : decode cX7_split 125 = .ok (.ifCond .eq 16, 3) := by decide +kernel
theorem dX7_split_128 : decode cX7_split 128 = .ok (.aload_n 0, 1) := by decide +kernel
theorem dX7_split_129 : decode cX7_split 129 = .ok (.aload_n 1, 1) := by decide +kernel
theorem dX7_split_130 : decode cX7_split 130 = .ok (.iload_n 2, 1) := by decide +kernel
theorem dX7_split_131 : decode cX7_split 131 = .ok (.iload_n 3, 1) := by decide +kernel
theorem dX7_split_132 : decode cX7_split 132 = .ok (.iload 4, 2) := by decide +kernel
theorem dX7_split_134 : decode cX7_split 134 = .ok (.invokevirtual 96, 3) := by decide +kernel
theorem dX7_split_137 : decode cX7_split 137 = .ok (.istore_n 3, 1) := by decide +kernel
theorem dX7_split_138 : decode cX7_split 138 = .ok (.goto 15, 3) := by decide +kernel
theorem dX7_split_141 : decode cX7_split 141 = .ok (.aload_n 0, 1) := by decide +kernel
theorem dX7_split_142 : decode cX7_split 142 = .ok (.getfield 11, 3) := by decide +kernel
theorem dX7_split_145 : decode cX7_split 145 = .ok (.iload 4, 2) := by decide +kernel
theorem dX7_split_147 : decode cX7_split 147 = .ok (.iload 6, 2) := by decide +kernel
theorem dX7_split_149 : decode cX7_split 149 = .ok (.iastore, 1) := by decide +kernel
theorem dX7_split_150 : decode cX7_split 150 = .ok (.iinc 3 1, 3) := by decide +kernel
theorem dX7_split_153 : decode cX7_split 153 = .ok (.iload 6, 2) := by decide +kernel
theorem dX7_split_155 : decode cX7_split 155 = .ok (.iconst (-1), 1) := by decide +kernel
theorem dX7_split_156 : decode cX7_split 156 = .ok (.if_icmp .ne 4, 3) := by decide +kernel
theorem dX7_split_159 : decode cX7_split 159 = .ok (.return_, 1) := by decide +kernel
theorem dX7_split_160 : decode cX7_split 160 = .ok (.iinc 4 1, 3) := by decide +kernel
theorem dX7_split_163 : decode cX7_split 163 = .ok (.iinc 5 1, 3) := by decide +kernel
theorem dX7_split_166 : decode cX7_split 166 = .ok (.goto (-158), 3) := by decide +kernel
theorem dX7_split_169 : decode cX7_split 169 = .ok (.return_, 1) := by decide +kernel
theorem wX7_split_J153 {p : Program} {l : Launch} {e : Env} {s : State} {m : MethodId} {args : Array Value} {below : List Frame} {meth : Method} {c : Code} {Y : Nat → ClassId} {D : va_G} {σ : Nat → Nat} {np b0 : Nat} {r : Mc} {K8 : Mc → Int32 → Int32 → Int32 → Int32 → Option (Mc)} {M : Mc} {N : Md} {X2 : Int32} {X3 : Int32} {X4 : Int32} {X5 : Int32} {X6 : Int32} (hE : EOK p s m args meth c cX7_split 7 RX7 Y D σ np b0) (hr : meth.sig.returnType = none) (hK8 : ∀ (M : Mc) (N : Md) (X2 : Int32) (X3 : Int32) (X4 : Int32) (X5 : Int32), K8 M X2 X3 X4 X5 = some r → Xw p l e (rmD 8) s m args below meth c 7 Y D σ np b0 0 0 (MQ below (QR Y D σ np b0 none r N) args s 0 0 (xA b0)) 8 [(0, .ref (σ (114))), (1, .ref (σ (123))), (2, .int X2), (3, .int X3), (4, .int X4), (5, .int X5)] [] M N) (hf : fX7_split_J153 K8 M X2 X3 X4 X5 X6 = some r) : Xw p l e (rmD 8) s m args below meth c 7 Y D σ np b0 0 0 (MQ below (QR Y D σ np b0 none r N) args s 0 0 (xA b0)) 153 [(0, .ref (σ (114))), (1, .ref (σ (123))), (2, .int X2), (3, .int X3), (4, .int X4), (5, .int X5), (6, .int X6)] [] M N := by
  unfold fX7_split_J153 at hf
  refine x_iload hE 6 dX7_split_153 rfl ?_
  refine x_iconst hE (-1) dX7_split_155 (by decide) ?_
  refine x_icmp_ne hE 160 dX7_split_156 (by decide) hf (fun hf => ?_) (fun hf => ?_)
  · refine x_iinc hE 4 (X4 + nI 1) (L' := [(4, .int (X4 + nI 1)), (0, .ref (σ (114))), (1, .ref (σ (123))), (2, .int X2), (3, .int X3), (5, .int X5), (6, .int X6)]) dX7_split_160 rfl rfl (by decide) rfl ?_
    refine x_pick [1, 2, 3, 4, 0, 5, 6] (L' := [(0, .ref (σ (114))), (1, .ref (σ (123))), (2, .int X2), (3, .int X3), (4, .int (X4 + nI 1)), (5, .int X5), (6, .int X6)]) rfl ?_
    refine x_iinc hE 5 (X5 + nI 1) (L' := [(5, .int (X5 + nI 1)), (0, .ref (σ (114))), (1, .ref (σ (123))), (2, .int X2), (3, .int X3), (4, .int (X4 + nI 1)), (6, .int X6)]) dX7_split_163 rfl rfl (by decide) rfl ?_
    refine x_pick [1, 2, 3, 4, 5, 0, 6] (L' := [(0, .ref (σ (114))), (1, .ref (σ (123))), (2, .int X2), (3, .int X3), (4, .int (X4 + nI 1)), (5, .int (X5 + nI 1)), (6, .int X6)]) rfl ?_
    refine x_goto hE 8 dX7_split_166 (by decide) ?_
    refine x_pick [0, 1, 2, 3, 4, 5] (L' := [(0, .ref (σ (114))), (1, .ref (σ (123))), (2, .int X2), (3, .int X3), (4, .int (X4 + nI 1)), (5, .int (X5 + nI 1))]) rfl ?_
    exact hK8 _ _ _ _ _ _ hf
  · replace hf := Option.some.inj hf
    subst hf
    exact x_vreturn hE hr dX7_split_159
theorem wX7_split_J56 {p : Program} {l : Launch} {e : Env} {s : State} {m : MethodId} {args : Array Value} {below : List Frame} {meth : Method} {c : Code} {Y : Nat → ClassId} {D : va_G} {σ : Nat → Nat} {np b0 : Nat} {r : Mc} {K8 : Mc → Int32 → Int32 → Int32 → Int32 → Option (Mc)} {M : Mc} {N : Md} {X2 : Int32} {X3 : Int32} {X4 : Int32} {X5 : Int32} (hE : EOK p s m args meth c cX7_split 7 RX7 Y D σ np b0) (hr : meth.sig.returnType = none) (hK8 : ∀ (M : Mc) (N : Md) (X2 : Int32) (X3 : Int32) (X4 : Int32) (X5 : Int32), K8 M X2 X3 X4 X5 = some r → Xw p l e (rmD 8) s m args below meth c 7 Y D σ np b0 0 0 (MQ below (QR Y D σ np b0 none r N) args s 0 0 (xA b0)) 8 [(0, .ref (σ (114))), (1, .ref (σ (123))), (2, .int X2), (3, .int X3), (4, .int X4), (5, .int X5)] [] M N) (hf : fX7_split_J56 K8 M X2 X3 X4 X5 = some r) : Xw p l e (rmD 8) s m args below meth c 7 Y D σ np b0 0 0 (MQ below (QR Y D σ np b0 none r N) args s 0 0 (xA b0)) 56 [(0, .ref (σ (114))), (1, .ref (σ (123))), (2, .int X2), (3, .int X3), (4, .int X4), (5, .int X5)] [] M N := by
  unfold fX7_split_J56 at hf
  refine x_aload_n hE 0 dX7_split_56 rfl rfl ?_
  refine x_getR hE cl_7 (hE.kd kO_7) (by decide) 1 (116) rfl (by decide) lk_X7_15 dX7_split_57 ?_
  refine x_iload hE 4 dX7_split_60 rfl ?_
  refine x_iload_n hE 3 dX7_split_62 rfl rfl ?_
  refine x_iast hE (hE.kd kA_116) dX7_split_63 hf (fun M5 hf => ?_)
  refine x_aload_n hE 0 dX7_split_64 rfl rfl ?_
  refine x_getR hE cl_7 (hE.kd kO_7) (by decide) 2 (117) rfl (by decide) lk_X7_18 dX7_split_65 ?_
  refine x_iload hE 4 dX7_split_68 rfl ?_
  refine x_iconst hE (0 : Int32) dX7_split_70 (by decide) ?_
  refine x_iast hE (hE.kd kA_117) dX7_split_71 hf (fun M6 hf => ?_)
  refine x_aload_n hE 1 dX7_split_72 rfl rfl ?_
  refine x_iload_n hE 2 dX7_split_73 rfl rfl ?_
  refine x_iload_n hE 3 dX7_split_74 rfl rfl ?_
  obtain ⟨v8, hc7, hf⟩ := bnd_some hf
  refine x_callS1 hE [.ref (σ (123)), .int X2, .int X3] (rest := []) (v := .int v8) (c1 := M6) (d1 := N) rfl yokX7_byteAt ysX7_byteAt lk_X7_81 rfl rfl ⟨Nat.le_of_ble_eq_true rfl, Nat.le_of_ble_eq_true rfl⟩ ⟨Nat.zero_le _, Nat.zero_le _⟩ rfl (Nat.le_of_ble_eq_true rfl) dX7_split_75 (mX7_byteAt l hc7) ?_
  refine x_istore hE (L' := [(6, .int v8), (0, .ref (σ (114))), (1, .ref (σ (123))), (2, .int X2), (3, .int X3), (4, .int X4), (5, .int X5)]) dX7_split_78 (by decide) rfl ?_
  refine x_pick [1, 2, 3, 4, 5, 6, 0] (L' := [(0, .ref (σ (114))), (1, .ref (σ (123))), (2, .int X2), (3, .int X3), (4, .int X4), (5, .int X5), (6, .int v8)]) rfl ?_
  refine x_iload hE 6 dX7_split_80 rfl ?_
  refine x_iconst hE (-1) dX7_split_82 (by decide) ?_
  refine x_icmp_ne hE 99 dX7_split_83 (by decide) hf (fun hf => ?_) (fun hf => ?_)
  · refine x_iload hE 6 dX7_split_99 rfl ?_
    obtain ⟨v10, hc9, hf⟩ := bnd_some hf
    refine x_callS1 hE [.int v8] (rest := []) (v := .int v10) (c1 := M6) (d1 := N) rfl yokX7_isLetter ysX7_isLetter lk_X7_85 rfl rfl ⟨Nat.le_of_ble_eq_true rfl, Nat.le_of_ble_eq_true rfl⟩ ⟨Nat.zero_le _, Nat.zero_le _⟩ rfl (Nat.le_of_ble_eq_true rfl) dX7_split_101 (mX7_isLetter l hc9) ?_
    refine x_if_eq hE 120 dX7_split_104 (by decide) hf (fun hf => ?_) (fun hf => ?_)
    · refine x_iload hE 6 dX7_split_120 rfl ?_
      obtain ⟨v12, hc11, hf⟩ := bnd_some hf
      refine x_callS1 hE [.int v8] (rest := []) (v := .int v12) (c1 := M6) (d1 := N) rfl yokX7_isDigit ysX7_isDigit lk_X7_93 rfl rfl ⟨Nat.le_of_ble_eq_true rfl, Nat.le_of_ble_eq_true rfl⟩ ⟨Nat.zero_le _, Nat.zero_le _⟩ rfl (Nat.le_of_ble_eq_true rfl) dX7_split_122 (mX7_isDigit l hc11) ?_
      refine x_if_eq hE 141 dX7_split_125 (by decide) hf (fun hf => ?_) (fun hf => ?_)
      · refine x_aload_n hE 0 dX7_split_141 rfl rfl ?_
        refine x_getR hE cl_7 (hE.kd kO_7) (by decide) 0 (115) rfl (by decide) lk_X7_11 dX7_split_142 ?_
        refine x_iload hE 4 dX7_split_145 rfl ?_
        refine x_iload hE 6 dX7_split_147 rfl ?_
        refine x_iast hE (hE.kd kA_115) dX7_split_149 hf (fun M13 hf => ?_)
        refine x_iinc hE 3 (X3 + nI 1) (L' := [(3, .int (X3 + nI 1)), (0, .ref (σ (114))), (1, .ref (σ (123))), (2, .int X2), (4, .int X4), (5, .int X5), (6, .int v8)]) dX7_split_150 rfl rfl (by decide) rfl ?_
        refine x_pick [1, 2, 3, 0, 4, 5, 6] (L' := [(0, .ref (σ (114))), (1, .ref (σ (123))), (2, .int X2), (3, .int (X3 + nI 1)), (4, .int X4), (5, .int X5), (6, .int v8)]) rfl ?_
        exact wX7_split_J153 hE hr hK8 hf
      · refine x_aload_n hE 0 dX7_split_128 rfl rfl ?_
        refine x_aload_n hE 1 dX7_split_129 rfl rfl ?_
        refine x_iload_n hE 2 dX7_split_130 rfl rfl ?_
        refine x_iload_n hE 3 dX7_split_131 rfl rfl ?_
        refine x_iload hE 4 dX7_split_132 rfl ?_
        obtain ⟨⟨v15, M16⟩, hc14, hf⟩ := bn2_some hf
        refine x_callV1 hE [.ref (σ (123)), .int X2, .int X3, .int X4] (rest := []) (v := .int v15) (c1 := M16) (d1 := N) rfl yokX7_takeNumber yvX7_takeNumber lk_X7_96 rfl cl_7 (hE.kd kO_7) (by decide) rfl rfl ⟨Nat.le_of_ble_eq_true rfl, Nat.le_of_ble_eq_true rfl⟩ ⟨Nat.zero_le _, Nat.zero_le _⟩ rfl (Nat.le_of_ble_eq_true rfl) dX7_split_134 (mX7_takeNumber l hc14) ?_
        refine x_istore_n hE (L' := [(3, .int v15), (0, .ref (σ (114))), (1, .ref (σ (123))), (2, .int X2), (4, .int X4), (5, .int X5), (6, .int v8)]) dX7_split_137 rfl (by decide) rfl ?_
        refine x_pick [1, 2, 3, 0, 4, 5, 6] (L' := [(0, .ref (σ (114))), (1, .ref (σ (123))), (2, .int X2), (3, .int v15), (4, .int X4), (5, .int X5), (6, .int v8)]) rfl ?_
        refine x_goto hE 153 dX7_split_138 (by decide) ?_
        exact wX7_split_J153 hE hr hK8 hf
    · refine x_aload_n hE 0 dX7_split_107 rfl rfl ?_
      refine x_aload_n hE 1 dX7_split_108 rfl rfl ?_
      refine x_iload_n hE 2 dX7_split_109 rfl rfl ?_
      refine x_iload_n hE 3 dX7_split_110 rfl rfl ?_
      refine x_iload hE 4 dX7_split_111 rfl ?_
      obtain ⟨⟨v18, M19⟩, hc17, hf⟩ := bn2_some hf
      refine x_callV1 hE [.ref (σ (123)), .int X2, .int X3, .int X4] (rest := []) (v := .int v18) (c1 := M19) (d1 := N) rfl yokX7_takeWord yvX7_takeWord lk_X7_89 rfl cl_7 (hE.kd kO_7) (by decide) rfl rfl ⟨Nat.le_of_ble_eq_true rfl, Nat.le_of_ble_eq_true rfl⟩ ⟨Nat.zero_le _, Nat.zero_le _⟩ rfl (Nat.le_of_ble_eq_true rfl) dX7_split_113 (mX7_takeWord l hc17) ?_
      refine x_istore_n hE (L' := [(3, .int v18), (0, .ref (σ (114))), (1, .ref (σ (123))), (2, .int X2), (4, .int X4), (5, .int X5), (6, .int v8)]) dX7_split_116 rfl (by decide) rfl ?_
      refine x_pick [1, 2, 3, 0, 4, 5, 6] (L' := [(0, .ref (σ (114))), (1, .ref (σ (123))), (2, .int X2), (3, .int v18), (4, .int X4), (5, .int X5), (6, .int v8)]) rfl ?_
      refine x_goto hE 153 dX7_split_117 (by decide) ?_
      exact wX7_split_J153 hE hr hK8 hf
  · refine x_aload_n hE 0 dX7_split_86 rfl rfl ?_
    refine x_getR hE cl_7 (hE.kd kO_7) (by decide) 0 (115) rfl (by decide) lk_X7_11 dX7_split_87 ?_
    refine x_iload hE 4 dX7_split_90 rfl ?_
    refine x_sipush hE (nI 301) dX7_split_92 (by decide) ?_
    refine x_iast hE (hE.kd kA_115) dX7_split_95 hf (fun M20 hf => ?_)
    refine x_goto hE 153 dX7_split_96 (by decide) ?_
    exact wX7_split_J153 hE hr hK8 hf
theorem wX7_split_L30 {p : Program} {l : Launch} {e : Env} {s : State} {m : MethodId} {args : Array Value} {below : List Frame} {meth : Method} {c : Code} {Y : Nat → ClassId} {D : va_G} {σ : Nat → Nat} {np b0 : Nat} {r : Mc} {K8 : Mc → Int32 → Int32 → Int32 → Int32 → Option (Mc)} (hE : EOK p s m args meth c cX7_split 7 RX7 Y D σ np b0) (hr : meth.sig.returnType = none) (hK8 : ∀ (M : Mc) (N : Md) (X2 : Int32) (X3 : Int32) (X4 : Int32) (X5 : Int32), K8 M X2 X3 X4 X5 = some r → Xw p l e (rmD 8) s m args below meth c 7 Y D σ np b0 0 0 (MQ below (QR Y D σ np b0 none r N) args s 0 0 (xA b0)) 8 [(0, .ref (σ (114))), (1, .ref (σ (123))), (2, .int X2), (3, .int X3), (4, .int X4), (5, .int X5)] [] M N) : ∀ (n : Nat) (M : Mc) (N : Md) (X2 : Int32) (X3 : Int32) (X4 : Int32) (X5 : Int32) (X6 : Int32), fX7_split_L30 K8 n M X2 X3 X4 X5 X6 = some r → Xw p l e (rmD 8) s m args below meth c 7 Y D σ np b0 0 0 (MQ below (QR Y D σ np b0 none r N) args s 0 0 (xA b0)) 30 [(0, .ref (σ (114))), (1, .ref (σ (123))), (2, .int X2), (3, .int X3), (4, .int X4), (5, .int X5), (6, .int X6)] [] M N := by
  intro n
  induction n with
  | zero =>
    intro M N X2 X3 X4 X5 X6 hf
    cases hf
  | succ n ih =>
    intro M N X2 X3 X4 X5 X6 hf
    rw [fX7_split_L30.eq_2] at hf
    refine x_iload hE 6 dX7_split_30 rfl ?_
    refine x_iload_n hE 2 dX7_split_32 rfl rfl ?_
    refine x_icmp_ge hE 56 dX7_split_33 (by decide) hf (fun hf => ?_) (fun hf => ?_)
    · refine x_pick [0, 1, 2, 3, 4, 5] (L' := [(0, .ref (σ (114))), (1, .ref (σ (123))), (2, .int X2), (3, .int X3), (4, .int X4), (5, .int X5)]) rfl ?_
      exact wX7_split_J56 hE hr hK8 hf
    · refine x_aload_n hE 1 dX7_split_36 rfl rfl ?_
      refine x_iload_n hE 2 dX7_split_37 rfl rfl ?_
      refine x_iload_n hE 3 dX7_split_38 rfl rfl ?_
      obtain ⟨v4, hc3, hf⟩ := bnd_some hf
      refine x_callS1 hE [.ref (σ (123)), .int X2, .int X3] (rest := []) (v := .int v4) (c1 := M) (d1 := N) rfl yokX7_byteAt ysX7_byteAt lk_X7_81 rfl rfl ⟨Nat.le_of_ble_eq_true rfl, Nat.le_of_ble_eq_true rfl⟩ ⟨Nat.zero_le _, Nat.zero_le _⟩ rfl (Nat.le_of_ble_eq_true rfl) dX7_split_39 (mX7_byteAt l hc3) ?_
      refine x_bipush hE (nI 32) dX7_split_42 (by decide) ?_
      refine x_icmp_ne hE 56 dX7_split_44 (by decide) hf (fun hf => ?_) (fun hf => ?_)
      · refine x_pick [0, 1, 2, 3, 4, 5] (L' := [(0, .ref (σ (114))), (1, .ref (σ (123))), (2, .int X2), (3, .int X3), (4, .int X4), (5, .int X5)]) rfl ?_
        exact wX7_split_J56 hE hr hK8 hf
      · refine x_iinc hE 3 (X3 + nI 1) (L' := [(3, .int (X3 + nI 1)), (0, .ref (σ (114))), (1, .ref (σ (123))), (2, .int X2), (4, .int X4), (5, .int X5), (6, .int X6)]) dX7_split_47 rfl rfl (by decide) rfl ?_
        refine x_pick [1, 2, 3, 0, 4, 5, 6] (L' := [(0, .ref (σ (114))), (1, .ref (σ (123))), (2, .int X2), (3, .int (X3 + nI 1)), (4, .int X4), (5, .int X5), (6, .int X6)]) rfl ?_
        refine x_iinc hE 6 (X6 + nI 1) (L' := [(6, .int (X6 + nI 1)), (0, .ref (σ (114))), (1, .ref (σ (123))), (2, .int X2), (3, .int (X3 + nI 1)), (4, .int X4), (5, .int X5)]) dX7_split_50 rfl rfl (by decide) rfl ?_
        refine x_pick [1, 2, 3, 4, 5, 6, 0] (L' := [(0, .ref (σ (114))), (1, .ref (σ (123))), (2, .int X2), (3, .int (X3 + nI 1)), (4, .int X4), (5, .int X5), (6, .int (X6 + nI 1))]) rfl ?_
        refine x_goto hE 30 dX7_split_53 (by decide) ?_
        exact ih _ _ _ _ _ _ _ hf
theorem wX7_split_L8 {p : Program} {l : Launch} {e : Env} {s : State} {m : MethodId} {args : Array Value} {below : List Frame} {meth : Method} {c : Code} {Y : Nat → ClassId} {D : va_G} {σ : Nat → Nat} {np b0 : Nat} {r : Mc} (hE : EOK p s m args meth c cX7_split 7 RX7 Y D σ np b0) (hr : meth.sig.returnType = none) : ∀ (n : Nat) (M : Mc) (N : Md) (X2 : Int32) (X3 : Int32) (X4 : Int32) (X5 : Int32), fX7_split_L8 n M X2 X3 X4 X5 = some r → Xw p l e (rmD 8) s m args below meth c 7 Y D σ np b0 0 0 (MQ below (QR Y D σ np b0 none r N) args s 0 0 (xA b0)) 8 [(0, .ref (σ (114))), (1, .ref (σ (123))), (2, .int X2), (3, .int X3), (4, .int X4), (5, .int X5)] [] M N := by
  intro n
  induction n with
  | zero =>
    intro M N X2 X3 X4 X5 hf
    cases hf
  | succ n ih =>
    intro M N X2 X3 X4 X5 hf
    rw [fX7_split_L8.eq_2] at hf
    refine x_iload hE 5 dX7_split_8 rfl ?_
    refine x_iload_n hE 2 dX7_split_10 rfl rfl ?_
    refine x_icmp_gt hE 169 dX7_split_11 (by decide) hf (fun hf => ?_) (fun hf => ?_)
    · replace hf := Option.some.inj hf
      subst hf
      exact x_vreturn hE hr dX7_split_169
    · refine x_iload hE 4 dX7_split_14 rfl ?_
      refine x_aload_n hE 0 dX7_split_16 rfl rfl ?_
      refine x_getR hE cl_7 (hE.kd kO_7) (by decide) 0 (115) rfl (by decide) lk_X7_11 dX7_split_17 ?_
      refine x_alen hE (nI 301) (hE.kd kA_115) (Or.inl rfl) rfl dX7_split_20 ?_
      obtain ⟨v2, hc1, hf⟩ := bnd_some hf
      refine x_callSN1 hE [.int X4, .int (nI 301)] (rest := []) (v := .int v2) (c1 := M) (d1 := N) rfl yokX11_inside ysX11_inside lk_X7_77 rfl rfl ⟨Nat.le_of_ble_eq_true rfl, Nat.le_of_ble_eq_true rfl⟩ ⟨Nat.zero_le _, Nat.zero_le _⟩ rfl (Nat.le_of_ble_eq_true rfl) dX7_split_21 (mX11_inside l hc1) ?_
      refine x_if_eq hE 169 dX7_split_24 (by decide) hf (fun hf => ?_) (fun hf => ?_)
      · replace hf := Option.some.inj hf
        subst hf
        exact x_vreturn hE hr dX7_split_169
      · refine x_iconst hE (0 : Int32) dX7_split_27 (by decide) ?_
        refine x_istore hE (L' := [(6, .int 0), (0, .ref (σ (114))), (1, .ref (σ (123))), (2, .int X2), (3, .int X3), (4, .int X4), (5, .int X5)]) dX7_split_28 (by decide) rfl ?_
        refine x_pick [1, 2, 3, 4, 5, 6, 0] (L' := [(0, .ref (σ (114))), (1, .ref (σ (123))), (2, .int X2), (3, .int X3), (4, .int X4), (5, .int X5), (6, .int 0)]) rfl ?_
        exact wX7_split_L30 hE hr (fun _ _ _ _ _ _ hf => ih _ _ _ _ _ _ hf) FU _ _ _ _ _ _ _ hf
theorem mX7_split (l : Launch) {Y : Nat → ClassId} {D : va_G} {σ : Nat → Nat} {np b0 : Nat} {M : Mc} {N : Md} {p0 : Int32} {r : Mc} (hf : fX7_split M p0 = some r) : Met l yX7_split (.code yX7_split cX7_split 7 none :: lw_g) (rmD 8) (PR Y D σ np b0 [.ref (σ (114)), .ref (σ (123)), .int p0] M N) (QR Y D σ np b0 none r N) 0 0 (xA b0) := by
  refine x_met (by decide) (Nat.le_of_ble_eq_true rfl) (fun p e s m args below meth c hE hr => ?_)
  unfold fX7_split at hf
  refine x_pick [0, 1, 2] (L' := [(0, .ref (σ (114))), (1, .ref (σ (123))), (2, .int p0)]) rfl ?_
  refine x_iconst hE (0 : Int32) dX7_split_0 (by decide) ?_
  refine x_istore_n hE (L' := [(3, .int 0), (0, .ref (σ (114))), (1, .ref (σ (123))), (2, .int p0)]) dX7_split_1 rfl (by decide) rfl ?_
  refine x_pick [1, 2, 3, 0] (L' := [(0, .ref (σ (114))), (1, .ref (σ (123))), (2, .int p0), (3, .int 0)]) rfl ?_
  refine x_iconst hE (0 : Int32) dX7_split_2 (by decide) ?_
  refine x_istore hE (L' := [(4, .int 0), (0, .ref (σ (114))), (1, .ref (σ (123))), (2, .int p0), (3, .int 0)]) dX7_split_3 (by decide) rfl ?_
  refine x_pick [1, 2, 3, 4, 0] (L' := [(0, .ref (σ (114))), (1, .ref (σ (123))), (2, .int p0), (3, .int 0), (4, .int 0)]) rfl ?_
  refine x_iconst hE (0 : Int32) dX7_split_5 (by decide) ?_
  refine x_istore hE (L' := [(5, .int 0), (0, .ref (σ (114))), (1, .ref (σ (123))), (2, .int p0), (3, .int 0), (4, .int 0)]) dX7_split_6 (by decide) rfl ?_
  refine x_pick [1, 2, 3, 4, 5, 0] (L' := [(0, .ref (σ (114))), (1, .ref (σ (123))), (2, .int p0), (3, .int 0), (4, .int 0), (5, .int 0)]) rfl ?_
  exact wX7_split_L8 hE hr  FU _ _ _ _ _ _ hf
theorem yokX7_split : YOK yX7_split cX7_split 7 2 none := ⟨mem_g 1327 (by decide +kernel) (by decide +kernel), mem_g 141 (by decide +kernel) (by decide +kernel), by decide +kernel, by decide +kernel, by decide +kernel⟩
theorem yvX7_split : YV yX7_split := ⟨mem_g 1326 (by decide +kernel) (by decide +kernel), mem_g 14 (by decide +kernel) (by decide +kernel)⟩
theorem lk_X7_41 : Cond.fieldLink RX7 41 (TX7 5).1 (TX7 5).2.1 (TX7 5).2.2.1 ∈ lw_g := mem_g 507 (by decide +kernel) (by decide +kernel)
theorem lk_X7_34 : Cond.fieldLink RX7 34 (TX7 3).1 (TX7 3).2.1 (TX7 3).2.2.1 ∈ lw_g := mem_g 505 (by decide +kernel) (by decide +kernel)
theorem lk_X7_44 : Cond.fieldLink RX7 44 (TX7 6).1 (TX7 6).2.1 (TX7 6).2.2.1 ∈ lw_g := mem_g 508 (by decide +kernel) (by decide +kernel)
theorem lk_X7_38 : Cond.fieldLink RX7 38 (TX7 4).1 (TX7 4).2.1 (TX7 4).2.2.1 ∈ lw_g := mem_g 506 (by decide +kernel) (by decide +kernel)
theorem dX7_fail_0 : decode cX7_fail 0 = .ok (.aload_n 0, 1) := by decide +kernel
theorem dX7_fail_1 : decode cX7_fail 1 = .ok (.getfield 41, 3) := by decide +kernel
theorem dX7_fail_4 : decode cX7_fail 4 = .ok (.ifCond .eq 4, 3) := by decide +kernel
theorem dX7_fail_7 : decode cX7_fail 7 = .ok (.return_, 1) := by decide +kernel
theorem dX7_fail_8 : decode cX7_fail 8 = .ok (.aload_n 0, 1) := by decide +kernel
theorem dX7_fail_9 : decode cX7_fail 9 = .ok (.iload_n 1, 1) := by decide +kernel
theorem dX7_fail_10 : decode cX7_fail 10 = .ok (.putfield 41, 3) := by decide +kernel
theorem dX7_fail_13 : decode cX7_fail 13 = .ok (.aload_n 0, 1) := by decide +kernel
theorem dX7_fail_14 : decode cX7_fail 14 = .ok (.aload_n 0, 1) := by decide +kernel
theorem dX7_fail_15 : decode cX7_fail 15 = .ok (.getfield 34, 3) := by decide +kernel
theorem dX7_fail_18 : decode cX7_fail 18 = .ok (.aload_n 0, 1) := by decide +kernel
theorem dX7_fail_19 : decode cX7_fail 19 = .ok (.getfield 15, 3) := by decide +kernel
theorem dX7_fail_22 : decode cX7_fail 22 = .ok (.arraylength, 1) := by decide +kernel
theorem dX7_fail_23 : decode cX7_fail 23 = .ok (.invokestatic 77, 3) := by decide +kernel
theorem dX7_fail_26 : decode cX7_fail 26 = .ok (.ifCond .eq 15, 3) := by decide +kernel
theorem dX7_fail_29 : decode cX7_fail 29 = .ok (.aload_n 0, 1) := by decide +kernel
theorem dX7_fail_30 : decode cX7_fail 30 = .ok (.getfield 15, 3) := by decide +kernel
theorem dX7_fail_33 : decode cX7_fail 33 = .ok (.aload_n 0, 1) := by decide +kernel
theorem dX7_fail_34 : decode cX7_fail 34 = .ok (.getfield 34, 3) := by decide +kernel
theorem dX7_fail_37 : decode cX7_fail 37 = .ok (.iaload, 1) := by decide +kernel
theorem dX7_fail_38 : decode cX7_fail 38 = .ok (.goto 4, 3) := by decide +kernel
theorem dX7_fail_41 : decode cX7_fail 41 = .ok (.iconst (-1), 1) := by decide +kernel
theorem dX7_fail_42 : decode cX7_fail 42 = .ok (.putfield 44, 3) := by decide +kernel
theorem dX7_fail_45 : decode cX7_fail 45 = .ok (.aload_n 0, 1) := by decide +kernel
theorem dX7_fail_46 : decode cX7_fail 46 = .ok (.sipush 302, 3) := by decide +kernel
theorem dX7_fail_49 : decode cX7_fail 49 = .ok (.putfield 38, 3) := by decide +kernel
theorem dX7_fail_52 : decode cX7_fail 52 = .ok (.return_, 1) := by decide +kernel
theorem wX7_fail_J42 {p : Program} {l : Launch} {e : Env} {s : State} {m : MethodId} {args : Array Value} {below : List Frame} {meth : Method} {c : Code} {Y : Nat → ClassId} {D : va_G} {σ : Nat → Nat} {np b0 : Nat} {r : Mc} {M : Mc} {N : Md} {Z0 : Int32} (hE : EOK p s m args meth c cX7_fail 2 RX7 Y D σ np b0) (hr : meth.sig.returnType = none) (hf : fX7_fail_J42 M Z0 = some r) : Xw p l e (rmD 2) s m args below meth c 2 Y D σ np b0 0 0 (MQ below (QR Y D σ np b0 none r N) args s 0 0 (xA b0)) 42 [(0, .ref (σ (114)))] [.int Z0, .ref (σ (114))] M N := by
  unfold fX7_fail_J42 at hf
  refine x_putI hE cl_7 (hE.kd kO_7) (by decide) 6 rfl (by decide) lk_X7_44 rfl rfl rfl rfl dX7_fail_42 hf (fun M4 hf => ?_)
  refine x_aload_n hE 0 dX7_fail_45 rfl rfl ?_
  refine x_sipush hE (nI 302) dX7_fail_46 (by decide) ?_
  refine x_putI hE cl_7 (hE.kd kO_7) (by decide) 4 rfl (by decide) lk_X7_38 rfl rfl rfl rfl dX7_fail_49 hf (fun M5 hf => ?_)
  replace hf := Option.some.inj hf
  subst hf
  exact x_vreturn hE hr dX7_fail_52
theorem mX7_fail (l : Launch) {Y : Nat → ClassId} {D : va_G} {σ : Nat → Nat} {np b0 : Nat} {M : Mc} {N : Md} {p0 : Int32} {r : Mc} (hf : fX7_fail M p0 = some r) : Met l yX7_fail (.code yX7_fail cX7_fail 2 none :: lw_g) (rmD 2) (PR Y D σ np b0 [.ref (σ (114)), .int p0] M N) (QR Y D σ np b0 none r N) 0 0 (xA b0) := by
  refine x_met (by decide) (Nat.le_of_ble_eq_true rfl) (fun p e s m args below meth c hE hr => ?_)
  unfold fX7_fail at hf
  refine x_pick [0, 1] (L' := [(0, .ref (σ (114))), (1, .int p0)]) rfl ?_
  refine x_aload_n hE 0 dX7_fail_0 rfl rfl ?_
  refine x_getI hE cl_7 (hE.kd kO_7) (by decide) 5 rfl (by decide) lk_X7_41 dX7_fail_1 ?_
  refine x_if_eq hE 8 dX7_fail_4 (by decide) hf (fun hf => ?_) (fun hf => ?_)
  · refine x_aload_n hE 0 dX7_fail_8 rfl rfl ?_
    refine x_iload_n hE 1 dX7_fail_9 rfl rfl ?_
    refine x_putI hE cl_7 (hE.kd kO_7) (by decide) 5 rfl (by decide) lk_X7_41 rfl rfl rfl rfl dX7_fail_10 hf (fun M1 hf => ?_)
    refine x_aload_n hE 0 dX7_fail_13 rfl rfl ?_
    refine x_aload_n hE 0 dX7_fail_14 rfl rfl ?_
    refine x_getI hE cl_7 (hE.kd kO_7) (by decide) 3 rfl (by decide) lk_X7_34 dX7_fail_15 ?_
    refine x_aload_n hE 0 dX7_fail_18 rfl rfl ?_
    refine x_getR hE cl_7 (hE.kd kO_7) (by decide) 1 (116) rfl (by decide) lk_X7_15 dX7_fail_19 ?_
    refine x_alen hE (nI 301) (hE.kd kA_116) (Or.inl rfl) rfl dX7_fail_22 ?_
    obtain ⟨v3, hc2, hf⟩ := bnd_some hf
    refine x_callSN1 hE [.int (M1 (114) 3), .int (nI 301)] (rest := [.ref (σ (114))]) (v := .int v3) (c1 := M1) (d1 := N) rfl yokX11_inside ysX11_inside lk_X7_77 rfl rfl ⟨Nat.le_of_ble_eq_true rfl, Nat.le_of_ble_eq_true rfl⟩ ⟨Nat.zero_le _, Nat.zero_le _⟩ rfl (Nat.le_of_ble_eq_true rfl) dX7_fail_23 (mX11_inside l hc2) ?_
    refine x_if_eq hE 41 dX7_fail_26 (by decide) hf (fun hf => ?_) (fun hf => ?_)
    · refine x_iconst hE (-1) dX7_fail_41 (by decide) ?_
      refine x_pick [0] (L' := [(0, .ref (σ (114)))]) rfl ?_
      exact wX7_fail_J42 hE hr  hf
    · refine x_aload_n hE 0 dX7_fail_29 rfl rfl ?_
      refine x_getR hE cl_7 (hE.kd kO_7) (by decide) 1 (116) rfl (by decide) lk_X7_15 dX7_fail_30 ?_
      refine x_aload_n hE 0 dX7_fail_33 rfl rfl ?_
      refine x_getI hE cl_7 (hE.kd kO_7) (by decide) 3 rfl (by decide) lk_X7_34 dX7_fail_34 ?_
      refine x_iald hE (hE.kd kA_116) dX7_fail_37 hf (fun hf => ?_)
      refine x_goto hE 42 dX7_fail_38 (by decide) ?_
      refine x_pick [0] (L' := [(0, .ref (σ (114)))]) rfl ?_
      exact wX7_fail_J42 hE hr  hf
  · replace hf := Option.some.inj hf
    subst hf
    exact x_vreturn hE hr dX7_fail_7
theorem yokX7_fail : YOK yX7_fail cX7_fail 2 1 none := ⟨mem_g 1407 (by decide +kernel) (by decide +kernel), mem_g 141 (by decide +kernel) (by decide +kernel), by decide +kernel, by decide +kernel, by decide +kernel⟩
theorem yvX7_fail : YV yX7_fail := ⟨mem_g 1406 (by decide +kernel) (by decide +kernel), mem_g 18 (by decide +kernel) (by decide +kernel)⟩
theorem dX7_goOn_0 : decode cX7_goOn 0 = .ok (.aload_n 0, 1) := by decide +kernel
theorem dX7_goOn_1 : decode cX7_goOn 1 = .ok (.getfield 41, 3) := by decide +kernel
theorem dX7_goOn_4 : decode cX7_goOn 4 = .ok (.ifCond .ne 20, 3) := by decide +kernel
theorem dX7_goOn_7 : decode cX7_goOn 7 = .ok (.aload_n 0, 1) := by decide +kernel
theorem dX7_goOn_8 : decode cX7_goOn 8 = .ok (.getfield 34, 3) := by decide +kernel
theorem dX7_goOn_11 : decode cX7_goOn 11 = .ok (.iconst 1, 1) := by decide +kernel
theorem dX7_goOn_12 : decode cX7_goOn 12 = .ok (.iadd, 1) := by decide +kernel
theorem dX7_goOn_13 : decode cX7_goOn 13 = .ok (.aload_n 0, 1) := by decide +kernel
theorem dX7_goOn_14 : decode cX7_goOn 14 = .ok (.getfield 11, 3) := by decide +kernel
theorem dX7_goOn_17 : decode cX7_goOn 17 = .ok (.arraylength, 1) := by decide +kernel
theorem dX7_goOn_18 : decode cX7_goOn 18 = .ok (.invokestatic 77, 3) := by decide +kernel
theorem dX7_goOn_21 : decode cX7_goOn 21 = .ok (.ifCond .ne 4, 3) := by decide +kernel
theorem dX7_goOn_24 : decode cX7_goOn 24 = .ok (.return_, 1) := by decide +kernel
theorem dX7_goOn_25 : decode cX7_goOn 25 = .ok (.aload_n 0, 1) := by decide +kernel
theorem dX7_goOn_26 : decode cX7_goOn 26 = .ok (.dup, 1) := by decide +kernel
theorem dX7_goOn_27 : decode cX7_goOn 27 = .ok (.getfield 34, 3) := by decide +kernel
theorem dX7_goOn_30 : decode cX7_goOn 30 = .ok (.iconst 1, 1) := by decide +kernel
theorem dX7_goOn_31 : decode cX7_goOn 31 = .ok (.iadd, 1) := by decide +kernel
theorem dX7_goOn_32 : decode cX7_goOn 32 = .ok (.putfield 34, 3) := by decide +kernel
theorem dX7_goOn_35 : decode cX7_goOn 35 = .ok (.aload_n 0, 1) := by decide +kernel
theorem dX7_goOn_36 : decode cX7_goOn 36 = .ok (.aload_n 0, 1) := by decide +kernel
theorem dX7_goOn_37 : decode cX7_goOn 37 = .ok (.getfield 11, 3) := by decide +kernel
theorem dX7_goOn_40 : decode cX7_goOn 40 = .ok (.aload_n 0, 1) := by decide +kernel
theorem dX7_goOn_41 : decode cX7_goOn 41 = .ok (.getfield 34, 3) := by decide +kernel
theorem dX7_goOn_44 : decode cX7_goOn 44 = .ok (.iaload, 1) := by decide +kernel
theorem dX7_goOn_45 : decode cX7_goOn 45 = .ok (.putfield 38, 3) := by decide +kernel
theorem dX7_goOn_48 : decode cX7_goOn 48 = .ok (.return_, 1) := by decide +kernel
theorem mX7_goOn (l : Launch) {Y : Nat → ClassId} {D : va_G} {σ : Nat → Nat} {np b0 : Nat} {M : Mc} {N : Md} {r : Mc} (hf : fX7_goOn M = some r) : Met l yX7_goOn (.code yX7_goOn cX7_goOn 1 none :: lw_g) (rmD 2) (PR Y D σ np b0 [.ref (σ (114))] M N) (QR Y D σ np b0 none r N) 0 0 (xA b0) := by
  refine x_met (by decide) (Nat.le_of_ble_eq_true rfl) (fun p e s m args below meth c hE hr => ?_)
  unfold fX7_goOn at hf
  refine x_pick [0] (L' := [(0, .ref (σ (114)))]) rfl ?_
  refine x_aload_n hE 0 dX7_goOn_0 rfl rfl ?_
  refine x_getI hE cl_7 (hE.kd kO_7) (by decide) 5 rfl (by decide) lk_X7_41 dX7_goOn_1 ?_
  refine x_if_ne hE 24 dX7_goOn_4 (by decide) hf (fun hf => ?_) (fun hf => ?_)
  · replace hf := Option.some.inj hf
    subst hf
    exact x_vreturn hE hr dX7_goOn_24
  · refine x_aload_n hE 0 dX7_goOn_7 rfl rfl ?_
    refine x_getI hE cl_7 (hE.kd kO_7) (by decide) 3 rfl (by decide) lk_X7_34 dX7_goOn_8 ?_
    refine x_iconst hE (nI 1) dX7_goOn_11 (by decide) ?_
    refine x_iadd hE dX7_goOn_12 ?_
    refine x_aload_n hE 0 dX7_goOn_13 rfl rfl ?_
    refine x_getR hE cl_7 (hE.kd kO_7) (by decide) 0 (115) rfl (by decide) lk_X7_11 dX7_goOn_14 ?_
    refine x_alen hE (nI 301) (hE.kd kA_115) (Or.inl rfl) rfl dX7_goOn_17 ?_
    obtain ⟨v2, hc1, hf⟩ := bnd_some hf
    refine x_callSN1 hE [.int ((M (114) 3) + (nI 1)), .int (nI 301)] (rest := []) (v := .int v2) (c1 := M) (d1 := N) rfl yokX11_inside ysX11_inside lk_X7_77 rfl rfl ⟨Nat.le_of_ble_eq_true rfl, Nat.le_of_ble_eq_true rfl⟩ ⟨Nat.zero_le _, Nat.zero_le _⟩ rfl (Nat.le_of_ble_eq_true rfl) dX7_goOn_18 (mX11_inside l hc1) ?_
    refine x_if_ne hE 25 dX7_goOn_21 (by decide) hf (fun hf => ?_) (fun hf => ?_)
    · refine x_aload_n hE 0 dX7_goOn_25 rfl rfl ?_
      refine x_dup hE dX7_goOn_26 rfl ?_
      refine x_getI hE cl_7 (hE.kd kO_7) (by decide) 3 rfl (by decide) lk_X7_34 dX7_goOn_27 ?_
      refine x_iconst hE (nI 1) dX7_goOn_30 (by decide) ?_
      refine x_iadd hE dX7_goOn_31 ?_
      refine x_putI hE cl_7 (hE.kd kO_7) (by decide) 3 rfl (by decide) lk_X7_34 rfl rfl rfl rfl dX7_goOn_32 hf (fun M3 hf => ?_)
      refine x_aload_n hE 0 dX7_goOn_35 rfl rfl ?_
      refine x_aload_n hE 0 dX7_goOn_36 rfl rfl ?_
      refine x_getR hE cl_7 (hE.kd kO_7) (by decide) 0 (115) rfl (by decide) lk_X7_11 dX7_goOn_37 ?_
      refine x_aload_n hE 0 dX7_goOn_40 rfl rfl ?_
      refine x_getI hE cl_7 (hE.kd kO_7) (by decide) 3 rfl (by decide) lk_X7_34 dX7_goOn_41 ?_
      refine x_iald hE (hE.kd kA_115) dX7_goOn_44 hf (fun hf => ?_)
      refine x_putI hE cl_7 (hE.kd kO_7) (by decide) 4 rfl (by decide) lk_X7_38 rfl rfl rfl rfl dX7_goOn_45 hf (fun M4 hf => ?_)
      replace hf := Option.some.inj hf
      subst hf
      exact x_vreturn hE hr dX7_goOn_48
    · replace hf := Option.some.inj hf
      subst hf
      exact x_vreturn hE hr dX7_goOn_24
theorem yokX7_goOn : YOK yX7_goOn cX7_goOn 1 0 none := ⟨mem_g 1415 (by decide +kernel) (by decide +kernel), mem_g 141 (by decide +kernel) (by decide +kernel), by decide +kernel, by decide +kernel, by decide +kernel⟩
theorem yvX7_goOn : YV yX7_goOn := ⟨mem_g 1414 (by decide +kernel) (by decide +kernel), mem_g 20 (by decide +kernel) (by decide +kernel)⟩
theorem lk_X7_121 : Cond.methodLink RX7 121 yX7_goOn ∈ lw_g := mem_g 1412 (by decide +kernel) (by decide +kernel)
theorem lk_X7_50 : Cond.fieldLink RX7 50 (TX7 11).1 (TX7 11).2.1 (TX7 11).2.2.1 ∈ lw_g := mem_g 514 (by decide +kernel) (by decide +kernel)
theorem lk_X7_124 : Cond.methodLink RX7 124 yX7_fail ∈ lw_g := mem_g 1404 (by decide +kernel) (by decide +kernel)
theorem dX7_readUndo_0 : decode cX7_readUndo 0 = .ok (.aload_n 0, 1) := by decide +kernel
theorem dX7_readUndo_1 : decode cX7_readUndo 1 = .ok (.invokevirtual 121, 3) := by decide +kernel
theorem dX7_readUndo_4 : decode cX7_readUndo 4 = .ok (.aload_n 0, 1) := by decide +kernel
theorem dX7_readUndo_5 : decode cX7_readUndo 5 = .ok (.aload_n 0, 1) := by decide +kernel
theorem dX7_readUndo_6 : decode cX7_readUndo 6 = .ok (.getfield 38, 3) := by decide +kernel
theorem dX7_readUndo_9 : decode cX7_readUndo 9 = .ok (.sipush 410, 3) := by decide +kernel
theorem dX7_readUndo_12 : decode cX7_readUndo 12 = .ok (.if_icmp .ne 7, 3) := by decide +kernel
theorem dX7_readUndo_15 : decode cX7_readUndo 15 = .ok (.iconst 1, 1) := by decide +kernel
theorem dX7_readUndo_16 : decode cX7_readUndo 16 = .ok (.goto 4, 3) := by decide +kernel
theorem dX7_readUndo_19 : decode cX7_readUndo 19 = .ok (.iconst 0, 1) := by decide +kernel
theorem dX7_readUndo_20 : decode cX7_readUndo 20 = .ok (.putfield 50, 3) := by decide +kernel
theorem dX7_readUndo_23 : decode cX7_readUndo 23 = .ok (.aload_n 0, 1) := by decide +kernel
theorem dX7_readUndo_24 : decode cX7_readUndo 24 = .ok (.getfield 38, 3) := by decide +kernel
theorem dX7_readUndo_27 : decode cX7_readUndo 27 = .ok (.sipush 409, 3) := by decide +kernel
theorem dX7_readUndo_30 : decode cX7_readUndo 30 = .ok (.if_icmp .eq 13, 3) := by decide +kernel
theorem dX7_readUndo_33 : decode cX7_readUndo 33 = .ok (.aload_n 0, 1) := by decide +kernel
theorem dX7_readUndo_34 : decode cX7_readUndo 34 = .ok (.getfield 38, 3) := by decide +kernel
theorem dX7_readUndo_37 : decode cX7_readUndo 37 = .ok (.sipush 410, 3) := by decide +kernel
theorem dX7_readUndo_40 : decode cX7_readUndo 40 = .ok (.if_icmp .ne 10, 3) := by decide +kernel
theorem dX7_readUndo_43 : decode cX7_readUndo 43 = .ok (.aload_n 0, 1) := by decide +kernel
theorem dX7_readUndo_44 : decode cX7_readUndo 44 = .ok (.invokevirtual 121, 3) := by decide +kernel
theorem dX7_readUndo_47 : decode cX7_readUndo 47 = .ok (.goto 8, 3) := by decide +kernel
theorem dX7_readUndo_50 : decode cX7_readUndo 50 = .ok (.aload_n 0, 1) := by decide +kernel
theorem dX7_readUndo_51 : decode cX7_readUndo 51 = .ok (.iconst 1, 1) := by decide +kernel
theorem dX7_readUndo_52 : decode cX7_readUndo 52 = .ok (.invokevirtual 124, 3) := by decide +kernel
theorem dX7_readUndo_55 : decode cX7_readUndo 55 = .ok (.return_, 1) := by decide +kernel
theorem wX7_readUndo_J43 {p : Program} {l : Launch} {e : Env} {s : State} {m : MethodId} {args : Array Value} {below : List Frame} {meth : Method} {c : Code} {Y : Nat → ClassId} {D : va_G} {σ : Nat → Nat} {np b0 : Nat} {r : Mc} {M : Mc} {N : Md} (hE : EOK p s m args meth c cX7_readUndo 1 RX7 Y D σ np b0) (hr : meth.sig.returnType = none) (hf : fX7_readUndo_J43 M = some r) : Xw p l e (rmD 3) s m args below meth c 1 Y D σ np b0 0 0 (MQ below (QR Y D σ np b0 none r N) args s 0 0 (xA b0)) 43 [(0, .ref (σ (114)))] [] M N := by
  unfold fX7_readUndo_J43 at hf
  refine x_aload_n hE 0 dX7_readUndo_43 rfl rfl ?_
  obtain ⟨M7, hc6, hf⟩ := bnd_some hf
  refine x_callV0 hE [] (rest := []) (c1 := M7) (d1 := N) rfl yokX7_goOn yvX7_goOn lk_X7_121 rfl cl_7 (hE.kd kO_7) (by decide) rfl rfl ⟨Nat.le_of_ble_eq_true rfl, Nat.le_of_ble_eq_true rfl⟩ ⟨Nat.zero_le _, Nat.zero_le _⟩ rfl (Nat.le_of_ble_eq_true rfl) dX7_readUndo_44 (mX7_goOn l hc6) ?_
  refine x_goto hE 55 dX7_readUndo_47 (by decide) ?_
  replace hf := Option.some.inj hf
  subst hf
  exact x_vreturn hE hr dX7_readUndo_55
theorem wX7_readUndo_J20 {p : Program} {l : Launch} {e : Env} {s : State} {m : MethodId} {args : Array Value} {below : List Frame} {meth : Method} {c : Code} {Y : Nat → ClassId} {D : va_G} {σ : Nat → Nat} {np b0 : Nat} {r : Mc} {M : Mc} {N : Md} {Z0 : Int32} (hE : EOK p s m args meth c cX7_readUndo 1 RX7 Y D σ np b0) (hr : meth.sig.returnType = none) (hf : fX7_readUndo_J20 M Z0 = some r) : Xw p l e (rmD 3) s m args below meth c 1 Y D σ np b0 0 0 (MQ below (QR Y D σ np b0 none r N) args s 0 0 (xA b0)) 20 [(0, .ref (σ (114)))] [.int Z0, .ref (σ (114))] M N := by
  unfold fX7_readUndo_J20 at hf
  have hz := (chp_some hf).1
  replace hf := (chp_some hf).2
  refine x_putI hE cl_7 (hE.kd kO_7) (by decide) 11 rfl (by decide) lk_X7_50 rfl rfl (nar_Z hz) (fit_Z hz) dX7_readUndo_20 hf (fun M3 hf => ?_)
  refine x_aload_n hE 0 dX7_readUndo_23 rfl rfl ?_
  refine x_getI hE cl_7 (hE.kd kO_7) (by decide) 4 rfl (by decide) lk_X7_38 dX7_readUndo_24 ?_
  refine x_sipush hE (nI 409) dX7_readUndo_27 (by decide) ?_
  refine x_icmp_eq hE 43 dX7_readUndo_30 (by decide) hf (fun hf => ?_) (fun hf => ?_)
  · exact wX7_readUndo_J43 hE hr  hf
  · refine x_aload_n hE 0 dX7_readUndo_33 rfl rfl ?_
    refine x_getI hE cl_7 (hE.kd kO_7) (by decide) 4 rfl (by decide) lk_X7_38 dX7_readUndo_34 ?_
    refine x_sipush hE (nI 410) dX7_readUndo_37 (by decide) ?_
    refine x_icmp_ne hE 50 dX7_readUndo_40 (by decide) hf (fun hf => ?_) (fun hf => ?_)
    · refine x_aload_n hE 0 dX7_readUndo_50 rfl rfl ?_
      refine x_iconst hE (nI 1) dX7_readUndo_51 (by decide) ?_
      obtain ⟨M5, hc4, hf⟩ := bnd_some hf
      refine x_callV0 hE [.int (nI 1)] (rest := []) (c1 := M5) (d1 := N) rfl yokX7_fail yvX7_fail lk_X7_124 rfl cl_7 (hE.kd kO_7) (by decide) rfl rfl ⟨Nat.le_of_ble_eq_true rfl, Nat.le_of_ble_eq_true rfl⟩ ⟨Nat.zero_le _, Nat.zero_le _⟩ rfl (Nat.le_of_ble_eq_true rfl) dX7_readUndo_52 (mX7_fail l hc4) ?_
      replace hf := Option.some.inj hf
      subst hf
      exact x_vreturn hE hr dX7_readUndo_55
    · exact wX7_readUndo_J43 hE hr  hf
theorem mX7_readUndo (l : Launch) {Y : Nat → ClassId} {D : va_G} {σ : Nat → Nat} {np b0 : Nat} {M : Mc} {N : Md} {r : Mc} (hf : fX7_readUndo M = some r) : Met l yX7_readUndo (.code yX7_readUndo cX7_readUndo 1 none :: lw_g) (rmD 3) (PR Y D σ np b0 [.ref (σ (114))] M N) (QR Y D σ np b0 none r N) 0 0 (xA b0) := by
  refine x_met (by decide) (Nat.le_of_ble_eq_true rfl) (fun p e s m args below meth c hE hr => ?_)
  unfold fX7_readUndo at hf
  refine x_pick [0] (L' := [(0, .ref (σ (114)))]) rfl ?_
  refine x_aload_n hE 0 dX7_readUndo_0 rfl rfl ?_
  obtain ⟨M2, hc1, hf⟩ := bnd_some hf
  refine x_callV0 hE [] (rest := []) (c1 := M2) (d1 := N) rfl yokX7_goOn yvX7_goOn lk_X7_121 rfl cl_7 (hE.kd kO_7) (by decide) rfl rfl ⟨Nat.le_of_ble_eq_true rfl, Nat.le_of_ble_eq_true rfl⟩ ⟨Nat.zero_le _, Nat.zero_le _⟩ rfl (Nat.le_of_ble_eq_true rfl) dX7_readUndo_1 (mX7_goOn l hc1) ?_
  refine x_aload_n hE 0 dX7_readUndo_4 rfl rfl ?_
  refine x_aload_n hE 0 dX7_readUndo_5 rfl rfl ?_
  refine x_getI hE cl_7 (hE.kd kO_7) (by decide) 4 rfl (by decide) lk_X7_38 dX7_readUndo_6 ?_
  refine x_sipush hE (nI 410) dX7_readUndo_9 (by decide) ?_
  refine x_icmp_ne hE 19 dX7_readUndo_12 (by decide) hf (fun hf => ?_) (fun hf => ?_)
  · refine x_iconst hE (0 : Int32) dX7_readUndo_19 (by decide) ?_
    exact wX7_readUndo_J20 hE hr  hf
  · refine x_iconst hE (nI 1) dX7_readUndo_15 (by decide) ?_
    refine x_goto hE 20 dX7_readUndo_16 (by decide) ?_
    exact wX7_readUndo_J20 hE hr  hf
theorem yokX7_readUndo : YOK yX7_readUndo cX7_readUndo 1 0 none := ⟨mem_g 1411 (by decide +kernel) (by decide +kernel), mem_g 141 (by decide +kernel) (by decide +kernel), by decide +kernel, by decide +kernel, by decide +kernel⟩
theorem yvX7_readUndo : YV yX7_readUndo := ⟨mem_g 1410 (by decide +kernel) (by decide +kernel), mem_g 19 (by decide +kernel) (by decide +kernel)⟩
theorem dX7_expect_0 : decode cX7_expect 0 = .ok (.aload_n 0, 1) := by decide +kernel
theorem dX7_expect_1 : decode cX7_expect 1 = .ok (.getfield 38, 3) := by decide +kernel
theorem dX7_expect_4 : decode cX7_expect 4 = .ok (.iload_n 1, 1) := by decide +kernel
theorem dX7_expect_5 : decode cX7_expect 5 = .ok (.if_icmp .ne 10, 3) := by decide +kernel
theorem dX7_expect_8 : decode cX7_expect 8 = .ok (.aload_n 0, 1) := by decide +kernel
theorem dX7_expect_9 : decode cX7_expect 9 = .ok (.invokevirtual 121, 3) := by decide +kernel
theorem dX7_expect_12 : decode cX7_expect 12 = .ok (.goto 8, 3) := by decide +kernel
theorem dX7_expect_15 : decode cX7_expect 15 = .ok (.aload_n 0, 1) := by decide +kernel
theorem dX7_expect_16 : decode cX7_expect 16 = .ok (.iconst 1, 1) := by decide +kernel
theorem dX7_expect_17 : decode cX7_expect 17 = .ok (.invokevirtual 124, 3) := by decide +kernel
theorem dX7_expect_20 : decode cX7_expect 20 = .ok (.return_, 1) := by decide +kernel
theorem mX7_expect (l : Launch) {Y : Nat → ClassId} {D : va_G} {σ : Nat → Nat} {np b0 : Nat} {M : Mc} {N : Md} {p0 : Int32} {r : Mc} (hf : fX7_expect M p0 = some r) : Met l yX7_expect (.code yX7_expect cX7_expect 2 none :: lw_g) (rmD 3) (PR Y D σ np b0 [.ref (σ (114)), .int p0] M N) (QR Y D σ np b0 none r N) 0 0 (xA b0) := by
  refine x_met (by decide) (Nat.le_of_ble_eq_true rfl) (fun p e s m args below meth c hE hr => ?_)
  unfold fX7_expect at hf
  refine x_pick [0, 1] (L' := [(0, .ref (σ (114))), (1, .int p0)]) rfl ?_
  refine x_aload_n hE 0 dX7_expect_0 rfl rfl ?_
  refine x_getI hE cl_7 (hE.kd kO_7) (by decide) 4 rfl (by decide) lk_X7_38 dX7_expect_1 ?_
  refine x_iload_n hE 1 dX7_expect_4 rfl rfl ?_
  refine x_icmp_ne hE 15 dX7_expect_5 (by decide) hf (fun hf => ?_) (fun hf => ?_)
  · refine x_aload_n hE 0 dX7_expect_15 rfl rfl ?_
    refine x_iconst hE (nI 1) dX7_expect_16 (by decide) ?_
    obtain ⟨M2, hc1, hf⟩ := bnd_some hf
    refine x_callV0 hE [.int (nI 1)] (rest := []) (c1 := M2) (d1 := N) rfl yokX7_fail yvX7_fail lk_X7_124 rfl cl_7 (hE.kd kO_7) (by decide) rfl rfl ⟨Nat.le_of_ble_eq_true rfl, Nat.le_of_ble_eq_true rfl⟩ ⟨Nat.zero_le _, Nat.zero_le _⟩ rfl (Nat.le_of_ble_eq_true rfl) dX7_expect_17 (mX7_fail l hc1) ?_
    replace hf := Option.some.inj hf
    subst hf
    exact x_vreturn hE hr dX7_expect_20
  · refine x_aload_n hE 0 dX7_expect_8 rfl rfl ?_
    obtain ⟨M4, hc3, hf⟩ := bnd_some hf
    refine x_callV0 hE [] (rest := []) (c1 := M4) (d1 := N) rfl yokX7_goOn yvX7_goOn lk_X7_121 rfl cl_7 (hE.kd kO_7) (by decide) rfl rfl ⟨Nat.le_of_ble_eq_true rfl, Nat.le_of_ble_eq_true rfl⟩ ⟨Nat.zero_le _, Nat.zero_le _⟩ rfl (Nat.le_of_ble_eq_true rfl) dX7_expect_9 (mX7_goOn l hc3) ?_
    refine x_goto hE 20 dX7_expect_12 (by decide) ?_
    replace hf := Option.some.inj hf
    subst hf
    exact x_vreturn hE hr dX7_expect_20
theorem yokX7_expect : YOK yX7_expect cX7_expect 2 1 none := ⟨mem_g 1423 (by decide +kernel) (by decide +kernel), mem_g 141 (by decide +kernel) (by decide +kernel), by decide +kernel, by decide +kernel, by decide +kernel⟩
theorem yvX7_expect : YV yX7_expect := ⟨mem_g 1422 (by decide +kernel) (by decide +kernel), mem_g 22 (by decide +kernel) (by decide +kernel)⟩
theorem lk_X7_47 : Cond.fieldLink RX7 47 (TX7 8).1 (TX7 8).2.1 (TX7 8).2.2.1 ∈ lw_g := mem_g 511 (by decide +kernel) (by decide +kernel)
theorem lk_X7_21 : Cond.fieldLink RX7 21 (TX7 7).1 (TX7 7).2.1 (TX7 7).2.2.1 ∈ lw_g := mem_g 510 (by decide +kernel) (by decide +kernel)
theorem dX7_put_0 : decode cX7_put 0 = .ok (.aload_n 0, 1) := by decide +kernel
theorem dX7_put_1 : decode cX7_put 1 = .ok (.getfield 41, 3) := by decide +kernel
theorem dX7_put_4 : decode cX7_put 4 = .ok (.ifCond .ne 18, 3) := by decide +kernel
theorem dX7_put_7 : decode cX7_put 7 = .ok (.aload_n 0, 1) := by decide +kernel
theorem dX7_put_8 : decode cX7_put 8 = .ok (.getfield 47, 3) := by decide +kernel
theorem dX7_put_11 : decode cX7_put 11 = .ok (.aload_n 0, 1) := by decide +kernel
theorem dX7_put_12 : decode cX7_put 12 = .ok (.getfield 21, 3) := by decide +kernel
theorem dX7_put_15 : decode cX7_put 15 = .ok (.arraylength, 1) := by decide +kernel
theorem dX7_put_16 : decode cX7_put 16 = .ok (.invokestatic 77, 3) := by decide +kernel
theorem dX7_put_19 : decode cX7_put 19 = .ok (.ifCond .ne 4, 3) := by decide +kernel
theorem dX7_put_22 : decode cX7_put 22 = .ok (.return_, 1) := by decide +kernel
theorem dX7_put_23 : decode cX7_put 23 = .ok (.aload_n 0, 1) := by decide +kernel
theorem dX7_put_24 : decode cX7_put 24 = .ok (.getfield 21, 3) := by decide +kernel
theorem dX7_put_27 : decode cX7_put 27 = .ok (.aload_n 0, 1) := by decide +kernel
theorem dX7_put_28 : decode cX7_put 28 = .ok (.getfield 47, 3) := by decide +kernel
theorem dX7_put_31 : decode cX7_put 31 = .ok (.iload_n 1, 1) := by decide +kernel
theorem dX7_put_32 : decode cX7_put 32 = .ok (.iastore, 1) := by decide +kernel
theorem dX7_put_33 : decode cX7_put 33 = .ok (.aload_n 0, 1) := by decide +kernel
theorem dX7_put_34 : decode cX7_put 34 = .ok (.dup, 1) := by decide +kernel
theorem dX7_put_35 : decode cX7_put 35 = .ok (.getfield 47, 3) := by decide +kernel
theorem dX7_put_38 : decode cX7_put 38 = .ok (.iconst 1, 1) := by decide +kernel
theorem dX7_put_39 : decode cX7_put 39 = .ok (.iadd, 1) := by decide +kernel
theorem dX7_put_40 : decode cX7_put 40 = .ok (.putfield 47, 3) := by decide +kernel
theorem dX7_put_43 : decode cX7_put 43 = .ok (.return_, 1) := by decide +kernel
theorem mX7_put (l : Launch) {Y : Nat → ClassId} {D : va_G} {σ : Nat → Nat} {np b0 : Nat} {M : Mc} {N : Md} {p0 : Int32} {r : Mc} (hf : fX7_put M p0 = some r) : Met l yX7_put (.code yX7_put cX7_put 2 none :: lw_g) (rmD 2) (PR Y D σ np b0 [.ref (σ (114)), .int p0] M N) (QR Y D σ np b0 none r N) 0 0 (xA b0) := by
  refine x_met (by decide) (Nat.le_of_ble_eq_true rfl) (fun p e s m args below meth c hE hr => ?_)
  unfold fX7_put at hf
  refine x_pick [0, 1] (L' := [(0, .ref (σ (114))), (1, .int p0)]) rfl ?_
  refine x_aload_n hE 0 dX7_put_0 rfl rfl ?_
  refine x_getI hE cl_7 (hE.kd kO_7) (by decide) 5 rfl (by decide) lk_X7_41 dX7_put_1 ?_
  refine x_if_ne hE 22 dX7_put_4 (by decide) hf (fun hf => ?_) (fun hf => ?_)
  · replace hf := Option.some.inj hf
    subst hf
    exact x_vreturn hE hr dX7_put_22
  · refine x_aload_n hE 0 dX7_put_7 rfl rfl ?_
    refine x_getI hE cl_7 (hE.kd kO_7) (by decide) 8 rfl (by decide) lk_X7_47 dX7_put_8 ?_
    refine x_aload_n hE 0 dX7_put_11 rfl rfl ?_
    refine x_getR hE cl_7 (hE.kd kO_7) (by decide) 7 (118) rfl (by decide) lk_X7_21 dX7_put_12 ?_
    refine x_alen hE (nI 300) (hE.kd kA_118) (Or.inl rfl) rfl dX7_put_15 ?_
    obtain ⟨v2, hc1, hf⟩ := bnd_some hf
    refine x_callSN1 hE [.int (M (114) 8), .int (nI 300)] (rest := []) (v := .int v2) (c1 := M) (d1 := N) rfl yokX11_inside ysX11_inside lk_X7_77 rfl rfl ⟨Nat.le_of_ble_eq_true rfl, Nat.le_of_ble_eq_true rfl⟩ ⟨Nat.zero_le _, Nat.zero_le _⟩ rfl (Nat.le_of_ble_eq_true rfl) dX7_put_16 (mX11_inside l hc1) ?_
    refine x_if_ne hE 23 dX7_put_19 (by decide) hf (fun hf => ?_) (fun hf => ?_)
    · refine x_aload_n hE 0 dX7_put_23 rfl rfl ?_
      refine x_getR hE cl_7 (hE.kd kO_7) (by decide) 7 (118) rfl (by decide) lk_X7_21 dX7_put_24 ?_
      refine x_aload_n hE 0 dX7_put_27 rfl rfl ?_
      refine x_getI hE cl_7 (hE.kd kO_7) (by decide) 8 rfl (by decide) lk_X7_47 dX7_put_28 ?_
      refine x_iload_n hE 1 dX7_put_31 rfl rfl ?_
      refine x_iast hE (hE.kd kA_118) dX7_put_32 hf (fun M3 hf => ?_)
      refine x_aload_n hE 0 dX7_put_33 rfl rfl ?_
      refine x_dup hE dX7_put_34 rfl ?_
      refine x_getI hE cl_7 (hE.kd kO_7) (by decide) 8 rfl (by decide) lk_X7_47 dX7_put_35 ?_
      refine x_iconst hE (nI 1) dX7_put_38 (by decide) ?_
      refine x_iadd hE dX7_put_39 ?_
      refine x_putI hE cl_7 (hE.kd kO_7) (by decide) 8 rfl (by decide) lk_X7_47 rfl rfl rfl rfl dX7_put_40 hf (fun M4 hf => ?_)
      replace hf := Option.some.inj hf
      subst hf
      exact x_vreturn hE hr dX7_put_43
    · replace hf := Option.some.inj hf
      subst hf
      exact x_vreturn hE hr dX7_put_22
theorem yokX7_put : YOK yX7_put cX7_put 2 1 none := ⟨mem_g 1443 (by decide +kernel) (by decide +kernel), mem_g 141 (by decide +kernel) (by decide +kernel), by decide +kernel, by decide +kernel, by decide +kernel⟩
theorem yvX7_put : YV yX7_put := ⟨mem_g 1442 (by decide +kernel) (by decide +kernel), mem_g 27 (by decide +kernel) (by decide +kernel)⟩
theorem lk_X7_142 : Cond.methodLink RX7 142 yX7_put ∈ lw_g := mem_g 1440 (by decide +kernel) (by decide +kernel)
theorem dX7_readNumber_0 : decode cX7_readNumber 0 = .ok (.aload_n 0, 1) := by decide +kernel
theorem dX7_readNumber_1 : decode cX7_readNumber 1 = .ok (.getfield 34, 3) := by decide +kernel
theorem dX7_readNumber_4 : decode cX7_readNumber 4 = .ok (.aload_n 0, 1) := by decide +kernel
theorem dX7_readNumber_5 : decode cX7_readNumber 5 = .ok (.getfield 18, 3) := by decide +kernel
theorem dX7_readNumber_8 : decode cX7_readNumber 8 = .ok (.arraylength, 1) := by decide +kernel
theorem dX7_readNumber_9 : decode cX7_readNumber 9 = .ok (.invokestatic 77, 3) := by decide +kernel
theorem dX7_readNumber_12 : decode cX7_readNumber 12 = .ok (.ifCond .eq 15, 3) := by decide +kernel
theorem dX7_readNumber_15 : decode cX7_readNumber 15 = .ok (.aload_n 0, 1) := by decide +kernel
theorem dX7_readNumber_16 : decode cX7_readNumber 16 = .ok (.getfield 18, 3) := by decide +kernel
theorem dX7_readNumber_19 : decode cX7_readNumber 19 = .ok (.aload_n 0, 1) := by decide +kernel
theorem dX7_readNumber_20 : decode cX7_readNumber 20 = .ok (.getfield 34, 3) := by decide +kernel
theorem dX7_readNumber_23 : decode cX7_readNumber 23 = .ok (.iaload, 1) := by decide +kernel
theorem dX7_readNumber_24 : decode cX7_readNumber 24 = .ok (.goto 4, 3) := by decide +kernel
theorem dX7_readNumber_27 : decode cX7_readNumber 27 = .ok (.iconst 0, 1) := by decide +kernel
theorem dX7_readNumber_28 : decode cX7_readNumber 28 = .ok (.istore_n 1, 1) := by decide +kernel
theorem dX7_readNumber_29 : decode cX7_readNumber 29 = .ok (.iload_n 1, 1) := by decide +kernel
theorem dX7_readNumber_30 : decode cX7_readNumber 30 = .ok (.sipush 9999, 3) := by decide +kernel
theorem dX7_readNumber_33 : decode cX7_readNumber 33 = .ok (.if_icmp .le 8, 3) := by decide +kernel
theorem dX7_readNumber_36 : decode cX7_readNumber 36 = .ok (.aload_n 0, 1) := by decide +kernel
theorem dX7_readNumber_37 : decode cX7_readNumber 37 = .ok (.iconst 2, 1) := by decide +kernel
theorem dX7_readNumber_38 : decode cX7_readNumber 38 = .ok (.invokevirtual 124, 3) := by decide +kernel
theorem dX7_readNumber_41 : decode cX7_readNumber 41 = .ok (.aload_n 0, 1) := by decide +kernel
theorem dX7_readNumber_42 : decode cX7_readNumber 42 = .ok (.iload_n 1, 1) := by decide +kernel
theorem dX7_readNumber_43 : decode cX7_readNumber 43 = .ok (.invokevirtual 142, 3) := by decide +kernel
theorem dX7_readNumber_46 : decode cX7_readNumber 46 = .ok (.aload_n 0, 1) := by decide +kernel
theorem dX7_readNumber_47 : decode cX7_readNumber 47 = .ok (.invokevirtual 121, 3) := by decide +kernel
theorem dX7_readNumber_50 : decode cX7_readNumber 50 = .ok (.return_, 1) := by decide +kernel
theorem wX7_readNumber_J41 {p : Program} {l : Launch} {e : Env} {s : State} {m : MethodId} {args : Array Value} {below : List Frame} {meth : Method} {c : Code} {Y : Nat → ClassId} {D : va_G} {σ : Nat → Nat} {np b0 : Nat} {r : Mc} {M : Mc} {N : Md} {X1 : Int32} (hE : EOK p s m args meth c cX7_readNumber 2 RX7 Y D σ np b0) (hr : meth.sig.returnType = none) (hf : fX7_readNumber_J41 M X1 = some r) : Xw p l e (rmD 3) s m args below meth c 2 Y D σ np b0 0 0 (MQ below (QR Y D σ np b0 none r N) args s 0 0 (xA b0)) 41 [(0, .ref (σ (114))), (1, .int X1)] [] M N := by
  unfold fX7_readNumber_J41 at hf
  refine x_aload_n hE 0 dX7_readNumber_41 rfl rfl ?_
  refine x_iload_n hE 1 dX7_readNumber_42 rfl rfl ?_
  obtain ⟨M6, hc5, hf⟩ := bnd_some hf
  refine x_callV0 hE [.int X1] (rest := []) (c1 := M6) (d1 := N) rfl yokX7_put yvX7_put lk_X7_142 rfl cl_7 (hE.kd kO_7) (by decide) rfl rfl ⟨Nat.le_of_ble_eq_true rfl, Nat.le_of_ble_eq_true rfl⟩ ⟨Nat.zero_le _, Nat.zero_le _⟩ rfl (Nat.le_of_ble_eq_true rfl) dX7_readNumber_43 (mX7_put l hc5) ?_
  refine x_aload_n hE 0 dX7_readNumber_46 rfl rfl ?_
  obtain ⟨M8, hc7, hf⟩ := bnd_some hf
  refine x_callV0 hE [] (rest := []) (c1 := M8) (d1 := N) rfl yokX7_goOn yvX7_goOn lk_X7_121 rfl cl_7 (hE.kd kO_7) (by decide) rfl rfl ⟨Nat.le_of_ble_eq_true rfl, Nat.le_of_ble_eq_true rfl⟩ ⟨Nat.zero_le _, Nat.zero_le _⟩ rfl (Nat.le_of_ble_eq_true rfl) dX7_readNumber_47 (mX7_goOn l hc7) ?_
  replace hf := Option.some.inj hf
  subst hf
  exact x_vreturn hE hr dX7_readNumber_50
theorem wX7_readNumber_J28 {p : Program} {l : Launch} {e : Env} {s : State} {m : MethodId} {args : Array Value} {below : List Frame} {meth : Method} {c : Code} {Y : Nat → ClassId} {D : va_G} {σ : Nat → Nat} {np b0 : Nat} {r : Mc} {M : Mc} {N : Md} {Z0 : Int32} (hE : EOK p s m args meth c cX7_readNumber 2 RX7 Y D σ np b0) (hr : meth.sig.returnType = none) (hf : fX7_readNumber_J28 M Z0 = some r) : Xw p l e (rmD 3) s m args below meth c 2 Y D σ np b0 0 0 (MQ below (QR Y D σ np b0 none r N) args s 0 0 (xA b0)) 28 [(0, .ref (σ (114)))] [.int Z0] M N := by
  unfold fX7_readNumber_J28 at hf
  refine x_istore_n hE (L' := [(1, .int Z0), (0, .ref (σ (114)))]) dX7_readNumber_28 rfl (by decide) rfl ?_
  refine x_pick [1, 0] (L' := [(0, .ref (σ (114))), (1, .int Z0)]) rfl ?_
  refine x_iload_n hE 1 dX7_readNumber_29 rfl rfl ?_
  refine x_sipush hE (nI 9999) dX7_readNumber_30 (by decide) ?_
  refine x_icmp_le hE 41 dX7_readNumber_33 (by decide) hf (fun hf => ?_) (fun hf => ?_)
  · exact wX7_readNumber_J41 hE hr  hf
  · refine x_aload_n hE 0 dX7_readNumber_36 rfl rfl ?_
    refine x_iconst hE (nI 2) dX7_readNumber_37 (by decide) ?_
    obtain ⟨M4, hc3, hf⟩ := bnd_some hf
    refine x_callV0 hE [.int (nI 2)] (rest := []) (c1 := M4) (d1 := N) rfl yokX7_fail yvX7_fail lk_X7_124 rfl cl_7 (hE.kd kO_7) (by decide) rfl rfl ⟨Nat.le_of_ble_eq_true rfl, Nat.le_of_ble_eq_true rfl⟩ ⟨Nat.zero_le _, Nat.zero_le _⟩ rfl (Nat.le_of_ble_eq_true rfl) dX7_readNumber_38 (mX7_fail l hc3) ?_
    exact wX7_readNumber_J41 hE hr  hf
theorem mX7_readNumber (l : Launch) {Y : Nat → ClassId} {D : va_G} {σ : Nat → Nat} {np b0 : Nat} {M : Mc} {N : Md} {r : Mc} (hf : fX7_readNumber M = some r) : Met l yX7_readNumber (.code yX7_readNumber cX7_readNumber 2 none :: lw_g) (rmD 3) (PR Y D σ np b0 [.ref (σ (114))] M N) (QR Y D σ np b0 none r N) 0 0 (xA b0) := by
  refine x_met (by decide) (Nat.le_of_ble_eq_true rfl) (fun p e s m args below meth c hE hr => ?_)
  unfold fX7_readNumber at hf
  refine x_pick [0] (L' := [(0, .ref (σ (114)))]) rfl ?_
  refine x_aload_n hE 0 dX7_readNumber_0 rfl rfl ?_
  refine x_getI hE cl_7 (hE.kd kO_7) (by decide) 3 rfl (by decide) lk_X7_34 dX7_readNumber_1 ?_
  refine x_aload_n hE 0 dX7_readNumber_4 rfl rfl ?_
  refine x_getR hE cl_7 (hE.kd kO_7) (by decide) 2 (117) rfl (by decide) lk_X7_18 dX7_readNumber_5 ?_
  refine x_alen hE (nI 301) (hE.kd kA_117) (Or.inl rfl) rfl dX7_readNumber_8 ?_
  obtain ⟨v2, hc1, hf⟩ := bnd_some hf
  refine x_callSN1 hE [.int (M (114) 3), .int (nI 301)] (rest := []) (v := .int v2) (c1 := M) (d1 := N) rfl yokX11_inside ysX11_inside lk_X7_77 rfl rfl ⟨Nat.le_of_ble_eq_true rfl, Nat.le_of_ble_eq_true rfl⟩ ⟨Nat.zero_le _, Nat.zero_le _⟩ rfl (Nat.le_of_ble_eq_true rfl) dX7_readNumber_9 (mX11_inside l hc1) ?_
  refine x_if_eq hE 27 dX7_readNumber_12 (by decide) hf (fun hf => ?_) (fun hf => ?_)
  · refine x_iconst hE (0 : Int32) dX7_readNumber_27 (by decide) ?_
    exact wX7_readNumber_J28 hE hr  hf
  · refine x_aload_n hE 0 dX7_readNumber_15 rfl rfl ?_
    refine x_getR hE cl_7 (hE.kd kO_7) (by decide) 2 (117) rfl (by decide) lk_X7_18 dX7_readNumber_16 ?_
    refine x_aload_n hE 0 dX7_readNumber_19 rfl rfl ?_
    refine x_getI hE cl_7 (hE.kd kO_7) (by decide) 3 rfl (by decide) lk_X7_34 dX7_readNumber_20 ?_
    refine x_iald hE (hE.kd kA_117) dX7_readNumber_23 hf (fun hf => ?_)
    refine x_goto hE 28 dX7_readNumber_24 (by decide) ?_
    exact wX7_readNumber_J28 hE hr  hf
theorem yokX7_readNumber : YOK yX7_readNumber cX7_readNumber 2 0 none := ⟨mem_g 1439 (by decide +kernel) (by decide +kernel), mem_g 141 (by decide +kernel) (by decide +kernel), by decide +kernel, by decide +kernel, by decide +kernel⟩
theorem yvX7_readNumber : YV yX7_readNumber := ⟨mem_g 1438 (by decide +kernel) (by decide +kernel), mem_g 26 (by decide +kernel) (by decide +kernel)⟩
theorem dX7_openWith_0 : decode cX7_openWith 0 = .ok (.aload_n 0, 1) := by decide +kernel
theorem dX7_openWith_1 : decode cX7_openWith 1 = .ok (.getfield 38, 3) := by decide +kernel
theorem dX7_openWith_4 : decode cX7_openWith 4 = .ok (.iload_n 1, 1) := by decide +kernel
theorem dX7_openWith_5 : decode cX7_openWith 5 = .ok (.if_icmp .eq 11, 3) := by decide +kernel
theorem dX7_openWith_8 : decode cX7_openWith 8 = .ok (.aload_n 0, 1) := by decide +kernel
theorem dX7_openWith_9 : decode cX7_openWith 9 = .ok (.iconst 1, 1) := by decide +kernel
theorem dX7_openWith_10 : decode cX7_openWith 10 = .ok (.invokevirtual 124, 3) := by decide +kernel
theorem dX7_openWith_13 : decode cX7_openWith 13 = .ok (.goto 21, 3) := by decide +kernel
theorem dX7_openWith_16 : decode cX7_openWith 16 = .ok (.iload_n 2, 1) := by decide +kernel
theorem dX7_openWith_17 : decode cX7_openWith 17 = .ok (.bipush 8, 2) := by decide +kernel
theorem dX7_openWith_19 : decode cX7_openWith 19 = .ok (.if_icmp .lt 11, 3) := by decide +kernel
theorem dX7_openWith_22 : decode cX7_openWith 22 = .ok (.aload_n 0, 1) := by decide +kernel
theorem dX7_openWith_23 : decode cX7_openWith 23 = .ok (.iconst 3, 1) := by decide +kernel
theorem dX7_openWith_24 : decode cX7_openWith 24 = .ok (.invokevirtual 124, 3) := by decide +kernel
theorem dX7_openWith_27 : decode cX7_openWith 27 = .ok (.goto 7, 3) := by decide +kernel
theorem dX7_openWith_30 : decode cX7_openWith 30 = .ok (.aload_n 0, 1) := by decide +kernel
theorem dX7_openWith_31 : decode cX7_openWith 31 = .ok (.invokevirtual 121, 3) := by decide +kernel
theorem dX7_openWith_34 : decode cX7_openWith 34 = .ok (.return_, 1) := by decide +kernel
theorem mX7_openWith (l : Launch) {Y : Nat → ClassId} {D : va_G} {σ : Nat → Nat} {np b0 : Nat} {M : Mc} {N : Md} {p0 : Int32} {p1 : Int32} {r : Mc} (hf : fX7_openWith M p0 p1 = some r) : Met l yX7_openWith (.code yX7_openWith cX7_openWith 3 none :: lw_g) (rmD 3) (PR Y D σ np b0 [.ref (σ (114)), .int p0, .int p1] M N) (QR Y D σ np b0 none r N) 0 0 (xA b0) := by
  refine x_met (by decide) (Nat.le_of_ble_eq_true rfl) (fun p e s m args below meth c hE hr => ?_)
  unfold fX7_openWith at hf
  refine x_pick [0, 1, 2] (L' := [(0, .ref (σ (114))), (1, .int p0), (2, .int p1)]) rfl ?_
  refine x_aload_n hE 0 dX7_openWith_0 rfl rfl ?_
  refine x_getI hE cl_7 (hE.kd kO_7) (by decide) 4 rfl (by decide) lk_X7_38 dX7_openWith_1 ?_
  refine x_iload_n hE 1 dX7_openWith_4 rfl rfl ?_
  refine x_icmp_eq hE 16 dX7_openWith_5 (by decide) hf (fun hf => ?_) (fun hf => ?_)
  · refine x_iload_n hE 2 dX7_openWith_16 rfl rfl ?_
    refine x_bipush hE (nI 8) dX7_openWith_17 (by decide) ?_
    refine x_icmp_lt hE 30 dX7_openWith_19 (by decide) hf (fun hf => ?_) (fun hf => ?_)
    · refine x_aload_n hE 0 dX7_openWith_30 rfl rfl ?_
      obtain ⟨M2, hc1, hf⟩ := bnd_some hf
      refine x_callV0 hE [] (rest := []) (c1 := M2) (d1 := N) rfl yokX7_goOn yvX7_goOn lk_X7_121 rfl cl_7 (hE.kd kO_7) (by decide) rfl rfl ⟨Nat.le_of_ble_eq_true rfl, Nat.le_of_ble_eq_true rfl⟩ ⟨Nat.zero_le _, Nat.zero_le _⟩ rfl (Nat.le_of_ble_eq_true rfl) dX7_openWith_31 (mX7_goOn l hc1) ?_
      replace hf := Option.some.inj hf
      subst hf
      exact x_vreturn hE hr dX7_openWith_34
    · refine x_aload_n hE 0 dX7_openWith_22 rfl rfl ?_
      refine x_iconst hE (nI 3) dX7_openWith_23 (by decide) ?_
      obtain ⟨M4, hc3, hf⟩ := bnd_some hf
      refine x_callV0 hE [.int (nI 3)] (rest := []) (c1 := M4) (d1 := N) rfl yokX7_fail yvX7_fail lk_X7_124 rfl cl_7 (hE.kd kO_7) (by decide) rfl rfl ⟨Nat.le_of_ble_eq_true rfl, Nat.le_of_ble_eq_true rfl⟩ ⟨Nat.zero_le _, Nat.zero_le _⟩ rfl (Nat.le_of_ble_eq_true rfl) dX7_openWith_24 (mX7_fail l hc3) ?_
      refine x_goto hE 34 dX7_openWith_27 (by decide) ?_
      replace hf := Option.some.inj hf
      subst hf
      exact x_vreturn hE hr dX7_openWith_34
  · refine x_aload_n hE 0 dX7_openWith_8 rfl rfl ?_
    refine x_iconst hE (nI 1) dX7_openWith_9 (by decide) ?_
    obtain ⟨M6, hc5, hf⟩ := bnd_some hf
    refine x_callV0 hE [.int (nI 1)] (rest := []) (c1 := M6) (d1 := N) rfl yokX7_fail yvX7_fail lk_X7_124 rfl cl_7 (hE.kd kO_7) (by decide) rfl rfl ⟨Nat.le_of_ble_eq_true rfl, Nat.le_of_ble_eq_true rfl⟩ ⟨Nat.zero_le _, Nat.zero_le _⟩ rfl (Nat.le_of_ble_eq_true rfl) dX7_openWith_10 (mX7_fail l hc5) ?_
    refine x_goto hE 34 dX7_openWith_13 (by decide) ?_
    replace hf := Option.some.inj hf
    subst hf
    exact x_vreturn hE hr dX7_openWith_34
theorem yokX7_openWith : YOK yX7_openWith cX7_openWith 3 2 none := ⟨mem_g 1447 (by decide +kernel) (by decide +kernel), mem_g 141 (by decide +kernel) (by decide +kernel), by decide +kernel, by decide +kernel, by decide +kernel⟩
theorem yvX7_openWith : YV yX7_openWith := ⟨mem_g 1446 (by decide +kernel) (by decide +kernel), mem_g 28 (by decide +kernel) (by decide +kernel)⟩
def GX7 (l : Launch) (Y : Nat → ClassId) (D : va_G) (σ : Nat → Nat) (np b0 nn : Nat) (K : Nat → Mc → Int32 → Int32 → Option Mc) : Prop :=
  (∀ (M M1 : Mc) (N : Md) (a0 : Int32) (a1 : Int32), K 0 M a0 a1 = some M1 → Met l yX7_readSum (.code yX7_readSum cX7_readSum 4 none :: lw_g) (rmD (nn + 10)) (PR Y D σ np b0 [.ref (σ 114), .int a0] M N) (QR Y D σ np b0 none M1 N) 0 0 (xA b0)) ∧
  (∀ (M M1 : Mc) (N : Md) (a0 : Int32) (a1 : Int32), K 1 M a0 a1 = some M1 → Met l yX7_readProduct (.code yX7_readProduct cX7_readProduct 4 none :: lw_g) (rmD (nn + 10)) (PR Y D σ np b0 [.ref (σ 114), .int a0] M N) (QR Y D σ np b0 none M1 N) 0 0 (xA b0)) ∧
  (∀ (M M1 : Mc) (N : Md) (a0 : Int32) (a1 : Int32), K 2 M a0 a1 = some M1 → Met l yX7_readUnit (.code yX7_readUnit cX7_readUnit 2 none :: lw_g) (rmD (nn + 10)) (PR Y D σ np b0 [.ref (σ 114), .int a0] M N) (QR Y D σ np b0 none M1 N) 0 0 (xA b0)) ∧
  (∀ (M M1 : Mc) (N : Md) (a0 : Int32) (a1 : Int32), K 3 M a0 a1 = some M1 → Met l yX7_readPair (.code yX7_readPair cX7_readPair 3 none :: lw_g) (rmD (nn + 10)) (PR Y D σ np b0 [.ref (σ 114), .int a0, .int a1] M N) (QR Y D σ np b0 none M1 N) 0 0 (xA b0)) ∧
  (∀ (M M1 : Mc) (N : Md) (a0 : Int32) (a1 : Int32), K 4 M a0 a1 = some M1 → Met l yX7_readIf (.code yX7_readIf cX7_readIf 2 none :: lw_g) (rmD (nn + 10)) (PR Y D σ np b0 [.ref (σ 114), .int a0] M N) (QR Y D σ np b0 none M1 N) 0 0 (xA b0)) ∧
  (∀ (M M1 : Mc) (N : Md) (a0 : Int32) (a1 : Int32), K 5 M a0 a1 = some M1 → Met l yX7_readAny (.code yX7_readAny cX7_readAny 3 none :: lw_g) (rmD (nn + 10)) (PR Y D σ np b0 [.ref (σ 114), .int a0] M N) (QR Y D σ np b0 none M1 N) 0 0 (xA b0)) ∧
  (∀ (M M1 : Mc) (N : Md) (a0 : Int32) (a1 : Int32), K 6 M a0 a1 = some M1 → Met l yX7_readEvery (.code yX7_readEvery cX7_readEvery 3 none :: lw_g) (rmD (nn + 10)) (PR Y D σ np b0 [.ref (σ 114), .int a0] M N) (QR Y D σ np b0 none M1 N) 0 0 (xA b0)) ∧
  (∀ (M M1 : Mc) (N : Md) (a0 : Int32) (a1 : Int32), K 7 M a0 a1 = some M1 → Met l yX7_readTest (.code yX7_readTest cX7_readTest 2 none :: lw_g) (rmD (nn + 10)) (PR Y D σ np b0 [.ref (σ 114), .int a0] M N) (QR Y D σ np b0 none M1 N) 0 0 (xA b0)) ∧
  (∀ (M M1 : Mc) (N : Md) (a0 : Int32) (a1 : Int32), K 8 M a0 a1 = some M1 → Met l yX7_readComparison (.code yX7_readComparison cX7_readComparison 3 none :: lw_g) (rmD (nn + 10)) (PR Y D σ np b0 [.ref (σ 114), .int a0] M N) (QR Y D σ np b0 none M1 N) 0 0 (xA b0))
theorem yokX7_readSum : YOK yX7_readSum cX7_readSum 4 1 none := ⟨mem_g 1427 (by decide +kernel) (by decide +kernel), mem_g 141 (by decide +kernel) (by decide +kernel), by decide +kernel, by decide +kernel, by decide +kernel⟩
theorem yvX7_readSum : YV yX7_readSum := ⟨mem_g 1426 (by decide +kernel) (by decide +kernel), mem_g 23 (by decide +kernel) (by decide +kernel)⟩
theorem yokX7_readProduct : YOK yX7_readProduct cX7_readProduct 4 1 none := ⟨mem_g 1431 (by decide +kernel) (by decide +kernel), mem_g 141 (by decide +kernel) (by decide +kernel), by decide +kernel, by decide +kernel, by decide +kernel⟩
theorem yvX7_readProduct : YV yX7_readProduct := ⟨mem_g 1430 (by decide +kernel) (by decide +kernel), mem_g 24 (by decide +kernel) (by decide +kernel)⟩
theorem yokX7_readUnit : YOK yX7_readUnit cX7_readUnit 2 1 none := ⟨mem_g 1435 (by decide +kernel) (by decide +kernel), mem_g 141 (by decide +kernel) (by decide +kernel), by decide +kernel, by decide +kernel, by decide +kernel⟩
theorem yvX7_readUnit : YV yX7_readUnit := ⟨mem_g 1434 (by decide +kernel) (by decide +kernel), mem_g 25 (by decide +kernel) (by decide +kernel)⟩
theorem yokX7_readPair : YOK yX7_readPair cX7_readPair 3 2 none := ⟨mem_g 1451 (by decide +kernel) (by decide +kernel), mem_g 141 (by decide +kernel) (by decide +kernel), by decide +kernel, by decide +kernel, by decide +kernel⟩
theorem yvX7_readPair : YV yX7_readPair := ⟨mem_g 1450 (by decide +kernel) (by decide +kernel), mem_g 29 (by decide +kernel) (by decide +kernel)⟩
theorem yokX7_readIf : YOK yX7_readIf cX7_readIf 2 1 none := ⟨mem_g 1455 (by decide +kernel) (by decide +kernel), mem_g 141 (by decide +kernel) (by decide +kernel), by decide +kernel, by decide +kernel, by decide +kernel⟩
theorem yvX7_readIf : YV yX7_readIf := ⟨mem_g 1454 (by decide +kernel) (by decide +kernel), mem_g 30 (by decide +kernel) (by decide +kernel)⟩
theorem yokX7_readAny : YOK yX7_readAny cX7_readAny 3 1 none := ⟨mem_g 1459 (by decide +kernel) (by decide +kernel), mem_g 141 (by decide +kernel) (by decide +kernel), by decide +kernel, by decide +kernel, by decide +kernel⟩
theorem yvX7_readAny : YV yX7_readAny := ⟨mem_g 1458 (by decide +kernel) (by decide +kernel), mem_g 31 (by decide +kernel) (by decide +kernel)⟩
theorem yokX7_readEvery : YOK yX7_readEvery cX7_readEvery 3 1 none := ⟨mem_g 1463 (by decide +kernel) (by decide +kernel), mem_g 141 (by decide +kernel) (by decide +kernel), by decide +kernel, by decide +kernel, by decide +kernel⟩
theorem yvX7_readEvery : YV yX7_readEvery := ⟨mem_g 1462 (by decide +kernel) (by decide +kernel), mem_g 32 (by decide +kernel) (by decide +kernel)⟩
theorem yokX7_readTest : YOK yX7_readTest cX7_readTest 2 1 none := ⟨mem_g 1467 (by decide +kernel) (by decide +kernel), mem_g 141 (by decide +kernel) (by decide +kernel), by decide +kernel, by decide +kernel, by decide +kernel⟩
theorem yvX7_readTest : YV yX7_readTest := ⟨mem_g 1466 (by decide +kernel) (by decide +kernel), mem_g 33 (by decide +kernel) (by decide +kernel)⟩
theorem yokX7_readComparison : YOK yX7_readComparison cX7_readComparison 3 1 none := ⟨mem_g 1471 (by decide +kernel) (by decide +kernel), mem_g 141 (by decide +kernel) (by decide +kernel), by decide +kernel, by decide +kernel, by decide +kernel⟩
theorem yvX7_readComparison : YV yX7_readComparison := ⟨mem_g 1470 (by decide +kernel) (by decide +kernel), mem_g 34 (by decide +kernel) (by decide +kernel)⟩
theorem lk_X7_139 : Cond.methodLink RX7 139 yX7_readProduct ∈ lw_g := mem_g 1428 (by decide +kernel) (by decide +kernel)
theorem dX7_readSum_0 : decode cX7_readSum 0 = .ok (.aload_n 0, 1) := by decide +kernel
theorem dX7_readSum_1 : decode cX7_readSum 1 = .ok (.getfield 41, 3) := by decide +kernel
theorem dX7_readSum_4 : decode cX7_readSum 4 = .ok (.ifCond .ne 9, 3) := by decide +kernel
theorem dX7_readSum_7 : decode cX7_readSum 7 = .ok (.iload_n 1, 1) := by decide +kernel
theorem dX7_readSum_8 : decode cX7_readSum 8 = .ok (.bipush 8, 2) := by decide +kernel
theorem dX7_readSum_10 : decode cX7_readSum 10 = .ok (.if_icmp .le 4, 3) := by decide +kernel
theorem dX7_readSum_13 : decode cX7_readSum 13 = .ok (.return_, 1) := by decide +kernel
theorem dX7_readSum_14 : decode cX7_readSum 14 = .ok (.aload_n 0, 1) := by decide +kernel
theorem dX7_readSum_15 : decode cX7_readSum 15 = .ok (.iload_n 1, 1) := by decide +kernel
theorem dX7_readSum_16 : decode cX7_readSum 16 = .ok (.invokevirtual 139, 3) := by decide +kernel
theorem dX7_readSum_19 : decode cX7_readSum 19 = .ok (.iconst 0, 1) := by decide +kernel
theorem dX7_readSum_20 : decode cX7_readSum 20 = .ok (.istore_n 2, 1) := by decide +kernel
theorem dX7_readSum_21 : decode cX7_readSum 21 = .ok (.iload_n 2, 1) := by decide +kernel
theorem dX7_readSum_22 : decode cX7_readSum 22 = .ok (.sipush 300, 3) := by decide +kernel
theorem dX7_readSum_25 : decode cX7_readSum 25 = .ok (.if_icmp .ge 58, 3) := by decide +kernel
theorem dX7_readSum_28 : decode cX7_readSum 28 = .ok (.aload_n 0, 1) := by decide +kernel
theorem dX7_readSum_29 : decode cX7_readSum 29 = .ok (.getfield 38, 3) := by decide +kernel
theorem dX7_readSum_32 : decode cX7_readSum 32 = .ok (.bipush 43, 2) := by decide +kernel
theorem dX7_readSum_34 : decode cX7_readSum 34 = .ok (.if_icmp .eq 12, 3) := by decide +kernel
theorem dX7_readSum_37 : decode cX7_readSum 37 = .ok (.aload_n 0, 1) := by decide +kernel
theorem dX7_readSum_38 : decode cX7_readSum 38 = .ok (.getfield 38, 3) := by decide +kernel
theorem dX7_readSum_41 : decode cX7_readSum 41 = .ok (.bipush 45, 2) := by decide +kernel
theorem dX7_readSum_43 : decode cX7_readSum 43 = .ok (.if_icmp .ne 40, 3) := by decide +kernel
theorem dX7_readSum_46 : decode cX7_readSum 46 = .ok (.aload_n 0, 1) := by decide +kernel
theorem dX7_readSum_47 : decode cX7_readSum 47 = .ok (.getfield 38, 3) := by decide +kernel
theorem dX7_readSum_50 : decode cX7_readSum 50 = .ok (.istore_n 3, 1) := by decide +kernel
theorem dX7_readSum_51 : decode cX7_readSum 51 = .ok (.aload_n 0, 1) := by decide +kernel
theorem dX7_readSum_52 : decode cX7_readSum 52 = .ok (.invokevirtual 121, 3) := by decide +kernel
theorem dX7_readSum_55 : decode cX7_readSum 55 = .ok (.aload_n 0, 1) := by decide +kernel
theorem dX7_readSum_56 : decode cX7_readSum 56 = .ok (.iload_n 1, 1) := by decide +kernel
theorem dX7_readSum_57 : decode cX7_readSum 57 = .ok (.invokevirtual 139, 3) := by decide +kernel
theorem dX7_readSum_60 : decode cX7_readSum 60 = .ok (.aload_n 0, 1) := by decide +kernel
theorem dX7_readSum_61 : decode cX7_readSum 61 = .ok (.iload_n 3, 1) := by decide +kernel
theorem dX7_readSum_62 : decode cX7_readSum 62 = .ok (.bipush 43, 2) := by decide +kernel
theorem dX7_readSum_64 : decode cX7_readSum 64 = .ok (.if_icmp .ne 8, 3) := by decide +kernel
theorem dX7_readSum_67 : decode cX7_readSum 67 = .ok (.bipush (-6), 2) := by decide +kernel
theorem dX7_readSum_69 : decode cX7_readSum 69 = .ok (.goto 5, 3) := by decide +kernel
theorem dX7_readSum_72 : decode cX7_readSum 72 = .ok (.bipush (-7), 2) := by decide +kernel
theorem dX7_readSum_74 : decode cX7_readSum 74 = .ok (.invokevirtual 142, 3) := by decide +kernel
theorem dX7_readSum_77 : decode cX7_readSum 77 = .ok (.iinc 2 1, 3) := by decide +kernel
theorem dX7_readSum_80 : decode cX7_readSum 80 = .ok (.goto (-59), 3) := by decide +kernel
theorem dX7_readSum_83 : decode cX7_readSum 83 = .ok (.return_, 1) := by decide +kernel
theorem wX7_readSum_J74 {p : Program} {l : Launch} {e : Env} {s : State} {m : MethodId} {args : Array Value} {below : List Frame} {meth : Method} {c : Code} {Y : Nat → ClassId} {D : va_G} {σ : Nat → Nat} {np b0 : Nat} {nn : Nat} {K : Nat → Mc → Int32 → Int32 → Option Mc} {r : Mc} {K21 : Mc → Int32 → Int32 → Option (Mc)} {M : Mc} {N : Md} {X1 : Int32} {X2 : Int32} {Z0 : Int32} (hE : EOK p s m args meth c cX7_readSum 4 RX7 Y D σ np b0) (hr : meth.sig.returnType = none) (hG : GX7 l Y D σ np b0 nn K) (hK21 : ∀ (M : Mc) (N : Md) (X1 : Int32) (X2 : Int32), K21 M X1 X2 = some r → Xw p l e (rmD (nn + 11)) s m args below meth c 4 Y D σ np b0 0 0 (MQ below (QR Y D σ np b0 none r N) args s 0 0 (xA b0)) 21 [(0, .ref (σ (114))), (1, .int X1), (2, .int X2)] [] M N) (hf : gX7_readSum_J74 K K21 M X1 X2 Z0 = some r) : Xw p l e (rmD (nn + 11)) s m args below meth c 4 Y D σ np b0 0 0 (MQ below (QR Y D σ np b0 none r N) args s 0 0 (xA b0)) 74 [(0, .ref (σ (114))), (1, .int X1), (2, .int X2)] [.int Z0, .ref (σ (114))] M N := by
  unfold gX7_readSum_J74 at hf
  obtain ⟨M9, hc8, hf⟩ := bnd_some hf
  refine x_callV0 hE [.int Z0] (rest := []) (c1 := M9) (d1 := N) rfl yokX7_put yvX7_put lk_X7_142 rfl cl_7 (hE.kd kO_7) (by decide) rfl rfl ⟨by show 2 + 1 ≤ nn + 11; omega, by show 8 + (2 + 11) + 64 * 2 ≤ 64 * (nn + 11); omega⟩ ⟨Nat.zero_le _, Nat.zero_le _⟩ rfl (Nat.le_of_ble_eq_true rfl) dX7_readSum_74 (mX7_put l hc8) ?_
  refine x_iinc hE 2 (X2 + nI 1) (L' := [(2, .int (X2 + nI 1)), (0, .ref (σ (114))), (1, .int X1)]) dX7_readSum_77 rfl rfl (by decide) rfl ?_
  refine x_pick [1, 2, 0] (L' := [(0, .ref (σ (114))), (1, .int X1), (2, .int (X2 + nI 1))]) rfl ?_
  refine x_goto hE 21 dX7_readSum_80 (by decide) ?_
  exact hK21 _ _ _ _ hf
theorem wX7_readSum_J46 {p : Program} {l : Launch} {e : Env} {s : State} {m : MethodId} {args : Array Value} {below : List Frame} {meth : Method} {c : Code} {Y : Nat → ClassId} {D : va_G} {σ : Nat → Nat} {np b0 : Nat} {nn : Nat} {K : Nat → Mc → Int32 → Int32 → Option Mc} {r : Mc} {K21 : Mc → Int32 → Int32 → Option (Mc)} {M : Mc} {N : Md} {X1 : Int32} {X2 : Int32} (hE : EOK p s m args meth c cX7_readSum 4 RX7 Y D σ np b0) (hr : meth.sig.returnType = none) (hG : GX7 l Y D σ np b0 nn K) (hK21 : ∀ (M : Mc) (N : Md) (X1 : Int32) (X2 : Int32), K21 M X1 X2 = some r → Xw p l e (rmD (nn + 11)) s m args below meth c 4 Y D σ np b0 0 0 (MQ below (QR Y D σ np b0 none r N) args s 0 0 (xA b0)) 21 [(0, .ref (σ (114))), (1, .int X1), (2, .int X2)] [] M N) (hf : gX7_readSum_J46 K K21 M X1 X2 = some r) : Xw p l e (rmD (nn + 11)) s m args below meth c 4 Y D σ np b0 0 0 (MQ below (QR Y D σ np b0 none r N) args s 0 0 (xA b0)) 46 [(0, .ref (σ (114))), (1, .int X1), (2, .int X2)] [] M N := by
  unfold gX7_readSum_J46 at hf
  refine x_aload_n hE 0 dX7_readSum_46 rfl rfl ?_
  refine x_getI hE cl_7 (hE.kd kO_7) (by decide) 4 rfl (by decide) lk_X7_38 dX7_readSum_47 ?_
  refine x_ltI hf (fun v3 hf => ?_)
  refine x_istore_n hE (L' := [(3, .int v3), (0, .ref (σ (114))), (1, .int X1), (2, .int X2)]) dX7_readSum_50 rfl (by decide) rfl ?_
  refine x_pick [1, 2, 3, 0] (L' := [(0, .ref (σ (114))), (1, .int X1), (2, .int X2), (3, .int v3)]) rfl ?_
  refine x_aload_n hE 0 dX7_readSum_51 rfl rfl ?_
  obtain ⟨M5, hc4, hf⟩ := bnd_some hf
  refine x_callV0 hE [] (rest := []) (c1 := M5) (d1 := N) rfl yokX7_goOn yvX7_goOn lk_X7_121 rfl cl_7 (hE.kd kO_7) (by decide) rfl rfl ⟨by show 2 + 1 ≤ nn + 11; omega, by show 8 + (1 + 11) + 64 * 2 ≤ 64 * (nn + 11); omega⟩ ⟨Nat.zero_le _, Nat.zero_le _⟩ rfl (Nat.le_of_ble_eq_true rfl) dX7_readSum_52 (mX7_goOn l hc4) ?_
  refine x_aload_n hE 0 dX7_readSum_55 rfl rfl ?_
  refine x_iload_n hE 1 dX7_readSum_56 rfl rfl ?_
  obtain ⟨M7, hc6, hf⟩ := bnd_some hf
  refine x_callV0 hE [.int X1] (rest := []) (c1 := M7) (d1 := N) rfl yokX7_readProduct yvX7_readProduct lk_X7_139 rfl cl_7 (hE.kd kO_7) (by decide) rfl rfl ⟨by show (nn + 10) + 1 ≤ nn + 11; omega, by show 8 + (4 + 11) + 64 * (nn + 10) ≤ 64 * (nn + 11); omega⟩ ⟨Nat.zero_le _, Nat.zero_le _⟩ rfl (Nat.le_of_ble_eq_true rfl) dX7_readSum_57 (hG.2.1 _ _ _ _ _ hc6) ?_
  refine x_aload_n hE 0 dX7_readSum_60 rfl rfl ?_
  refine x_iload_n hE 3 dX7_readSum_61 rfl rfl ?_
  refine x_bipush hE (nI 43) dX7_readSum_62 (by decide) ?_
  refine x_icmp_ne hE 72 dX7_readSum_64 (by decide) hf (fun hf => ?_) (fun hf => ?_)
  · refine x_bipush hE (-7) dX7_readSum_72 (by decide) ?_
    refine x_pick [0, 1, 2] (L' := [(0, .ref (σ (114))), (1, .int X1), (2, .int X2)]) rfl ?_
    exact wX7_readSum_J74 hE hr hG hK21 hf
  · refine x_bipush hE (-6) dX7_readSum_67 (by decide) ?_
    refine x_goto hE 74 dX7_readSum_69 (by decide) ?_
    refine x_pick [0, 1, 2] (L' := [(0, .ref (σ (114))), (1, .int X1), (2, .int X2)]) rfl ?_
    exact wX7_readSum_J74 hE hr hG hK21 hf
theorem wX7_readSum_L21 {p : Program} {l : Launch} {e : Env} {s : State} {m : MethodId} {args : Array Value} {below : List Frame} {meth : Method} {c : Code} {Y : Nat → ClassId} {D : va_G} {σ : Nat → Nat} {np b0 : Nat} {nn : Nat} {K : Nat → Mc → Int32 → Int32 → Option Mc} {r : Mc} (hE : EOK p s m args meth c cX7_readSum 4 RX7 Y D σ np b0) (hr : meth.sig.returnType = none) (hG : GX7 l Y D σ np b0 nn K) : ∀ (n : Nat) (M : Mc) (N : Md) (X1 : Int32) (X2 : Int32), gX7_readSum_L21 K n M X1 X2 = some r → Xw p l e (rmD (nn + 11)) s m args below meth c 4 Y D σ np b0 0 0 (MQ below (QR Y D σ np b0 none r N) args s 0 0 (xA b0)) 21 [(0, .ref (σ (114))), (1, .int X1), (2, .int X2)] [] M N := by
  intro n
  induction n with
  | zero =>
    intro M N X1 X2 hf
    cases hf
  | succ n ih =>
    intro M N X1 X2 hf
    rw [gX7_readSum_L21.eq_2] at hf
    refine x_iload_n hE 2 dX7_readSum_21 rfl rfl ?_
    refine x_sipush hE (nI 300) dX7_readSum_22 (by decide) ?_
    refine x_icmp_ge hE 83 dX7_readSum_25 (by decide) hf (fun hf => ?_) (fun hf => ?_)
    · replace hf := Option.some.inj hf
      subst hf
      exact x_vreturn hE hr dX7_readSum_83
    · refine x_aload_n hE 0 dX7_readSum_28 rfl rfl ?_
      refine x_getI hE cl_7 (hE.kd kO_7) (by decide) 4 rfl (by decide) lk_X7_38 dX7_readSum_29 ?_
      refine x_bipush hE (nI 43) dX7_readSum_32 (by decide) ?_
      refine x_icmp_eq hE 46 dX7_readSum_34 (by decide) hf (fun hf => ?_) (fun hf => ?_)
      · exact wX7_readSum_J46 hE hr hG (fun _ _ _ _ hf => ih _ _ _ _ hf) hf
      · refine x_aload_n hE 0 dX7_readSum_37 rfl rfl ?_
        refine x_getI hE cl_7 (hE.kd kO_7) (by decide) 4 rfl (by decide) lk_X7_38 dX7_readSum_38 ?_
        refine x_bipush hE (nI 45) dX7_readSum_41 (by decide) ?_
        refine x_icmp_ne hE 83 dX7_readSum_43 (by decide) hf (fun hf => ?_) (fun hf => ?_)
        · replace hf := Option.some.inj hf
          subst hf
          exact x_vreturn hE hr dX7_readSum_83
        · exact wX7_readSum_J46 hE hr hG (fun _ _ _ _ hf => ih _ _ _ _ hf) hf
theorem mX7_readSum_b (l : Launch) {Y : Nat → ClassId} {D : va_G} {σ : Nat → Nat} {np b0 : Nat} {M : Mc} {N : Md} {nn : Nat} {K : Nat → Mc → Int32 → Int32 → Option Mc} {p0 : Int32} {r : Mc} (hG : GX7 l Y D σ np b0 nn K) (hf : gX7_readSum M K p0 = some r) : Met l yX7_readSum (.code yX7_readSum cX7_readSum 4 none :: lw_g) (rmD (nn + 11)) (PR Y D σ np b0 [.ref (σ (114)), .int p0] M N) (QR Y D σ np b0 none r N) 0 0 (xA b0) := by
  refine x_met (by decide) (Nat.le_of_ble_eq_true rfl) (fun p e s m args below meth c hE hr => ?_)
  unfold gX7_readSum at hf
  refine x_pick [0, 1] (L' := [(0, .ref (σ (114))), (1, .int p0)]) rfl ?_
  refine x_aload_n hE 0 dX7_readSum_0 rfl rfl ?_
  refine x_getI hE cl_7 (hE.kd kO_7) (by decide) 5 rfl (by decide) lk_X7_41 dX7_readSum_1 ?_
  refine x_if_ne hE 13 dX7_readSum_4 (by decide) hf (fun hf => ?_) (fun hf => ?_)
  · replace hf := Option.some.inj hf
    subst hf
    exact x_vreturn hE hr dX7_readSum_13
  · refine x_iload_n hE 1 dX7_readSum_7 rfl rfl ?_
    refine x_bipush hE (nI 8) dX7_readSum_8 (by decide) ?_
    refine x_icmp_le hE 14 dX7_readSum_10 (by decide) hf (fun hf => ?_) (fun hf => ?_)
    · refine x_aload_n hE 0 dX7_readSum_14 rfl rfl ?_
      refine x_iload_n hE 1 dX7_readSum_15 rfl rfl ?_
      obtain ⟨M2, hc1, hf⟩ := bnd_some hf
      refine x_callV0 hE [.int p0] (rest := []) (c1 := M2) (d1 := N) rfl yokX7_readProduct yvX7_readProduct lk_X7_139 rfl cl_7 (hE.kd kO_7) (by decide) rfl rfl ⟨by show (nn + 10) + 1 ≤ nn + 11; omega, by show 8 + (4 + 11) + 64 * (nn + 10) ≤ 64 * (nn + 11); omega⟩ ⟨Nat.zero_le _, Nat.zero_le _⟩ rfl (Nat.le_of_ble_eq_true rfl) dX7_readSum_16 (hG.2.1 _ _ _ _ _ hc1) ?_
      refine x_iconst hE (0 : Int32) dX7_readSum_19 (by decide) ?_
      refine x_istore_n hE (L' := [(2, .int 0), (0, .ref (σ (114))), (1, .int p0)]) dX7_readSum_20 rfl (by decide) rfl ?_
      refine x_pick [1, 2, 0] (L' := [(0, .ref (σ (114))), (1, .int p0), (2, .int 0)]) rfl ?_
      exact wX7_readSum_L21 hE hr hG FU _ _ _ _ hf
    · replace hf := Option.some.inj hf
      subst hf
      exact x_vreturn hE hr dX7_readSum_13
theorem lk_X7_145 : Cond.methodLink RX7 145 yX7_readUnit ∈ lw_g := mem_g 1432 (by decide +kernel) (by decide +kernel)
theorem dX7_readProduct_0 : decode cX7_readProduct 0 = .ok (.aload_n 0, 1) := by decide +kernel
theorem dX7_readProduct_1 : decode cX7_readProduct 1 = .ok (.iload_n 1, 1) := by decide +kernel
theorem dX7_readProduct_2 : decode cX7_readProduct 2 = .ok (.invokevirtual 145, 3) := by decide +kernel
theorem dX7_readProduct_5 : decode cX7_readProduct 5 = .ok (.iconst 0, 1) := by decide +kernel
theorem dX7_readProduct_6 : decode cX7_readProduct 6 = .ok (.istore_n 2, 1) := by decide +kernel
theorem dX7_readProduct_7 : decode cX7_readProduct 7 = .ok (.iload_n 2, 1) := by decide +kernel
theorem dX7_readProduct_8 : decode cX7_readProduct 8 = .ok (.sipush 300, 3) := by decide +kernel
theorem dX7_readProduct_11 : decode cX7_readProduct 11 = .ok (.if_icmp .ge 78, 3) := by decide +kernel
theorem dX7_readProduct_14 : decode cX7_readProduct 14 = .ok (.aload_n 0, 1) := by decide +kernel
theorem dX7_readProduct_15 : decode cX7_readProduct 15 = .ok (.getfield 38, 3) := by decide +kernel
theorem dX7_readProduct_18 : decode cX7_readProduct 18 = .ok (.bipush 42, 2) := by decide +kernel
theorem dX7_readProduct_20 : decode cX7_readProduct 20 = .ok (.if_icmp .eq 21, 3) := by decide +kernel
theorem dX7_readProduct_23 : decode cX7_readProduct 23 = .ok (.aload_n 0, 1) := by decide +kernel
theorem dX7_readProduct_24 : decode cX7_readProduct 24 = .ok (.getfield 38, 3) := by decide +kernel
theorem dX7_readProduct_27 : decode cX7_readProduct 27 = .ok (.bipush 47, 2) := by decide +kernel
theorem dX7_readProduct_29 : decode cX7_readProduct 29 = .ok (.if_icmp .eq 12, 3) := by decide +kernel
theorem dX7_readProduct_32 : decode cX7_readProduct 32 = .ok (.aload_n 0, 1) := by decide +kernel
theorem dX7_readProduct_33 : decode cX7_readProduct 33 = .ok (.getfield 38, 3) := by decide +kernel
theorem dX7_readProduct_36 : decode cX7_readProduct 36 = .ok (.bipush 37, 2) := by decide +kernel
theorem dX7_readProduct_38 : decode cX7_readProduct 38 = .ok (.if_icmp .ne 51, 3) := by decide +kernel
theorem dX7_readProduct_41 : decode cX7_readProduct 41 = .ok (.aload_n 0, 1) := by decide +kernel
theorem dX7_readProduct_42 : decode cX7_readProduct 42 = .ok (.getfield 38, 3) := by decide +kernel
theorem dX7_readProduct_45 : decode cX7_readProduct 45 = .ok (.istore_n 3, 1) := by decide +kernel
theorem dX7_readProduct_46 : decode cX7_readProduct 46 = .ok (.aload_n 0, 1) := by decide +kernel
theorem dX7_readProduct_47 : decode cX7_readProduct 47 = .ok (.invokevirtual 121, 3) := by decide +kernel
theorem dX7_readProduct_50 : decode cX7_readProduct 50 = .ok (.aload_n 0, 1) := by decide +kernel
theorem dX7_readProduct_51 : decode cX7_readProduct 51 = .ok (.iload_n 1, 1) := by decide +kernel
theorem dX7_readProduct_52 : decode cX7_readProduct 52 = .ok (.invokevirtual 145, 3) := by decide +kernel
theorem dX7_readProduct_55 : decode cX7_readProduct 55 = .ok (.aload_n 0, 1) := by decide +kernel
theorem dX7_readProduct_56 : decode cX7_readProduct 56 = .ok (.iload_n 3, 1) := by decide +kernel
theorem dX7_readProduct_57 : decode cX7_readProduct 57 = .ok (.bipush 42, 2) := by decide +kernel
theorem dX7_readProduct_59 : decode cX7_readProduct 59 = .ok (.if_icmp .ne 8, 3) := by decide +kernel
theorem dX7_readProduct_62 : decode cX7_readProduct 62 = .ok (.bipush (-8), 2) := by decide +kernel
theorem dX7_readProduct_64 : decode cX7_readProduct 64 = .ok (.goto 16, 3) := by decide +kernel
theorem dX7_readProduct_67 : decode cX7_readProduct 67 = .ok (.iload_n 3, 1) := by decide +kernel
theorem dX7_readProduct_68 : decode cX7_readProduct 68 = .ok (.bipush 47, 2) := by decide +kernel
theorem dX7_readProduct_70 : decode cX7_readProduct 70 = .ok (.if_icmp .ne 8, 3) := by decide +kernel
theorem dX7_readProduct_73 : decode cX7_readProduct 73 = .ok (.bipush (-9), 2) := by decide +kernel
theorem dX7_readProduct_75 : decode cX7_readProduct 75 = .ok (.goto 5, 3) := by decide +kernel
theorem dX7_readProduct_78 : decode cX7_readProduct 78 = .ok (.bipush (-10), 2) := by decide +kernel
theorem dX7_readProduct_80 : decode cX7_readProduct 80 = .ok (.invokevirtual 142, 3) := by decide +kernel
theorem dX7_readProduct_83 : decode cX7_readProduct 83 = .ok (.iinc 2 1, 3) := by decide +kernel
theorem dX7_readProduct_86 : decode cX7_readProduct 86 = .ok (.goto (-79), 3) := by decide +kernel
theorem dX7_readProduct_89 : decode cX7_readProduct 89 = .ok (.return_, 1) := by decide +kernel
theorem wX7_readProduct_J80 {p : Program} {l : Launch} {e : Env} {s : State} {m : MethodId} {args : Array Value} {below : List Frame} {meth : Method} {c : Code} {Y : Nat → ClassId} {D : va_G} {σ : Nat → Nat} {np b0 : Nat} {nn : Nat} {K : Nat → Mc → Int32 → Int32 → Option Mc} {r : Mc} {K7 : Mc → Int32 → Int32 → Option (Mc)} {M : Mc} {N : Md} {X1 : Int32} {X2 : Int32} {Z0 : Int32} (hE : EOK p s m args meth c cX7_readProduct 4 RX7 Y D σ np b0) (hr : meth.sig.returnType = none) (hG : GX7 l Y D σ np b0 nn K) (hK7 : ∀ (M : Mc) (N : Md) (X1 : Int32) (X2 : Int32), K7 M X1 X2 = some r → Xw p l e (rmD (nn + 11)) s m args below meth c 4 Y D σ np b0 0 0 (MQ below (QR Y D σ np b0 none r N) args s 0 0 (xA b0)) 7 [(0, .ref (σ (114))), (1, .int X1), (2, .int X2)] [] M N) (hf : gX7_readProduct_J80 K K7 M X1 X2 Z0 = some r) : Xw p l e (rmD (nn + 11)) s m args below meth c 4 Y D σ np b0 0 0 (MQ below (QR Y D σ np b0 none r N) args s 0 0 (xA b0)) 80 [(0, .ref (σ (114))), (1, .int X1), (2, .int X2)] [.int Z0, .ref (σ (114))] M N := by
  unfold gX7_readProduct_J80 at hf
  obtain ⟨M9, hc8, hf⟩ := bnd_some hf
  refine x_callV0 hE [.int Z0] (rest := []) (c1 := M9) (d1 := N) rfl yokX7_put yvX7_put lk_X7_142 rfl cl_7 (hE.kd kO_7) (by decide) rfl rfl ⟨by show 2 + 1 ≤ nn + 11; omega, by show 8 + (2 + 11) + 64 * 2 ≤ 64 * (nn + 11); omega⟩ ⟨Nat.zero_le _, Nat.zero_le _⟩ rfl (Nat.le_of_ble_eq_true rfl) dX7_readProduct_80 (mX7_put l hc8) ?_
  refine x_iinc hE 2 (X2 + nI 1) (L' := [(2, .int (X2 + nI 1)), (0, .ref (σ (114))), (1, .int X1)]) dX7_readProduct_83 rfl rfl (by decide) rfl ?_
  refine x_pick [1, 2, 0] (L' := [(0, .ref (σ (114))), (1, .int X1), (2, .int (X2 + nI 1))]) rfl ?_
  refine x_goto hE 7 dX7_readProduct_86 (by decide) ?_
  exact hK7 _ _ _ _ hf
theorem wX7_readProduct_J41 {p : Program} {l : Launch} {e : Env} {s : State} {m : MethodId} {args : Array Value} {below : List Frame} {meth : Method} {c : Code} {Y : Nat → ClassId} {D : va_G} {σ : Nat → Nat} {np b0 : Nat} {nn : Nat} {K : Nat → Mc → Int32 → Int32 → Option Mc} {r : Mc} {K7 : Mc → Int32 → Int32 → Option (Mc)} {M : Mc} {N : Md} {X1 : Int32} {X2 : Int32} (hE : EOK p s m args meth c cX7_readProduct 4 RX7 Y D σ np b0) (hr : meth.sig.returnType = none) (hG : GX7 l Y D σ np b0 nn K) (hK7 : ∀ (M : Mc) (N : Md) (X1 : Int32) (X2 : Int32), K7 M X1 X2 = some r → Xw p l e (rmD (nn + 11)) s m args below meth c 4 Y D σ np b0 0 0 (MQ below (QR Y D σ np b0 none r N) args s 0 0 (xA b0)) 7 [(0, .ref (σ (114))), (1, .int X1), (2, .int X2)] [] M N) (hf : gX7_readProduct_J41 K K7 M X1 X2 = some r) : Xw p l e (rmD (nn + 11)) s m args below meth c 4 Y D σ np b0 0 0 (MQ below (QR Y D σ np b0 none r N) args s 0 0 (xA b0)) 41 [(0, .ref (σ (114))), (1, .int X1), (2, .int X2)] [] M N := by
  unfold gX7_readProduct_J41 at hf
  refine x_aload_n hE 0 dX7_readProduct_41 rfl rfl ?_
  refine x_getI hE cl_7 (hE.kd kO_7) (by decide) 4 rfl (by decide) lk_X7_38 dX7_readProduct_42 ?_
  refine x_ltI hf (fun v3 hf => ?_)
  refine x_istore_n hE (L' := [(3, .int v3), (0, .ref (σ (114))), (1, .int X1), (2, .int X2)]) dX7_readProduct_45 rfl (by decide) rfl ?_
  refine x_pick [1, 2, 3, 0] (L' := [(0, .ref (σ (114))), (1, .int X1), (2, .int X2), (3, .int v3)]) rfl ?_
  refine x_aload_n hE 0 dX7_readProduct_46 rfl rfl ?_
  obtain ⟨M5, hc4, hf⟩ := bnd_some hf
  refine x_callV0 hE [] (rest := []) (c1 := M5) (d1 := N) rfl yokX7_goOn yvX7_goOn lk_X7_121 rfl cl_7 (hE.kd kO_7) (by decide) rfl rfl ⟨by show 2 + 1 ≤ nn + 11; omega, by show 8 + (1 + 11) + 64 * 2 ≤ 64 * (nn + 11); omega⟩ ⟨Nat.zero_le _, Nat.zero_le _⟩ rfl (Nat.le_of_ble_eq_true rfl) dX7_readProduct_47 (mX7_goOn l hc4) ?_
  refine x_aload_n hE 0 dX7_readProduct_50 rfl rfl ?_
  refine x_iload_n hE 1 dX7_readProduct_51 rfl rfl ?_
  obtain ⟨M7, hc6, hf⟩ := bnd_some hf
  refine x_callV0 hE [.int X1] (rest := []) (c1 := M7) (d1 := N) rfl yokX7_readUnit yvX7_readUnit lk_X7_145 rfl cl_7 (hE.kd kO_7) (by decide) rfl rfl ⟨by show (nn + 10) + 1 ≤ nn + 11; omega, by show 8 + (2 + 11) + 64 * (nn + 10) ≤ 64 * (nn + 11); omega⟩ ⟨Nat.zero_le _, Nat.zero_le _⟩ rfl (Nat.le_of_ble_eq_true rfl) dX7_readProduct_52 (hG.2.2.1 _ _ _ _ _ hc6) ?_
  refine x_aload_n hE 0 dX7_readProduct_55 rfl rfl ?_
  refine x_iload_n hE 3 dX7_readProduct_56 rfl rfl ?_
  refine x_bipush hE (nI 42) dX7_readProduct_57 (by decide) ?_
  refine x_icmp_ne hE 67 dX7_readProduct_59 (by decide) hf (fun hf => ?_) (fun hf => ?_)
  · refine x_iload_n hE 3 dX7_readProduct_67 rfl rfl ?_
    refine x_bipush hE (nI 47) dX7_readProduct_68 (by decide) ?_
    refine x_icmp_ne hE 78 dX7_readProduct_70 (by decide) hf (fun hf => ?_) (fun hf => ?_)
    · refine x_bipush hE (-10) dX7_readProduct_78 (by decide) ?_
      refine x_pick [0, 1, 2] (L' := [(0, .ref (σ (114))), (1, .int X1), (2, .int X2)]) rfl ?_
      exact wX7_readProduct_J80 hE hr hG hK7 hf
    · refine x_bipush hE (-9) dX7_readProduct_73 (by decide) ?_
      refine x_goto hE 80 dX7_readProduct_75 (by decide) ?_
      refine x_pick [0, 1, 2] (L' := [(0, .ref (σ (114))), (1, .int X1), (2, .int X2)]) rfl ?_
      exact wX7_readProduct_J80 hE hr hG hK7 hf
  · refine x_bipush hE (-8) dX7_readProduct_62 (by decide) ?_
    refine x_goto hE 80 dX7_readProduct_64 (by decide) ?_
    refine x_pick [0, 1, 2] (L' := [(0, .ref (σ (114))), (1, .int X1), (2, .int X2)]) rfl ?_
    exact wX7_readProduct_J80 hE hr hG hK7 hf
theorem wX7_readProduct_L7 {p : Program} {l : Launch} {e : Env} {s : State} {m : MethodId} {args : Array Value} {below : List Frame} {meth : Method} {c : Code} {Y : Nat → ClassId} {D : va_G} {σ : Nat → Nat} {np b0 : Nat} {nn : Nat} {K : Nat → Mc → Int32 → Int32 → Option Mc} {r : Mc} (hE : EOK p s m args meth c cX7_readProduct 4 RX7 Y D σ np b0) (hr : meth.sig.returnType = none) (hG : GX7 l Y D σ np b0 nn K) : ∀ (n : Nat) (M : Mc) (N : Md) (X1 : Int32) (X2 : Int32), gX7_readProduct_L7 K n M X1 X2 = some r → Xw p l e (rmD (nn + 11)) s m args below meth c 4 Y D σ np b0 0 0 (MQ below (QR Y D σ np b0 none r N) args s 0 0 (xA b0)) 7 [(0, .ref (σ (114))), (1, .int X1), (2, .int X2)] [] M N := by
  intro n
  induction n with
  | zero =>
    intro M N X1 X2 hf
    cases hf
  | succ n ih =>
    intro M N X1 X2 hf
    rw [gX7_readProduct_L7.eq_2] at hf
    refine x_iload_n hE 2 dX7_readProduct_7 rfl rfl ?_
    refine x_sipush hE (nI 300) dX7_readProduct_8 (by decide) ?_
    refine x_icmp_ge hE 89 dX7_readProduct_11 (by decide) hf (fun hf => ?_) (fun hf => ?_)
    · replace hf := Option.some.inj hf
      subst hf
      exact x_vreturn hE hr dX7_readProduct_89
    · refine x_aload_n hE 0 dX7_readProduct_14 rfl rfl ?_
      refine x_getI hE cl_7 (hE.kd kO_7) (by decide) 4 rfl (by decide) lk_X7_38 dX7_readProduct_15 ?_
      refine x_bipush hE (nI 42) dX7_readProduct_18 (by decide) ?_
      refine x_icmp_eq hE 41 dX7_readProduct_20 (by decide) hf (fun hf => ?_) (fun hf => ?_)
      · exact wX7_readProduct_J41 hE hr hG (fun _ _ _ _ hf => ih _ _ _ _ hf) hf
      · refine x_aload_n hE 0 dX7_readProduct_23 rfl rfl ?_
        refine x_getI hE cl_7 (hE.kd kO_7) (by decide) 4 rfl (by decide) lk_X7_38 dX7_readProduct_24 ?_
        refine x_bipush hE (nI 47) dX7_readProduct_27 (by decide) ?_
        refine x_icmp_eq hE 41 dX7_readProduct_29 (by decide) hf (fun hf => ?_) (fun hf => ?_)
        · exact wX7_readProduct_J41 hE hr hG (fun _ _ _ _ hf => ih _ _ _ _ hf) hf
        · refine x_aload_n hE 0 dX7_readProduct_32 rfl rfl ?_
          refine x_getI hE cl_7 (hE.kd kO_7) (by decide) 4 rfl (by decide) lk_X7_38 dX7_readProduct_33 ?_
          refine x_bipush hE (nI 37) dX7_readProduct_36 (by decide) ?_
          refine x_icmp_ne hE 89 dX7_readProduct_38 (by decide) hf (fun hf => ?_) (fun hf => ?_)
          · replace hf := Option.some.inj hf
            subst hf
            exact x_vreturn hE hr dX7_readProduct_89
          · exact wX7_readProduct_J41 hE hr hG (fun _ _ _ _ hf => ih _ _ _ _ hf) hf
theorem mX7_readProduct_b (l : Launch) {Y : Nat → ClassId} {D : va_G} {σ : Nat → Nat} {np b0 : Nat} {M : Mc} {N : Md} {nn : Nat} {K : Nat → Mc → Int32 → Int32 → Option Mc} {p0 : Int32} {r : Mc} (hG : GX7 l Y D σ np b0 nn K) (hf : gX7_readProduct M K p0 = some r) : Met l yX7_readProduct (.code yX7_readProduct cX7_readProduct 4 none :: lw_g) (rmD (nn + 11)) (PR Y D σ np b0 [.ref (σ (114)), .int p0] M N) (QR Y D σ np b0 none r N) 0 0 (xA b0) := by
  refine x_met (by decide) (Nat.le_of_ble_eq_true rfl) (fun p e s m args below meth c hE hr => ?_)
  unfold gX7_readProduct at hf
  refine x_pick [0, 1] (L' := [(0, .ref (σ (114))), (1, .int p0)]) rfl ?_
  refine x_aload_n hE 0 dX7_readProduct_0 rfl rfl ?_
  refine x_iload_n hE 1 dX7_readProduct_1 rfl rfl ?_
  obtain ⟨M2, hc1, hf⟩ := bnd_some hf
  refine x_callV0 hE [.int p0] (rest := []) (c1 := M2) (d1 := N) rfl yokX7_readUnit yvX7_readUnit lk_X7_145 rfl cl_7 (hE.kd kO_7) (by decide) rfl rfl ⟨by show (nn + 10) + 1 ≤ nn + 11; omega, by show 8 + (2 + 11) + 64 * (nn + 10) ≤ 64 * (nn + 11); omega⟩ ⟨Nat.zero_le _, Nat.zero_le _⟩ rfl (Nat.le_of_ble_eq_true rfl) dX7_readProduct_2 (hG.2.2.1 _ _ _ _ _ hc1) ?_
  refine x_iconst hE (0 : Int32) dX7_readProduct_5 (by decide) ?_
  refine x_istore_n hE (L' := [(2, .int 0), (0, .ref (σ (114))), (1, .int p0)]) dX7_readProduct_6 rfl (by decide) rfl ?_
  refine x_pick [1, 2, 0] (L' := [(0, .ref (σ (114))), (1, .int p0), (2, .int 0)]) rfl ?_
  exact wX7_readProduct_L7 hE hr hG FU _ _ _ _ hf
theorem lk_X7_148 : Cond.methodLink RX7 148 yX7_readNumber ∈ lw_g := mem_g 1436 (by decide +kernel) (by decide +kernel)
theorem lk_X7_158 : Cond.methodLink RX7 158 yX7_readIf ∈ lw_g := mem_g 1452 (by decide +kernel) (by decide +kernel)
theorem lk_X7_151 : Cond.methodLink RX7 151 yX7_openWith ∈ lw_g := mem_g 1444 (by decide +kernel) (by decide +kernel)
theorem lk_X7_136 : Cond.methodLink RX7 136 yX7_readSum ∈ lw_g := mem_g 1424 (by decide +kernel) (by decide +kernel)
theorem lk_X7_133 : Cond.methodLink RX7 133 yX7_expect ∈ lw_g := mem_g 1420 (by decide +kernel) (by decide +kernel)
theorem lk_X7_155 : Cond.methodLink RX7 155 yX7_readPair ∈ lw_g := mem_g 1448 (by decide +kernel) (by decide +kernel)
theorem dX7_readUnit_0 : decode cX7_readUnit 0 = .ok (.aload_n 0, 1) := by decide +kernel
theorem dX7_readUnit_1 : decode cX7_readUnit 1 = .ok (.getfield 38, 3) := by decide +kernel
theorem dX7_readUnit_4 : decode cX7_readUnit 4 = .ok (.sipush 300, 3) := by decide +kernel
theorem dX7_readUnit_7 : decode cX7_readUnit 7 = .ok (.if_icmp .ne 10, 3) := by decide +kernel
theorem dX7_readUnit_10 : decode cX7_readUnit 10 = .ok (.aload_n 0, 1) := by decide +kernel
theorem dX7_readUnit_11 : decode cX7_readUnit 11 = .ok (.invokevirtual 148, 3) := by decide +kernel
theorem dX7_readUnit_14 : decode cX7_readUnit 14 = .ok (.goto 144, 3) := by decide +kernel
theorem dX7_readUnit_17 : decode cX7_readUnit 17 = .ok (.aload_n 0, 1) := by decide +kernel
theorem dX7_readUnit_18 : decode cX7_readUnit 18 = .ok (.getfield 38, 3) := by decide +kernel
theorem dX7_readUnit_21 : decode cX7_readUnit 21 = .ok (.sipush 411, 3) := by decide +kernel
theorem dX7_readUnit_24 : decode cX7_readUnit 24 = .ok (.if_icmp .lt 34, 3) := by decide +kernel
theorem dX7_readUnit_27 : decode cX7_readUnit 27 = .ok (.aload_n 0, 1) := by decide +kernel
theorem dX7_readUnit_28 : decode cX7_readUnit 28 = .ok (.getfield 38, 3) := by decide +kernel
theorem dX7_readUnit_31 : decode cX7_readUnit 31 = .ok (.sipush 415, 3) := by decide +kernel
theorem dX7_readUnit_34 : decode cX7_readUnit 34 = .ok (.if_icmp .gt 24, 3) := by decide +kernel
theorem dX7_readUnit_37 : decode cX7_readUnit 37 = .ok (.aload_n 0, 1) := by decide +kernel
theorem dX7_readUnit_38 : decode cX7_readUnit 38 = .ok (.sipush 411, 3) := by decide +kernel
theorem dX7_readUnit_41 : decode cX7_readUnit 41 = .ok (.aload_n 0, 1) := by decide +kernel
theorem dX7_readUnit_42 : decode cX7_readUnit 42 = .ok (.getfield 38, 3) := by decide +kernel
theorem dX7_readUnit_45 : decode cX7_readUnit 45 = .ok (.isub, 1) := by decide +kernel
theorem dX7_readUnit_46 : decode cX7_readUnit 46 = .ok (.iconst 1, 1) := by decide +kernel
theorem dX7_readUnit_47 : decode cX7_readUnit 47 = .ok (.isub, 1) := by decide +kernel
theorem dX7_readUnit_48 : decode cX7_readUnit 48 = .ok (.invokevirtual 142, 3) := by decide +kernel
theorem dX7_readUnit_51 : decode cX7_readUnit 51 = .ok (.aload_n 0, 1) := by decide +kernel
theorem dX7_readUnit_52 : decode cX7_readUnit 52 = .ok (.invokevirtual 121, 3) := by decide +kernel
theorem dX7_readUnit_55 : decode cX7_readUnit 55 = .ok (.goto 103, 3) := by decide +kernel
theorem dX7_readUnit_58 : decode cX7_readUnit 58 = .ok (.aload_n 0, 1) := by decide +kernel
theorem dX7_readUnit_59 : decode cX7_readUnit 59 = .ok (.getfield 38, 3) := by decide +kernel
theorem dX7_readUnit_62 : decode cX7_readUnit 62 = .ok (.bipush 40, 2) := by decide +kernel
theorem dX7_readUnit_64 : decode cX7_readUnit 64 = .ok (.if_icmp .ne 26, 3) := by decide +kernel
theorem dX7_readUnit_67 : decode cX7_readUnit 67 = .ok (.aload_n 0, 1) := by decide +kernel
theorem dX7_readUnit_68 : decode cX7_readUnit 68 = .ok (.bipush 40, 2) := by decide +kernel
theorem dX7_readUnit_70 : decode cX7_readUnit 70 = .ok (.iload_n 1, 1) := by decide +kernel
theorem dX7_readUnit_71 : decode cX7_readUnit 71 = .ok (.invokevirtual 151, 3) := by decide +kernel
theorem dX7_readUnit_74 : decode cX7_readUnit 74 = .ok (.aload_n 0, 1) := by decide +kernel
theorem dX7_readUnit_75 : decode cX7_readUnit 75 = .ok (.iload_n 1, 1) := by decide +kernel
theorem dX7_readUnit_76 : decode cX7_readUnit 76 = .ok (.iconst 1, 1) := by decide +kernel
theorem dX7_readUnit_77 : decode cX7_readUnit 77 = .ok (.iadd, 1) := by decide +kernel
theorem dX7_readUnit_78 : decode cX7_readUnit 78 = .ok (.invokevirtual 136, 3) := by decide +kernel
theorem dX7_readUnit_81 : decode cX7_readUnit 81 = .ok (.aload_n 0, 1) := by decide +kernel
theorem dX7_readUnit_82 : decode cX7_readUnit 82 = .ok (.bipush 41, 2) := by decide +kernel
theorem dX7_readUnit_84 : decode cX7_readUnit 84 = .ok (.invokevirtual 133, 3) := by decide +kernel
theorem dX7_readUnit_87 : decode cX7_readUnit 87 = .ok (.goto 71, 3) := by decide +kernel
theorem dX7_readUnit_90 : decode cX7_readUnit 90 = .ok (.aload_n 0, 1) := by decide +kernel
theorem dX7_readUnit_91 : decode cX7_readUnit 91 = .ok (.getfield 38, 3) := by decide +kernel
theorem dX7_readUnit_94 : decode cX7_readUnit 94 = .ok (.sipush 416, 3) := by decide +kernel
theorem dX7_readUnit_97 : decode cX7_readUnit 97 = .ok (.if_icmp .eq 13, 3) := by decide +kernel
theorem dX7_readUnit_100 : decode cX7_readUnit 100 = .ok (.aload_n 0, 1) := by decide +kernel
theorem dX7_readUnit_101 : decode cX7_readUnit 101 = .ok (.getfield 38, 3) := by decide +kernel
theorem dX7_readUnit_104 : decode cX7_readUnit 104 = .ok (.sipush 417, 3) := by decide +kernel
theorem dX7_readUnit_107 : decode cX7_readUnit 107 = .ok (.if_icmp .ne 28, 3) := by decide +kernel
theorem dX7_readUnit_110 : decode cX7_readUnit 110 = .ok (.aload_n 0, 1) := by decide +kernel
theorem dX7_readUnit_111 : decode cX7_readUnit 111 = .ok (.aload_n 0, 1) := by decide +kernel
theorem dX7_readUnit_112 : decode cX7_readUnit 112 = .ok (.getfield 38, 3) := by decide +kernel
theorem dX7_readUnit_115 : decode cX7_readUnit 115 = .ok (.sipush 416, 3) := by decide +kernel
theorem dX7_readUnit_118 : decode cX7_readUnit 118 = .ok (.if_icmp .ne 8, 3) := by decide +kernel
theorem dX7_readUnit_121 : decode cX7_readUnit 121 = .ok (.bipush (-11), 2) := by decide +kernel
theorem dX7_readUnit_123 : decode cX7_readUnit 123 = .ok (.goto 5, 3) := by decide +kernel
theorem dX7_readUnit_126 : decode cX7_readUnit 126 = .ok (.bipush (-12), 2) := by decide +kernel
theorem dX7_readUnit_128 : decode cX7_readUnit 128 = .ok (.iload_n 1, 1) := by decide +kernel
theorem dX7_readUnit_129 : decode cX7_readUnit 129 = .ok (.invokevirtual 155, 3) := by decide +kernel
theorem dX7_readUnit_132 : decode cX7_readUnit 132 = .ok (.goto 26, 3) := by decide +kernel
theorem dX7_readUnit_135 : decode cX7_readUnit 135 = .ok (.aload_n 0, 1) := by decide +kernel
theorem dX7_readUnit_136 : decode cX7_readUnit 136 = .ok (.getfield 38, 3) := by decide +kernel
theorem dX7_readUnit_139 : decode cX7_readUnit 139 = .ok (.sipush 418, 3) := by decide +kernel
theorem dX7_readUnit_142 : decode cX7_readUnit 142 = .ok (.if_icmp .ne 11, 3) := by decide +kernel
theorem dX7_readUnit_145 : decode cX7_readUnit 145 = .ok (.aload_n 0, 1) := by decide +kernel
theorem dX7_readUnit_146 : decode cX7_readUnit 146 = .ok (.iload_n 1, 1) := by decide +kernel
theorem dX7_readUnit_147 : decode cX7_readUnit 147 = .ok (.invokevirtual 158, 3) := by decide +kernel
theorem dX7_readUnit_150 : decode cX7_readUnit 150 = .ok (.goto 8, 3) := by decide +kernel
theorem dX7_readUnit_153 : decode cX7_readUnit 153 = .ok (.aload_n 0, 1) := by decide +kernel
theorem dX7_readUnit_154 : decode cX7_readUnit 154 = .ok (.iconst 1, 1) := by decide +kernel
theorem dX7_readUnit_155 : decode cX7_readUnit 155 = .ok (.invokevirtual 124, 3) := by decide +kernel
theorem dX7_readUnit_158 : decode cX7_readUnit 158 = .ok (.return_, 1) := by decide +kernel
theorem wX7_readUnit_J128 {p : Program} {l : Launch} {e : Env} {s : State} {m : MethodId} {args : Array Value} {below : List Frame} {meth : Method} {c : Code} {Y : Nat → ClassId} {D : va_G} {σ : Nat → Nat} {np b0 : Nat} {nn : Nat} {K : Nat → Mc → Int32 → Int32 → Option Mc} {r : Mc} {M : Mc} {N : Md} {X1 : Int32} {Z0 : Int32} (hE : EOK p s m args meth c cX7_readUnit 2 RX7 Y D σ np b0) (hr : meth.sig.returnType = none) (hG : GX7 l Y D σ np b0 nn K) (hf : gX7_readUnit_J128 K M X1 Z0 = some r) : Xw p l e (rmD (nn + 11)) s m args below meth c 2 Y D σ np b0 0 0 (MQ below (QR Y D σ np b0 none r N) args s 0 0 (xA b0)) 128 [(1, .int X1)] [.int Z0, .ref (σ (114))] M N := by
  unfold gX7_readUnit_J128 at hf
  refine x_iload_n hE 0 dX7_readUnit_128 rfl rfl ?_
  obtain ⟨M18, hc17, hf⟩ := bnd_some hf
  refine x_callV0 hE [.int Z0, .int X1] (rest := []) (c1 := M18) (d1 := N) rfl yokX7_readPair yvX7_readPair lk_X7_155 rfl cl_7 (hE.kd kO_7) (by decide) rfl rfl ⟨by show (nn + 10) + 1 ≤ nn + 11; omega, by show 8 + (3 + 11) + 64 * (nn + 10) ≤ 64 * (nn + 11); omega⟩ ⟨Nat.zero_le _, Nat.zero_le _⟩ rfl (Nat.le_of_ble_eq_true rfl) dX7_readUnit_129 (hG.2.2.2.1 _ _ _ _ _ hc17) ?_
  refine x_goto hE 158 dX7_readUnit_132 (by decide) ?_
  replace hf := Option.some.inj hf
  subst hf
  exact x_vreturn hE hr dX7_readUnit_158
theorem wX7_readUnit_J110 {p : Program} {l : Launch} {e : Env} {s : State} {m : MethodId} {args : Array Value} {below : List Frame} {meth : Method} {c : Code} {Y : Nat → ClassId} {D : va_G} {σ : Nat → Nat} {np b0 : Nat} {nn : Nat} {K : Nat → Mc → Int32 → Int32 → Option Mc} {r : Mc} {M : Mc} {N : Md} {X1 : Int32} (hE : EOK p s m args meth c cX7_readUnit 2 RX7 Y D σ np b0) (hr : meth.sig.returnType = none) (hG : GX7 l Y D σ np b0 nn K) (hf : gX7_readUnit_J110 K M X1 = some r) : Xw p l e (rmD (nn + 11)) s m args below meth c 2 Y D σ np b0 0 0 (MQ below (QR Y D σ np b0 none r N) args s 0 0 (xA b0)) 110 [(0, .ref (σ (114))), (1, .int X1)] [] M N := by
  unfold gX7_readUnit_J110 at hf
  refine x_aload_n hE 0 dX7_readUnit_110 rfl rfl ?_
  refine x_aload_n hE 0 dX7_readUnit_111 rfl rfl ?_
  refine x_getI hE cl_7 (hE.kd kO_7) (by decide) 4 rfl (by decide) lk_X7_38 dX7_readUnit_112 ?_
  refine x_sipush hE (nI 416) dX7_readUnit_115 (by decide) ?_
  refine x_icmp_ne hE 126 dX7_readUnit_118 (by decide) hf (fun hf => ?_) (fun hf => ?_)
  · refine x_bipush hE (-12) dX7_readUnit_126 (by decide) ?_
    refine x_pick [1] (L' := [(1, .int X1)]) rfl ?_
    exact wX7_readUnit_J128 hE hr hG hf
  · refine x_bipush hE (-11) dX7_readUnit_121 (by decide) ?_
    refine x_goto hE 128 dX7_readUnit_123 (by decide) ?_
    refine x_pick [1] (L' := [(1, .int X1)]) rfl ?_
    exact wX7_readUnit_J128 hE hr hG hf
theorem wX7_readUnit_J58 {p : Program} {l : Launch} {e : Env} {s : State} {m : MethodId} {args : Array Value} {below : List Frame} {meth : Method} {c : Code} {Y : Nat → ClassId} {D : va_G} {σ : Nat → Nat} {np b0 : Nat} {nn : Nat} {K : Nat → Mc → Int32 → Int32 → Option Mc} {r : Mc} {M : Mc} {N : Md} {X1 : Int32} (hE : EOK p s m args meth c cX7_readUnit 2 RX7 Y D σ np b0) (hr : meth.sig.returnType = none) (hG : GX7 l Y D σ np b0 nn K) (hf : gX7_readUnit_J58 K M X1 = some r) : Xw p l e (rmD (nn + 11)) s m args below meth c 2 Y D σ np b0 0 0 (MQ below (QR Y D σ np b0 none r N) args s 0 0 (xA b0)) 58 [(0, .ref (σ (114))), (1, .int X1)] [] M N := by
  unfold gX7_readUnit_J58 at hf
  refine x_aload_n hE 0 dX7_readUnit_58 rfl rfl ?_
  refine x_getI hE cl_7 (hE.kd kO_7) (by decide) 4 rfl (by decide) lk_X7_38 dX7_readUnit_59 ?_
  refine x_bipush hE (nI 40) dX7_readUnit_62 (by decide) ?_
  refine x_icmp_ne hE 90 dX7_readUnit_64 (by decide) hf (fun hf => ?_) (fun hf => ?_)
  · refine x_aload_n hE 0 dX7_readUnit_90 rfl rfl ?_
    refine x_getI hE cl_7 (hE.kd kO_7) (by decide) 4 rfl (by decide) lk_X7_38 dX7_readUnit_91 ?_
    refine x_sipush hE (nI 416) dX7_readUnit_94 (by decide) ?_
    refine x_icmp_eq hE 110 dX7_readUnit_97 (by decide) hf (fun hf => ?_) (fun hf => ?_)
    · exact wX7_readUnit_J110 hE hr hG hf
    · refine x_aload_n hE 0 dX7_readUnit_100 rfl rfl ?_
      refine x_getI hE cl_7 (hE.kd kO_7) (by decide) 4 rfl (by decide) lk_X7_38 dX7_readUnit_101 ?_
      refine x_sipush hE (nI 417) dX7_readUnit_104 (by decide) ?_
      refine x_icmp_ne hE 135 dX7_readUnit_107 (by decide) hf (fun hf => ?_) (fun hf => ?_)
      · refine x_aload_n hE 0 dX7_readUnit_135 rfl rfl ?_
        refine x_getI hE cl_7 (hE.kd kO_7) (by decide) 4 rfl (by decide) lk_X7_38 dX7_readUnit_136 ?_
        refine x_sipush hE (nI 418) dX7_readUnit_139 (by decide) ?_
        refine x_icmp_ne hE 153 dX7_readUnit_142 (by decide) hf (fun hf => ?_) (fun hf => ?_)
        · refine x_aload_n hE 0 dX7_readUnit_153 rfl rfl ?_
          refine x_iconst hE (nI 1) dX7_readUnit_154 (by decide) ?_
          obtain ⟨M8, hc7, hf⟩ := bnd_some hf
          refine x_callV0 hE [.int (nI 1)] (rest := []) (c1 := M8) (d1 := N) rfl yokX7_fail yvX7_fail lk_X7_124 rfl cl_7 (hE.kd kO_7) (by decide) rfl rfl ⟨by show 2 + 1 ≤ nn + 11; omega, by show 8 + (2 + 11) + 64 * 2 ≤ 64 * (nn + 11); omega⟩ ⟨Nat.zero_le _, Nat.zero_le _⟩ rfl (Nat.le_of_ble_eq_true rfl) dX7_readUnit_155 (mX7_fail l hc7) ?_
          replace hf := Option.some.inj hf
          subst hf
          exact x_vreturn hE hr dX7_readUnit_158
        · refine x_aload_n hE 0 dX7_readUnit_145 rfl rfl ?_
          refine x_iload_n hE 1 dX7_readUnit_146 rfl rfl ?_
          obtain ⟨M10, hc9, hf⟩ := bnd_some hf
          refine x_callV0 hE [.int X1] (rest := []) (c1 := M10) (d1 := N) rfl yokX7_readIf yvX7_readIf lk_X7_158 rfl cl_7 (hE.kd kO_7) (by decide) rfl rfl ⟨by show (nn + 10) + 1 ≤ nn + 11; omega, by show 8 + (2 + 11) + 64 * (nn + 10) ≤ 64 * (nn + 11); omega⟩ ⟨Nat.zero_le _, Nat.zero_le _⟩ rfl (Nat.le_of_ble_eq_true rfl) dX7_readUnit_147 (hG.2.2.2.2.1 _ _ _ _ _ hc9) ?_
          refine x_goto hE 158 dX7_readUnit_150 (by decide) ?_
          replace hf := Option.some.inj hf
          subst hf
          exact x_vreturn hE hr dX7_readUnit_158
      · exact wX7_readUnit_J110 hE hr hG hf
  · refine x_aload_n hE 0 dX7_readUnit_67 rfl rfl ?_
    refine x_bipush hE (nI 40) dX7_readUnit_68 (by decide) ?_
    refine x_iload_n hE 1 dX7_readUnit_70 rfl rfl ?_
    obtain ⟨M12, hc11, hf⟩ := bnd_some hf
    refine x_callV0 hE [.int (nI 40), .int X1] (rest := []) (c1 := M12) (d1 := N) rfl yokX7_openWith yvX7_openWith lk_X7_151 rfl cl_7 (hE.kd kO_7) (by decide) rfl rfl ⟨by show 3 + 1 ≤ nn + 11; omega, by show 8 + (3 + 11) + 64 * 3 ≤ 64 * (nn + 11); omega⟩ ⟨Nat.zero_le _, Nat.zero_le _⟩ rfl (Nat.le_of_ble_eq_true rfl) dX7_readUnit_71 (mX7_openWith l hc11) ?_
    refine x_aload_n hE 0 dX7_readUnit_74 rfl rfl ?_
    refine x_iload_n hE 1 dX7_readUnit_75 rfl rfl ?_
    refine x_iconst hE (nI 1) dX7_readUnit_76 (by decide) ?_
    refine x_iadd hE dX7_readUnit_77 ?_
    obtain ⟨M14, hc13, hf⟩ := bnd_some hf
    refine x_callV0 hE [.int (X1 + (nI 1))] (rest := []) (c1 := M14) (d1 := N) rfl yokX7_readSum yvX7_readSum lk_X7_136 rfl cl_7 (hE.kd kO_7) (by decide) rfl rfl ⟨by show (nn + 10) + 1 ≤ nn + 11; omega, by show 8 + (4 + 11) + 64 * (nn + 10) ≤ 64 * (nn + 11); omega⟩ ⟨Nat.zero_le _, Nat.zero_le _⟩ rfl (Nat.le_of_ble_eq_true rfl) dX7_readUnit_78 (hG.1 _ _ _ _ _ hc13) ?_
    refine x_aload_n hE 0 dX7_readUnit_81 rfl rfl ?_
    refine x_bipush hE (nI 41) dX7_readUnit_82 (by decide) ?_
    obtain ⟨M16, hc15, hf⟩ := bnd_some hf
    refine x_callV0 hE [.int (nI 41)] (rest := []) (c1 := M16) (d1 := N) rfl yokX7_expect yvX7_expect lk_X7_133 rfl cl_7 (hE.kd kO_7) (by decide) rfl rfl ⟨by show 3 + 1 ≤ nn + 11; omega, by show 8 + (2 + 11) + 64 * 3 ≤ 64 * (nn + 11); omega⟩ ⟨Nat.zero_le _, Nat.zero_le _⟩ rfl (Nat.le_of_ble_eq_true rfl) dX7_readUnit_84 (mX7_expect l hc15) ?_
    refine x_goto hE 158 dX7_readUnit_87 (by decide) ?_
    replace hf := Option.some.inj hf
    subst hf
    exact x_vreturn hE hr dX7_readUnit_158
theorem mX7_readUnit_b (l : Launch) {Y : Nat → ClassId} {D : va_G} {σ : Nat → Nat} {np b0 : Nat} {M : Mc} {N : Md} {nn : Nat} {K : Nat → Mc → Int32 → Int32 → Option Mc} {p0 : Int32} {r : Mc} (hG : GX7 l Y D σ np b0 nn K) (hf : gX7_readUnit M K p0 = some r) : Met l yX7_readUnit (.code yX7_readUnit cX7_readUnit 2 none :: lw_g) (rmD (nn + 11)) (PR Y D σ np b0 [.ref (σ (114)), .int p0] M N) (QR Y D σ np b0 none r N) 0 0 (xA b0) := by
  refine x_met (by decide) (Nat.le_of_ble_eq_true rfl) (fun p e s m args below meth c hE hr => ?_)
  unfold gX7_readUnit at hf
  refine x_pick [0, 1] (L' := [(0, .ref (σ (114))), (1, .int p0)]) rfl ?_
  refine x_aload_n hE 0 dX7_readUnit_0 rfl rfl ?_
  refine x_getI hE cl_7 (hE.kd kO_7) (by decide) 4 rfl (by decide) lk_X7_38 dX7_readUnit_1 ?_
  refine x_sipush hE (nI 300) dX7_readUnit_4 (by decide) ?_
  refine x_icmp_ne hE 17 dX7_readUnit_7 (by decide) hf (fun hf => ?_) (fun hf => ?_)
  · refine x_aload_n hE 0 dX7_readUnit_17 rfl rfl ?_
    refine x_getI hE cl_7 (hE.kd kO_7) (by decide) 4 rfl (by decide) lk_X7_38 dX7_readUnit_18 ?_
    refine x_sipush hE (nI 411) dX7_readUnit_21 (by decide) ?_
    refine x_icmp_lt hE 58 dX7_readUnit_24 (by decide) hf (fun hf => ?_) (fun hf => ?_)
    · exact wX7_readUnit_J58 hE hr hG hf
    · refine x_aload_n hE 0 dX7_readUnit_27 rfl rfl ?_
      refine x_getI hE cl_7 (hE.kd kO_7) (by decide) 4 rfl (by decide) lk_X7_38 dX7_readUnit_28 ?_
      refine x_sipush hE (nI 415) dX7_readUnit_31 (by decide) ?_
      refine x_icmp_gt hE 58 dX7_readUnit_34 (by decide) hf (fun hf => ?_) (fun hf => ?_)
      · exact wX7_readUnit_J58 hE hr hG hf
      · refine x_aload_n hE 0 dX7_readUnit_37 rfl rfl ?_
        refine x_sipush hE (nI 411) dX7_readUnit_38 (by decide) ?_
        refine x_aload_n hE 0 dX7_readUnit_41 rfl rfl ?_
        refine x_getI hE cl_7 (hE.kd kO_7) (by decide) 4 rfl (by decide) lk_X7_38 dX7_readUnit_42 ?_
        refine x_isub hE dX7_readUnit_45 ?_
        refine x_iconst hE (nI 1) dX7_readUnit_46 (by decide) ?_
        refine x_isub hE dX7_readUnit_47 ?_
        obtain ⟨M2, hc1, hf⟩ := bnd_some hf
        refine x_callV0 hE [.int (((nI 411) - (M (114) 4)) - (nI 1))] (rest := []) (c1 := M2) (d1 := N) rfl yokX7_put yvX7_put lk_X7_142 rfl cl_7 (hE.kd kO_7) (by decide) rfl rfl ⟨by show 2 + 1 ≤ nn + 11; omega, by show 8 + (2 + 11) + 64 * 2 ≤ 64 * (nn + 11); omega⟩ ⟨Nat.zero_le _, Nat.zero_le _⟩ rfl (Nat.le_of_ble_eq_true rfl) dX7_readUnit_48 (mX7_put l hc1) ?_
        refine x_aload_n hE 0 dX7_readUnit_51 rfl rfl ?_
        obtain ⟨M4, hc3, hf⟩ := bnd_some hf
        refine x_callV0 hE [] (rest := []) (c1 := M4) (d1 := N) rfl yokX7_goOn yvX7_goOn lk_X7_121 rfl cl_7 (hE.kd kO_7) (by decide) rfl rfl ⟨by show 2 + 1 ≤ nn + 11; omega, by show 8 + (1 + 11) + 64 * 2 ≤ 64 * (nn + 11); omega⟩ ⟨Nat.zero_le _, Nat.zero_le _⟩ rfl (Nat.le_of_ble_eq_true rfl) dX7_readUnit_52 (mX7_goOn l hc3) ?_
        refine x_goto hE 158 dX7_readUnit_55 (by decide) ?_
        replace hf := Option.some.inj hf
        subst hf
        exact x_vreturn hE hr dX7_readUnit_158
  · refine x_aload_n hE 0 dX7_readUnit_10 rfl rfl ?_
    obtain ⟨M6, hc5, hf⟩ := bnd_some hf
    refine x_callV0 hE [] (rest := []) (c1 := M6) (d1 := N) rfl yokX7_readNumber yvX7_readNumber lk_X7_148 rfl cl_7 (hE.kd kO_7) (by decide) rfl rfl ⟨by show 3 + 1 ≤ nn + 11; omega, by show 8 + (2 + 11) + 64 * 3 ≤ 64 * (nn + 11); omega⟩ ⟨Nat.zero_le _, Nat.zero_le _⟩ rfl (Nat.le_of_ble_eq_true rfl) dX7_readUnit_11 (mX7_readNumber l hc5) ?_
    refine x_goto hE 158 dX7_readUnit_14 (by decide) ?_
    replace hf := Option.some.inj hf
    subst hf
    exact x_vreturn hE hr dX7_readUnit_158
theorem dX7_readPair_0 : decode cX7_readPair 0 = .ok (.aload_n 0, 1) := by decide +kernel
theorem dX7_readPair_1 : decode cX7_readPair 1 = .ok (.invokevirtual 121, 3) := by decide +kernel
theorem dX7_readPair_4 : decode cX7_readPair 4 = .ok (.aload_n 0, 1) := by decide +kernel
theorem dX7_readPair_5 : decode cX7_readPair 5 = .ok (.bipush 40, 2) := by decide +kernel
theorem dX7_readPair_7 : decode cX7_readPair 7 = .ok (.iload_n 2, 1) := by decide +kernel
theorem dX7_readPair_8 : decode cX7_readPair 8 = .ok (.invokevirtual 151, 3) := by decide +kernel
theorem dX7_readPair_11 : decode cX7_readPair 11 = .ok (.aload_n 0, 1) := by decide +kernel
theorem dX7_readPair_12 : decode cX7_readPair 12 = .ok (.iload_n 2, 1) := by decide +kernel
theorem dX7_readPair_13 : decode cX7_readPair 13 = .ok (.iconst 1, 1) := by decide +kernel
theorem dX7_readPair_14 : decode cX7_readPair 14 = .ok (.iadd, 1) := by decide +kernel
theorem dX7_readPair_15 : decode cX7_readPair 15 = .ok (.invokevirtual 136, 3) := by decide +kernel
theorem dX7_readPair_18 : decode cX7_readPair 18 = .ok (.aload_n 0, 1) := by decide +kernel
theorem dX7_readPair_19 : decode cX7_readPair 19 = .ok (.bipush 44, 2) := by decide +kernel
theorem dX7_readPair_21 : decode cX7_readPair 21 = .ok (.invokevirtual 133, 3) := by decide +kernel
theorem dX7_readPair_24 : decode cX7_readPair 24 = .ok (.aload_n 0, 1) := by decide +kernel
theorem dX7_readPair_25 : decode cX7_readPair 25 = .ok (.iload_n 2, 1) := by decide +kernel
theorem dX7_readPair_26 : decode cX7_readPair 26 = .ok (.iconst 1, 1) := by decide +kernel
theorem dX7_readPair_27 : decode cX7_readPair 27 = .ok (.iadd, 1) := by decide +kernel
theorem dX7_readPair_28 : decode cX7_readPair 28 = .ok (.invokevirtual 136, 3) := by decide +kernel
theorem dX7_readPair_31 : decode cX7_readPair 31 = .ok (.aload_n 0, 1) := by decide +kernel
theorem dX7_readPair_32 : decode cX7_readPair 32 = .ok (.bipush 41, 2) := by decide +kernel
theorem dX7_readPair_34 : decode cX7_readPair 34 = .ok (.invokevirtual 133, 3) := by decide +kernel
theorem dX7_readPair_37 : decode cX7_readPair 37 = .ok (.aload_n 0, 1) := by decide +kernel
theorem dX7_readPair_38 : decode cX7_readPair 38 = .ok (.iload_n 1, 1) := by decide +kernel
theorem dX7_readPair_39 : decode cX7_readPair 39 = .ok (.invokevirtual 142, 3) := by decide +kernel
theorem dX7_readPair_42 : decode cX7_readPair 42 = .ok (.return_, 1) := by decide +kernel
theorem mX7_readPair_b (l : Launch) {Y : Nat → ClassId} {D : va_G} {σ : Nat → Nat} {np b0 : Nat} {M : Mc} {N : Md} {nn : Nat} {K : Nat → Mc → Int32 → Int32 → Option Mc} {p0 : Int32} {p1 : Int32} {r : Mc} (hG : GX7 l Y D σ np b0 nn K) (hf : gX7_readPair M K p0 p1 = some r) : Met l yX7_readPair (.code yX7_readPair cX7_readPair 3 none :: lw_g) (rmD (nn + 11)) (PR Y D σ np b0 [.ref (σ (114)), .int p0, .int p1] M N) (QR Y D σ np b0 none r N) 0 0 (xA b0) := by
  refine x_met (by decide) (Nat.le_of_ble_eq_true rfl) (fun p e s m args below meth c hE hr => ?_)
  unfold gX7_readPair at hf
  refine x_pick [0, 1, 2] (L' := [(0, .ref (σ (114))), (1, .int p0), (2, .int p1)]) rfl ?_
  refine x_aload_n hE 0 dX7_readPair_0 rfl rfl ?_
  obtain ⟨M2, hc1, hf⟩ := bnd_some hf
  refine x_callV0 hE [] (rest := []) (c1 := M2) (d1 := N) rfl yokX7_goOn yvX7_goOn lk_X7_121 rfl cl_7 (hE.kd kO_7) (by decide) rfl rfl ⟨by show 2 + 1 ≤ nn + 11; omega, by show 8 + (1 + 11) + 64 * 2 ≤ 64 * (nn + 11); omega⟩ ⟨Nat.zero_le _, Nat.zero_le _⟩ rfl (Nat.le_of_ble_eq_true rfl) dX7_readPair_1 (mX7_goOn l hc1) ?_
  refine x_aload_n hE 0 dX7_readPair_4 rfl rfl ?_
  refine x_bipush hE (nI 40) dX7_readPair_5 (by decide) ?_
  refine x_iload_n hE 2 dX7_readPair_7 rfl rfl ?_
  obtain ⟨M4, hc3, hf⟩ := bnd_some hf
  refine x_callV0 hE [.int (nI 40), .int p1] (rest := []) (c1 := M4) (d1 := N) rfl yokX7_openWith yvX7_openWith lk_X7_151 rfl cl_7 (hE.kd kO_7) (by decide) rfl rfl ⟨by show 3 + 1 ≤ nn + 11; omega, by show 8 + (3 + 11) + 64 * 3 ≤ 64 * (nn + 11); omega⟩ ⟨Nat.zero_le _, Nat.zero_le _⟩ rfl (Nat.le_of_ble_eq_true rfl) dX7_readPair_8 (mX7_openWith l hc3) ?_
  refine x_aload_n hE 0 dX7_readPair_11 rfl rfl ?_
  refine x_iload_n hE 2 dX7_readPair_12 rfl rfl ?_
  refine x_iconst hE (nI 1) dX7_readPair_13 (by decide) ?_
  refine x_iadd hE dX7_readPair_14 ?_
  obtain ⟨M6, hc5, hf⟩ := bnd_some hf
  refine x_callV0 hE [.int (p1 + (nI 1))] (rest := []) (c1 := M6) (d1 := N) rfl yokX7_readSum yvX7_readSum lk_X7_136 rfl cl_7 (hE.kd kO_7) (by decide) rfl rfl ⟨by show (nn + 10) + 1 ≤ nn + 11; omega, by show 8 + (4 + 11) + 64 * (nn + 10) ≤ 64 * (nn + 11); omega⟩ ⟨Nat.zero_le _, Nat.zero_le _⟩ rfl (Nat.le_of_ble_eq_true rfl) dX7_readPair_15 (hG.1 _ _ _ _ _ hc5) ?_
  refine x_aload_n hE 0 dX7_readPair_18 rfl rfl ?_
  refine x_bipush hE (nI 44) dX7_readPair_19 (by decide) ?_
  obtain ⟨M8, hc7, hf⟩ := bnd_some hf
  refine x_callV0 hE [.int (nI 44)] (rest := []) (c1 := M8) (d1 := N) rfl yokX7_expect yvX7_expect lk_X7_133 rfl cl_7 (hE.kd kO_7) (by decide) rfl rfl ⟨by show 3 + 1 ≤ nn + 11; omega, by show 8 + (2 + 11) + 64 * 3 ≤ 64 * (nn + 11); omega⟩ ⟨Nat.zero_le _, Nat.zero_le _⟩ rfl (Nat.le_of_ble_eq_true rfl) dX7_readPair_21 (mX7_expect l hc7) ?_
  refine x_aload_n hE 0 dX7_readPair_24 rfl rfl ?_
  refine x_iload_n hE 2 dX7_readPair_25 rfl rfl ?_
  refine x_iconst hE (nI 1) dX7_readPair_26 (by decide) ?_
  refine x_iadd hE dX7_readPair_27 ?_
  obtain ⟨M10, hc9, hf⟩ := bnd_some hf
  refine x_callV0 hE [.int (p1 + (nI 1))] (rest := []) (c1 := M10) (d1 := N) rfl yokX7_readSum yvX7_readSum lk_X7_136 rfl cl_7 (hE.kd kO_7) (by decide) rfl rfl ⟨by show (nn + 10) + 1 ≤ nn + 11; omega, by show 8 + (4 + 11) + 64 * (nn + 10) ≤ 64 * (nn + 11); omega⟩ ⟨Nat.zero_le _, Nat.zero_le _⟩ rfl (Nat.le_of_ble_eq_true rfl) dX7_readPair_28 (hG.1 _ _ _ _ _ hc9) ?_
  refine x_aload_n hE 0 dX7_readPair_31 rfl rfl ?_
  refine x_bipush hE (nI 41) dX7_readPair_32 (by decide) ?_
  obtain ⟨M12, hc11, hf⟩ := bnd_some hf
  refine x_callV0 hE [.int (nI 41)] (rest := []) (c1 := M12) (d1 := N) rfl yokX7_expect yvX7_expect lk_X7_133 rfl cl_7 (hE.kd kO_7) (by decide) rfl rfl ⟨by show 3 + 1 ≤ nn + 11; omega, by show 8 + (2 + 11) + 64 * 3 ≤ 64 * (nn + 11); omega⟩ ⟨Nat.zero_le _, Nat.zero_le _⟩ rfl (Nat.le_of_ble_eq_true rfl) dX7_readPair_34 (mX7_expect l hc11) ?_
  refine x_aload_n hE 0 dX7_readPair_37 rfl rfl ?_
  refine x_iload_n hE 1 dX7_readPair_38 rfl rfl ?_
  obtain ⟨M14, hc13, hf⟩ := bnd_some hf
  refine x_callV0 hE [.int p0] (rest := []) (c1 := M14) (d1 := N) rfl yokX7_put yvX7_put lk_X7_142 rfl cl_7 (hE.kd kO_7) (by decide) rfl rfl ⟨by show 2 + 1 ≤ nn + 11; omega, by show 8 + (2 + 11) + 64 * 2 ≤ 64 * (nn + 11); omega⟩ ⟨Nat.zero_le _, Nat.zero_le _⟩ rfl (Nat.le_of_ble_eq_true rfl) dX7_readPair_39 (mX7_put l hc13) ?_
  replace hf := Option.some.inj hf
  subst hf
  exact x_vreturn hE hr dX7_readPair_42
theorem lk_X7_161 : Cond.methodLink RX7 161 yX7_readAny ∈ lw_g := mem_g 1456 (by decide +kernel) (by decide +kernel)
theorem dX7_readIf_0 : decode cX7_readIf 0 = .ok (.aload_n 0, 1) := by decide +kernel
theorem dX7_readIf_1 : decode cX7_readIf 1 = .ok (.invokevirtual 121, 3) := by decide +kernel
theorem dX7_readIf_4 : decode cX7_readIf 4 = .ok (.aload_n 0, 1) := by decide +kernel
theorem dX7_readIf_5 : decode cX7_readIf 5 = .ok (.bipush 40, 2) := by decide +kernel
theorem dX7_readIf_7 : decode cX7_readIf 7 = .ok (.iload_n 1, 1) := by decide +kernel
theorem dX7_readIf_8 : decode cX7_readIf 8 = .ok (.invokevirtual 151, 3) := by decide +kernel
theorem dX7_readIf_11 : decode cX7_readIf 11 = .ok (.aload_n 0, 1) := by decide +kernel
theorem dX7_readIf_12 : decode cX7_readIf 12 = .ok (.iload_n 1, 1) := by decide +kernel
theorem dX7_readIf_13 : decode cX7_readIf 13 = .ok (.iconst 1, 1) := by decide +kernel
theorem dX7_readIf_14 : decode cX7_readIf 14 = .ok (.iadd, 1) := by decide +kernel
theorem dX7_readIf_15 : decode cX7_readIf 15 = .ok (.invokevirtual 161, 3) := by decide +kernel
theorem dX7_readIf_18 : decode cX7_readIf 18 = .ok (.aload_n 0, 1) := by decide +kernel
theorem dX7_readIf_19 : decode cX7_readIf 19 = .ok (.bipush 44, 2) := by decide +kernel
theorem dX7_readIf_21 : decode cX7_readIf 21 = .ok (.invokevirtual 133, 3) := by decide +kernel
theorem dX7_readIf_24 : decode cX7_readIf 24 = .ok (.aload_n 0, 1) := by decide +kernel
theorem dX7_readIf_25 : decode cX7_readIf 25 = .ok (.iload_n 1, 1) := by decide +kernel
theorem dX7_readIf_26 : decode cX7_readIf 26 = .ok (.iconst 1, 1) := by decide +kernel
theorem dX7_readIf_27 : decode cX7_readIf 27 = .ok (.iadd, 1) := by decide +kernel
theorem dX7_readIf_28 : decode cX7_readIf 28 = .ok (.invokevirtual 136, 3) := by decide +kernel
theorem dX7_readIf_31 : decode cX7_readIf 31 = .ok (.aload_n 0, 1) := by decide +kernel
theorem dX7_readIf_32 : decode cX7_readIf 32 = .ok (.bipush 44, 2) := by decide +kernel
theorem dX7_readIf_34 : decode cX7_readIf 34 = .ok (.invokevirtual 133, 3) := by decide +kernel
theorem dX7_readIf_37 : decode cX7_readIf 37 = .ok (.aload_n 0, 1) := by decide +kernel
theorem dX7_readIf_38 : decode cX7_readIf 38 = .ok (.iload_n 1, 1) := by decide +kernel
theorem dX7_readIf_39 : decode cX7_readIf 39 = .ok (.iconst 1, 1) := by decide +kernel
theorem dX7_readIf_40 : decode cX7_readIf 40 = .ok (.iadd, 1) := by decide +kernel
theorem dX7_readIf_41 : decode cX7_readIf 41 = .ok (.invokevirtual 136, 3) := by decide +kernel
theorem dX7_readIf_44 : decode cX7_readIf 44 = .ok (.aload_n 0, 1) := by decide +kernel
theorem dX7_readIf_45 : decode cX7_readIf 45 = .ok (.bipush 41, 2) := by decide +kernel
theorem dX7_readIf_47 : decode cX7_readIf 47 = .ok (.invokevirtual 133, 3) := by decide +kernel
theorem dX7_readIf_50 : decode cX7_readIf 50 = .ok (.aload_n 0, 1) := by decide +kernel
theorem dX7_readIf_51 : decode cX7_readIf 51 = .ok (.bipush (-19), 2) := by decide +kernel
theorem dX7_readIf_53 : decode cX7_readIf 53 = .ok (.invokevirtual 142, 3) := by decide +kernel
theorem dX7_readIf_56 : decode cX7_readIf 56 = .ok (.return_, 1) := by decide +kernel
theorem mX7_readIf_b (l : Launch) {Y : Nat → ClassId} {D : va_G} {σ : Nat → Nat} {np b0 : Nat} {M : Mc} {N : Md} {nn : Nat} {K : Nat → Mc → Int32 → Int32 → Option Mc} {p0 : Int32} {r : Mc} (hG : GX7 l Y D σ np b0 nn K) (hf : gX7_readIf M K p0 = some r) : Met l yX7_readIf (.code yX7_readIf cX7_readIf 2 none :: lw_g) (rmD (nn + 11)) (PR Y D σ np b0 [.ref (σ (114)), .int p0] M N) (QR Y D σ np b0 none r N) 0 0 (xA b0) := by
  refine x_met (by decide) (Nat.le_of_ble_eq_true rfl) (fun p e s m args below meth c hE hr => ?_)
  unfold gX7_readIf at hf
  refine x_pick [0, 1] (L' := [(0, .ref (σ (114))), (1, .int p0)]) rfl ?_
  refine x_aload_n hE 0 dX7_readIf_0 rfl rfl ?_
  obtain ⟨M2, hc1, hf⟩ := bnd_some hf
  refine x_callV0 hE [] (rest := []) (c1 := M2) (d1 := N) rfl yokX7_goOn yvX7_goOn lk_X7_121 rfl cl_7 (hE.kd kO_7) (by decide) rfl rfl ⟨by show 2 + 1 ≤ nn + 11; omega, by show 8 + (1 + 11) + 64 * 2 ≤ 64 * (nn + 11); omega⟩ ⟨Nat.zero_le _, Nat.zero_le _⟩ rfl (Nat.le_of_ble_eq_true rfl) dX7_readIf_1 (mX7_goOn l hc1) ?_
  refine x_aload_n hE 0 dX7_readIf_4 rfl rfl ?_
  refine x_bipush hE (nI 40) dX7_readIf_5 (by decide) ?_
  refine x_iload_n hE 1 dX7_readIf_7 rfl rfl ?_
  obtain ⟨M4, hc3, hf⟩ := bnd_some hf
  refine x_callV0 hE [.int (nI 40), .int p0] (rest := []) (c1 := M4) (d1 := N) rfl yokX7_openWith yvX7_openWith lk_X7_151 rfl cl_7 (hE.kd kO_7) (by decide) rfl rfl ⟨by show 3 + 1 ≤ nn + 11; omega, by show 8 + (3 + 11) + 64 * 3 ≤ 64 * (nn + 11); omega⟩ ⟨Nat.zero_le _, Nat.zero_le _⟩ rfl (Nat.le_of_ble_eq_true rfl) dX7_readIf_8 (mX7_openWith l hc3) ?_
  refine x_aload_n hE 0 dX7_readIf_11 rfl rfl ?_
  refine x_iload_n hE 1 dX7_readIf_12 rfl rfl ?_
  refine x_iconst hE (nI 1) dX7_readIf_13 (by decide) ?_
  refine x_iadd hE dX7_readIf_14 ?_
  obtain ⟨M6, hc5, hf⟩ := bnd_some hf
  refine x_callV0 hE [.int (p0 + (nI 1))] (rest := []) (c1 := M6) (d1 := N) rfl yokX7_readAny yvX7_readAny lk_X7_161 rfl cl_7 (hE.kd kO_7) (by decide) rfl rfl ⟨by show (nn + 10) + 1 ≤ nn + 11; omega, by show 8 + (3 + 11) + 64 * (nn + 10) ≤ 64 * (nn + 11); omega⟩ ⟨Nat.zero_le _, Nat.zero_le _⟩ rfl (Nat.le_of_ble_eq_true rfl) dX7_readIf_15 (hG.2.2.2.2.2.1 _ _ _ _ _ hc5) ?_
  refine x_aload_n hE 0 dX7_readIf_18 rfl rfl ?_
  refine x_bipush hE (nI 44) dX7_readIf_19 (by decide) ?_
  obtain ⟨M8, hc7, hf⟩ := bnd_some hf
  refine x_callV0 hE [.int (nI 44)] (rest := []) (c1 := M8) (d1 := N) rfl yokX7_expect yvX7_expect lk_X7_133 rfl cl_7 (hE.kd kO_7) (by decide) rfl rfl ⟨by show 3 + 1 ≤ nn + 11; omega, by show 8 + (2 + 11) + 64 * 3 ≤ 64 * (nn + 11); omega⟩ ⟨Nat.zero_le _, Nat.zero_le _⟩ rfl (Nat.le_of_ble_eq_true rfl) dX7_readIf_21 (mX7_expect l hc7) ?_
  refine x_aload_n hE 0 dX7_readIf_24 rfl rfl ?_
  refine x_iload_n hE 1 dX7_readIf_25 rfl rfl ?_
  refine x_iconst hE (nI 1) dX7_readIf_26 (by decide) ?_
  refine x_iadd hE dX7_readIf_27 ?_
  obtain ⟨M10, hc9, hf⟩ := bnd_some hf
  refine x_callV0 hE [.int (p0 + (nI 1))] (rest := []) (c1 := M10) (d1 := N) rfl yokX7_readSum yvX7_readSum lk_X7_136 rfl cl_7 (hE.kd kO_7) (by decide) rfl rfl ⟨by show (nn + 10) + 1 ≤ nn + 11; omega, by show 8 + (4 + 11) + 64 * (nn + 10) ≤ 64 * (nn + 11); omega⟩ ⟨Nat.zero_le _, Nat.zero_le _⟩ rfl (Nat.le_of_ble_eq_true rfl) dX7_readIf_28 (hG.1 _ _ _ _ _ hc9) ?_
  refine x_aload_n hE 0 dX7_readIf_31 rfl rfl ?_
  refine x_bipush hE (nI 44) dX7_readIf_32 (by decide) ?_
  obtain ⟨M12, hc11, hf⟩ := bnd_some hf
  refine x_callV0 hE [.int (nI 44)] (rest := []) (c1 := M12) (d1 := N) rfl yokX7_expect yvX7_expect lk_X7_133 rfl cl_7 (hE.kd kO_7) (by decide) rfl rfl ⟨by show 3 + 1 ≤ nn + 11; omega, by show 8 + (2 + 11) + 64 * 3 ≤ 64 * (nn + 11); omega⟩ ⟨Nat.zero_le _, Nat.zero_le _⟩ rfl (Nat.le_of_ble_eq_true rfl) dX7_readIf_34 (mX7_expect l hc11) ?_
  refine x_aload_n hE 0 dX7_readIf_37 rfl rfl ?_
  refine x_iload_n hE 1 dX7_readIf_38 rfl rfl ?_
  refine x_iconst hE (nI 1) dX7_readIf_39 (by decide) ?_
  refine x_iadd hE dX7_readIf_40 ?_
  obtain ⟨M14, hc13, hf⟩ := bnd_some hf
  refine x_callV0 hE [.int (p0 + (nI 1))] (rest := []) (c1 := M14) (d1 := N) rfl yokX7_readSum yvX7_readSum lk_X7_136 rfl cl_7 (hE.kd kO_7) (by decide) rfl rfl ⟨by show (nn + 10) + 1 ≤ nn + 11; omega, by show 8 + (4 + 11) + 64 * (nn + 10) ≤ 64 * (nn + 11); omega⟩ ⟨Nat.zero_le _, Nat.zero_le _⟩ rfl (Nat.le_of_ble_eq_true rfl) dX7_readIf_41 (hG.1 _ _ _ _ _ hc13) ?_
  refine x_aload_n hE 0 dX7_readIf_44 rfl rfl ?_
  refine x_bipush hE (nI 41) dX7_readIf_45 (by decide) ?_
  obtain ⟨M16, hc15, hf⟩ := bnd_some hf
  refine x_callV0 hE [.int (nI 41)] (rest := []) (c1 := M16) (d1 := N) rfl yokX7_expect yvX7_expect lk_X7_133 rfl cl_7 (hE.kd kO_7) (by decide) rfl rfl ⟨by show 3 + 1 ≤ nn + 11; omega, by show 8 + (2 + 11) + 64 * 3 ≤ 64 * (nn + 11); omega⟩ ⟨Nat.zero_le _, Nat.zero_le _⟩ rfl (Nat.le_of_ble_eq_true rfl) dX7_readIf_47 (mX7_expect l hc15) ?_
  refine x_aload_n hE 0 dX7_readIf_50 rfl rfl ?_
  refine x_bipush hE (-19) dX7_readIf_51 (by decide) ?_
  obtain ⟨M18, hc17, hf⟩ := bnd_some hf
  refine x_callV0 hE [.int (-19)] (rest := []) (c1 := M18) (d1 := N) rfl yokX7_put yvX7_put lk_X7_142 rfl cl_7 (hE.kd kO_7) (by decide) rfl rfl ⟨by show 2 + 1 ≤ nn + 11; omega, by show 8 + (2 + 11) + 64 * 2 ≤ 64 * (nn + 11); omega⟩ ⟨Nat.zero_le _, Nat.zero_le _⟩ rfl (Nat.le_of_ble_eq_true rfl) dX7_readIf_53 (mX7_put l hc17) ?_
  replace hf := Option.some.inj hf
  subst hf
  exact x_vreturn hE hr dX7_readIf_56
theorem lk_X7_164 : Cond.methodLink RX7 164 yX7_readEvery ∈ lw_g := mem_g 1460 (by decide +kernel) (by decide +kernel)
theorem dX7_readAny_0 : decode cX7_readAny 0 = .ok (.aload_n 0, 1) := by decide +kernel
theorem dX7_readAny_1 : decode cX7_readAny 1 = .ok (.getfield 41, 3) := by decide +kernel
theorem dX7_readAny_4 : decode cX7_readAny 4 = .ok (.ifCond .ne 9, 3) := by decide +kernel
theorem dX7_readAny_7 : decode cX7_readAny 7 = .ok (.iload_n 1, 1) := by decide +kernel
theorem dX7_readAny_8 : decode cX7_readAny 8 = .ok (.bipush 8, 2) := by decide +kernel
theorem dX7_readAny_10 : decode cX7_readAny 10 = .ok (.if_icmp .le 4, 3) := by decide +kernel
theorem dX7_readAny_13 : decode cX7_readAny 13 = .ok (.return_, 1) := by decide +kernel
theorem dX7_readAny_14 : decode cX7_readAny 14 = .ok (.aload_n 0, 1) := by decide +kernel
theorem dX7_readAny_15 : decode cX7_readAny 15 = .ok (.iload_n 1, 1) := by decide +kernel
theorem dX7_readAny_16 : decode cX7_readAny 16 = .ok (.invokevirtual 164, 3) := by decide +kernel
theorem dX7_readAny_19 : decode cX7_readAny 19 = .ok (.iconst 0, 1) := by decide +kernel
theorem dX7_readAny_20 : decode cX7_readAny 20 = .ok (.istore_n 2, 1) := by decide +kernel
theorem dX7_readAny_21 : decode cX7_readAny 21 = .ok (.iload_n 2, 1) := by decide +kernel
theorem dX7_readAny_22 : decode cX7_readAny 22 = .ok (.sipush 300, 3) := by decide +kernel
theorem dX7_readAny_25 : decode cX7_readAny 25 = .ok (.if_icmp .ge 34, 3) := by decide +kernel
theorem dX7_readAny_28 : decode cX7_readAny 28 = .ok (.aload_n 0, 1) := by decide +kernel
theorem dX7_readAny_29 : decode cX7_readAny 29 = .ok (.getfield 38, 3) := by decide +kernel
theorem dX7_readAny_32 : decode cX7_readAny 32 = .ok (.sipush 419, 3) := by decide +kernel
theorem dX7_readAny_35 : decode cX7_readAny 35 = .ok (.if_icmp .ne 24, 3) := by decide +kernel
theorem dX7_readAny_38 : decode cX7_readAny 38 = .ok (.aload_n 0, 1) := by decide +kernel
theorem dX7_readAny_39 : decode cX7_readAny 39 = .ok (.invokevirtual 121, 3) := by decide +kernel
theorem dX7_readAny_42 : decode cX7_readAny 42 = .ok (.aload_n 0, 1) := by decide +kernel
theorem dX7_readAny_43 : decode cX7_readAny 43 = .ok (.iload_n 1, 1) := by decide +kernel
theorem dX7_readAny_44 : decode cX7_readAny 44 = .ok (.invokevirtual 164, 3) := by decide +kernel
theorem dX7_readAny_47 : decode cX7_readAny 47 = .ok (.aload_n 0, 1) := by decide +kernel
theorem dX7_readAny_48 : decode cX7_readAny 48 = .ok (.bipush (-17), 2) := by decide +kernel
theorem dX7_readAny_50 : decode cX7_readAny 50 = .ok (.invokevirtual 142, 3) := by decide +kernel
theorem dX7_readAny_53 : decode cX7_readAny 53 = .ok (.iinc 2 1, 3) := by decide +kernel
theorem dX7_readAny_56 : decode cX7_readAny 56 = .ok (.goto (-35), 3) := by decide +kernel
theorem dX7_readAny_59 : decode cX7_readAny 59 = .ok (.return_, 1) := by decide +kernel
theorem wX7_readAny_L21 {p : Program} {l : Launch} {e : Env} {s : State} {m : MethodId} {args : Array Value} {below : List Frame} {meth : Method} {c : Code} {Y : Nat → ClassId} {D : va_G} {σ : Nat → Nat} {np b0 : Nat} {nn : Nat} {K : Nat → Mc → Int32 → Int32 → Option Mc} {r : Mc} (hE : EOK p s m args meth c cX7_readAny 3 RX7 Y D σ np b0) (hr : meth.sig.returnType = none) (hG : GX7 l Y D σ np b0 nn K) : ∀ (n : Nat) (M : Mc) (N : Md) (X1 : Int32) (X2 : Int32), gX7_readAny_L21 K n M X1 X2 = some r → Xw p l e (rmD (nn + 11)) s m args below meth c 3 Y D σ np b0 0 0 (MQ below (QR Y D σ np b0 none r N) args s 0 0 (xA b0)) 21 [(0, .ref (σ (114))), (1, .int X1), (2, .int X2)] [] M N := by
  intro n
  induction n with
  | zero =>
    intro M N X1 X2 hf
    cases hf
  | succ n ih =>
    intro M N X1 X2 hf
    rw [gX7_readAny_L21.eq_2] at hf
    refine x_iload_n hE 2 dX7_readAny_21 rfl rfl ?_
    refine x_sipush hE (nI 300) dX7_readAny_22 (by decide) ?_
    refine x_icmp_ge hE 59 dX7_readAny_25 (by decide) hf (fun hf => ?_) (fun hf => ?_)
    · replace hf := Option.some.inj hf
      subst hf
      exact x_vreturn hE hr dX7_readAny_59
    · refine x_aload_n hE 0 dX7_readAny_28 rfl rfl ?_
      refine x_getI hE cl_7 (hE.kd kO_7) (by decide) 4 rfl (by decide) lk_X7_38 dX7_readAny_29 ?_
      refine x_sipush hE (nI 419) dX7_readAny_32 (by decide) ?_
      refine x_icmp_ne hE 59 dX7_readAny_35 (by decide) hf (fun hf => ?_) (fun hf => ?_)
      · replace hf := Option.some.inj hf
        subst hf
        exact x_vreturn hE hr dX7_readAny_59
      · refine x_aload_n hE 0 dX7_readAny_38 rfl rfl ?_
        obtain ⟨M4, hc3, hf⟩ := bnd_some hf
        refine x_callV0 hE [] (rest := []) (c1 := M4) (d1 := N) rfl yokX7_goOn yvX7_goOn lk_X7_121 rfl cl_7 (hE.kd kO_7) (by decide) rfl rfl ⟨by show 2 + 1 ≤ nn + 11; omega, by show 8 + (1 + 11) + 64 * 2 ≤ 64 * (nn + 11); omega⟩ ⟨Nat.zero_le _, Nat.zero_le _⟩ rfl (Nat.le_of_ble_eq_true rfl) dX7_readAny_39 (mX7_goOn l hc3) ?_
        refine x_aload_n hE 0 dX7_readAny_42 rfl rfl ?_
        refine x_iload_n hE 1 dX7_readAny_43 rfl rfl ?_
        obtain ⟨M6, hc5, hf⟩ := bnd_some hf
        refine x_callV0 hE [.int X1] (rest := []) (c1 := M6) (d1 := N) rfl yokX7_readEvery yvX7_readEvery lk_X7_164 rfl cl_7 (hE.kd kO_7) (by decide) rfl rfl ⟨by show (nn + 10) + 1 ≤ nn + 11; omega, by show 8 + (3 + 11) + 64 * (nn + 10) ≤ 64 * (nn + 11); omega⟩ ⟨Nat.zero_le _, Nat.zero_le _⟩ rfl (Nat.le_of_ble_eq_true rfl) dX7_readAny_44 (hG.2.2.2.2.2.2.1 _ _ _ _ _ hc5) ?_
        refine x_aload_n hE 0 dX7_readAny_47 rfl rfl ?_
        refine x_bipush hE (-17) dX7_readAny_48 (by decide) ?_
        obtain ⟨M8, hc7, hf⟩ := bnd_some hf
        refine x_callV0 hE [.int (-17)] (rest := []) (c1 := M8) (d1 := N) rfl yokX7_put yvX7_put lk_X7_142 rfl cl_7 (hE.kd kO_7) (by decide) rfl rfl ⟨by show 2 + 1 ≤ nn + 11; omega, by show 8 + (2 + 11) + 64 * 2 ≤ 64 * (nn + 11); omega⟩ ⟨Nat.zero_le _, Nat.zero_le _⟩ rfl (Nat.le_of_ble_eq_true rfl) dX7_readAny_50 (mX7_put l hc7) ?_
        refine x_iinc hE 2 (X2 + nI 1) (L' := [(2, .int (X2 + nI 1)), (0, .ref (σ (114))), (1, .int X1)]) dX7_readAny_53 rfl rfl (by decide) rfl ?_
        refine x_pick [1, 2, 0] (L' := [(0, .ref (σ (114))), (1, .int X1), (2, .int (X2 + nI 1))]) rfl ?_
        refine x_goto hE 21 dX7_readAny_56 (by decide) ?_
        exact ih _ _ _ _ hf
theorem mX7_readAny_b (l : Launch) {Y : Nat → ClassId} {D : va_G} {σ : Nat → Nat} {np b0 : Nat} {M : Mc} {N : Md} {nn : Nat} {K : Nat → Mc → Int32 → Int32 → Option Mc} {p0 : Int32} {r : Mc} (hG : GX7 l Y D σ np b0 nn K) (hf : gX7_readAny M K p0 = some r) : Met l yX7_readAny (.code yX7_readAny cX7_readAny 3 none :: lw_g) (rmD (nn + 11)) (PR Y D σ np b0 [.ref (σ (114)), .int p0] M N) (QR Y D σ np b0 none r N) 0 0 (xA b0) := by
  refine x_met (by decide) (Nat.le_of_ble_eq_true rfl) (fun p e s m args below meth c hE hr => ?_)
  unfold gX7_readAny at hf
  refine x_pick [0, 1] (L' := [(0, .ref (σ (114))), (1, .int p0)]) rfl ?_
  refine x_aload_n hE 0 dX7_readAny_0 rfl rfl ?_
  refine x_getI hE cl_7 (hE.kd kO_7) (by decide) 5 rfl (by decide) lk_X7_41 dX7_readAny_1 ?_
  refine x_if_ne hE 13 dX7_readAny_4 (by decide) hf (fun hf => ?_) (fun hf => ?_)
  · replace hf := Option.some.inj hf
    subst hf
    exact x_vreturn hE hr dX7_readAny_13
  · refine x_iload_n hE 1 dX7_readAny_7 rfl rfl ?_
    refine x_bipush hE (nI 8) dX7_readAny_8 (by decide) ?_
    refine x_icmp_le hE 14 dX7_readAny_10 (by decide) hf (fun hf => ?_) (fun hf => ?_)
    · refine x_aload_n hE 0 dX7_readAny_14 rfl rfl ?_
      refine x_iload_n hE 1 dX7_readAny_15 rfl rfl ?_
      obtain ⟨M2, hc1, hf⟩ := bnd_some hf
      refine x_callV0 hE [.int p0] (rest := []) (c1 := M2) (d1 := N) rfl yokX7_readEvery yvX7_readEvery lk_X7_164 rfl cl_7 (hE.kd kO_7) (by decide) rfl rfl ⟨by show (nn + 10) + 1 ≤ nn + 11; omega, by show 8 + (3 + 11) + 64 * (nn + 10) ≤ 64 * (nn + 11); omega⟩ ⟨Nat.zero_le _, Nat.zero_le _⟩ rfl (Nat.le_of_ble_eq_true rfl) dX7_readAny_16 (hG.2.2.2.2.2.2.1 _ _ _ _ _ hc1) ?_
      refine x_iconst hE (0 : Int32) dX7_readAny_19 (by decide) ?_
      refine x_istore_n hE (L' := [(2, .int 0), (0, .ref (σ (114))), (1, .int p0)]) dX7_readAny_20 rfl (by decide) rfl ?_
      refine x_pick [1, 2, 0] (L' := [(0, .ref (σ (114))), (1, .int p0), (2, .int 0)]) rfl ?_
      exact wX7_readAny_L21 hE hr hG FU _ _ _ _ hf
    · replace hf := Option.some.inj hf
      subst hf
      exact x_vreturn hE hr dX7_readAny_13
theorem lk_X7_167 : Cond.methodLink RX7 167 yX7_readTest ∈ lw_g := mem_g 1464 (by decide +kernel) (by decide +kernel)
theorem dX7_readEvery_0 : decode cX7_readEvery 0 = .ok (.aload_n 0, 1) := by decide +kernel
theorem dX7_readEvery_1 : decode cX7_readEvery 1 = .ok (.iload_n 1, 1) := by decide +kernel
theorem dX7_readEvery_2 : decode cX7_readEvery 2 = .ok (.invokevirtual 167, 3) := by decide +kernel
theorem dX7_readEvery_5 : decode cX7_readEvery 5 = .ok (.iconst 0, 1) := by decide +kernel
theorem dX7_readEvery_6 : decode cX7_readEvery 6 = .ok (.istore_n 2, 1) := by decide +kernel
theorem dX7_readEvery_7 : decode cX7_readEvery 7 = .ok (.iload_n 2, 1) := by decide +kernel
theorem dX7_readEvery_8 : decode cX7_readEvery 8 = .ok (.sipush 300, 3) := by decide +kernel
theorem dX7_readEvery_11 : decode cX7_readEvery 11 = .ok (.if_icmp .ge 34, 3) := by decide +kernel
theorem dX7_readEvery_14 : decode cX7_readEvery 14 = .ok (.aload_n 0, 1) := by decide +kernel
theorem dX7_readEvery_15 : decode cX7_readEvery 15 = .ok (.getfield 38, 3) := by decide +kernel
theorem dX7_readEvery_18 : decode cX7_readEvery 18 = .ok (.sipush 420, 3) := by decide +kernel
theorem dX7_readEvery_21 : decode cX7_readEvery 21 = .ok (.if_icmp .ne 24, 3) := by decide +kernel
theorem dX7_readEvery_24 : decode cX7_readEvery 24 = .ok (.aload_n 0, 1) := by decide +kernel
theorem dX7_readEvery_25 : decode cX7_readEvery 25 = .ok (.invokevirtual 121, 3) := by decide +kernel
theorem dX7_readEvery_28 : decode cX7_readEvery 28 = .ok (.aload_n 0, 1) := by decide +kernel
theorem dX7_readEvery_29 : decode cX7_readEvery 29 = .ok (.iload_n 1, 1) := by decide +kernel
theorem dX7_readEvery_30 : decode cX7_readEvery 30 = .ok (.invokevirtual 167, 3) := by decide +kernel
theorem dX7_readEvery_33 : decode cX7_readEvery 33 = .ok (.aload_n 0, 1) := by decide +kernel
theorem dX7_readEvery_34 : decode cX7_readEvery 34 = .ok (.bipush (-16), 2) := by decide +kernel
theorem dX7_readEvery_36 : decode cX7_readEvery 36 = .ok (.invokevirtual 142, 3) := by decide +kernel
theorem dX7_readEvery_39 : decode cX7_readEvery 39 = .ok (.iinc 2 1, 3) := by decide +kernel
theorem dX7_readEvery_42 : decode cX7_readEvery 42 = .ok (.goto (-35), 3) := by decide +kernel
theorem dX7_readEvery_45 : decode cX7_readEvery 45 = .ok (.return_, 1) := by decide +kernel
theorem wX7_readEvery_L7 {p : Program} {l : Launch} {e : Env} {s : State} {m : MethodId} {args : Array Value} {below : List Frame} {meth : Method} {c : Code} {Y : Nat → ClassId} {D : va_G} {σ : Nat → Nat} {np b0 : Nat} {nn : Nat} {K : Nat → Mc → Int32 → Int32 → Option Mc} {r : Mc} (hE : EOK p s m args meth c cX7_readEvery 3 RX7 Y D σ np b0) (hr : meth.sig.returnType = none) (hG : GX7 l Y D σ np b0 nn K) : ∀ (n : Nat) (M : Mc) (N : Md) (X1 : Int32) (X2 : Int32), gX7_readEvery_L7 K n M X1 X2 = some r → Xw p l e (rmD (nn + 11)) s m args below meth c 3 Y D σ np b0 0 0 (MQ below (QR Y D σ np b0 none r N) args s 0 0 (xA b0)) 7 [(0, .ref (σ (114))), (1, .int X1), (2, .int X2)] [] M N := by
  intro n
  induction n with
  | zero =>
    intro M N X1 X2 hf
    cases hf
  | succ n ih =>
    intro M N X1 X2 hf
    rw [gX7_readEvery_L7.eq_2] at hf
    refine x_iload_n hE 2 dX7_readEvery_7 rfl rfl ?_
    refine x_sipush hE (nI 300) dX7_readEvery_8 (by decide) ?_
    refine x_icmp_ge hE 45 dX7_readEvery_11 (by decide) hf (fun hf => ?_) (fun hf => ?_)
    · replace hf := Option.some.inj hf
      subst hf
      exact x_vreturn hE hr dX7_readEvery_45
    · refine x_aload_n hE 0 dX7_readEvery_14 rfl rfl ?_
      refine x_getI hE cl_7 (hE.kd kO_7) (by decide) 4 rfl (by decide) lk_X7_38 dX7_readEvery_15 ?_
      refine x_sipush hE (nI 420) dX7_readEvery_18 (by decide) ?_
      refine x_icmp_ne hE 45 dX7_readEvery_21 (by decide) hf (fun hf => ?_) (fun hf => ?_)
      · replace hf := Option.some.inj hf
        subst hf
        exact x_vreturn hE hr dX7_readEvery_45
      · refine x_aload_n hE 0 dX7_readEvery_24 rfl rfl ?_
        obtain ⟨M4, hc3, hf⟩ := bnd_some hf
        refine x_callV0 hE [] (rest := []) (c1 := M4) (d1 := N) rfl yokX7_goOn yvX7_goOn lk_X7_121 rfl cl_7 (hE.kd kO_7) (by decide) rfl rfl ⟨by show 2 + 1 ≤ nn + 11; omega, by show 8 + (1 + 11) + 64 * 2 ≤ 64 * (nn + 11); omega⟩ ⟨Nat.zero_le _, Nat.zero_le _⟩ rfl (Nat.le_of_ble_eq_true rfl) dX7_readEvery_25 (mX7_goOn l hc3) ?_
        refine x_aload_n hE 0 dX7_readEvery_28 rfl rfl ?_
        refine x_iload_n hE 1 dX7_readEvery_29 rfl rfl ?_
        obtain ⟨M6, hc5, hf⟩ := bnd_some hf
        refine x_callV0 hE [.int X1] (rest := []) (c1 := M6) (d1 := N) rfl yokX7_readTest yvX7_readTest lk_X7_167 rfl cl_7 (hE.kd kO_7) (by decide) rfl rfl ⟨by show (nn + 10) + 1 ≤ nn + 11; omega, by show 8 + (2 + 11) + 64 * (nn + 10) ≤ 64 * (nn + 11); omega⟩ ⟨Nat.zero_le _, Nat.zero_le _⟩ rfl (Nat.le_of_ble_eq_true rfl) dX7_readEvery_30 (hG.2.2.2.2.2.2.2.1 _ _ _ _ _ hc5) ?_
        refine x_aload_n hE 0 dX7_readEvery_33 rfl rfl ?_
        refine x_bipush hE (-16) dX7_readEvery_34 (by decide) ?_
        obtain ⟨M8, hc7, hf⟩ := bnd_some hf
        refine x_callV0 hE [.int (-16)] (rest := []) (c1 := M8) (d1 := N) rfl yokX7_put yvX7_put lk_X7_142 rfl cl_7 (hE.kd kO_7) (by decide) rfl rfl ⟨by show 2 + 1 ≤ nn + 11; omega, by show 8 + (2 + 11) + 64 * 2 ≤ 64 * (nn + 11); omega⟩ ⟨Nat.zero_le _, Nat.zero_le _⟩ rfl (Nat.le_of_ble_eq_true rfl) dX7_readEvery_36 (mX7_put l hc7) ?_
        refine x_iinc hE 2 (X2 + nI 1) (L' := [(2, .int (X2 + nI 1)), (0, .ref (σ (114))), (1, .int X1)]) dX7_readEvery_39 rfl rfl (by decide) rfl ?_
        refine x_pick [1, 2, 0] (L' := [(0, .ref (σ (114))), (1, .int X1), (2, .int (X2 + nI 1))]) rfl ?_
        refine x_goto hE 7 dX7_readEvery_42 (by decide) ?_
        exact ih _ _ _ _ hf
theorem mX7_readEvery_b (l : Launch) {Y : Nat → ClassId} {D : va_G} {σ : Nat → Nat} {np b0 : Nat} {M : Mc} {N : Md} {nn : Nat} {K : Nat → Mc → Int32 → Int32 → Option Mc} {p0 : Int32} {r : Mc} (hG : GX7 l Y D σ np b0 nn K) (hf : gX7_readEvery M K p0 = some r) : Met l yX7_readEvery (.code yX7_readEvery cX7_readEvery 3 none :: lw_g) (rmD (nn + 11)) (PR Y D σ np b0 [.ref (σ (114)), .int p0] M N) (QR Y D σ np b0 none r N) 0 0 (xA b0) := by
  refine x_met (by decide) (Nat.le_of_ble_eq_true rfl) (fun p e s m args below meth c hE hr => ?_)
  unfold gX7_readEvery at hf
  refine x_pick [0, 1] (L' := [(0, .ref (σ (114))), (1, .int p0)]) rfl ?_
  refine x_aload_n hE 0 dX7_readEvery_0 rfl rfl ?_
  refine x_iload_n hE 1 dX7_readEvery_1 rfl rfl ?_
  obtain ⟨M2, hc1, hf⟩ := bnd_some hf
  refine x_callV0 hE [.int p0] (rest := []) (c1 := M2) (d1 := N) rfl yokX7_readTest yvX7_readTest lk_X7_167 rfl cl_7 (hE.kd kO_7) (by decide) rfl rfl ⟨by show (nn + 10) + 1 ≤ nn + 11; omega, by show 8 + (2 + 11) + 64 * (nn + 10) ≤ 64 * (nn + 11); omega⟩ ⟨Nat.zero_le _, Nat.zero_le _⟩ rfl (Nat.le_of_ble_eq_true rfl) dX7_readEvery_2 (hG.2.2.2.2.2.2.2.1 _ _ _ _ _ hc1) ?_
  refine x_iconst hE (0 : Int32) dX7_readEvery_5 (by decide) ?_
  refine x_istore_n hE (L' := [(2, .int 0), (0, .ref (σ (114))), (1, .int p0)]) dX7_readEvery_6 rfl (by decide) rfl ?_
  refine x_pick [1, 2, 0] (L' := [(0, .ref (σ (114))), (1, .int p0), (2, .int 0)]) rfl ?_
  exact wX7_readEvery_L7 hE hr hG FU _ _ _ _ hf
theorem lk_X7_170 : Cond.methodLink RX7 170 yX7_readComparison ∈ lw_g := mem_g 1468 (by decide +kernel) (by decide +kernel)
theorem dX7_readTest_0 : decode cX7_readTest 0 = .ok (.aload_n 0, 1) := by decide +kernel
theorem dX7_readTest_1 : decode cX7_readTest 1 = .ok (.getfield 41, 3) := by decide +kernel
theorem dX7_readTest_4 : decode cX7_readTest 4 = .ok (.ifCond .ne 9, 3) := by decide +kernel
theorem dX7_readTest_7 : decode cX7_readTest 7 = .ok (.iload_n 1, 1) := by decide +kernel
theorem dX7_readTest_8 : decode cX7_readTest 8 = .ok (.bipush 8, 2) := by decide +kernel
theorem dX7_readTest_10 : decode cX7_readTest 10 = .ok (.if_icmp .le 4, 3) := by decide +kernel
theorem dX7_readTest_13 : decode cX7_readTest 13 = .ok (.return_, 1) := by decide +kernel
theorem dX7_readTest_14 : decode cX7_readTest 14 = .ok (.aload_n 0, 1) := by decide +kernel
theorem dX7_readTest_15 : decode cX7_readTest 15 = .ok (.getfield 38, 3) := by decide +kernel
theorem dX7_readTest_18 : decode cX7_readTest 18 = .ok (.sipush 421, 3) := by decide +kernel
theorem dX7_readTest_21 : decode cX7_readTest 21 = .ok (.if_icmp .ne 27, 3) := by decide +kernel
theorem dX7_readTest_24 : decode cX7_readTest 24 = .ok (.aload_n 0, 1) := by decide +kernel
theorem dX7_readTest_25 : decode cX7_readTest 25 = .ok (.sipush 421, 3) := by decide +kernel
theorem dX7_readTest_28 : decode cX7_readTest 28 = .ok (.iload_n 1, 1) := by decide +kernel
theorem dX7_readTest_29 : decode cX7_readTest 29 = .ok (.invokevirtual 151, 3) := by decide +kernel
theorem dX7_readTest_32 : decode cX7_readTest 32 = .ok (.aload_n 0, 1) := by decide +kernel
theorem dX7_readTest_33 : decode cX7_readTest 33 = .ok (.iload_n 1, 1) := by decide +kernel
theorem dX7_readTest_34 : decode cX7_readTest 34 = .ok (.iconst 1, 1) := by decide +kernel
theorem dX7_readTest_35 : decode cX7_readTest 35 = .ok (.iadd, 1) := by decide +kernel
theorem dX7_readTest_36 : decode cX7_readTest 36 = .ok (.invokevirtual 167, 3) := by decide +kernel
theorem dX7_readTest_39 : decode cX7_readTest 39 = .ok (.aload_n 0, 1) := by decide +kernel
theorem dX7_readTest_40 : decode cX7_readTest 40 = .ok (.bipush (-18), 2) := by decide +kernel
theorem dX7_readTest_42 : decode cX7_readTest 42 = .ok (.invokevirtual 142, 3) := by decide +kernel
theorem dX7_readTest_45 : decode cX7_readTest 45 = .ok (.goto 40, 3) := by decide +kernel
theorem dX7_readTest_48 : decode cX7_readTest 48 = .ok (.aload_n 0, 1) := by decide +kernel
theorem dX7_readTest_49 : decode cX7_readTest 49 = .ok (.getfield 38, 3) := by decide +kernel
theorem dX7_readTest_52 : decode cX7_readTest 52 = .ok (.bipush 91, 2) := by decide +kernel
theorem dX7_readTest_54 : decode cX7_readTest 54 = .ok (.if_icmp .ne 26, 3) := by decide +kernel
theorem dX7_readTest_57 : decode cX7_readTest 57 = .ok (.aload_n 0, 1) := by decide +kernel
theorem dX7_readTest_58 : decode cX7_readTest 58 = .ok (.bipush 91, 2) := by decide +kernel
theorem dX7_readTest_60 : decode cX7_readTest 60 = .ok (.iload_n 1, 1) := by decide +kernel
theorem dX7_readTest_61 : decode cX7_readTest 61 = .ok (.invokevirtual 151, 3) := by decide +kernel
theorem dX7_readTest_64 : decode cX7_readTest 64 = .ok (.aload_n 0, 1) := by decide +kernel
theorem dX7_readTest_65 : decode cX7_readTest 65 = .ok (.iload_n 1, 1) := by decide +kernel
theorem dX7_readTest_66 : decode cX7_readTest 66 = .ok (.iconst 1, 1) := by decide +kernel
theorem dX7_readTest_67 : decode cX7_readTest 67 = .ok (.iadd, 1) := by decide +kernel
theorem dX7_readTest_68 : decode cX7_readTest 68 = .ok (.invokevirtual 161, 3) := by decide +kernel
theorem dX7_readTest_71 : decode cX7_readTest 71 = .ok (.aload_n 0, 1) := by decide +kernel
theorem dX7_readTest_72 : decode cX7_readTest 72 = .ok (.bipush 93, 2) := by decide +kernel
theorem dX7_readTest_74 : decode cX7_readTest 74 = .ok (.invokevirtual 133, 3) := by decide +kernel
theorem dX7_readTest_77 : decode cX7_readTest 77 = .ok (.goto 8, 3) := by decide +kernel
theorem dX7_readTest_80 : decode cX7_readTest 80 = .ok (.aload_n 0, 1) := by decide +kernel
theorem dX7_readTest_81 : decode cX7_readTest 81 = .ok (.iload_n 1, 1) := by decide +kernel
theorem dX7_readTest_82 : decode cX7_readTest 82 = .ok (.invokevirtual 170, 3) := by decide +kernel
theorem dX7_readTest_85 : decode cX7_readTest 85 = .ok (.return_, 1) := by decide +kernel
theorem mX7_readTest_b (l : Launch) {Y : Nat → ClassId} {D : va_G} {σ : Nat → Nat} {np b0 : Nat} {M : Mc} {N : Md} {nn : Nat} {K : Nat → Mc → Int32 → Int32 → Option Mc} {p0 : Int32} {r : Mc} (hG : GX7 l Y D σ np b0 nn K) (hf : gX7_readTest M K p0 = some r) : Met l yX7_readTest (.code yX7_readTest cX7_readTest 2 none :: lw_g) (rmD (nn + 11)) (PR Y D σ np b0 [.ref (σ (114)), .int p0] M N) (QR Y D σ np b0 none r N) 0 0 (xA b0) := by
  refine x_met (by decide) (Nat.le_of_ble_eq_true rfl) (fun p e s m args below meth c hE hr => ?_)
  unfold gX7_readTest at hf
  refine x_pick [0, 1] (L' := [(0, .ref (σ (114))), (1, .int p0)]) rfl ?_
  refine x_aload_n hE 0 dX7_readTest_0 rfl rfl ?_
  refine x_getI hE cl_7 (hE.kd kO_7) (by decide) 5 rfl (by decide) lk_X7_41 dX7_readTest_1 ?_
  refine x_if_ne hE 13 dX7_readTest_4 (by decide) hf (fun hf => ?_) (fun hf => ?_)
  · replace hf := Option.some.inj hf
    subst hf
    exact x_vreturn hE hr dX7_readTest_13
  · refine x_iload_n hE 1 dX7_readTest_7 rfl rfl ?_
    refine x_bipush hE (nI 8) dX7_readTest_8 (by decide) ?_
    refine x_icmp_le hE 14 dX7_readTest_10 (by decide) hf (fun hf => ?_) (fun hf => ?_)
    · refine x_aload_n hE 0 dX7_readTest_14 rfl rfl ?_
      refine x_getI hE cl_7 (hE.kd kO_7) (by decide) 4 rfl (by decide) lk_X7_38 dX7_readTest_15 ?_
      refine x_sipush hE (nI 421) dX7_readTest_18 (by decide) ?_
      refine x_icmp_ne hE 48 dX7_readTest_21 (by decide) hf (fun hf => ?_) (fun hf => ?_)
      · refine x_aload_n hE 0 dX7_readTest_48 rfl rfl ?_
        refine x_getI hE cl_7 (hE.kd kO_7) (by decide) 4 rfl (by decide) lk_X7_38 dX7_readTest_49 ?_
        refine x_bipush hE (nI 91) dX7_readTest_52 (by decide) ?_
        refine x_icmp_ne hE 80 dX7_readTest_54 (by decide) hf (fun hf => ?_) (fun hf => ?_)
        · refine x_aload_n hE 0 dX7_readTest_80 rfl rfl ?_
          refine x_iload_n hE 1 dX7_readTest_81 rfl rfl ?_
          obtain ⟨M2, hc1, hf⟩ := bnd_some hf
          refine x_callV0 hE [.int p0] (rest := []) (c1 := M2) (d1 := N) rfl yokX7_readComparison yvX7_readComparison lk_X7_170 rfl cl_7 (hE.kd kO_7) (by decide) rfl rfl ⟨by show (nn + 10) + 1 ≤ nn + 11; omega, by show 8 + (3 + 11) + 64 * (nn + 10) ≤ 64 * (nn + 11); omega⟩ ⟨Nat.zero_le _, Nat.zero_le _⟩ rfl (Nat.le_of_ble_eq_true rfl) dX7_readTest_82 (hG.2.2.2.2.2.2.2.2 _ _ _ _ _ hc1) ?_
          replace hf := Option.some.inj hf
          subst hf
          exact x_vreturn hE hr dX7_readTest_85
        · refine x_aload_n hE 0 dX7_readTest_57 rfl rfl ?_
          refine x_bipush hE (nI 91) dX7_readTest_58 (by decide) ?_
          refine x_iload_n hE 1 dX7_readTest_60 rfl rfl ?_
          obtain ⟨M4, hc3, hf⟩ := bnd_some hf
          refine x_callV0 hE [.int (nI 91), .int p0] (rest := []) (c1 := M4) (d1 := N) rfl yokX7_openWith yvX7_openWith lk_X7_151 rfl cl_7 (hE.kd kO_7) (by decide) rfl rfl ⟨by show 3 + 1 ≤ nn + 11; omega, by show 8 + (3 + 11) + 64 * 3 ≤ 64 * (nn + 11); omega⟩ ⟨Nat.zero_le _, Nat.zero_le _⟩ rfl (Nat.le_of_ble_eq_true rfl) dX7_readTest_61 (mX7_openWith l hc3) ?_
          refine x_aload_n hE 0 dX7_readTest_64 rfl rfl ?_
          refine x_iload_n hE 1 dX7_readTest_65 rfl rfl ?_
          refine x_iconst hE (nI 1) dX7_readTest_66 (by decide) ?_
          refine x_iadd hE dX7_readTest_67 ?_
          obtain ⟨M6, hc5, hf⟩ := bnd_some hf
          refine x_callV0 hE [.int (p0 + (nI 1))] (rest := []) (c1 := M6) (d1 := N) rfl yokX7_readAny yvX7_readAny lk_X7_161 rfl cl_7 (hE.kd kO_7) (by decide) rfl rfl ⟨by show (nn + 10) + 1 ≤ nn + 11; omega, by show 8 + (3 + 11) + 64 * (nn + 10) ≤ 64 * (nn + 11); omega⟩ ⟨Nat.zero_le _, Nat.zero_le _⟩ rfl (Nat.le_of_ble_eq_true rfl) dX7_readTest_68 (hG.2.2.2.2.2.1 _ _ _ _ _ hc5) ?_
          refine x_aload_n hE 0 dX7_readTest_71 rfl rfl ?_
          refine x_bipush hE (nI 93) dX7_readTest_72 (by decide) ?_
          obtain ⟨M8, hc7, hf⟩ := bnd_some hf
          refine x_callV0 hE [.int (nI 93)] (rest := []) (c1 := M8) (d1 := N) rfl yokX7_expect yvX7_expect lk_X7_133 rfl cl_7 (hE.kd kO_7) (by decide) rfl rfl ⟨by show 3 + 1 ≤ nn + 11; omega, by show 8 + (2 + 11) + 64 * 3 ≤ 64 * (nn + 11); omega⟩ ⟨Nat.zero_le _, Nat.zero_le _⟩ rfl (Nat.le_of_ble_eq_true rfl) dX7_readTest_74 (mX7_expect l hc7) ?_
          refine x_goto hE 85 dX7_readTest_77 (by decide) ?_
          replace hf := Option.some.inj hf
          subst hf
          exact x_vreturn hE hr dX7_readTest_85
      · refine x_aload_n hE 0 dX7_readTest_24 rfl rfl ?_
        refine x_sipush hE (nI 421) dX7_readTest_25 (by decide) ?_
        refine x_iload_n hE 1 dX7_readTest_28 rfl rfl ?_
        obtain ⟨M10, hc9, hf⟩ := bnd_some hf
        refine x_callV0 hE [.int (nI 421), .int p0] (rest := []) (c1 := M10) (d1 := N) rfl yokX7_openWith yvX7_openWith lk_X7_151 rfl cl_7 (hE.kd kO_7) (by decide) rfl rfl ⟨by show 3 + 1 ≤ nn + 11; omega, by show 8 + (3 + 11) + 64 * 3 ≤ 64 * (nn + 11); omega⟩ ⟨Nat.zero_le _, Nat.zero_le _⟩ rfl (Nat.le_of_ble_eq_true rfl) dX7_readTest_29 (mX7_openWith l hc9) ?_
        refine x_aload_n hE 0 dX7_readTest_32 rfl rfl ?_
        refine x_iload_n hE 1 dX7_readTest_33 rfl rfl ?_
        refine x_iconst hE (nI 1) dX7_readTest_34 (by decide) ?_
        refine x_iadd hE dX7_readTest_35 ?_
        obtain ⟨M12, hc11, hf⟩ := bnd_some hf
        refine x_callV0 hE [.int (p0 + (nI 1))] (rest := []) (c1 := M12) (d1 := N) rfl yokX7_readTest yvX7_readTest lk_X7_167 rfl cl_7 (hE.kd kO_7) (by decide) rfl rfl ⟨by show (nn + 10) + 1 ≤ nn + 11; omega, by show 8 + (2 + 11) + 64 * (nn + 10) ≤ 64 * (nn + 11); omega⟩ ⟨Nat.zero_le _, Nat.zero_le _⟩ rfl (Nat.le_of_ble_eq_true rfl) dX7_readTest_36 (hG.2.2.2.2.2.2.2.1 _ _ _ _ _ hc11) ?_
        refine x_aload_n hE 0 dX7_readTest_39 rfl rfl ?_
        refine x_bipush hE (-18) dX7_readTest_40 (by decide) ?_
        obtain ⟨M14, hc13, hf⟩ := bnd_some hf
        refine x_callV0 hE [.int (-18)] (rest := []) (c1 := M14) (d1 := N) rfl yokX7_put yvX7_put lk_X7_142 rfl cl_7 (hE.kd kO_7) (by decide) rfl rfl ⟨by show 2 + 1 ≤ nn + 11; omega, by show 8 + (2 + 11) + 64 * 2 ≤ 64 * (nn + 11); omega⟩ ⟨Nat.zero_le _, Nat.zero_le _⟩ rfl (Nat.le_of_ble_eq_true rfl) dX7_readTest_42 (mX7_put l hc13) ?_
        refine x_goto hE 85 dX7_readTest_45 (by decide) ?_
        replace hf := Option.some.inj hf
        subst hf
        exact x_vreturn hE hr dX7_readTest_85
    · replace hf := Option.some.inj hf
      subst hf
      exact x_vreturn hE hr dX7_readTest_13
theorem dX7_readComparison_0 : decode cX7_readComparison 0 = .ok (.aload_n 0, 1) := by decide +kernel
theorem dX7_readComparison_1 : decode cX7_readComparison 1 = .ok (.iload_n 1, 1) := by decide +kernel
theorem dX7_readComparison_2 : decode cX7_readComparison 2 = .ok (.invokevirtual 136, 3) := by decide +kernel
theorem dX7_readComparison_5 : decode cX7_readComparison 5 = .ok (.aload_n 0, 1) := by decide +kernel
theorem dX7_readComparison_6 : decode cX7_readComparison 6 = .ok (.getfield 38, 3) := by decide +kernel
theorem dX7_readComparison_9 : decode cX7_readComparison 9 = .ok (.istore_n 2, 1) := by decide +kernel
theorem dX7_readComparison_10 : decode cX7_readComparison 10 = .ok (.iload_n 2, 1) := by decide +kernel
theorem dX7_readComparison_11 : decode cX7_readComparison 11 = .ok (.bipush 60, 2) := by decide +kernel
theorem dX7_readComparison_13 : decode cX7_readComparison 13 = .ok (.if_icmp .eq 15, 3) := by decide +kernel
theorem dX7_readComparison_16 : decode cX7_readComparison 16 = .ok (.iload_n 2, 1) := by decide +kernel
theorem dX7_readComparison_17 : decode cX7_readComparison 17 = .ok (.bipush 62, 2) := by decide +kernel
theorem dX7_readComparison_19 : decode cX7_readComparison 19 = .ok (.if_icmp .eq 9, 3) := by decide +kernel
theorem dX7_readComparison_22 : decode cX7_readComparison 22 = .ok (.iload_n 2, 1) := by decide +kernel
theorem dX7_readComparison_23 : decode cX7_readComparison 23 = .ok (.bipush 61, 2) := by decide +kernel
theorem dX7_readComparison_25 : decode cX7_readComparison 25 = .ok (.if_icmp .ne 10, 3) := by decide +kernel
theorem dX7_readComparison_28 : decode cX7_readComparison 28 = .ok (.aload_n 0, 1) := by decide +kernel
theorem dX7_readComparison_29 : decode cX7_readComparison 29 = .ok (.invokevirtual 121, 3) := by decide +kernel
theorem dX7_readComparison_32 : decode cX7_readComparison 32 = .ok (.goto 8, 3) := by decide +kernel
theorem dX7_readComparison_35 : decode cX7_readComparison 35 = .ok (.aload_n 0, 1) := by decide +kernel
theorem dX7_readComparison_36 : decode cX7_readComparison 36 = .ok (.iconst 1, 1) := by decide +kernel
theorem dX7_readComparison_37 : decode cX7_readComparison 37 = .ok (.invokevirtual 124, 3) := by decide +kernel
theorem dX7_readComparison_40 : decode cX7_readComparison 40 = .ok (.aload_n 0, 1) := by decide +kernel
theorem dX7_readComparison_41 : decode cX7_readComparison 41 = .ok (.iload_n 1, 1) := by decide +kernel
theorem dX7_readComparison_42 : decode cX7_readComparison 42 = .ok (.invokevirtual 136, 3) := by decide +kernel
theorem dX7_readComparison_45 : decode cX7_readComparison 45 = .ok (.aload_n 0, 1) := by decide +kernel
theorem dX7_readComparison_46 : decode cX7_readComparison 46 = .ok (.iload_n 2, 1) := by decide +kernel
theorem dX7_readComparison_47 : decode cX7_readComparison 47 = .ok (.bipush 60, 2) := by decide +kernel
theorem dX7_readComparison_49 : decode cX7_readComparison 49 = .ok (.if_icmp .ne 8, 3) := by decide +kernel
theorem dX7_readComparison_52 : decode cX7_readComparison 52 = .ok (.bipush (-13), 2) := by decide +kernel
theorem dX7_readComparison_54 : decode cX7_readComparison 54 = .ok (.goto 16, 3) := by decide +kernel
theorem dX7_readComparison_57 : decode cX7_readComparison 57 = .ok (.iload_n 2, 1) := by decide +kernel
theorem dX7_readComparison_58 : decode cX7_readComparison 58 = .ok (.bipush 62, 2) := by decide +kernel
theorem dX7_readComparison_60 : decode cX7_readComparison 60 = .ok (.if_icmp .ne 8, 3) := by decide +kernel
theorem dX7_readComparison_63 : decode cX7_readComparison 63 = .ok (.bipush (-14), 2) := by decide +kernel
theorem dX7_readComparison_65 : decode cX7_readComparison 65 = .ok (.goto 5, 3) := by decide +kernel
theorem dX7_readComparison_68 : decode cX7_readComparison 68 = .ok (.bipush (-15), 2) := by decide +kernel
theorem dX7_readComparison_70 : decode cX7_readComparison 70 = .ok (.invokevirtual 142, 3) := by decide +kernel
theorem dX7_readComparison_73 : decode cX7_readComparison 73 = .ok (.return_, 1) := by decide +kernel
theorem wX7_readComparison_J70 {p : Program} {l : Launch} {e : Env} {s : State} {m : MethodId} {args : Array Value} {below : List Frame} {meth : Method} {c : Code} {Y : Nat → ClassId} {D : va_G} {σ : Nat → Nat} {np b0 : Nat} {nn : Nat} {K : Nat → Mc → Int32 → Int32 → Option Mc} {r : Mc} {M : Mc} {N : Md} {Z0 : Int32} (hE : EOK p s m args meth c cX7_readComparison 3 RX7 Y D σ np b0) (hr : meth.sig.returnType = none) (hG : GX7 l Y D σ np b0 nn K) (hf : gX7_readComparison_J70 K M Z0 = some r) : Xw p l e (rmD (nn + 11)) s m args below meth c 3 Y D σ np b0 0 0 (MQ below (QR Y D σ np b0 none r N) args s 0 0 (xA b0)) 70 [] [.int Z0, .ref (σ (114))] M N := by
  unfold gX7_readComparison_J70 at hf
  obtain ⟨M11, hc10, hf⟩ := bnd_some hf
  refine x_callV0 hE [.int Z0] (rest := []) (c1 := M11) (d1 := N) rfl yokX7_put yvX7_put lk_X7_142 rfl cl_7 (hE.kd kO_7) (by decide) rfl rfl ⟨by show 2 + 1 ≤ nn + 11; omega, by show 8 + (2 + 11) + 64 * 2 ≤ 64 * (nn + 11); omega⟩ ⟨Nat.zero_le _, Nat.zero_le _⟩ rfl (Nat.le_of_ble_eq_true rfl) dX7_readComparison_70 (mX7_put l hc10) ?_
  replace hf := Option.some.inj hf
  subst hf
  exact x_vreturn hE hr dX7_readComparison_73
theorem wX7_readComparison_J40 {p : Program} {l : Launch} {e : Env} {s : State} {m : MethodId} {args : Array Value} {below : List Frame} {meth : Method} {c : Code} {Y : Nat → ClassId} {D : va_G} {σ : Nat → Nat} {np b0 : Nat} {nn : Nat} {K : Nat → Mc → Int32 → Int32 → Option Mc} {r : Mc} {M : Mc} {N : Md} {X1 : Int32} {X2 : Int32} (hE : EOK p s m args meth c cX7_readComparison 3 RX7 Y D σ np b0) (hr : meth.sig.returnType = none) (hG : GX7 l Y D σ np b0 nn K) (hf : gX7_readComparison_J40 K M X1 X2 = some r) : Xw p l e (rmD (nn + 11)) s m args below meth c 3 Y D σ np b0 0 0 (MQ below (QR Y D σ np b0 none r N) args s 0 0 (xA b0)) 40 [(0, .ref (σ (114))), (1, .int X1), (2, .int X2)] [] M N := by
  unfold gX7_readComparison_J40 at hf
  refine x_aload_n hE 0 dX7_readComparison_40 rfl rfl ?_
  refine x_iload_n hE 1 dX7_readComparison_41 rfl rfl ?_
  obtain ⟨M9, hc8, hf⟩ := bnd_some hf
  refine x_callV0 hE [.int X1] (rest := []) (c1 := M9) (d1 := N) rfl yokX7_readSum yvX7_readSum lk_X7_136 rfl cl_7 (hE.kd kO_7) (by decide) rfl rfl ⟨by show (nn + 10) + 1 ≤ nn + 11; omega, by show 8 + (4 + 11) + 64 * (nn + 10) ≤ 64 * (nn + 11); omega⟩ ⟨Nat.zero_le _, Nat.zero_le _⟩ rfl (Nat.le_of_ble_eq_true rfl) dX7_readComparison_42 (hG.1 _ _ _ _ _ hc8) ?_
  refine x_aload_n hE 0 dX7_readComparison_45 rfl rfl ?_
  refine x_iload_n hE 2 dX7_readComparison_46 rfl rfl ?_
  refine x_bipush hE (nI 60) dX7_readComparison_47 (by decide) ?_
  refine x_icmp_ne hE 57 dX7_readComparison_49 (by decide) hf (fun hf => ?_) (fun hf => ?_)
  · refine x_iload_n hE 2 dX7_readComparison_57 rfl rfl ?_
    refine x_bipush hE (nI 62) dX7_readComparison_58 (by decide) ?_
    refine x_icmp_ne hE 68 dX7_readComparison_60 (by decide) hf (fun hf => ?_) (fun hf => ?_)
    · refine x_bipush hE (-15) dX7_readComparison_68 (by decide) ?_
      refine x_pick [] (L' := []) rfl ?_
      exact wX7_readComparison_J70 hE hr hG hf
    · refine x_bipush hE (-14) dX7_readComparison_63 (by decide) ?_
      refine x_goto hE 70 dX7_readComparison_65 (by decide) ?_
      refine x_pick [] (L' := []) rfl ?_
      exact wX7_readComparison_J70 hE hr hG hf
  · refine x_bipush hE (-13) dX7_readComparison_52 (by decide) ?_
    refine x_goto hE 70 dX7_readComparison_54 (by decide) ?_
    refine x_pick [] (L' := []) rfl ?_
    exact wX7_readComparison_J70 hE hr hG hf
theorem wX7_readComparison_J28 {p : Program} {l : Launch} {e : Env} {s : State} {m : MethodId} {args : Array Value} {below : List Frame} {meth : Method} {c : Code} {Y : Nat → ClassId} {D : va_G} {σ : Nat → Nat} {np b0 : Nat} {nn : Nat} {K : Nat → Mc → Int32 → Int32 → Option Mc} {r : Mc} {M : Mc} {N : Md} {X1 : Int32} {X2 : Int32} (hE : EOK p s m args meth c cX7_readComparison 3 RX7 Y D σ np b0) (hr : meth.sig.returnType = none) (hG : GX7 l Y D σ np b0 nn K) (hf : gX7_readComparison_J28 K M X1 X2 = some r) : Xw p l e (rmD (nn + 11)) s m args below meth c 3 Y D σ np b0 0 0 (MQ below (QR Y D σ np b0 none r N) args s 0 0 (xA b0)) 28 [(0, .ref (σ (114))), (1, .int X1), (2, .int X2)] [] M N := by
  unfold gX7_readComparison_J28 at hf
  refine x_aload_n hE 0 dX7_readComparison_28 rfl rfl ?_
  obtain ⟨M7, hc6, hf⟩ := bnd_some hf
  refine x_callV0 hE [] (rest := []) (c1 := M7) (d1 := N) rfl yokX7_goOn yvX7_goOn lk_X7_121 rfl cl_7 (hE.kd kO_7) (by decide) rfl rfl ⟨by show 2 + 1 ≤ nn + 11; omega, by show 8 + (1 + 11) + 64 * 2 ≤ 64 * (nn + 11); omega⟩ ⟨Nat.zero_le _, Nat.zero_le _⟩ rfl (Nat.le_of_ble_eq_true rfl) dX7_readComparison_29 (mX7_goOn l hc6) ?_
  refine x_goto hE 40 dX7_readComparison_32 (by decide) ?_
  exact wX7_readComparison_J40 hE hr hG hf
theorem mX7_readComparison_b (l : Launch) {Y : Nat → ClassId} {D : va_G} {σ : Nat → Nat} {np b0 : Nat} {M : Mc} {N : Md} {nn : Nat} {K : Nat → Mc → Int32 → Int32 → Option Mc} {p0 : Int32} {r : Mc} (hG : GX7 l Y D σ np b0 nn K) (hf : gX7_readComparison M K p0 = some r) : Met l yX7_readComparison (.code yX7_readComparison cX7_readComparison 3 none :: lw_g) (rmD (nn + 11)) (PR Y D σ np b0 [.ref (σ (114)), .int p0] M N) (QR Y D σ np b0 none r N) 0 0 (xA b0) := by
  refine x_met (by decide) (Nat.le_of_ble_eq_true rfl) (fun p e s m args below meth c hE hr => ?_)
  unfold gX7_readComparison at hf
  refine x_pick [0, 1] (L' := [(0, .ref (σ (114))), (1, .int p0)]) rfl ?_
  refine x_aload_n hE 0 dX7_readComparison_0 rfl rfl ?_
  refine x_iload_n hE 1 dX7_readComparison_1 rfl rfl ?_
  obtain ⟨M2, hc1, hf⟩ := bnd_some hf
  refine x_callV0 hE [.int p0] (rest := []) (c1 := M2) (d1 := N) rfl yokX7_readSum yvX7_readSum lk_X7_136 rfl cl_7 (hE.kd kO_7) (by decide) rfl rfl ⟨by show (nn + 10) + 1 ≤ nn + 11; omega, by show 8 + (4 + 11) + 64 * (nn + 10) ≤ 64 * (nn + 11); omega⟩ ⟨Nat.zero_le _, Nat.zero_le _⟩ rfl (Nat.le_of_ble_eq_true rfl) dX7_readComparison_2 (hG.1 _ _ _ _ _ hc1) ?_
  refine x_aload_n hE 0 dX7_readComparison_5 rfl rfl ?_
  refine x_getI hE cl_7 (hE.kd kO_7) (by decide) 4 rfl (by decide) lk_X7_38 dX7_readComparison_6 ?_
  refine x_ltI hf (fun v3 hf => ?_)
  refine x_istore_n hE (L' := [(2, .int v3), (0, .ref (σ (114))), (1, .int p0)]) dX7_readComparison_9 rfl (by decide) rfl ?_
  refine x_pick [1, 2, 0] (L' := [(0, .ref (σ (114))), (1, .int p0), (2, .int v3)]) rfl ?_
  refine x_iload_n hE 2 dX7_readComparison_10 rfl rfl ?_
  refine x_bipush hE (nI 60) dX7_readComparison_11 (by decide) ?_
  refine x_icmp_eq hE 28 dX7_readComparison_13 (by decide) hf (fun hf => ?_) (fun hf => ?_)
  · exact wX7_readComparison_J28 hE hr hG hf
  · refine x_iload_n hE 2 dX7_readComparison_16 rfl rfl ?_
    refine x_bipush hE (nI 62) dX7_readComparison_17 (by decide) ?_
    refine x_icmp_eq hE 28 dX7_readComparison_19 (by decide) hf (fun hf => ?_) (fun hf => ?_)
    · exact wX7_readComparison_J28 hE hr hG hf
    · refine x_iload_n hE 2 dX7_readComparison_22 rfl rfl ?_
      refine x_bipush hE (nI 61) dX7_readComparison_23 (by decide) ?_
      refine x_icmp_ne hE 35 dX7_readComparison_25 (by decide) hf (fun hf => ?_) (fun hf => ?_)
      · refine x_aload_n hE 0 dX7_readComparison_35 rfl rfl ?_
        refine x_iconst hE (nI 1) dX7_readComparison_36 (by decide) ?_
        obtain ⟨M5, hc4, hf⟩ := bnd_some hf
        refine x_callV0 hE [.int (nI 1)] (rest := []) (c1 := M5) (d1 := N) rfl yokX7_fail yvX7_fail lk_X7_124 rfl cl_7 (hE.kd kO_7) (by decide) rfl rfl ⟨by show 2 + 1 ≤ nn + 11; omega, by show 8 + (2 + 11) + 64 * 2 ≤ 64 * (nn + 11); omega⟩ ⟨Nat.zero_le _, Nat.zero_le _⟩ rfl (Nat.le_of_ble_eq_true rfl) dX7_readComparison_37 (mX7_fail l hc4) ?_
        exact wX7_readComparison_J40 hE hr hG hf
      · exact wX7_readComparison_J28 hE hr hG hf
theorem GX7_all (l : Launch) (Y : Nat → ClassId) (D : va_G) (σ : Nat → Nat) (np b0 : Nat) : ∀ n : Nat, GX7 l Y D σ np b0 n (FX7 n)
  | 0 => by
    unfold GX7
    exact ⟨fun _ _ _ _ _ h => (by cases h), fun _ _ _ _ _ h => (by cases h), fun _ _ _ _ _ h => (by cases h), fun _ _ _ _ _ h => (by cases h), fun _ _ _ _ _ h => (by cases h), fun _ _ _ _ _ h => (by cases h), fun _ _ _ _ _ h => (by cases h), fun _ _ _ _ _ h => (by cases h), fun _ _ _ _ _ h => (by cases h)⟩
  | n + 1 => by
    have ih := GX7_all l Y D σ np b0 n
    unfold GX7
    refine ⟨fun M M1 N a0 a1 h => mX7_readSum_b (nn := n) l ih h, fun M M1 N a0 a1 h => mX7_readProduct_b (nn := n) l ih h, fun M M1 N a0 a1 h => mX7_readUnit_b (nn := n) l ih h, fun M M1 N a0 a1 h => mX7_readPair_b (nn := n) l ih h, fun M M1 N a0 a1 h => mX7_readIf_b (nn := n) l ih h, fun M M1 N a0 a1 h => mX7_readAny_b (nn := n) l ih h, fun M M1 N a0 a1 h => mX7_readEvery_b (nn := n) l ih h, fun M M1 N a0 a1 h => mX7_readTest_b (nn := n) l ih h, fun M M1 N a0 a1 h => mX7_readComparison_b (nn := n) l ih h⟩
theorem mX7_readSum (l : Launch) {Y : Nat → ClassId} {D : va_G} {σ : Nat → Nat} {np b0 : Nat} {M : Mc} {N : Md} {p0 : Int32} {r : Mc} (hf : fX7_readSum M p0 = some r) : Met l yX7_readSum (.code yX7_readSum cX7_readSum 4 none :: lw_g) (rmD 130) (PR Y D σ np b0 [.ref (σ 114), .int p0] M N) (QR Y D σ np b0 none r N) 0 0 (xA b0) := (GX7_all l Y D σ np b0 120).1 M r N p0 0 hf
theorem mX7_readProduct (l : Launch) {Y : Nat → ClassId} {D : va_G} {σ : Nat → Nat} {np b0 : Nat} {M : Mc} {N : Md} {p0 : Int32} {r : Mc} (hf : fX7_readProduct M p0 = some r) : Met l yX7_readProduct (.code yX7_readProduct cX7_readProduct 4 none :: lw_g) (rmD 130) (PR Y D σ np b0 [.ref (σ 114), .int p0] M N) (QR Y D σ np b0 none r N) 0 0 (xA b0) := (GX7_all l Y D σ np b0 120).2.1 M r N p0 0 hf
theorem mX7_readUnit (l : Launch) {Y : Nat → ClassId} {D : va_G} {σ : Nat → Nat} {np b0 : Nat} {M : Mc} {N : Md} {p0 : Int32} {r : Mc} (hf : fX7_readUnit M p0 = some r) : Met l yX7_readUnit (.code yX7_readUnit cX7_readUnit 2 none :: lw_g) (rmD 130) (PR Y D σ np b0 [.ref (σ 114), .int p0] M N) (QR Y D σ np b0 none r N) 0 0 (xA b0) := (GX7_all l Y D σ np b0 120).2.2.1 M r N p0 0 hf
theorem mX7_readPair (l : Launch) {Y : Nat → ClassId} {D : va_G} {σ : Nat → Nat} {np b0 : Nat} {M : Mc} {N : Md} {p0 : Int32} {p1 : Int32} {r : Mc} (hf : fX7_readPair M p0 p1 = some r) : Met l yX7_readPair (.code yX7_readPair cX7_readPair 3 none :: lw_g) (rmD 130) (PR Y D σ np b0 [.ref (σ 114), .int p0, .int p1] M N) (QR Y D σ np b0 none r N) 0 0 (xA b0) := (GX7_all l Y D σ np b0 120).2.2.2.1 M r N p0 p1 hf
theorem mX7_readIf (l : Launch) {Y : Nat → ClassId} {D : va_G} {σ : Nat → Nat} {np b0 : Nat} {M : Mc} {N : Md} {p0 : Int32} {r : Mc} (hf : fX7_readIf M p0 = some r) : Met l yX7_readIf (.code yX7_readIf cX7_readIf 2 none :: lw_g) (rmD 130) (PR Y D σ np b0 [.ref (σ 114), .int p0] M N) (QR Y D σ np b0 none r N) 0 0 (xA b0) := (GX7_all l Y D σ np b0 120).2.2.2.2.1 M r N p0 0 hf
theorem mX7_readAny (l : Launch) {Y : Nat → ClassId} {D : va_G} {σ : Nat → Nat} {np b0 : Nat} {M : Mc} {N : Md} {p0 : Int32} {r : Mc} (hf : fX7_readAny M p0 = some r) : Met l yX7_readAny (.code yX7_readAny cX7_readAny 3 none :: lw_g) (rmD 130) (PR Y D σ np b0 [.ref (σ 114), .int p0] M N) (QR Y D σ np b0 none r N) 0 0 (xA b0) := (GX7_all l Y D σ np b0 120).2.2.2.2.2.1 M r N p0 0 hf
theorem mX7_readEvery (l : Launch) {Y : Nat → ClassId} {D : va_G} {σ : Nat → Nat} {np b0 : Nat} {M : Mc} {N : Md} {p0 : Int32} {r : Mc} (hf : fX7_readEvery M p0 = some r) : Met l yX7_readEvery (.code yX7_readEvery cX7_readEvery 3 none :: lw_g) (rmD 130) (PR Y D σ np b0 [.ref (σ 114), .int p0] M N) (QR Y D σ np b0 none r N) 0 0 (xA b0) := (GX7_all l Y D σ np b0 120).2.2.2.2.2.2.1 M r N p0 0 hf
theorem mX7_readTest (l : Launch) {Y : Nat → ClassId} {D : va_G} {σ : Nat → Nat} {np b0 : Nat} {M : Mc} {N : Md} {p0 : Int32} {r : Mc} (hf : fX7_readTest M p0 = some r) : Met l yX7_readTest (.code yX7_readTest cX7_readTest 2 none :: lw_g) (rmD 130) (PR Y D σ np b0 [.ref (σ 114), .int p0] M N) (QR Y D σ np b0 none r N) 0 0 (xA b0) := (GX7_all l Y D σ np b0 120).2.2.2.2.2.2.2.1 M r N p0 0 hf
theorem mX7_readComparison (l : Launch) {Y : Nat → ClassId} {D : va_G} {σ : Nat → Nat} {np b0 : Nat} {M : Mc} {N : Md} {p0 : Int32} {r : Mc} (hf : fX7_readComparison M p0 = some r) : Met l yX7_readComparison (.code yX7_readComparison cX7_readComparison 3 none :: lw_g) (rmD 130) (PR Y D σ np b0 [.ref (σ 114), .int p0] M N) (QR Y D σ np b0 none r N) 0 0 (xA b0) := (GX7_all l Y D σ np b0 120).2.2.2.2.2.2.2.2 M r N p0 0 hf
theorem lk_X7_24 : Cond.fieldLink RX7 24 (TX7 9).1 (TX7 9).2.1 (TX7 9).2.2.1 ∈ lw_g := mem_g 512 (by decide +kernel) (by decide +kernel)
theorem lk_X7_27 : Cond.fieldLink RX7 27 (TX7 10).1 (TX7 10).2.1 (TX7 10).2.2.1 ∈ lw_g := mem_g 513 (by decide +kernel) (by decide +kernel)
theorem dX7_readTelling_0 : decode cX7_readTelling 0 = .ok (.aload_n 0, 1) := by decide +kernel
theorem dX7_readTelling_1 : decode cX7_readTelling 1 = .ok (.invokevirtual 121, 3) := by decide +kernel
theorem dX7_readTelling_4 : decode cX7_readTelling 4 = .ok (.aload_n 0, 1) := by decide +kernel
theorem dX7_readTelling_5 : decode cX7_readTelling 5 = .ok (.bipush 61, 2) := by decide +kernel
theorem dX7_readTelling_7 : decode cX7_readTelling 7 = .ok (.invokevirtual 133, 3) := by decide +kernel
theorem dX7_readTelling_10 : decode cX7_readTelling 10 = .ok (.aload_n 0, 1) := by decide +kernel
theorem dX7_readTelling_11 : decode cX7_readTelling 11 = .ok (.getfield 47, 3) := by decide +kernel
theorem dX7_readTelling_14 : decode cX7_readTelling 14 = .ok (.istore_n 2, 1) := by decide +kernel
theorem dX7_readTelling_15 : decode cX7_readTelling 15 = .ok (.aload_n 0, 1) := by decide +kernel
theorem dX7_readTelling_16 : decode cX7_readTelling 16 = .ok (.iconst 0, 1) := by decide +kernel
theorem dX7_readTelling_17 : decode cX7_readTelling 17 = .ok (.invokevirtual 136, 3) := by decide +kernel
theorem dX7_readTelling_20 : decode cX7_readTelling 20 = .ok (.iload_n 1, 1) := by decide +kernel
theorem dX7_readTelling_21 : decode cX7_readTelling 21 = .ok (.aload_n 0, 1) := by decide +kernel
theorem dX7_readTelling_22 : decode cX7_readTelling 22 = .ok (.getfield 24, 3) := by decide +kernel
theorem dX7_readTelling_25 : decode cX7_readTelling 25 = .ok (.arraylength, 1) := by decide +kernel
theorem dX7_readTelling_26 : decode cX7_readTelling 26 = .ok (.invokestatic 77, 3) := by decide +kernel
theorem dX7_readTelling_29 : decode cX7_readTelling 29 = .ok (.ifCond .eq 15, 3) := by decide +kernel
theorem dX7_readTelling_32 : decode cX7_readTelling 32 = .ok (.iload_n 1, 1) := by decide +kernel
theorem dX7_readTelling_33 : decode cX7_readTelling 33 = .ok (.aload_n 0, 1) := by decide +kernel
theorem dX7_readTelling_34 : decode cX7_readTelling 34 = .ok (.getfield 27, 3) := by decide +kernel
theorem dX7_readTelling_37 : decode cX7_readTelling 37 = .ok (.arraylength, 1) := by decide +kernel
theorem dX7_readTelling_38 : decode cX7_readTelling 38 = .ok (.invokestatic 77, 3) := by decide +kernel
theorem dX7_readTelling_41 : decode cX7_readTelling 41 = .ok (.ifCond .ne 4, 3) := by decide +kernel
theorem dX7_readTelling_44 : decode cX7_readTelling 44 = .ok (.return_, 1) := by decide +kernel
theorem dX7_readTelling_45 : decode cX7_readTelling 45 = .ok (.aload_n 0, 1) := by decide +kernel
theorem dX7_readTelling_46 : decode cX7_readTelling 46 = .ok (.getfield 24, 3) := by decide +kernel
theorem dX7_readTelling_49 : decode cX7_readTelling 49 = .ok (.iload_n 1, 1) := by decide +kernel
theorem dX7_readTelling_50 : decode cX7_readTelling 50 = .ok (.iload_n 2, 1) := by decide +kernel
theorem dX7_readTelling_51 : decode cX7_readTelling 51 = .ok (.iastore, 1) := by decide +kernel
theorem dX7_readTelling_52 : decode cX7_readTelling 52 = .ok (.aload_n 0, 1) := by decide +kernel
theorem dX7_readTelling_53 : decode cX7_readTelling 53 = .ok (.getfield 27, 3) := by decide +kernel
theorem dX7_readTelling_56 : decode cX7_readTelling 56 = .ok (.iload_n 1, 1) := by decide +kernel
theorem dX7_readTelling_57 : decode cX7_readTelling 57 = .ok (.aload_n 0, 1) := by decide +kernel
theorem dX7_readTelling_58 : decode cX7_readTelling 58 = .ok (.getfield 47, 3) := by decide +kernel
theorem dX7_readTelling_61 : decode cX7_readTelling 61 = .ok (.iastore, 1) := by decide +kernel
theorem dX7_readTelling_62 : decode cX7_readTelling 62 = .ok (.return_, 1) := by decide +kernel
theorem mX7_readTelling (l : Launch) {Y : Nat → ClassId} {D : va_G} {σ : Nat → Nat} {np b0 : Nat} {M : Mc} {N : Md} {p0 : Int32} {r : Mc} (hf : fX7_readTelling M p0 = some r) : Met l yX7_readTelling (.code yX7_readTelling cX7_readTelling 3 none :: lw_g) (rmD 131) (PR Y D σ np b0 [.ref (σ (114)), .int p0] M N) (QR Y D σ np b0 none r N) 0 0 (xA b0) := by
  refine x_met (by decide) (Nat.le_of_ble_eq_true rfl) (fun p e s m args below meth c hE hr => ?_)
  unfold fX7_readTelling at hf
  refine x_pick [0, 1] (L' := [(0, .ref (σ (114))), (1, .int p0)]) rfl ?_
  refine x_aload_n hE 0 dX7_readTelling_0 rfl rfl ?_
  obtain ⟨M2, hc1, hf⟩ := bnd_some hf
  refine x_callV0 hE [] (rest := []) (c1 := M2) (d1 := N) rfl yokX7_goOn yvX7_goOn lk_X7_121 rfl cl_7 (hE.kd kO_7) (by decide) rfl rfl ⟨Nat.le_of_ble_eq_true rfl, Nat.le_of_ble_eq_true rfl⟩ ⟨Nat.zero_le _, Nat.zero_le _⟩ rfl (Nat.le_of_ble_eq_true rfl) dX7_readTelling_1 (mX7_goOn l hc1) ?_
  refine x_aload_n hE 0 dX7_readTelling_4 rfl rfl ?_
  refine x_bipush hE (nI 61) dX7_readTelling_5 (by decide) ?_
  obtain ⟨M4, hc3, hf⟩ := bnd_some hf
  refine x_callV0 hE [.int (nI 61)] (rest := []) (c1 := M4) (d1 := N) rfl yokX7_expect yvX7_expect lk_X7_133 rfl cl_7 (hE.kd kO_7) (by decide) rfl rfl ⟨Nat.le_of_ble_eq_true rfl, Nat.le_of_ble_eq_true rfl⟩ ⟨Nat.zero_le _, Nat.zero_le _⟩ rfl (Nat.le_of_ble_eq_true rfl) dX7_readTelling_7 (mX7_expect l hc3) ?_
  refine x_aload_n hE 0 dX7_readTelling_10 rfl rfl ?_
  refine x_getI hE cl_7 (hE.kd kO_7) (by decide) 8 rfl (by decide) lk_X7_47 dX7_readTelling_11 ?_
  refine x_ltI hf (fun v5 hf => ?_)
  refine x_istore_n hE (L' := [(2, .int v5), (0, .ref (σ (114))), (1, .int p0)]) dX7_readTelling_14 rfl (by decide) rfl ?_
  refine x_pick [1, 2, 0] (L' := [(0, .ref (σ (114))), (1, .int p0), (2, .int v5)]) rfl ?_
  refine x_aload_n hE 0 dX7_readTelling_15 rfl rfl ?_
  refine x_iconst hE (0 : Int32) dX7_readTelling_16 (by decide) ?_
  obtain ⟨M7, hc6, hf⟩ := bnd_some hf
  refine x_callV0 hE [.int 0] (rest := []) (c1 := M7) (d1 := N) rfl yokX7_readSum yvX7_readSum lk_X7_136 rfl cl_7 (hE.kd kO_7) (by decide) rfl rfl ⟨Nat.le_of_ble_eq_true rfl, Nat.le_of_ble_eq_true rfl⟩ ⟨Nat.zero_le _, Nat.zero_le _⟩ rfl (Nat.le_of_ble_eq_true rfl) dX7_readTelling_17 (mX7_readSum l hc6) ?_
  refine x_iload_n hE 1 dX7_readTelling_20 rfl rfl ?_
  refine x_aload_n hE 0 dX7_readTelling_21 rfl rfl ?_
  refine x_getR hE cl_7 (hE.kd kO_7) (by decide) 9 (119) rfl (by decide) lk_X7_24 dX7_readTelling_22 ?_
  refine x_alen hE (nI 8) (hE.kd kA_119) (Or.inl rfl) rfl dX7_readTelling_25 ?_
  obtain ⟨v9, hc8, hf⟩ := bnd_some hf
  refine x_callSN1 hE [.int p0, .int (nI 8)] (rest := []) (v := .int v9) (c1 := M7) (d1 := N) rfl yokX11_inside ysX11_inside lk_X7_77 rfl rfl ⟨Nat.le_of_ble_eq_true rfl, Nat.le_of_ble_eq_true rfl⟩ ⟨Nat.zero_le _, Nat.zero_le _⟩ rfl (Nat.le_of_ble_eq_true rfl) dX7_readTelling_26 (mX11_inside l hc8) ?_
  refine x_if_eq hE 44 dX7_readTelling_29 (by decide) hf (fun hf => ?_) (fun hf => ?_)
  · replace hf := Option.some.inj hf
    subst hf
    exact x_vreturn hE hr dX7_readTelling_44
  · refine x_iload_n hE 1 dX7_readTelling_32 rfl rfl ?_
    refine x_aload_n hE 0 dX7_readTelling_33 rfl rfl ?_
    refine x_getR hE cl_7 (hE.kd kO_7) (by decide) 10 (120) rfl (by decide) lk_X7_27 dX7_readTelling_34 ?_
    refine x_alen hE (nI 8) (hE.kd kA_120) (Or.inl rfl) rfl dX7_readTelling_37 ?_
    obtain ⟨v11, hc10, hf⟩ := bnd_some hf
    refine x_callSN1 hE [.int p0, .int (nI 8)] (rest := []) (v := .int v11) (c1 := M7) (d1 := N) rfl yokX11_inside ysX11_inside lk_X7_77 rfl rfl ⟨Nat.le_of_ble_eq_true rfl, Nat.le_of_ble_eq_true rfl⟩ ⟨Nat.zero_le _, Nat.zero_le _⟩ rfl (Nat.le_of_ble_eq_true rfl) dX7_readTelling_38 (mX11_inside l hc10) ?_
    refine x_if_ne hE 45 dX7_readTelling_41 (by decide) hf (fun hf => ?_) (fun hf => ?_)
    · refine x_aload_n hE 0 dX7_readTelling_45 rfl rfl ?_
      refine x_getR hE cl_7 (hE.kd kO_7) (by decide) 9 (119) rfl (by decide) lk_X7_24 dX7_readTelling_46 ?_
      refine x_iload_n hE 1 dX7_readTelling_49 rfl rfl ?_
      refine x_iload_n hE 2 dX7_readTelling_50 rfl rfl ?_
      refine x_iast hE (hE.kd kA_119) dX7_readTelling_51 hf (fun M12 hf => ?_)
      refine x_aload_n hE 0 dX7_readTelling_52 rfl rfl ?_
      refine x_getR hE cl_7 (hE.kd kO_7) (by decide) 10 (120) rfl (by decide) lk_X7_27 dX7_readTelling_53 ?_
      refine x_iload_n hE 1 dX7_readTelling_56 rfl rfl ?_
      refine x_aload_n hE 0 dX7_readTelling_57 rfl rfl ?_
      refine x_getI hE cl_7 (hE.kd kO_7) (by decide) 8 rfl (by decide) lk_X7_47 dX7_readTelling_58 ?_
      refine x_iast hE (hE.kd kA_120) dX7_readTelling_61 hf (fun M13 hf => ?_)
      replace hf := Option.some.inj hf
      subst hf
      exact x_vreturn hE hr dX7_readTelling_62
    · replace hf := Option.some.inj hf
      subst hf
      exact x_vreturn hE hr dX7_readTelling_44
theorem yokX7_readTelling : YOK yX7_readTelling cX7_readTelling 3 1 none := ⟨mem_g 1419 (by decide +kernel) (by decide +kernel), mem_g 141 (by decide +kernel) (by decide +kernel), by decide +kernel, by decide +kernel, by decide +kernel⟩
theorem yvX7_readTelling : YV yX7_readTelling := ⟨mem_g 1418 (by decide +kernel) (by decide +kernel), mem_g 21 (by decide +kernel) (by decide +kernel)⟩
theorem lk_X7_130 : Cond.methodLink RX7 130 yX7_readTelling ∈ lw_g := mem_g 1416 (by decide +kernel) (by decide +kernel)
theorem lk_X7_127 : Cond.methodLink RX7 127 yX7_readUndo ∈ lw_g := mem_g 1408 (by decide +kernel) (by decide +kernel)
theorem dX7_readClause_0 : decode cX7_readClause 0 = .ok (.aload_n 0, 1) := by decide +kernel
theorem dX7_readClause_1 : decode cX7_readClause 1 = .ok (.getfield 38, 3) := by decide +kernel
theorem dX7_readClause_4 : decode cX7_readClause 4 = .ok (.sipush 400, 3) := by decide +kernel
theorem dX7_readClause_7 : decode cX7_readClause 7 = .ok (.isub, 1) := by decide +kernel
theorem dX7_readClause_8 : decode cX7_readClause 8 = .ok (.istore_n 2, 1) := by decide +kernel
theorem dX7_readClause_9 : decode cX7_readClause 9 = .ok (.aload_n 0, 1) := by decide +kernel
theorem dX7_readClause_10 : decode cX7_readClause 10 = .ok (.getfield 38, 3) := by decide +kernel
theorem dX7_readClause_13 : decode cX7_readClause 13 = .ok (.sipush 408, 3) := by decide +kernel
theorem dX7_readClause_16 : decode cX7_readClause 16 = .ok (.if_icmp .eq 20, 3) := by decide +kernel
theorem dX7_readClause_19 : decode cX7_readClause 19 = .ok (.iload_n 2, 1) := by decide +kernel
theorem dX7_readClause_20 : decode cX7_readClause 20 = .ok (.bipush 8, 2) := by decide +kernel
theorem dX7_readClause_22 : decode cX7_readClause 22 = .ok (.invokestatic 77, 3) := by decide +kernel
theorem dX7_readClause_25 : decode cX7_readClause 25 = .ok (.ifCond .ne 11, 3) := by decide +kernel
theorem dX7_readClause_28 : decode cX7_readClause 28 = .ok (.aload_n 0, 1) := by decide +kernel
theorem dX7_readClause_29 : decode cX7_readClause 29 = .ok (.iconst 1, 1) := by decide +kernel
theorem dX7_readClause_30 : decode cX7_readClause 30 = .ok (.invokevirtual 124, 3) := by decide +kernel
theorem dX7_readClause_33 : decode cX7_readClause 33 = .ok (.goto 39, 3) := by decide +kernel
theorem dX7_readClause_36 : decode cX7_readClause 36 = .ok (.iload_n 1, 1) := by decide +kernel
theorem dX7_readClause_37 : decode cX7_readClause 37 = .ok (.bipush 10, 2) := by decide +kernel
theorem dX7_readClause_39 : decode cX7_readClause 39 = .ok (.if_icmp .lt 11, 3) := by decide +kernel
theorem dX7_readClause_42 : decode cX7_readClause 42 = .ok (.aload_n 0, 1) := by decide +kernel
theorem dX7_readClause_43 : decode cX7_readClause 43 = .ok (.iconst 3, 1) := by decide +kernel
theorem dX7_readClause_44 : decode cX7_readClause 44 = .ok (.invokevirtual 124, 3) := by decide +kernel
theorem dX7_readClause_47 : decode cX7_readClause 47 = .ok (.goto 25, 3) := by decide +kernel
theorem dX7_readClause_50 : decode cX7_readClause 50 = .ok (.aload_n 0, 1) := by decide +kernel
theorem dX7_readClause_51 : decode cX7_readClause 51 = .ok (.getfield 38, 3) := by decide +kernel
theorem dX7_readClause_54 : decode cX7_readClause 54 = .ok (.sipush 408, 3) := by decide +kernel
theorem dX7_readClause_57 : decode cX7_readClause 57 = .ok (.if_icmp .ne 10, 3) := by decide +kernel
theorem dX7_readClause_60 : decode cX7_readClause 60 = .ok (.aload_n 0, 1) := by decide +kernel
theorem dX7_readClause_61 : decode cX7_readClause 61 = .ok (.invokevirtual 127, 3) := by decide +kernel
theorem dX7_readClause_64 : decode cX7_readClause 64 = .ok (.goto 8, 3) := by decide +kernel
theorem dX7_readClause_67 : decode cX7_readClause 67 = .ok (.aload_n 0, 1) := by decide +kernel
theorem dX7_readClause_68 : decode cX7_readClause 68 = .ok (.iload_n 2, 1) := by decide +kernel
theorem dX7_readClause_69 : decode cX7_readClause 69 = .ok (.invokevirtual 130, 3) := by decide +kernel
theorem dX7_readClause_72 : decode cX7_readClause 72 = .ok (.aload_n 0, 1) := by decide +kernel
theorem dX7_readClause_73 : decode cX7_readClause 73 = .ok (.bipush 59, 2) := by decide +kernel
theorem dX7_readClause_75 : decode cX7_readClause 75 = .ok (.invokevirtual 133, 3) := by decide +kernel
theorem dX7_readClause_78 : decode cX7_readClause 78 = .ok (.return_, 1) := by decide +kernel
theorem wX7_readClause_J72 {p : Program} {l : Launch} {e : Env} {s : State} {m : MethodId} {args : Array Value} {below : List Frame} {meth : Method} {c : Code} {Y : Nat → ClassId} {D : va_G} {σ : Nat → Nat} {np b0 : Nat} {r : Mc} {M : Mc} {N : Md} (hE : EOK p s m args meth c cX7_readClause 3 RX7 Y D σ np b0) (hr : meth.sig.returnType = none) (hf : fX7_readClause_J72 M = some r) : Xw p l e (rmD 132) s m args below meth c 3 Y D σ np b0 0 0 (MQ below (QR Y D σ np b0 none r N) args s 0 0 (xA b0)) 72 [(0, .ref (σ (114)))] [] M N := by
  unfold fX7_readClause_J72 at hf
  refine x_aload_n hE 0 dX7_readClause_72 rfl rfl ?_
  refine x_bipush hE (nI 59) dX7_readClause_73 (by decide) ?_
  obtain ⟨M13, hc12, hf⟩ := bnd_some hf
  refine x_callV0 hE [.int (nI 59)] (rest := []) (c1 := M13) (d1 := N) rfl yokX7_expect yvX7_expect lk_X7_133 rfl cl_7 (hE.kd kO_7) (by decide) rfl rfl ⟨Nat.le_of_ble_eq_true rfl, Nat.le_of_ble_eq_true rfl⟩ ⟨Nat.zero_le _, Nat.zero_le _⟩ rfl (Nat.le_of_ble_eq_true rfl) dX7_readClause_75 (mX7_expect l hc12) ?_
  replace hf := Option.some.inj hf
  subst hf
  exact x_vreturn hE hr dX7_readClause_78
theorem wX7_readClause_J36 {p : Program} {l : Launch} {e : Env} {s : State} {m : MethodId} {args : Array Value} {below : List Frame} {meth : Method} {c : Code} {Y : Nat → ClassId} {D : va_G} {σ : Nat → Nat} {np b0 : Nat} {r : Mc} {M : Mc} {N : Md} {X1 : Int32} {X2 : Int32} (hE : EOK p s m args meth c cX7_readClause 3 RX7 Y D σ np b0) (hr : meth.sig.returnType = none) (hf : fX7_readClause_J36 M X1 X2 = some r) : Xw p l e (rmD 132) s m args below meth c 3 Y D σ np b0 0 0 (MQ below (QR Y D σ np b0 none r N) args s 0 0 (xA b0)) 36 [(0, .ref (σ (114))), (1, .int X1), (2, .int X2)] [] M N := by
  unfold fX7_readClause_J36 at hf
  refine x_iload_n hE 1 dX7_readClause_36 rfl rfl ?_
  refine x_bipush hE (nI 10) dX7_readClause_37 (by decide) ?_
  refine x_icmp_lt hE 50 dX7_readClause_39 (by decide) hf (fun hf => ?_) (fun hf => ?_)
  · refine x_aload_n hE 0 dX7_readClause_50 rfl rfl ?_
    refine x_getI hE cl_7 (hE.kd kO_7) (by decide) 4 rfl (by decide) lk_X7_38 dX7_readClause_51 ?_
    refine x_sipush hE (nI 408) dX7_readClause_54 (by decide) ?_
    refine x_icmp_ne hE 67 dX7_readClause_57 (by decide) hf (fun hf => ?_) (fun hf => ?_)
    · refine x_aload_n hE 0 dX7_readClause_67 rfl rfl ?_
      refine x_iload_n hE 2 dX7_readClause_68 rfl rfl ?_
      obtain ⟨M7, hc6, hf⟩ := bnd_some hf
      refine x_callV0 hE [.int X2] (rest := []) (c1 := M7) (d1 := N) rfl yokX7_readTelling yvX7_readTelling lk_X7_130 rfl cl_7 (hE.kd kO_7) (by decide) rfl rfl ⟨Nat.le_of_ble_eq_true rfl, Nat.le_of_ble_eq_true rfl⟩ ⟨Nat.zero_le _, Nat.zero_le _⟩ rfl (Nat.le_of_ble_eq_true rfl) dX7_readClause_69 (mX7_readTelling l hc6) ?_
      refine x_pick [0] (L' := [(0, .ref (σ (114)))]) rfl ?_
      exact wX7_readClause_J72 hE hr  hf
    · refine x_aload_n hE 0 dX7_readClause_60 rfl rfl ?_
      obtain ⟨M9, hc8, hf⟩ := bnd_some hf
      refine x_callV0 hE [] (rest := []) (c1 := M9) (d1 := N) rfl yokX7_readUndo yvX7_readUndo lk_X7_127 rfl cl_7 (hE.kd kO_7) (by decide) rfl rfl ⟨Nat.le_of_ble_eq_true rfl, Nat.le_of_ble_eq_true rfl⟩ ⟨Nat.zero_le _, Nat.zero_le _⟩ rfl (Nat.le_of_ble_eq_true rfl) dX7_readClause_61 (mX7_readUndo l hc8) ?_
      refine x_goto hE 72 dX7_readClause_64 (by decide) ?_
      refine x_pick [0] (L' := [(0, .ref (σ (114)))]) rfl ?_
      exact wX7_readClause_J72 hE hr  hf
  · refine x_aload_n hE 0 dX7_readClause_42 rfl rfl ?_
    refine x_iconst hE (nI 3) dX7_readClause_43 (by decide) ?_
    obtain ⟨M11, hc10, hf⟩ := bnd_some hf
    refine x_callV0 hE [.int (nI 3)] (rest := []) (c1 := M11) (d1 := N) rfl yokX7_fail yvX7_fail lk_X7_124 rfl cl_7 (hE.kd kO_7) (by decide) rfl rfl ⟨Nat.le_of_ble_eq_true rfl, Nat.le_of_ble_eq_true rfl⟩ ⟨Nat.zero_le _, Nat.zero_le _⟩ rfl (Nat.le_of_ble_eq_true rfl) dX7_readClause_44 (mX7_fail l hc10) ?_
    refine x_goto hE 72 dX7_readClause_47 (by decide) ?_
    refine x_pick [0] (L' := [(0, .ref (σ (114)))]) rfl ?_
    exact wX7_readClause_J72 hE hr  hf
theorem mX7_readClause (l : Launch) {Y : Nat → ClassId} {D : va_G} {σ : Nat → Nat} {np b0 : Nat} {M : Mc} {N : Md} {p0 : Int32} {r : Mc} (hf : fX7_readClause M p0 = some r) : Met l yX7_readClause (.code yX7_readClause cX7_readClause 3 none :: lw_g) (rmD 132) (PR Y D σ np b0 [.ref (σ (114)), .int p0] M N) (QR Y D σ np b0 none r N) 0 0 (xA b0) := by
  refine x_met (by decide) (Nat.le_of_ble_eq_true rfl) (fun p e s m args below meth c hE hr => ?_)
  unfold fX7_readClause at hf
  refine x_pick [0, 1] (L' := [(0, .ref (σ (114))), (1, .int p0)]) rfl ?_
  refine x_aload_n hE 0 dX7_readClause_0 rfl rfl ?_
  refine x_getI hE cl_7 (hE.kd kO_7) (by decide) 4 rfl (by decide) lk_X7_38 dX7_readClause_1 ?_
  refine x_sipush hE (nI 400) dX7_readClause_4 (by decide) ?_
  refine x_isub hE dX7_readClause_7 ?_
  refine x_ltI hf (fun v1 hf => ?_)
  refine x_istore_n hE (L' := [(2, .int v1), (0, .ref (σ (114))), (1, .int p0)]) dX7_readClause_8 rfl (by decide) rfl ?_
  refine x_pick [1, 2, 0] (L' := [(0, .ref (σ (114))), (1, .int p0), (2, .int v1)]) rfl ?_
  refine x_aload_n hE 0 dX7_readClause_9 rfl rfl ?_
  refine x_getI hE cl_7 (hE.kd kO_7) (by decide) 4 rfl (by decide) lk_X7_38 dX7_readClause_10 ?_
  refine x_sipush hE (nI 408) dX7_readClause_13 (by decide) ?_
  refine x_icmp_eq hE 36 dX7_readClause_16 (by decide) hf (fun hf => ?_) (fun hf => ?_)
  · exact wX7_readClause_J36 hE hr  hf
  · refine x_iload_n hE 2 dX7_readClause_19 rfl rfl ?_
    refine x_bipush hE (nI 8) dX7_readClause_20 (by decide) ?_
    obtain ⟨v3, hc2, hf⟩ := bnd_some hf
    refine x_callSN1 hE [.int v1, .int (nI 8)] (rest := []) (v := .int v3) (c1 := M) (d1 := N) rfl yokX11_inside ysX11_inside lk_X7_77 rfl rfl ⟨Nat.le_of_ble_eq_true rfl, Nat.le_of_ble_eq_true rfl⟩ ⟨Nat.zero_le _, Nat.zero_le _⟩ rfl (Nat.le_of_ble_eq_true rfl) dX7_readClause_22 (mX11_inside l hc2) ?_
    refine x_if_ne hE 36 dX7_readClause_25 (by decide) hf (fun hf => ?_) (fun hf => ?_)
    · exact wX7_readClause_J36 hE hr  hf
    · refine x_aload_n hE 0 dX7_readClause_28 rfl rfl ?_
      refine x_iconst hE (nI 1) dX7_readClause_29 (by decide) ?_
      obtain ⟨M5, hc4, hf⟩ := bnd_some hf
      refine x_callV0 hE [.int (nI 1)] (rest := []) (c1 := M5) (d1 := N) rfl yokX7_fail yvX7_fail lk_X7_124 rfl cl_7 (hE.kd kO_7) (by decide) rfl rfl ⟨Nat.le_of_ble_eq_true rfl, Nat.le_of_ble_eq_true rfl⟩ ⟨Nat.zero_le _, Nat.zero_le _⟩ rfl (Nat.le_of_ble_eq_true rfl) dX7_readClause_30 (mX7_fail l hc4) ?_
      refine x_goto hE 72 dX7_readClause_33 (by decide) ?_
      refine x_pick [0] (L' := [(0, .ref (σ (114)))]) rfl ?_
      exact wX7_readClause_J72 hE hr  hf
theorem yokX7_readClause : YOK yX7_readClause cX7_readClause 3 1 none := ⟨mem_g 1403 (by decide +kernel) (by decide +kernel), mem_g 141 (by decide +kernel) (by decide +kernel), by decide +kernel, by decide +kernel, by decide +kernel⟩
theorem yvX7_readClause : YV yX7_readClause := ⟨mem_g 1402 (by decide +kernel) (by decide +kernel), mem_g 17 (by decide +kernel) (by decide +kernel)⟩
theorem lk_X7_30 : Cond.methodLink RX7 30 yX7_split ∈ lw_g := mem_g 1324 (by decide +kernel) (by decide +kernel)
theorem lk_X7_54 : Cond.methodLink RX7 54 yJ7_fill_53178 ∈ lw_g := mem_g 1399 (by decide +kernel) (by decide +kernel)
theorem lk_X7_59 : Cond.methodLink RX7 59 yX7_readClause ∈ lw_g := mem_g 1400 (by decide +kernel) (by decide +kernel)
theorem dX7_read_0 : decode cX7_read 0 = .ok (.aload_n 1, 1) := by decide +kernel
theorem dX7_read_1 : decode cX7_read 1 = .ok (.ifnull 20, 3) := by decide +kernel
theorem dX7_read_4 : decode cX7_read 4 = .ok (.iload_n 2, 1) := by decide +kernel
theorem dX7_read_5 : decode cX7_read 5 = .ok (.ifCond .lt 16, 3) := by decide +kernel
theorem dX7_read_8 : decode cX7_read 8 = .ok (.iload_n 2, 1) := by decide +kernel
theorem dX7_read_9 : decode cX7_read 9 = .ok (.aload_n 1, 1) := by decide +kernel
theorem dX7_read_10 : decode cX7_read 10 = .ok (.arraylength, 1) := by decide +kernel
theorem dX7_read_11 : decode cX7_read 11 = .ok (.if_icmp .gt 10, 3) := by decide +kernel
theorem dX7_read_14 : decode cX7_read 14 = .ok (.iload_n 2, 1) := by decide +kernel
theorem dX7_read_15 : decode cX7_read 15 = .ok (.sipush 300, 3) := by decide +kernel
theorem dX7_read_18 : decode cX7_read 18 = .ok (.if_icmp .le 5, 3) := by decide +kernel
theorem dX7_read_21 : decode cX7_read 21 = .ok (.iconst 1, 1) := by decide +kernel
theorem dX7_read_22 : decode cX7_read 22 = .ok (.ireturn, 1) := by decide +kernel
theorem dX7_read_23 : decode cX7_read 23 = .ok (.aload_n 0, 1) := by decide +kernel
theorem dX7_read_24 : decode cX7_read 24 = .ok (.aload_n 1, 1) := by decide +kernel
theorem dX7_read_25 : decode cX7_read 25 = .ok (.iload_n 2, 1) := by decide +kernel
theorem dX7_read_26 : decode cX7_read 26 = .ok (.invokevirtual 30, 3) := by decide +kernel
theorem dX7_read_29 : decode cX7_read 29 = .ok (.aload_n 0, 1) := by decide +kernel
theorem dX7_read_30 : decode cX7_read 30 = .ok (.iconst 0, 1) := by decide +kernel
theorem dX7_read_31 : decode cX7_read 31 = .ok (.putfield 34, 3) := by decide +kernel
theorem dX7_read_34 : decode cX7_read 34 = .ok (.aload_n 0, 1) := by decide +kernel
theorem dX7_read_35 : decode cX7_read 35 = .ok (.aload_n 0, 1) := by decide +kernel
theorem dX7_read_36 : decode cX7_read 36 = .ok (.getfield 11, 3) := by decide +kernel
theorem dX7_read_39 : decode cX7_read 39 = .ok (.iconst 0, 1) := by decide +kernel
theorem dX7_read_40 : decode cX7_read 40 = .ok (.iaload, 1) := by decide +kernel
theorem dX7_read_41 : decode cX7_read 41 = .ok (.putfield 38, 3) := by decide +kernel
theorem dX7_read_44 : decode cX7_read 44 = .ok (.aload_n 0, 1) := by decide +kernel
theorem dX7_read_45 : decode cX7_read 45 = .ok (.iconst 0, 1) := by decide +kernel
theorem dX7_read_46 : decode cX7_read 46 = .ok (.putfield 41, 3) := by decide +kernel
theorem dX7_read_49 : decode cX7_read 49 = .ok (.aload_n 0, 1) := by decide +kernel
theorem dX7_read_50 : decode cX7_read 50 = .ok (.iconst (-1), 1) := by decide +kernel
theorem dX7_read_51 : decode cX7_read 51 = .ok (.putfield 44, 3) := by decide +kernel
theorem dX7_read_54 : decode cX7_read 54 = .ok (.aload_n 0, 1) := by decide +kernel
theorem dX7_read_55 : decode cX7_read 55 = .ok (.iconst 0, 1) := by decide +kernel
theorem dX7_read_56 : decode cX7_read 56 = .ok (.putfield 47, 3) := by decide +kernel
theorem dX7_read_59 : decode cX7_read 59 = .ok (.aload_n 0, 1) := by decide +kernel
theorem dX7_read_60 : decode cX7_read 60 = .ok (.iconst 0, 1) := by decide +kernel
theorem dX7_read_61 : decode cX7_read 61 = .ok (.putfield 50, 3) := by decide +kernel
theorem dX7_read_64 : decode cX7_read 64 = .ok (.aload_n 0, 1) := by decide +kernel
theorem dX7_read_65 : decode cX7_read 65 = .ok (.getfield 24, 3) := by decide +kernel
theorem dX7_read_68 : decode cX7_read 68 = .ok (.iconst (-1), 1) := by decide +kernel
theorem dX7_read_69 : decode cX7_read 69 = .ok (.invokestatic 54, 3) := by decide +kernel
theorem dX7_read_72 : decode cX7_read 72 = .ok (.aload_n 0, 1) := by decide +kernel
theorem dX7_read_73 : decode cX7_read 73 = .ok (.getfield 27, 3) := by decide +kernel
theorem dX7_read_76 : decode cX7_read 76 = .ok (.iconst (-1), 1) := by decide +kernel
theorem dX7_read_77 : decode cX7_read 77 = .ok (.invokestatic 54, 3) := by decide +kernel
theorem dX7_read_80 : decode cX7_read 80 = .ok (.iconst 0, 1) := by decide +kernel
theorem dX7_read_81 : decode cX7_read 81 = .ok (.istore_n 3, 1) := by decide +kernel
theorem dX7_read_82 : decode cX7_read 82 = .ok (.iload_n 3, 1) := by decide +kernel
theorem dX7_read_83 : decode cX7_read 83 = .ok (.bipush 10, 2) := by decide +kernel
theorem dX7_read_85 : decode cX7_read 85 = .ok (.if_icmp .gt 31, 3) := by decide +kernel
theorem dX7_read_88 : decode cX7_read 88 = .ok (.aload_n 0, 1) := by decide +kernel
theorem dX7_read_89 : decode cX7_read 89 = .ok (.getfield 38, 3) := by decide +kernel
theorem dX7_read_92 : decode cX7_read 92 = .ok (.sipush 301, 3) := by decide +kernel
theorem dX7_read_95 : decode cX7_read 95 = .ok (.if_icmp .eq 21, 3) := by decide +kernel
theorem dX7_read_98 : decode cX7_read 98 = .ok (.aload_n 0, 1) := by decide +kernel
theorem dX7_read_99 : decode cX7_read 99 = .ok (.getfield 41, 3) := by decide +kernel
theorem dX7_read_102 : decode cX7_read 102 = .ok (.ifCond .ne 14, 3) := by decide +kernel
theorem dX7_read_105 : decode cX7_read 105 = .ok (.aload_n 0, 1) := by decide +kernel
theorem dX7_read_106 : decode cX7_read 106 = .ok (.iload_n 3, 1) := by decide +kernel
theorem dX7_read_107 : decode cX7_read 107 = .ok (.invokevirtual 59, 3) := by decide +kernel
theorem dX7_read_110 : decode cX7_read 110 = .ok (.iinc 3 1, 3) := by decide +kernel
theorem dX7_read_113 : decode cX7_read 113 = .ok (.goto (-31), 3) := by decide +kernel
theorem dX7_read_116 : decode cX7_read 116 = .ok (.aload_n 0, 1) := by decide +kernel
theorem dX7_read_117 : decode cX7_read 117 = .ok (.getfield 41, 3) := by decide +kernel
theorem dX7_read_120 : decode cX7_read 120 = .ok (.ireturn, 1) := by decide +kernel
theorem wX7_read_L82 {p : Program} {l : Launch} {e : Env} {s : State} {m : MethodId} {args : Array Value} {below : List Frame} {meth : Method} {c : Code} {Y : Nat → ClassId} {D : va_G} {σ : Nat → Nat} {np b0 : Nat} {r : Int32 × Mc} (hE : EOK p s m args meth c cX7_read 4 RX7 Y D σ np b0) (hr : meth.sig.returnType = (some .int)) : ∀ (n : Nat) (M : Mc) (N : Md) (X3 : Int32), fX7_read_L82 n M X3 = some r → Xw p l e (rmD 133) s m args below meth c 4 Y D σ np b0 0 0 (MQ below (QR Y D σ np b0 (some (.int r.1)) r.2 N) args s 0 0 (xA b0)) 82 [(0, .ref (σ (114))), (3, .int X3)] [] M N := by
  intro n
  induction n with
  | zero =>
    intro M N X3 hf
    cases hf
  | succ n ih =>
    intro M N X3 hf
    rw [fX7_read_L82.eq_2] at hf
    refine x_iload_n hE 1 dX7_read_82 rfl rfl ?_
    refine x_bipush hE (nI 10) dX7_read_83 (by decide) ?_
    refine x_icmp_gt hE 116 dX7_read_85 (by decide) hf (fun hf => ?_) (fun hf => ?_)
    · refine x_aload_n hE 0 dX7_read_116 rfl rfl ?_
      refine x_getI hE cl_7 (hE.kd kO_7) (by decide) 5 rfl (by decide) lk_X7_41 dX7_read_117 ?_
      replace hf := Option.some.inj hf
      subst hf
      exact x_ireturn hE (v := M (114) 5) hr rfl dX7_read_120
    · refine x_aload_n hE 0 dX7_read_88 rfl rfl ?_
      refine x_getI hE cl_7 (hE.kd kO_7) (by decide) 4 rfl (by decide) lk_X7_38 dX7_read_89 ?_
      refine x_sipush hE (nI 301) dX7_read_92 (by decide) ?_
      refine x_icmp_eq hE 116 dX7_read_95 (by decide) hf (fun hf => ?_) (fun hf => ?_)
      · refine x_aload_n hE 0 dX7_read_116 rfl rfl ?_
        refine x_getI hE cl_7 (hE.kd kO_7) (by decide) 5 rfl (by decide) lk_X7_41 dX7_read_117 ?_
        replace hf := Option.some.inj hf
        subst hf
        exact x_ireturn hE (v := M (114) 5) hr rfl dX7_read_120
      · refine x_aload_n hE 0 dX7_read_98 rfl rfl ?_
        refine x_getI hE cl_7 (hE.kd kO_7) (by decide) 5 rfl (by decide) lk_X7_41 dX7_read_99 ?_
        refine x_if_ne hE 116 dX7_read_102 (by decide) hf (fun hf => ?_) (fun hf => ?_)
        · refine x_aload_n hE 0 dX7_read_116 rfl rfl ?_
          refine x_getI hE cl_7 (hE.kd kO_7) (by decide) 5 rfl (by decide) lk_X7_41 dX7_read_117 ?_
          replace hf := Option.some.inj hf
          subst hf
          exact x_ireturn hE (v := M (114) 5) hr rfl dX7_read_120
        · refine x_aload_n hE 0 dX7_read_105 rfl rfl ?_
          refine x_iload_n hE 1 dX7_read_106 rfl rfl ?_
          obtain ⟨M14, hc13, hf⟩ := bnd_some hf
          refine x_callV0 hE [.int X3] (rest := []) (c1 := M14) (d1 := N) rfl yokX7_readClause yvX7_readClause lk_X7_59 rfl cl_7 (hE.kd kO_7) (by decide) rfl rfl ⟨Nat.le_of_ble_eq_true rfl, Nat.le_of_ble_eq_true rfl⟩ ⟨Nat.zero_le _, Nat.zero_le _⟩ rfl (Nat.le_of_ble_eq_true rfl) dX7_read_107 (mX7_readClause l hc13) ?_
          refine x_iinc hE 1 (X3 + nI 1) (L' := [(3, .int (X3 + nI 1)), (0, .ref (σ (114)))]) dX7_read_110 rfl rfl (by decide) rfl ?_
          refine x_pick [1, 0] (L' := [(0, .ref (σ (114))), (3, .int (X3 + nI 1))]) rfl ?_
          refine x_goto hE 82 dX7_read_113 (by decide) ?_
          exact ih _ _ _ hf
theorem mX7_read (l : Launch) {Y : Nat → ClassId} {D : va_G} {σ : Nat → Nat} {np b0 : Nat} {M : Mc} {N : Md} {p0 : Int32} {r : Int32 × Mc} (hf : fX7_read M p0 = some r) : Met l yX7_read (.code yX7_read cX7_read 4 (some .int) :: lw_g) (rmD 133) (PR Y D σ np b0 [.ref (σ (114)), .ref (σ (123)), .int p0] M N) (QR Y D σ np b0 (some (.int r.1)) r.2 N) 0 0 (xA b0) := by
  refine x_met (by decide) (Nat.le_of_ble_eq_true rfl) (fun p e s m args below meth c hE hr => ?_)
  unfold fX7_read at hf
  refine x_pick [0, 1, 2] (L' := [(0, .ref (σ (114))), (1, .ref (σ (123))), (2, .int p0)]) rfl ?_
  refine x_aload_n hE 1 dX7_read_0 rfl rfl ?_
  refine x_ifnull hE dX7_read_1 ?_
  refine x_iload_n hE 2 dX7_read_4 rfl rfl ?_
  refine x_if_lt hE 21 dX7_read_5 (by decide) hf (fun hf => ?_) (fun hf => ?_)
  · refine x_iconst hE (nI 1) dX7_read_21 (by decide) ?_
    replace hf := Option.some.inj hf
    subst hf
    exact x_ireturn hE (v := nI 1) hr rfl dX7_read_22
  · refine x_iload_n hE 2 dX7_read_8 rfl rfl ?_
    refine x_aload_n hE 1 dX7_read_9 rfl rfl ?_
    refine x_alen hE (nI 300) (hE.kd kA_123) (Or.inl rfl) rfl dX7_read_10 ?_
    refine x_icmp_gt hE 21 dX7_read_11 (by decide) hf (fun hf => ?_) (fun hf => ?_)
    · refine x_iconst hE (nI 1) dX7_read_21 (by decide) ?_
      replace hf := Option.some.inj hf
      subst hf
      exact x_ireturn hE (v := nI 1) hr rfl dX7_read_22
    · refine x_iload_n hE 2 dX7_read_14 rfl rfl ?_
      refine x_sipush hE (nI 300) dX7_read_15 (by decide) ?_
      refine x_icmp_le hE 23 dX7_read_18 (by decide) hf (fun hf => ?_) (fun hf => ?_)
      · refine x_aload_n hE 0 dX7_read_23 rfl rfl ?_
        refine x_aload_n hE 1 dX7_read_24 rfl rfl ?_
        refine x_iload_n hE 2 dX7_read_25 rfl rfl ?_
        obtain ⟨M2, hc1, hf⟩ := bnd_some hf
        refine x_callV0 hE [.ref (σ (123)), .int p0] (rest := []) (c1 := M2) (d1 := N) rfl yokX7_split yvX7_split lk_X7_30 rfl cl_7 (hE.kd kO_7) (by decide) rfl rfl ⟨Nat.le_of_ble_eq_true rfl, Nat.le_of_ble_eq_true rfl⟩ ⟨Nat.zero_le _, Nat.zero_le _⟩ rfl (Nat.le_of_ble_eq_true rfl) dX7_read_26 (mX7_split l hc1) ?_
        refine x_aload_n hE 0 dX7_read_29 rfl rfl ?_
        refine x_iconst hE (0 : Int32) dX7_read_30 (by decide) ?_
        refine x_putI hE cl_7 (hE.kd kO_7) (by decide) 3 rfl (by decide) lk_X7_34 rfl rfl rfl rfl dX7_read_31 hf (fun M3 hf => ?_)
        refine x_aload_n hE 0 dX7_read_34 rfl rfl ?_
        refine x_aload_n hE 0 dX7_read_35 rfl rfl ?_
        refine x_getR hE cl_7 (hE.kd kO_7) (by decide) 0 (115) rfl (by decide) lk_X7_11 dX7_read_36 ?_
        refine x_iconst hE (0 : Int32) dX7_read_39 (by decide) ?_
        refine x_iald hE (hE.kd kA_115) dX7_read_40 hf (fun hf => ?_)
        refine x_putI hE cl_7 (hE.kd kO_7) (by decide) 4 rfl (by decide) lk_X7_38 rfl rfl rfl rfl dX7_read_41 hf (fun M4 hf => ?_)
        refine x_aload_n hE 0 dX7_read_44 rfl rfl ?_
        refine x_iconst hE (0 : Int32) dX7_read_45 (by decide) ?_
        refine x_putI hE cl_7 (hE.kd kO_7) (by decide) 5 rfl (by decide) lk_X7_41 rfl rfl rfl rfl dX7_read_46 hf (fun M5 hf => ?_)
        refine x_aload_n hE 0 dX7_read_49 rfl rfl ?_
        refine x_iconst hE (-1) dX7_read_50 (by decide) ?_
        refine x_putI hE cl_7 (hE.kd kO_7) (by decide) 6 rfl (by decide) lk_X7_44 rfl rfl rfl rfl dX7_read_51 hf (fun M6 hf => ?_)
        refine x_aload_n hE 0 dX7_read_54 rfl rfl ?_
        refine x_iconst hE (0 : Int32) dX7_read_55 (by decide) ?_
        refine x_putI hE cl_7 (hE.kd kO_7) (by decide) 8 rfl (by decide) lk_X7_47 rfl rfl rfl rfl dX7_read_56 hf (fun M7 hf => ?_)
        refine x_aload_n hE 0 dX7_read_59 rfl rfl ?_
        refine x_iconst hE (0 : Int32) dX7_read_60 (by decide) ?_
        refine x_putI hE cl_7 (hE.kd kO_7) (by decide) 11 rfl (by decide) lk_X7_50 rfl rfl rfl rfl dX7_read_61 hf (fun M8 hf => ?_)
        refine x_aload_n hE 0 dX7_read_64 rfl rfl ?_
        refine x_getR hE cl_7 (hE.kd kO_7) (by decide) 9 (119) rfl (by decide) lk_X7_24 dX7_read_65 ?_
        refine x_iconst hE (-1) dX7_read_68 (by decide) ?_
        obtain ⟨M10, hc9, hf⟩ := bnd_some hf
        refine x_callS0 hE [.ref (σ (119)), .int (-1)] (rest := []) (c1 := M10) (d1 := N) rfl yokJ7_fill_53178 ysJ7_fill_53178 lk_X7_54 rfl rfl ⟨Nat.le_of_ble_eq_true rfl, Nat.le_of_ble_eq_true rfl⟩ ⟨Nat.zero_le _, Nat.zero_le _⟩ rfl (Nat.le_of_ble_eq_true rfl) dX7_read_69 (mJ7_fill_53178 l kA_119 hc9) ?_
        refine x_aload_n hE 0 dX7_read_72 rfl rfl ?_
        refine x_getR hE cl_7 (hE.kd kO_7) (by decide) 10 (120) rfl (by decide) lk_X7_27 dX7_read_73 ?_
        refine x_iconst hE (-1) dX7_read_76 (by decide) ?_
        obtain ⟨M12, hc11, hf⟩ := bnd_some hf
        refine x_callS0 hE [.ref (σ (120)), .int (-1)] (rest := []) (c1 := M12) (d1 := N) rfl yokJ7_fill_53178 ysJ7_fill_53178 lk_X7_54 rfl rfl ⟨Nat.le_of_ble_eq_true rfl, Nat.le_of_ble_eq_true rfl⟩ ⟨Nat.zero_le _, Nat.zero_le _⟩ rfl (Nat.le_of_ble_eq_true rfl) dX7_read_77 (mJ7_fill_53178 l kA_120 hc11) ?_
        refine x_iconst hE (0 : Int32) dX7_read_80 (by decide) ?_
        refine x_istore_n hE (L' := [(3, .int 0), (0, .ref (σ (114))), (1, .ref (σ (123))), (2, .int p0)]) dX7_read_81 rfl (by decide) rfl ?_
        refine x_pick [1, 2, 3, 0] (L' := [(0, .ref (σ (114))), (1, .ref (σ (123))), (2, .int p0), (3, .int 0)]) rfl ?_
        refine x_pick [0, 3] (L' := [(0, .ref (σ (114))), (3, .int 0)]) rfl ?_
        exact wX7_read_L82 hE hr  FU _ _ _ hf
      · refine x_iconst hE (nI 1) dX7_read_21 (by decide) ?_
        replace hf := Option.some.inj hf
        subst hf
        exact x_ireturn hE (v := nI 1) hr rfl dX7_read_22
theorem yokX7_read : YOK yX7_read cX7_read 4 2 (some .int) := ⟨mem_g 1323 (by decide +kernel) (by decide +kernel), mem_g 141 (by decide +kernel) (by decide +kernel), by decide +kernel, by decide +kernel, by decide +kernel⟩
theorem yvX7_read : YV yX7_read := ⟨mem_g 1321 (by decide +kernel) (by decide +kernel), mem_g 1322 (by decide +kernel) (by decide +kernel)⟩
