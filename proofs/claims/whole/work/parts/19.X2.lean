theorem lk_X2_46 : Cond.fieldLink RX2 46 (TX2 1).1 (TX2 1).2.1 (TX2 1).2.2.1 ∈ lw_g := mem_g 363 (by decide +kernel) (by decide +kernel)
theorem lk_X2_50 : Cond.fieldLink RX2 50 (TX2 2).1 (TX2 2).2.1 (TX2 2).2.2.1 ∈ lw_g := mem_g 365 (by decide +kernel) (by decide +kernel)
theorem lk_X2_9 : Cond.fieldLink RX2 9 (TX2 3).1 (TX2 3).2.1 (TX2 3).2.2.1 ∈ lw_g := mem_g 369 (by decide +kernel) (by decide +kernel)
theorem lk_X2_53 : Cond.methodLink RX2 53 arraycopyName ∈ lw_g := mem_g 1063 (by decide +kernel) (by decide +kernel)
theorem lk_X2_15 : Cond.fieldLink RX2 15 (TX2 4).1 (TX2 4).2.1 (TX2 4).2.2.1 ∈ lw_g := mem_g 370 (by decide +kernel) (by decide +kernel)
theorem lk_X2_18 : Cond.fieldLink RX2 18 (TX2 5).1 (TX2 5).2.1 (TX2 5).2.2.1 ∈ lw_g := mem_g 371 (by decide +kernel) (by decide +kernel)
theorem lk_X2_21 : Cond.fieldLink RX2 21 (TX2 6).1 (TX2 6).2.1 (TX2 6).2.2.1 ∈ lw_g := mem_g 372 (by decide +kernel) (by decide +kernel)
theorem dX2_copyFrom_0 : decode cX2_copyFrom 0 = .ok (.aload_n 1, 1) := by decide +kernel
theorem dX2_copyFrom_1 : decode cX2_copyFrom 1 = .ok (.ifnonnull 4, 3) := by decide +kernel
theorem dX2_copyFrom_4 : decode cX2_copyFrom 4 = .ok (.return_, 1) := by decide +kernel
theorem dX2_copyFrom_5 : decode cX2_copyFrom 5 = .ok (.aload_n 0, 1) := by decide +kernel
theorem dX2_copyFrom_6 : decode cX2_copyFrom 6 = .ok (.aload_n 1, 1) := by decide +kernel
theorem dX2_copyFrom_7 : decode cX2_copyFrom 7 = .ok (.getfield 46, 3) := by decide +kernel
theorem dX2_copyFrom_10 : decode cX2_copyFrom 10 = .ok (.putfield 46, 3) := by decide +kernel
theorem dX2_copyFrom_13 : decode cX2_copyFrom 13 = .ok (.aload_n 0, 1) := by decide +kernel
theorem dX2_copyFrom_14 : decode cX2_copyFrom 14 = .ok (.aload_n 1, 1) := by decide +kernel
theorem dX2_copyFrom_15 : decode cX2_copyFrom 15 = .ok (.getfield 50, 3) := by decide +kernel
theorem dX2_copyFrom_18 : decode cX2_copyFrom 18 = .ok (.putfield 50, 3) := by decide +kernel
theorem dX2_copyFrom_21 : decode cX2_copyFrom 21 = .ok (.aload_n 1, 1) := by decide +kernel
theorem dX2_copyFrom_22 : decode cX2_copyFrom 22 = .ok (.getfield 9, 3) := by decide +kernel
theorem dX2_copyFrom_25 : decode cX2_copyFrom 25 = .ok (.iconst 0, 1) := by decide +kernel
theorem dX2_copyFrom_26 : decode cX2_copyFrom 26 = .ok (.aload_n 0, 1) := by decide +kernel
theorem dX2_copyFrom_27 : decode cX2_copyFrom 27 = .ok (.getfield 9, 3) := by decide +kernel
theorem dX2_copyFrom_30 : decode cX2_copyFrom 30 = .ok (.iconst 0, 1) := by decide +kernel
theorem dX2_copyFrom_31 : decode cX2_copyFrom 31 = .ok (.bipush 12, 2) := by decide +kernel
theorem dX2_copyFrom_33 : decode cX2_copyFrom 33 = .ok (.invokestatic 53, 3) := by decide +kernel
theorem dX2_copyFrom_36 : decode cX2_copyFrom 36 = .ok (.aload_n 1, 1) := by decide +kernel
theorem dX2_copyFrom_37 : decode cX2_copyFrom 37 = .ok (.getfield 15, 3) := by decide +kernel
theorem dX2_copyFrom_40 : decode cX2_copyFrom 40 = .ok (.iconst 0, 1) := by decide +kernel
theorem dX2_copyFrom_41 : decode cX2_copyFrom 41 = .ok (.aload_n 0, 1) := by decide +kernel
theorem dX2_copyFrom_42 : decode cX2_copyFrom 42 = .ok (.getfield 15, 3) := by decide +kernel
theorem dX2_copyFrom_45 : decode cX2_copyFrom 45 = .ok (.iconst 0, 1) := by decide +kernel
theorem dX2_copyFrom_46 : decode cX2_copyFrom 46 = .ok (.bipush 12, 2) := by decide +kernel
theorem dX2_copyFrom_48 : decode cX2_copyFrom 48 = .ok (.invokestatic 53, 3) := by decide +kernel
theorem dX2_copyFrom_51 : decode cX2_copyFrom 51 = .ok (.aload_n 1, 1) := by decide +kernel
theorem dX2_copyFrom_52 : decode cX2_copyFrom 52 = .ok (.getfield 18, 3) := by decide +kernel
theorem dX2_copyFrom_55 : decode cX2_copyFrom 55 = .ok (.iconst 0, 1) := by decide +kernel
theorem dX2_copyFrom_56 : decode cX2_copyFrom 56 = .ok (.aload_n 0, 1) := by decide +kernel
theorem dX2_copyFrom_57 : decode cX2_copyFrom 57 = .ok (.getfield 18, 3) := by decide +kernel
theorem dX2_copyFrom_60 : decode cX2_copyFrom 60 = .ok (.iconst 0, 1) := by decide +kernel
theorem dX2_copyFrom_61 : decode cX2_copyFrom 61 = .ok (.bipush 12, 2) := by decide +kernel
theorem dX2_copyFrom_63 : decode cX2_copyFrom 63 = .ok (.invokestatic 53, 3) := by decide +kernel
theorem dX2_copyFrom_66 : decode cX2_copyFrom 66 = .ok (.aload_n 1, 1) := by decide +kernel
theorem dX2_copyFrom_67 : decode cX2_copyFrom 67 = .ok (.getfield 21, 3) := by decide +kernel
theorem dX2_copyFrom_70 : decode cX2_copyFrom 70 = .ok (.iconst 0, 1) := by decide +kernel
theorem dX2_copyFrom_71 : decode cX2_copyFrom 71 = .ok (.aload_n 0, 1) := by decide +kernel
theorem dX2_copyFrom_72 : decode cX2_copyFrom 72 = .ok (.getfield 21, 3) := by decide +kernel
theorem dX2_copyFrom_75 : decode cX2_copyFrom 75 = .ok (.iconst 0, 1) := by decide +kernel
theorem dX2_copyFrom_76 : decode cX2_copyFrom 76 = .ok (.bipush 12, 2) := by decide +kernel
theorem dX2_copyFrom_78 : decode cX2_copyFrom 78 = .ok (.invokestatic 53, 3) := by decide +kernel
theorem dX2_copyFrom_81 : decode cX2_copyFrom 81 = .ok (.return_, 1) := by decide +kernel
theorem mX2_copyFrom (l : Launch) {Y : Nat → ClassId} {D : va_G} {σ : Nat → Nat} {np b0 : Nat} {M : Mc} {N : Md} {co : Nat} {co2 : Nat} {r : Mc} (hco : is2 co) (hco2 : is2 co2) (hf : fX2_copyFrom M co co2 = some r) : Met l yX2_copyFrom (.code yX2_copyFrom cX2_copyFrom 2 none :: lw_g) (rmD 4) (PR Y D σ np b0 [.ref (σ co), .ref (σ co2)] M N) (QR Y D σ np b0 none r N) 0 0 (xA b0) := by
  refine x_met (by decide) (Nat.le_of_ble_eq_true rfl) (fun p e s m args below meth c hE hr => ?_)
  unfold fX2_copyFrom at hf
  refine x_pick [0, 1] (L' := [(0, .ref (σ co)), (1, .ref (σ co2))]) rfl ?_
  refine x_aload_n hE 1 dX2_copyFrom_0 rfl rfl ?_
  refine x_ifnonnull hE 5 dX2_copyFrom_1 (by decide) ?_
  refine x_aload_n hE 0 dX2_copyFrom_5 rfl rfl ?_
  refine x_aload_n hE 1 dX2_copyFrom_6 rfl rfl ?_
  refine x_getI hE cl_2 (hE.kd (kO_2 hco2)) (by decide) 1 rfl (by decide) lk_X2_46 dX2_copyFrom_7 ?_
  refine x_putI hE cl_2 (hE.kd (kO_2 hco)) (by decide) 1 rfl (by decide) lk_X2_46 rfl rfl rfl rfl dX2_copyFrom_10 hf (fun M1 hf => ?_)
  refine x_aload_n hE 0 dX2_copyFrom_13 rfl rfl ?_
  refine x_aload_n hE 1 dX2_copyFrom_14 rfl rfl ?_
  refine x_getI hE cl_2 (hE.kd (kO_2 hco2)) (by decide) 2 rfl (by decide) lk_X2_50 dX2_copyFrom_15 ?_
  refine x_putI hE cl_2 (hE.kd (kO_2 hco)) (by decide) 2 rfl (by decide) lk_X2_50 rfl rfl rfl rfl dX2_copyFrom_18 hf (fun M2 hf => ?_)
  refine x_aload_n hE 1 dX2_copyFrom_21 rfl rfl ?_
  refine x_getR hE cl_2 (hE.kd (kO_2 hco2)) (by decide) 3 (co2 + 1) rfl (by decide) lk_X2_9 dX2_copyFrom_22 ?_
  refine x_iconst hE (0 : Int32) dX2_copyFrom_25 (by decide) ?_
  refine x_aload_n hE 0 dX2_copyFrom_26 rfl rfl ?_
  refine x_getR hE cl_2 (hE.kd (kO_2 hco)) (by decide) 3 (co + 1) rfl (by decide) lk_X2_9 dX2_copyFrom_27 ?_
  refine x_iconst hE (0 : Int32) dX2_copyFrom_30 (by decide) ?_
  refine x_bipush hE (nI 12) dX2_copyFrom_31 (by decide) ?_
  refine x_copy hE (hE.kd (kB_2_3 hco2)) (hE.kd (kB_2_3 hco)) lk_X2_53 (Nat.le_of_ble_eq_true rfl) dX2_copyFrom_33 hf (fun M3 hf => ?_)
  refine x_aload_n hE 1 dX2_copyFrom_36 rfl rfl ?_
  refine x_getR hE cl_2 (hE.kd (kO_2 hco2)) (by decide) 4 (co2 + 2) rfl (by decide) lk_X2_15 dX2_copyFrom_37 ?_
  refine x_iconst hE (0 : Int32) dX2_copyFrom_40 (by decide) ?_
  refine x_aload_n hE 0 dX2_copyFrom_41 rfl rfl ?_
  refine x_getR hE cl_2 (hE.kd (kO_2 hco)) (by decide) 4 (co + 2) rfl (by decide) lk_X2_15 dX2_copyFrom_42 ?_
  refine x_iconst hE (0 : Int32) dX2_copyFrom_45 (by decide) ?_
  refine x_bipush hE (nI 12) dX2_copyFrom_46 (by decide) ?_
  refine x_copy hE (hE.kd (kB_2_4 hco2)) (hE.kd (kB_2_4 hco)) lk_X2_53 (Nat.le_of_ble_eq_true rfl) dX2_copyFrom_48 hf (fun M4 hf => ?_)
  refine x_aload_n hE 1 dX2_copyFrom_51 rfl rfl ?_
  refine x_getR hE cl_2 (hE.kd (kO_2 hco2)) (by decide) 5 (co2 + 3) rfl (by decide) lk_X2_18 dX2_copyFrom_52 ?_
  refine x_iconst hE (0 : Int32) dX2_copyFrom_55 (by decide) ?_
  refine x_aload_n hE 0 dX2_copyFrom_56 rfl rfl ?_
  refine x_getR hE cl_2 (hE.kd (kO_2 hco)) (by decide) 5 (co + 3) rfl (by decide) lk_X2_18 dX2_copyFrom_57 ?_
  refine x_iconst hE (0 : Int32) dX2_copyFrom_60 (by decide) ?_
  refine x_bipush hE (nI 12) dX2_copyFrom_61 (by decide) ?_
  refine x_copy hE (hE.kd (kB_2_5 hco2)) (hE.kd (kB_2_5 hco)) lk_X2_53 (Nat.le_of_ble_eq_true rfl) dX2_copyFrom_63 hf (fun M5 hf => ?_)
  refine x_aload_n hE 1 dX2_copyFrom_66 rfl rfl ?_
  refine x_getR hE cl_2 (hE.kd (kO_2 hco2)) (by decide) 6 (co2 + 4) rfl (by decide) lk_X2_21 dX2_copyFrom_67 ?_
  refine x_iconst hE (0 : Int32) dX2_copyFrom_70 (by decide) ?_
  refine x_aload_n hE 0 dX2_copyFrom_71 rfl rfl ?_
  refine x_getR hE cl_2 (hE.kd (kO_2 hco)) (by decide) 6 (co + 4) rfl (by decide) lk_X2_21 dX2_copyFrom_72 ?_
  refine x_iconst hE (0 : Int32) dX2_copyFrom_75 (by decide) ?_
  refine x_bipush hE (nI 12) dX2_copyFrom_76 (by decide) ?_
  refine x_copy hE (hE.kd (kB_2_6 hco2)) (hE.kd (kB_2_6 hco)) lk_X2_53 (Nat.le_of_ble_eq_true rfl) dX2_copyFrom_78 hf (fun M6 hf => ?_)
  replace hf := Option.some.inj hf
  subst hf
  exact x_vreturn hE hr dX2_copyFrom_81
theorem yokX2_copyFrom : YOK yX2_copyFrom cX2_copyFrom 2 1 none := ⟨mem_g 1062 (by decide +kernel) (by decide +kernel), mem_g 139 (by decide +kernel) (by decide +kernel), by decide +kernel, by decide +kernel, by decide +kernel⟩
theorem yvX2_copyFrom : YV yX2_copyFrom := ⟨mem_g 1060 (by decide +kernel) (by decide +kernel), mem_g 1061 (by decide +kernel) (by decide +kernel)⟩
theorem lk_X2_59 : Cond.methodLinkNest RX2 59 yX11_inside "SettlerColony" ∈ lw_nw := mem_n 1515 (by decide +kernel) rfl
theorem dX2_stateOf_0 : decode cX2_stateOf 0 = .ok (.iload_n 1, 1) := by decide +kernel
theorem dX2_stateOf_1 : decode cX2_stateOf 1 = .ok (.bipush 12, 2) := by decide +kernel
theorem dX2_stateOf_3 : decode cX2_stateOf 3 = .ok (.invokestatic 59, 3) := by decide +kernel
theorem dX2_stateOf_6 : decode cX2_stateOf 6 = .ok (.ifCond .eq 12, 3) := by decide +kernel
theorem dX2_stateOf_9 : decode cX2_stateOf 9 = .ok (.aload_n 0, 1) := by decide +kernel
theorem dX2_stateOf_10 : decode cX2_stateOf 10 = .ok (.getfield 9, 3) := by decide +kernel
theorem dX2_stateOf_13 : decode cX2_stateOf 13 = .ok (.iload_n 1, 1) := by decide +kernel
theorem dX2_stateOf_14 : decode cX2_stateOf 14 = .ok (.iaload, 1) := by decide +kernel
theorem dX2_stateOf_15 : decode cX2_stateOf 15 = .ok (.goto 4, 3) := by decide +kernel
theorem dX2_stateOf_18 : decode cX2_stateOf 18 = .ok (.iconst (-1), 1) := by decide +kernel
theorem dX2_stateOf_19 : decode cX2_stateOf 19 = .ok (.ireturn, 1) := by decide +kernel
theorem mX2_stateOf (l : Launch) {Y : Nat → ClassId} {D : va_G} {σ : Nat → Nat} {np b0 : Nat} {M : Mc} {N : Md} {co : Nat} {p0 : Int32} {r : Int32} (hco : is2 co) (hf : fX2_stateOf M co p0 = some r) : Met l yX2_stateOf (.code yX2_stateOf cX2_stateOf 2 (some .int) :: lw_g) (rmD 2) (PR Y D σ np b0 [.ref (σ co), .int p0] M N) (QR Y D σ np b0 (some (.int r)) M N) 0 0 (xA b0) := by
  refine x_met (by decide) (Nat.le_of_ble_eq_true rfl) (fun p e s m args below meth c hE hr => ?_)
  unfold fX2_stateOf at hf
  refine x_pick [0, 1] (L' := [(0, .ref (σ co)), (1, .int p0)]) rfl ?_
  refine x_iload_n hE 1 dX2_stateOf_0 rfl rfl ?_
  refine x_bipush hE (nI 12) dX2_stateOf_1 (by decide) ?_
  obtain ⟨v2, hc1, hf⟩ := bnd_some hf
  refine x_callSN1 hE [.int p0, .int (nI 12)] (rest := []) (v := .int v2) (c1 := M) (d1 := N) rfl yokX11_inside ysX11_inside lk_X2_59 rfl rfl ⟨Nat.le_of_ble_eq_true rfl, Nat.le_of_ble_eq_true rfl⟩ ⟨Nat.zero_le _, Nat.zero_le _⟩ rfl (Nat.le_of_ble_eq_true rfl) dX2_stateOf_3 (mX11_inside l hc1) ?_
  refine x_if_eq hE 18 dX2_stateOf_6 (by decide) hf (fun hf => ?_) (fun hf => ?_)
  · refine x_iconst hE (-1) dX2_stateOf_18 (by decide) ?_
    replace hf := Option.some.inj hf
    subst hf
    exact x_ireturn hE (v := (-1)) hr rfl dX2_stateOf_19
  · refine x_aload_n hE 0 dX2_stateOf_9 rfl rfl ?_
    refine x_getR hE cl_2 (hE.kd (kO_2 hco)) (by decide) 3 (co + 1) rfl (by decide) lk_X2_9 dX2_stateOf_10 ?_
    refine x_iload_n hE 1 dX2_stateOf_13 rfl rfl ?_
    refine x_iald hE (hE.kd (kB_2_3 hco)) dX2_stateOf_14 hf (fun hf => ?_)
    refine x_goto hE 19 dX2_stateOf_15 (by decide) ?_
    replace hf := Option.some.inj hf
    subst hf
    exact x_ireturn hE (v := M (co + 1) p0.toNatClampNeg) hr rfl dX2_stateOf_19
theorem yokX2_stateOf : YOK yX2_stateOf cX2_stateOf 2 1 (some .int) := ⟨mem_g 1530 (by decide +kernel) (by decide +kernel), mem_g 139 (by decide +kernel) (by decide +kernel), by decide +kernel, by decide +kernel, by decide +kernel⟩
theorem yvX2_stateOf : YV yX2_stateOf := ⟨mem_g 1528 (by decide +kernel) (by decide +kernel), mem_g 1529 (by decide +kernel) (by decide +kernel)⟩
theorem lk_X2_30 : Cond.fieldLink RX2 30 (TX2 9).1 (TX2 9).2.1 (TX2 9).2.2.1 ∈ lw_g := mem_g 375 (by decide +kernel) (by decide +kernel)
theorem dX2_hasVoted_0 : decode cX2_hasVoted 0 = .ok (.iload_n 1, 1) := by decide +kernel
theorem dX2_hasVoted_1 : decode cX2_hasVoted 1 = .ok (.bipush 100, 2) := by decide +kernel
theorem dX2_hasVoted_3 : decode cX2_hasVoted 3 = .ok (.imul, 1) := by decide +kernel
theorem dX2_hasVoted_4 : decode cX2_hasVoted 4 = .ok (.iload_n 2, 1) := by decide +kernel
theorem dX2_hasVoted_5 : decode cX2_hasVoted 5 = .ok (.iadd, 1) := by decide +kernel
theorem dX2_hasVoted_6 : decode cX2_hasVoted 6 = .ok (.istore_n 3, 1) := by decide +kernel
theorem dX2_hasVoted_7 : decode cX2_hasVoted 7 = .ok (.iload_n 3, 1) := by decide +kernel
theorem dX2_hasVoted_8 : decode cX2_hasVoted 8 = .ok (.aload_n 0, 1) := by decide +kernel
theorem dX2_hasVoted_9 : decode cX2_hasVoted 9 = .ok (.getfield 30, 3) := by decide +kernel
theorem dX2_hasVoted_12 : decode cX2_hasVoted 12 = .ok (.arraylength, 1) := by decide +kernel
theorem dX2_hasVoted_13 : decode cX2_hasVoted 13 = .ok (.invokestatic 59, 3) := by decide +kernel
theorem dX2_hasVoted_16 : decode cX2_hasVoted 16 = .ok (.ifCond .eq 16, 3) := by decide +kernel
theorem dX2_hasVoted_19 : decode cX2_hasVoted 19 = .ok (.aload_n 0, 1) := by decide +kernel
theorem dX2_hasVoted_20 : decode cX2_hasVoted 20 = .ok (.getfield 30, 3) := by decide +kernel
theorem dX2_hasVoted_23 : decode cX2_hasVoted 23 = .ok (.iload_n 3, 1) := by decide +kernel
theorem dX2_hasVoted_24 : decode cX2_hasVoted 24 = .ok (.baload, 1) := by decide +kernel
theorem dX2_hasVoted_25 : decode cX2_hasVoted 25 = .ok (.ifCond .eq 7, 3) := by decide +kernel
theorem dX2_hasVoted_28 : decode cX2_hasVoted 28 = .ok (.iconst 1, 1) := by decide +kernel
theorem dX2_hasVoted_29 : decode cX2_hasVoted 29 = .ok (.goto 4, 3) := by decide +kernel
theorem dX2_hasVoted_32 : decode cX2_hasVoted 32 = .ok (.iconst 0, 1) := by decide +kernel
theorem dX2_hasVoted_33 : decode cX2_hasVoted 33 = .ok (.ireturn, 1) := by decide +kernel
theorem mX2_hasVoted (l : Launch) {Y : Nat → ClassId} {D : va_G} {σ : Nat → Nat} {np b0 : Nat} {M : Mc} {N : Md} {co : Nat} {p0 : Int32} {p1 : Int32} {r : Int32} (hco : is2 co) (hf : fX2_hasVoted M co p0 p1 = some r) : Met l yX2_hasVoted (.code yX2_hasVoted cX2_hasVoted 4 (some .boolean) :: lw_g) (rmD 2) (PR Y D σ np b0 [.ref (σ co), .int p0, .int p1] M N) (QR Y D σ np b0 (some (.int r)) M N) 0 0 (xA b0) := by
  refine x_met (by decide) (Nat.le_of_ble_eq_true rfl) (fun p e s m args below meth c hE hr => ?_)
  unfold fX2_hasVoted at hf
  refine x_pick [0, 1, 2] (L' := [(0, .ref (σ co)), (1, .int p0), (2, .int p1)]) rfl ?_
  refine x_iload_n hE 1 dX2_hasVoted_0 rfl rfl ?_
  refine x_bipush hE (nI 100) dX2_hasVoted_1 (by decide) ?_
  refine x_imul hE dX2_hasVoted_3 ?_
  refine x_iload_n hE 2 dX2_hasVoted_4 rfl rfl ?_
  refine x_iadd hE dX2_hasVoted_5 ?_
  refine x_ltI hf (fun v1 hf => ?_)
  refine x_istore_n hE (L' := [(3, .int v1), (0, .ref (σ co)), (1, .int p0), (2, .int p1)]) dX2_hasVoted_6 rfl (by decide) rfl ?_
  refine x_pick [1, 2, 3, 0] (L' := [(0, .ref (σ co)), (1, .int p0), (2, .int p1), (3, .int v1)]) rfl ?_
  refine x_iload_n hE 3 dX2_hasVoted_7 rfl rfl ?_
  refine x_aload_n hE 0 dX2_hasVoted_8 rfl rfl ?_
  refine x_getR hE cl_2 (hE.kd (kO_2 hco)) (by decide) 9 (co + 7) rfl (by decide) lk_X2_30 dX2_hasVoted_9 ?_
  refine x_alen hE (nI 1200) (hE.kd (kB_2_9 hco)) (Or.inr (Or.inl rfl)) rfl dX2_hasVoted_12 ?_
  obtain ⟨v3, hc2, hf⟩ := bnd_some hf
  refine x_callSN1 hE [.int v1, .int (nI 1200)] (rest := []) (v := .int v3) (c1 := M) (d1 := N) rfl yokX11_inside ysX11_inside lk_X2_59 rfl rfl ⟨Nat.le_of_ble_eq_true rfl, Nat.le_of_ble_eq_true rfl⟩ ⟨Nat.zero_le _, Nat.zero_le _⟩ rfl (Nat.le_of_ble_eq_true rfl) dX2_hasVoted_13 (mX11_inside l hc2) ?_
  refine x_if_eq hE 32 dX2_hasVoted_16 (by decide) hf (fun hf => ?_) (fun hf => ?_)
  · refine x_iconst hE (0 : Int32) dX2_hasVoted_32 (by decide) ?_
    replace hf := Option.some.inj hf
    subst hf
    exact x_ireturn hE (v := 0) hr rfl dX2_hasVoted_33
  · refine x_aload_n hE 0 dX2_hasVoted_19 rfl rfl ?_
    refine x_getR hE cl_2 (hE.kd (kO_2 hco)) (by decide) 9 (co + 7) rfl (by decide) lk_X2_30 dX2_hasVoted_20 ?_
    refine x_iload_n hE 3 dX2_hasVoted_23 rfl rfl ?_
    refine x_zald hE (hE.kd (kB_2_9 hco)) dX2_hasVoted_24 hf (fun hf => ?_)
    refine x_if_eq hE 32 dX2_hasVoted_25 (by decide) hf (fun hf => ?_) (fun hf => ?_)
    · refine x_iconst hE (0 : Int32) dX2_hasVoted_32 (by decide) ?_
      replace hf := Option.some.inj hf
      subst hf
      exact x_ireturn hE (v := 0) hr rfl dX2_hasVoted_33
    · refine x_iconst hE (nI 1) dX2_hasVoted_28 (by decide) ?_
      refine x_goto hE 33 dX2_hasVoted_29 (by decide) ?_
      replace hf := Option.some.inj hf
      subst hf
      exact x_ireturn hE (v := nI 1) hr rfl dX2_hasVoted_33
theorem yokX2_hasVoted : YOK yX2_hasVoted cX2_hasVoted 4 2 (some .boolean) := ⟨mem_g 1542 (by decide +kernel) (by decide +kernel), mem_g 139 (by decide +kernel) (by decide +kernel), by decide +kernel, by decide +kernel, by decide +kernel⟩
theorem yvX2_hasVoted : YV yX2_hasVoted := ⟨mem_g 1540 (by decide +kernel) (by decide +kernel), mem_g 1541 (by decide +kernel) (by decide +kernel)⟩
theorem lk_X2_27 : Cond.fieldLink RX2 27 (TX2 8).1 (TX2 8).2.1 (TX2 8).2.2.1 ∈ lw_g := mem_g 374 (by decide +kernel) (by decide +kernel)
theorem lk_X2_24 : Cond.fieldLink RX2 24 (TX2 7).1 (TX2 7).2.1 (TX2 7).2.2.1 ∈ lw_g := mem_g 373 (by decide +kernel) (by decide +kernel)
theorem dX2_hearVote_0 : decode cX2_hearVote 0 = .ok (.iload_n 1, 1) := by decide +kernel
theorem dX2_hearVote_1 : decode cX2_hearVote 1 = .ok (.bipush 100, 2) := by decide +kernel
theorem dX2_hearVote_3 : decode cX2_hearVote 3 = .ok (.imul, 1) := by decide +kernel
theorem dX2_hearVote_4 : decode cX2_hearVote 4 = .ok (.iload_n 2, 1) := by decide +kernel
theorem dX2_hearVote_5 : decode cX2_hearVote 5 = .ok (.iadd, 1) := by decide +kernel
theorem dX2_hearVote_6 : decode cX2_hearVote 6 = .ok (.istore 4, 2) := by decide +kernel
theorem dX2_hearVote_8 : decode cX2_hearVote 8 = .ok (.iload_n 1, 1) := by decide +kernel
theorem dX2_hearVote_9 : decode cX2_hearVote 9 = .ok (.bipush 12, 2) := by decide +kernel
theorem dX2_hearVote_11 : decode cX2_hearVote 11 = .ok (.invokestatic 59, 3) := by decide +kernel
theorem dX2_hearVote_14 : decode cX2_hearVote 14 = .ok (.ifCond .eq 16, 3) := by decide +kernel
theorem dX2_hearVote_17 : decode cX2_hearVote 17 = .ok (.iload 4, 2) := by decide +kernel
theorem dX2_hearVote_19 : decode cX2_hearVote 19 = .ok (.aload_n 0, 1) := by decide +kernel
theorem dX2_hearVote_20 : decode cX2_hearVote 20 = .ok (.getfield 30, 3) := by decide +kernel
theorem dX2_hearVote_23 : decode cX2_hearVote 23 = .ok (.arraylength, 1) := by decide +kernel
theorem dX2_hearVote_24 : decode cX2_hearVote 24 = .ok (.invokestatic 59, 3) := by decide +kernel
theorem dX2_hearVote_27 : decode cX2_hearVote 27 = .ok (.ifCond .ne 5, 3) := by decide +kernel
theorem dX2_hearVote_30 : decode cX2_hearVote 30 = .ok (.iconst 0, 1) := by decide +kernel
theorem dX2_hearVote_31 : decode cX2_hearVote 31 = .ok (.ireturn, 1) := by decide +kernel
theorem dX2_hearVote_32 : decode cX2_hearVote 32 = .ok (.aload_n 0, 1) := by decide +kernel
theorem dX2_hearVote_33 : decode cX2_hearVote 33 = .ok (.getfield 30, 3) := by decide +kernel
theorem dX2_hearVote_36 : decode cX2_hearVote 36 = .ok (.iload 4, 2) := by decide +kernel
theorem dX2_hearVote_38 : decode cX2_hearVote 38 = .ok (.iconst 1, 1) := by decide +kernel
theorem dX2_hearVote_39 : decode cX2_hearVote 39 = .ok (.bastore, 1) := by decide +kernel
theorem dX2_hearVote_40 : decode cX2_hearVote 40 = .ok (.iload_n 3, 1) := by decide +kernel
theorem dX2_hearVote_41 : decode cX2_hearVote 41 = .ok (.ifCond .eq 16, 3) := by decide +kernel
theorem dX2_hearVote_44 : decode cX2_hearVote 44 = .ok (.aload_n 0, 1) := by decide +kernel
theorem dX2_hearVote_45 : decode cX2_hearVote 45 = .ok (.getfield 24, 3) := by decide +kernel
theorem dX2_hearVote_48 : decode cX2_hearVote 48 = .ok (.iload_n 1, 1) := by decide +kernel
theorem dX2_hearVote_49 : decode cX2_hearVote 49 = .ok (.dup2, 1) := by decide +kernel
theorem dX2_hearVote_50 : decode cX2_hearVote 50 = .ok (.iaload, 1) := by decide +kernel
theorem dX2_hearVote_51 : decode cX2_hearVote 51 = .ok (.iconst 1, 1) := by decide +kernel
theorem dX2_hearVote_52 : decode cX2_hearVote 52 = .ok (.iadd, 1) := by decide +kernel
theorem dX2_hearVote_53 : decode cX2_hearVote 53 = .ok (.iastore, 1) := by decide +kernel
theorem dX2_hearVote_54 : decode cX2_hearVote 54 = .ok (.goto 13, 3) := by decide +kernel
theorem dX2_hearVote_57 : decode cX2_hearVote 57 = .ok (.aload_n 0, 1) := by decide +kernel
theorem dX2_hearVote_58 : decode cX2_hearVote 58 = .ok (.getfield 27, 3) := by decide +kernel
theorem dX2_hearVote_61 : decode cX2_hearVote 61 = .ok (.iload_n 1, 1) := by decide +kernel
theorem dX2_hearVote_62 : decode cX2_hearVote 62 = .ok (.dup2, 1) := by decide +kernel
theorem dX2_hearVote_63 : decode cX2_hearVote 63 = .ok (.iaload, 1) := by decide +kernel
theorem dX2_hearVote_64 : decode cX2_hearVote 64 = .ok (.iconst 1, 1) := by decide +kernel
theorem dX2_hearVote_65 : decode cX2_hearVote 65 = .ok (.iadd, 1) := by decide +kernel
theorem dX2_hearVote_66 : decode cX2_hearVote 66 = .ok (.iastore, 1) := by decide +kernel
theorem dX2_hearVote_67 : decode cX2_hearVote 67 = .ok (.iload_n 3, 1) := by decide +kernel
theorem dX2_hearVote_68 : decode cX2_hearVote 68 = .ok (.ifCond .eq 12, 3) := by decide +kernel
theorem dX2_hearVote_71 : decode cX2_hearVote 71 = .ok (.aload_n 0, 1) := by decide +kernel
theorem dX2_hearVote_72 : decode cX2_hearVote 72 = .ok (.getfield 24, 3) := by decide +kernel
theorem dX2_hearVote_75 : decode cX2_hearVote 75 = .ok (.iload_n 1, 1) := by decide +kernel
theorem dX2_hearVote_76 : decode cX2_hearVote 76 = .ok (.iaload, 1) := by decide +kernel
theorem dX2_hearVote_77 : decode cX2_hearVote 77 = .ok (.goto 9, 3) := by decide +kernel
theorem dX2_hearVote_80 : decode cX2_hearVote 80 = .ok (.aload_n 0, 1) := by decide +kernel
theorem dX2_hearVote_81 : decode cX2_hearVote 81 = .ok (.getfield 27, 3) := by decide +kernel
theorem dX2_hearVote_84 : decode cX2_hearVote 84 = .ok (.iload_n 1, 1) := by decide +kernel
theorem dX2_hearVote_85 : decode cX2_hearVote 85 = .ok (.iaload, 1) := by decide +kernel
theorem dX2_hearVote_86 : decode cX2_hearVote 86 = .ok (.ireturn, 1) := by decide +kernel
theorem wX2_hearVote_J67 {p : Program} {l : Launch} {e : Env} {s : State} {m : MethodId} {args : Array Value} {below : List Frame} {meth : Method} {c : Code} {Y : Nat → ClassId} {D : va_G} {σ : Nat → Nat} {np b0 : Nat} {co : Nat} {r : Int32 × Mc} {M : Mc} {N : Md} {X1 : Int32} {X3 : Int32} (hE : EOK p s m args meth c cX2_hearVote 5 RX2 Y D σ np b0) (hr : meth.sig.returnType = (some .int)) (hco : is2 co) (hf : fX2_hearVote_J67 co M X1 X3 = some r) : Xw p l e (rmD 2) s m args below meth c 5 Y D σ np b0 0 0 (MQ below (QR Y D σ np b0 (some (.int r.1)) r.2 N) args s 0 0 (xA b0)) 67 [(0, .ref (σ co)), (1, .int X1), (3, .int X3)] [] M N := by
  unfold fX2_hearVote_J67 at hf
  refine x_iload_n hE 2 dX2_hearVote_67 rfl rfl ?_
  refine x_if_eq hE 80 dX2_hearVote_68 (by decide) hf (fun hf => ?_) (fun hf => ?_)
  · refine x_aload_n hE 0 dX2_hearVote_80 rfl rfl ?_
    refine x_getR hE cl_2 (hE.kd (kO_2 hco)) (by decide) 8 (co + 6) rfl (by decide) lk_X2_27 dX2_hearVote_81 ?_
    refine x_iload_n hE 1 dX2_hearVote_84 rfl rfl ?_
    refine x_iald hE (hE.kd (kB_2_8 hco)) dX2_hearVote_85 hf (fun hf => ?_)
    replace hf := Option.some.inj hf
    subst hf
    exact x_ireturn hE (v := M (co + 6) X1.toNatClampNeg) hr rfl dX2_hearVote_86
  · refine x_aload_n hE 0 dX2_hearVote_71 rfl rfl ?_
    refine x_getR hE cl_2 (hE.kd (kO_2 hco)) (by decide) 7 (co + 5) rfl (by decide) lk_X2_24 dX2_hearVote_72 ?_
    refine x_iload_n hE 1 dX2_hearVote_75 rfl rfl ?_
    refine x_iald hE (hE.kd (kB_2_7 hco)) dX2_hearVote_76 hf (fun hf => ?_)
    refine x_goto hE 86 dX2_hearVote_77 (by decide) ?_
    replace hf := Option.some.inj hf
    subst hf
    exact x_ireturn hE (v := M (co + 5) X1.toNatClampNeg) hr rfl dX2_hearVote_86
theorem mX2_hearVote (l : Launch) {Y : Nat → ClassId} {D : va_G} {σ : Nat → Nat} {np b0 : Nat} {M : Mc} {N : Md} {co : Nat} {p0 : Int32} {p1 : Int32} {p2 : Int32} {r : Int32 × Mc} (hco : is2 co) (hf : fX2_hearVote M co p0 p1 p2 = some r) : Met l yX2_hearVote (.code yX2_hearVote cX2_hearVote 5 (some .int) :: lw_g) (rmD 2) (PR Y D σ np b0 [.ref (σ co), .int p0, .int p1, .int p2] M N) (QR Y D σ np b0 (some (.int r.1)) r.2 N) 0 0 (xA b0) := by
  refine x_met (by decide) (Nat.le_of_ble_eq_true rfl) (fun p e s m args below meth c hE hr => ?_)
  unfold fX2_hearVote at hf
  refine x_pick [0, 1, 2, 3] (L' := [(0, .ref (σ co)), (1, .int p0), (2, .int p1), (3, .int p2)]) rfl ?_
  refine x_iload_n hE 1 dX2_hearVote_0 rfl rfl ?_
  refine x_bipush hE (nI 100) dX2_hearVote_1 (by decide) ?_
  refine x_imul hE dX2_hearVote_3 ?_
  refine x_iload_n hE 2 dX2_hearVote_4 rfl rfl ?_
  refine x_iadd hE dX2_hearVote_5 ?_
  refine x_ltI hf (fun v1 hf => ?_)
  refine x_istore hE (L' := [(4, .int v1), (0, .ref (σ co)), (1, .int p0), (2, .int p1), (3, .int p2)]) dX2_hearVote_6 (by decide) rfl ?_
  refine x_pick [1, 2, 3, 4, 0] (L' := [(0, .ref (σ co)), (1, .int p0), (2, .int p1), (3, .int p2), (4, .int v1)]) rfl ?_
  refine x_iload_n hE 1 dX2_hearVote_8 rfl rfl ?_
  refine x_bipush hE (nI 12) dX2_hearVote_9 (by decide) ?_
  obtain ⟨v3, hc2, hf⟩ := bnd_some hf
  refine x_callSN1 hE [.int p0, .int (nI 12)] (rest := []) (v := .int v3) (c1 := M) (d1 := N) rfl yokX11_inside ysX11_inside lk_X2_59 rfl rfl ⟨Nat.le_of_ble_eq_true rfl, Nat.le_of_ble_eq_true rfl⟩ ⟨Nat.zero_le _, Nat.zero_le _⟩ rfl (Nat.le_of_ble_eq_true rfl) dX2_hearVote_11 (mX11_inside l hc2) ?_
  refine x_if_eq hE 30 dX2_hearVote_14 (by decide) hf (fun hf => ?_) (fun hf => ?_)
  · refine x_iconst hE (0 : Int32) dX2_hearVote_30 (by decide) ?_
    replace hf := Option.some.inj hf
    subst hf
    exact x_ireturn hE (v := 0) hr rfl dX2_hearVote_31
  · refine x_iload hE 4 dX2_hearVote_17 rfl ?_
    refine x_aload_n hE 0 dX2_hearVote_19 rfl rfl ?_
    refine x_getR hE cl_2 (hE.kd (kO_2 hco)) (by decide) 9 (co + 7) rfl (by decide) lk_X2_30 dX2_hearVote_20 ?_
    refine x_alen hE (nI 1200) (hE.kd (kB_2_9 hco)) (Or.inr (Or.inl rfl)) rfl dX2_hearVote_23 ?_
    obtain ⟨v5, hc4, hf⟩ := bnd_some hf
    refine x_callSN1 hE [.int v1, .int (nI 1200)] (rest := []) (v := .int v5) (c1 := M) (d1 := N) rfl yokX11_inside ysX11_inside lk_X2_59 rfl rfl ⟨Nat.le_of_ble_eq_true rfl, Nat.le_of_ble_eq_true rfl⟩ ⟨Nat.zero_le _, Nat.zero_le _⟩ rfl (Nat.le_of_ble_eq_true rfl) dX2_hearVote_24 (mX11_inside l hc4) ?_
    refine x_if_ne hE 32 dX2_hearVote_27 (by decide) hf (fun hf => ?_) (fun hf => ?_)
    · refine x_aload_n hE 0 dX2_hearVote_32 rfl rfl ?_
      refine x_getR hE cl_2 (hE.kd (kO_2 hco)) (by decide) 9 (co + 7) rfl (by decide) lk_X2_30 dX2_hearVote_33 ?_
      refine x_iload hE 4 dX2_hearVote_36 rfl ?_
      refine x_iconst hE (nI 1) dX2_hearVote_38 (by decide) ?_
      refine x_zast hE (hE.kd (kB_2_9 hco)) dX2_hearVote_39 hf (fun M6 hf => ?_)
      refine x_iload_n hE 3 dX2_hearVote_40 rfl rfl ?_
      refine x_if_eq hE 57 dX2_hearVote_41 (by decide) hf (fun hf => ?_) (fun hf => ?_)
      · refine x_aload_n hE 0 dX2_hearVote_57 rfl rfl ?_
        refine x_getR hE cl_2 (hE.kd (kO_2 hco)) (by decide) 8 (co + 6) rfl (by decide) lk_X2_27 dX2_hearVote_58 ?_
        refine x_iload_n hE 1 dX2_hearVote_61 rfl rfl ?_
        refine x_dup2 hE dX2_hearVote_62 rfl rfl ?_
        refine x_iald hE (hE.kd (kB_2_8 hco)) dX2_hearVote_63 hf (fun hf => ?_)
        refine x_iconst hE (nI 1) dX2_hearVote_64 (by decide) ?_
        refine x_iadd hE dX2_hearVote_65 ?_
        refine x_iast hE (hE.kd (kB_2_8 hco)) dX2_hearVote_66 hf (fun M7 hf => ?_)
        refine x_pick [0, 1, 3] (L' := [(0, .ref (σ co)), (1, .int p0), (3, .int p2)]) rfl ?_
        exact wX2_hearVote_J67 hE hr hco hf
      · refine x_aload_n hE 0 dX2_hearVote_44 rfl rfl ?_
        refine x_getR hE cl_2 (hE.kd (kO_2 hco)) (by decide) 7 (co + 5) rfl (by decide) lk_X2_24 dX2_hearVote_45 ?_
        refine x_iload_n hE 1 dX2_hearVote_48 rfl rfl ?_
        refine x_dup2 hE dX2_hearVote_49 rfl rfl ?_
        refine x_iald hE (hE.kd (kB_2_7 hco)) dX2_hearVote_50 hf (fun hf => ?_)
        refine x_iconst hE (nI 1) dX2_hearVote_51 (by decide) ?_
        refine x_iadd hE dX2_hearVote_52 ?_
        refine x_iast hE (hE.kd (kB_2_7 hco)) dX2_hearVote_53 hf (fun M8 hf => ?_)
        refine x_goto hE 67 dX2_hearVote_54 (by decide) ?_
        refine x_pick [0, 1, 3] (L' := [(0, .ref (σ co)), (1, .int p0), (3, .int p2)]) rfl ?_
        exact wX2_hearVote_J67 hE hr hco hf
    · refine x_iconst hE (0 : Int32) dX2_hearVote_30 (by decide) ?_
      replace hf := Option.some.inj hf
      subst hf
      exact x_ireturn hE (v := 0) hr rfl dX2_hearVote_31
theorem yokX2_hearVote : YOK yX2_hearVote cX2_hearVote 5 3 (some .int) := ⟨mem_g 1546 (by decide +kernel) (by decide +kernel), mem_g 139 (by decide +kernel) (by decide +kernel), by decide +kernel, by decide +kernel, by decide +kernel⟩
theorem yvX2_hearVote : YV yX2_hearVote := ⟨mem_g 1544 (by decide +kernel) (by decide +kernel), mem_g 1545 (by decide +kernel) (by decide +kernel)⟩
theorem dX2_settle_0 : decode cX2_settle 0 = .ok (.iload_n 1, 1) := by decide +kernel
theorem dX2_settle_1 : decode cX2_settle 1 = .ok (.bipush 12, 2) := by decide +kernel
theorem dX2_settle_3 : decode cX2_settle 3 = .ok (.invokestatic 59, 3) := by decide +kernel
theorem dX2_settle_6 : decode cX2_settle 6 = .ok (.ifCond .ne 5, 3) := by decide +kernel
theorem dX2_settle_9 : decode cX2_settle 9 = .ok (.iconst (-1), 1) := by decide +kernel
theorem dX2_settle_10 : decode cX2_settle 10 = .ok (.ireturn, 1) := by decide +kernel
theorem dX2_settle_11 : decode cX2_settle 11 = .ok (.aload_n 0, 1) := by decide +kernel
theorem dX2_settle_12 : decode cX2_settle 12 = .ok (.getfield 24, 3) := by decide +kernel
theorem dX2_settle_15 : decode cX2_settle 15 = .ok (.iload_n 1, 1) := by decide +kernel
theorem dX2_settle_16 : decode cX2_settle 16 = .ok (.iaload, 1) := by decide +kernel
theorem dX2_settle_17 : decode cX2_settle 17 = .ok (.aload_n 0, 1) := by decide +kernel
theorem dX2_settle_18 : decode cX2_settle 18 = .ok (.getfield 27, 3) := by decide +kernel
theorem dX2_settle_21 : decode cX2_settle 21 = .ok (.iload_n 1, 1) := by decide +kernel
theorem dX2_settle_22 : decode cX2_settle 22 = .ok (.iaload, 1) := by decide +kernel
theorem dX2_settle_23 : decode cX2_settle 23 = .ok (.if_icmp .le 17, 3) := by decide +kernel
theorem dX2_settle_26 : decode cX2_settle 26 = .ok (.aload_n 0, 1) := by decide +kernel
theorem dX2_settle_27 : decode cX2_settle 27 = .ok (.getfield 24, 3) := by decide +kernel
theorem dX2_settle_30 : decode cX2_settle 30 = .ok (.iload_n 1, 1) := by decide +kernel
theorem dX2_settle_31 : decode cX2_settle 31 = .ok (.iaload, 1) := by decide +kernel
theorem dX2_settle_32 : decode cX2_settle 32 = .ok (.iload_n 2, 1) := by decide +kernel
theorem dX2_settle_33 : decode cX2_settle 33 = .ok (.if_icmp .lt 7, 3) := by decide +kernel
theorem dX2_settle_36 : decode cX2_settle 36 = .ok (.iconst 1, 1) := by decide +kernel
theorem dX2_settle_37 : decode cX2_settle 37 = .ok (.goto 4, 3) := by decide +kernel
theorem dX2_settle_40 : decode cX2_settle 40 = .ok (.iconst 0, 1) := by decide +kernel
theorem dX2_settle_41 : decode cX2_settle 41 = .ok (.istore 4, 2) := by decide +kernel
theorem dX2_settle_43 : decode cX2_settle 43 = .ok (.aload_n 0, 1) := by decide +kernel
theorem dX2_settle_44 : decode cX2_settle 44 = .ok (.getfield 9, 3) := by decide +kernel
theorem dX2_settle_47 : decode cX2_settle 47 = .ok (.iload_n 1, 1) := by decide +kernel
theorem dX2_settle_48 : decode cX2_settle 48 = .ok (.iload 4, 2) := by decide +kernel
theorem dX2_settle_50 : decode cX2_settle 50 = .ok (.ifCond .eq 7, 3) := by decide +kernel
theorem dX2_settle_53 : decode cX2_settle 53 = .ok (.iconst 2, 1) := by decide +kernel
theorem dX2_settle_54 : decode cX2_settle 54 = .ok (.goto 4, 3) := by decide +kernel
theorem dX2_settle_57 : decode cX2_settle 57 = .ok (.iconst 1, 1) := by decide +kernel
theorem dX2_settle_58 : decode cX2_settle 58 = .ok (.iastore, 1) := by decide +kernel
theorem dX2_settle_59 : decode cX2_settle 59 = .ok (.aload_n 0, 1) := by decide +kernel
theorem dX2_settle_60 : decode cX2_settle 60 = .ok (.getfield 15, 3) := by decide +kernel
theorem dX2_settle_63 : decode cX2_settle 63 = .ok (.iload_n 1, 1) := by decide +kernel
theorem dX2_settle_64 : decode cX2_settle 64 = .ok (.iload_n 3, 1) := by decide +kernel
theorem dX2_settle_65 : decode cX2_settle 65 = .ok (.iastore, 1) := by decide +kernel
theorem dX2_settle_66 : decode cX2_settle 66 = .ok (.iload 4, 2) := by decide +kernel
theorem dX2_settle_68 : decode cX2_settle 68 = .ok (.ifCond .eq 15, 3) := by decide +kernel
theorem dX2_settle_71 : decode cX2_settle 71 = .ok (.aload_n 0, 1) := by decide +kernel
theorem dX2_settle_72 : decode cX2_settle 72 = .ok (.dup, 1) := by decide +kernel
theorem dX2_settle_73 : decode cX2_settle 73 = .ok (.getfield 50, 3) := by decide +kernel
theorem dX2_settle_76 : decode cX2_settle 76 = .ok (.iconst 1, 1) := by decide +kernel
theorem dX2_settle_77 : decode cX2_settle 77 = .ok (.iload_n 1, 1) := by decide +kernel
theorem dX2_settle_78 : decode cX2_settle 78 = .ok (.ishl, 1) := by decide +kernel
theorem dX2_settle_79 : decode cX2_settle 79 = .ok (.ior, 1) := by decide +kernel
theorem dX2_settle_80 : decode cX2_settle 80 = .ok (.putfield 50, 3) := by decide +kernel
theorem dX2_settle_83 : decode cX2_settle 83 = .ok (.aload_n 0, 1) := by decide +kernel
theorem dX2_settle_84 : decode cX2_settle 84 = .ok (.getfield 9, 3) := by decide +kernel
theorem dX2_settle_87 : decode cX2_settle 87 = .ok (.iload_n 1, 1) := by decide +kernel
theorem dX2_settle_88 : decode cX2_settle 88 = .ok (.iaload, 1) := by decide +kernel
theorem dX2_settle_89 : decode cX2_settle 89 = .ok (.ireturn, 1) := by decide +kernel
theorem wX2_settle_J58 {p : Program} {l : Launch} {e : Env} {s : State} {m : MethodId} {args : Array Value} {below : List Frame} {meth : Method} {c : Code} {Y : Nat → ClassId} {D : va_G} {σ : Nat → Nat} {np b0 : Nat} {co : Nat} {r : Int32 × Mc} {M : Mc} {N : Md} {X1 : Int32} {X3 : Int32} {X4 : Int32} {Z0 : Int32} {Z1 : Int32} (hE : EOK p s m args meth c cX2_settle 5 RX2 Y D σ np b0) (hr : meth.sig.returnType = (some .int)) (hco : is2 co) (hf : fX2_settle_J58 co M X1 X3 X4 Z0 Z1 = some r) : Xw p l e (rmD 2) s m args below meth c 5 Y D σ np b0 0 0 (MQ below (QR Y D σ np b0 (some (.int r.1)) r.2 N) args s 0 0 (xA b0)) 58 [(0, .ref (σ co)), (1, .int X1), (3, .int X3), (4, .int X4)] [.int Z0, .int Z1, .ref (σ (co + 1))] M N := by
  unfold fX2_settle_J58 at hf
  refine x_iast hE (hE.kd (kB_2_3 hco)) dX2_settle_58 hf (fun M3 hf => ?_)
  refine x_aload_n hE 0 dX2_settle_59 rfl rfl ?_
  refine x_getR hE cl_2 (hE.kd (kO_2 hco)) (by decide) 4 (co + 2) rfl (by decide) lk_X2_15 dX2_settle_60 ?_
  refine x_iload_n hE 1 dX2_settle_63 rfl rfl ?_
  refine x_iload_n hE 2 dX2_settle_64 rfl rfl ?_
  refine x_iast hE (hE.kd (kB_2_4 hco)) dX2_settle_65 hf (fun M4 hf => ?_)
  refine x_iload hE 3 dX2_settle_66 rfl ?_
  refine x_if_eq hE 83 dX2_settle_68 (by decide) hf (fun hf => ?_) (fun hf => ?_)
  · refine x_aload_n hE 0 dX2_settle_83 rfl rfl ?_
    refine x_getR hE cl_2 (hE.kd (kO_2 hco)) (by decide) 3 (co + 1) rfl (by decide) lk_X2_9 dX2_settle_84 ?_
    refine x_iload_n hE 1 dX2_settle_87 rfl rfl ?_
    refine x_iald hE (hE.kd (kB_2_3 hco)) dX2_settle_88 hf (fun hf => ?_)
    replace hf := Option.some.inj hf
    subst hf
    exact x_ireturn hE (v := M4 (co + 1) X1.toNatClampNeg) hr rfl dX2_settle_89
  · refine x_aload_n hE 0 dX2_settle_71 rfl rfl ?_
    refine x_dup hE dX2_settle_72 rfl ?_
    refine x_getI hE cl_2 (hE.kd (kO_2 hco)) (by decide) 2 rfl (by decide) lk_X2_50 dX2_settle_73 ?_
    refine x_iconst hE (nI 1) dX2_settle_76 (by decide) ?_
    refine x_iload_n hE 1 dX2_settle_77 rfl rfl ?_
    refine x_ishl hE dX2_settle_78 ?_
    refine x_ior hE dX2_settle_79 ?_
    refine x_putI hE cl_2 (hE.kd (kO_2 hco)) (by decide) 2 rfl (by decide) lk_X2_50 rfl rfl rfl rfl dX2_settle_80 hf (fun M5 hf => ?_)
    refine x_aload_n hE 0 dX2_settle_83 rfl rfl ?_
    refine x_getR hE cl_2 (hE.kd (kO_2 hco)) (by decide) 3 (co + 1) rfl (by decide) lk_X2_9 dX2_settle_84 ?_
    refine x_iload_n hE 1 dX2_settle_87 rfl rfl ?_
    refine x_iald hE (hE.kd (kB_2_3 hco)) dX2_settle_88 hf (fun hf => ?_)
    replace hf := Option.some.inj hf
    subst hf
    exact x_ireturn hE (v := M5 (co + 1) X1.toNatClampNeg) hr rfl dX2_settle_89
theorem wX2_settle_J41 {p : Program} {l : Launch} {e : Env} {s : State} {m : MethodId} {args : Array Value} {below : List Frame} {meth : Method} {c : Code} {Y : Nat → ClassId} {D : va_G} {σ : Nat → Nat} {np b0 : Nat} {co : Nat} {r : Int32 × Mc} {M : Mc} {N : Md} {X1 : Int32} {X3 : Int32} {Z0 : Int32} (hE : EOK p s m args meth c cX2_settle 5 RX2 Y D σ np b0) (hr : meth.sig.returnType = (some .int)) (hco : is2 co) (hf : fX2_settle_J41 co M X1 X3 Z0 = some r) : Xw p l e (rmD 2) s m args below meth c 5 Y D σ np b0 0 0 (MQ below (QR Y D σ np b0 (some (.int r.1)) r.2 N) args s 0 0 (xA b0)) 41 [(0, .ref (σ co)), (1, .int X1), (3, .int X3)] [.int Z0] M N := by
  unfold fX2_settle_J41 at hf
  refine x_istore hE (L' := [(4, .int Z0), (0, .ref (σ co)), (1, .int X1), (3, .int X3)]) dX2_settle_41 (by decide) rfl ?_
  refine x_pick [1, 2, 3, 0] (L' := [(0, .ref (σ co)), (1, .int X1), (3, .int X3), (4, .int Z0)]) rfl ?_
  refine x_aload_n hE 0 dX2_settle_43 rfl rfl ?_
  refine x_getR hE cl_2 (hE.kd (kO_2 hco)) (by decide) 3 (co + 1) rfl (by decide) lk_X2_9 dX2_settle_44 ?_
  refine x_iload_n hE 1 dX2_settle_47 rfl rfl ?_
  refine x_iload hE 3 dX2_settle_48 rfl ?_
  refine x_if_eq hE 57 dX2_settle_50 (by decide) hf (fun hf => ?_) (fun hf => ?_)
  · refine x_iconst hE (nI 1) dX2_settle_57 (by decide) ?_
    exact wX2_settle_J58 hE hr hco hf
  · refine x_iconst hE (nI 2) dX2_settle_53 (by decide) ?_
    refine x_goto hE 58 dX2_settle_54 (by decide) ?_
    exact wX2_settle_J58 hE hr hco hf
theorem wX2_settle_J40 {p : Program} {l : Launch} {e : Env} {s : State} {m : MethodId} {args : Array Value} {below : List Frame} {meth : Method} {c : Code} {Y : Nat → ClassId} {D : va_G} {σ : Nat → Nat} {np b0 : Nat} {co : Nat} {r : Int32 × Mc} {M : Mc} {N : Md} {X1 : Int32} {X3 : Int32} (hE : EOK p s m args meth c cX2_settle 5 RX2 Y D σ np b0) (hr : meth.sig.returnType = (some .int)) (hco : is2 co) (hf : fX2_settle_J40 co M X1 X3 = some r) : Xw p l e (rmD 2) s m args below meth c 5 Y D σ np b0 0 0 (MQ below (QR Y D σ np b0 (some (.int r.1)) r.2 N) args s 0 0 (xA b0)) 40 [(0, .ref (σ co)), (1, .int X1), (3, .int X3)] [] M N := by
  unfold fX2_settle_J40 at hf
  refine x_iconst hE (0 : Int32) dX2_settle_40 (by decide) ?_
  exact wX2_settle_J41 hE hr hco hf
theorem mX2_settle (l : Launch) {Y : Nat → ClassId} {D : va_G} {σ : Nat → Nat} {np b0 : Nat} {M : Mc} {N : Md} {co : Nat} {p0 : Int32} {p1 : Int32} {p2 : Int32} {r : Int32 × Mc} (hco : is2 co) (hf : fX2_settle M co p0 p1 p2 = some r) : Met l yX2_settle (.code yX2_settle cX2_settle 5 (some .int) :: lw_g) (rmD 2) (PR Y D σ np b0 [.ref (σ co), .int p0, .int p1, .int p2] M N) (QR Y D σ np b0 (some (.int r.1)) r.2 N) 0 0 (xA b0) := by
  refine x_met (by decide) (Nat.le_of_ble_eq_true rfl) (fun p e s m args below meth c hE hr => ?_)
  unfold fX2_settle at hf
  refine x_pick [0, 1, 2, 3] (L' := [(0, .ref (σ co)), (1, .int p0), (2, .int p1), (3, .int p2)]) rfl ?_
  refine x_iload_n hE 1 dX2_settle_0 rfl rfl ?_
  refine x_bipush hE (nI 12) dX2_settle_1 (by decide) ?_
  obtain ⟨v2, hc1, hf⟩ := bnd_some hf
  refine x_callSN1 hE [.int p0, .int (nI 12)] (rest := []) (v := .int v2) (c1 := M) (d1 := N) rfl yokX11_inside ysX11_inside lk_X2_59 rfl rfl ⟨Nat.le_of_ble_eq_true rfl, Nat.le_of_ble_eq_true rfl⟩ ⟨Nat.zero_le _, Nat.zero_le _⟩ rfl (Nat.le_of_ble_eq_true rfl) dX2_settle_3 (mX11_inside l hc1) ?_
  refine x_if_ne hE 11 dX2_settle_6 (by decide) hf (fun hf => ?_) (fun hf => ?_)
  · refine x_aload_n hE 0 dX2_settle_11 rfl rfl ?_
    refine x_getR hE cl_2 (hE.kd (kO_2 hco)) (by decide) 7 (co + 5) rfl (by decide) lk_X2_24 dX2_settle_12 ?_
    refine x_iload_n hE 1 dX2_settle_15 rfl rfl ?_
    refine x_iald hE (hE.kd (kB_2_7 hco)) dX2_settle_16 hf (fun hf => ?_)
    refine x_aload_n hE 0 dX2_settle_17 rfl rfl ?_
    refine x_getR hE cl_2 (hE.kd (kO_2 hco)) (by decide) 8 (co + 6) rfl (by decide) lk_X2_27 dX2_settle_18 ?_
    refine x_iload_n hE 1 dX2_settle_21 rfl rfl ?_
    refine x_iald hE (hE.kd (kB_2_8 hco)) dX2_settle_22 hf (fun hf => ?_)
    refine x_icmp_le hE 40 dX2_settle_23 (by decide) hf (fun hf => ?_) (fun hf => ?_)
    · refine x_pick [0, 1, 3] (L' := [(0, .ref (σ co)), (1, .int p0), (3, .int p2)]) rfl ?_
      exact wX2_settle_J40 hE hr hco hf
    · refine x_aload_n hE 0 dX2_settle_26 rfl rfl ?_
      refine x_getR hE cl_2 (hE.kd (kO_2 hco)) (by decide) 7 (co + 5) rfl (by decide) lk_X2_24 dX2_settle_27 ?_
      refine x_iload_n hE 1 dX2_settle_30 rfl rfl ?_
      refine x_iald hE (hE.kd (kB_2_7 hco)) dX2_settle_31 hf (fun hf => ?_)
      refine x_iload_n hE 2 dX2_settle_32 rfl rfl ?_
      refine x_icmp_lt hE 40 dX2_settle_33 (by decide) hf (fun hf => ?_) (fun hf => ?_)
      · refine x_pick [0, 1, 3] (L' := [(0, .ref (σ co)), (1, .int p0), (3, .int p2)]) rfl ?_
        exact wX2_settle_J40 hE hr hco hf
      · refine x_iconst hE (nI 1) dX2_settle_36 (by decide) ?_
        refine x_goto hE 41 dX2_settle_37 (by decide) ?_
        refine x_pick [0, 1, 3] (L' := [(0, .ref (σ co)), (1, .int p0), (3, .int p2)]) rfl ?_
        exact wX2_settle_J41 hE hr hco hf
  · refine x_iconst hE (-1) dX2_settle_9 (by decide) ?_
    replace hf := Option.some.inj hf
    subst hf
    exact x_ireturn hE (v := (-1)) hr rfl dX2_settle_10
theorem yokX2_settle : YOK yX2_settle cX2_settle 5 3 (some .int) := ⟨mem_g 1557 (by decide +kernel) (by decide +kernel), mem_g 139 (by decide +kernel) (by decide +kernel), by decide +kernel, by decide +kernel, by decide +kernel⟩
theorem yvX2_settle : YV yX2_settle := ⟨mem_g 1555 (by decide +kernel) (by decide +kernel), mem_g 1556 (by decide +kernel) (by decide +kernel)⟩
theorem dX2_isReadAtHome_0 : decode cX2_isReadAtHome 0 = .ok (.iload_n 1, 1) := by decide +kernel
theorem dX2_isReadAtHome_1 : decode cX2_isReadAtHome 1 = .ok (.bipush 12, 2) := by decide +kernel
theorem dX2_isReadAtHome_3 : decode cX2_isReadAtHome 3 = .ok (.invokestatic 59, 3) := by decide +kernel
theorem dX2_isReadAtHome_6 : decode cX2_isReadAtHome 6 = .ok (.ifCond .eq 20, 3) := by decide +kernel
theorem dX2_isReadAtHome_9 : decode cX2_isReadAtHome 9 = .ok (.iload_n 2, 1) := by decide +kernel
theorem dX2_isReadAtHome_10 : decode cX2_isReadAtHome 10 = .ok (.aload_n 0, 1) := by decide +kernel
theorem dX2_isReadAtHome_11 : decode cX2_isReadAtHome 11 = .ok (.getfield 15, 3) := by decide +kernel
theorem dX2_isReadAtHome_14 : decode cX2_isReadAtHome 14 = .ok (.iload_n 1, 1) := by decide +kernel
theorem dX2_isReadAtHome_15 : decode cX2_isReadAtHome 15 = .ok (.iaload, 1) := by decide +kernel
theorem dX2_isReadAtHome_16 : decode cX2_isReadAtHome 16 = .ok (.bipush 34, 2) := by decide +kernel
theorem dX2_isReadAtHome_18 : decode cX2_isReadAtHome 18 = .ok (.iadd, 1) := by decide +kernel
theorem dX2_isReadAtHome_19 : decode cX2_isReadAtHome 19 = .ok (.if_icmp .lt 7, 3) := by decide +kernel
theorem dX2_isReadAtHome_22 : decode cX2_isReadAtHome 22 = .ok (.iconst 1, 1) := by decide +kernel
theorem dX2_isReadAtHome_23 : decode cX2_isReadAtHome 23 = .ok (.goto 4, 3) := by decide +kernel
theorem dX2_isReadAtHome_26 : decode cX2_isReadAtHome 26 = .ok (.iconst 0, 1) := by decide +kernel
theorem dX2_isReadAtHome_27 : decode cX2_isReadAtHome 27 = .ok (.ireturn, 1) := by decide +kernel
theorem mX2_isReadAtHome (l : Launch) {Y : Nat → ClassId} {D : va_G} {σ : Nat → Nat} {np b0 : Nat} {M : Mc} {N : Md} {co : Nat} {p0 : Int32} {p1 : Int32} {r : Int32} (hco : is2 co) (hf : fX2_isReadAtHome M co p0 p1 = some r) : Met l yX2_isReadAtHome (.code yX2_isReadAtHome cX2_isReadAtHome 3 (some .boolean) :: lw_g) (rmD 2) (PR Y D σ np b0 [.ref (σ co), .int p0, .int p1] M N) (QR Y D σ np b0 (some (.int r)) M N) 0 0 (xA b0) := by
  refine x_met (by decide) (Nat.le_of_ble_eq_true rfl) (fun p e s m args below meth c hE hr => ?_)
  unfold fX2_isReadAtHome at hf
  refine x_pick [0, 1, 2] (L' := [(0, .ref (σ co)), (1, .int p0), (2, .int p1)]) rfl ?_
  refine x_iload_n hE 1 dX2_isReadAtHome_0 rfl rfl ?_
  refine x_bipush hE (nI 12) dX2_isReadAtHome_1 (by decide) ?_
  obtain ⟨v2, hc1, hf⟩ := bnd_some hf
  refine x_callSN1 hE [.int p0, .int (nI 12)] (rest := []) (v := .int v2) (c1 := M) (d1 := N) rfl yokX11_inside ysX11_inside lk_X2_59 rfl rfl ⟨Nat.le_of_ble_eq_true rfl, Nat.le_of_ble_eq_true rfl⟩ ⟨Nat.zero_le _, Nat.zero_le _⟩ rfl (Nat.le_of_ble_eq_true rfl) dX2_isReadAtHome_3 (mX11_inside l hc1) ?_
  refine x_if_eq hE 26 dX2_isReadAtHome_6 (by decide) hf (fun hf => ?_) (fun hf => ?_)
  · refine x_iconst hE (0 : Int32) dX2_isReadAtHome_26 (by decide) ?_
    replace hf := Option.some.inj hf
    subst hf
    exact x_ireturn hE (v := 0) hr rfl dX2_isReadAtHome_27
  · refine x_iload_n hE 2 dX2_isReadAtHome_9 rfl rfl ?_
    refine x_aload_n hE 0 dX2_isReadAtHome_10 rfl rfl ?_
    refine x_getR hE cl_2 (hE.kd (kO_2 hco)) (by decide) 4 (co + 2) rfl (by decide) lk_X2_15 dX2_isReadAtHome_11 ?_
    refine x_iload_n hE 1 dX2_isReadAtHome_14 rfl rfl ?_
    refine x_iald hE (hE.kd (kB_2_4 hco)) dX2_isReadAtHome_15 hf (fun hf => ?_)
    refine x_bipush hE (nI 34) dX2_isReadAtHome_16 (by decide) ?_
    refine x_iadd hE dX2_isReadAtHome_18 ?_
    refine x_icmp_lt hE 26 dX2_isReadAtHome_19 (by decide) hf (fun hf => ?_) (fun hf => ?_)
    · refine x_iconst hE (0 : Int32) dX2_isReadAtHome_26 (by decide) ?_
      replace hf := Option.some.inj hf
      subst hf
      exact x_ireturn hE (v := 0) hr rfl dX2_isReadAtHome_27
    · refine x_iconst hE (nI 1) dX2_isReadAtHome_22 (by decide) ?_
      refine x_goto hE 27 dX2_isReadAtHome_23 (by decide) ?_
      replace hf := Option.some.inj hf
      subst hf
      exact x_ireturn hE (v := nI 1) hr rfl dX2_isReadAtHome_27
theorem yokX2_isReadAtHome : YOK yX2_isReadAtHome cX2_isReadAtHome 3 2 (some .boolean) := ⟨mem_g 1568 (by decide +kernel) (by decide +kernel), mem_g 139 (by decide +kernel) (by decide +kernel), by decide +kernel, by decide +kernel, by decide +kernel⟩
theorem yvX2_isReadAtHome : YV yX2_isReadAtHome := ⟨mem_g 1566 (by decide +kernel) (by decide +kernel), mem_g 1567 (by decide +kernel) (by decide +kernel)⟩
theorem dX2_isAnswered_0 : decode cX2_isAnswered 0 = .ok (.iload_n 1, 1) := by decide +kernel
theorem dX2_isAnswered_1 : decode cX2_isAnswered 1 = .ok (.bipush 12, 2) := by decide +kernel
theorem dX2_isAnswered_3 : decode cX2_isAnswered 3 = .ok (.invokestatic 59, 3) := by decide +kernel
theorem dX2_isAnswered_6 : decode cX2_isAnswered 6 = .ok (.ifCond .eq 17, 3) := by decide +kernel
theorem dX2_isAnswered_9 : decode cX2_isAnswered 9 = .ok (.aload_n 0, 1) := by decide +kernel
theorem dX2_isAnswered_10 : decode cX2_isAnswered 10 = .ok (.getfield 18, 3) := by decide +kernel
theorem dX2_isAnswered_13 : decode cX2_isAnswered 13 = .ok (.iload_n 1, 1) := by decide +kernel
theorem dX2_isAnswered_14 : decode cX2_isAnswered 14 = .ok (.iaload, 1) := by decide +kernel
theorem dX2_isAnswered_15 : decode cX2_isAnswered 15 = .ok (.iconst (-1), 1) := by decide +kernel
theorem dX2_isAnswered_16 : decode cX2_isAnswered 16 = .ok (.if_icmp .eq 7, 3) := by decide +kernel
theorem dX2_isAnswered_19 : decode cX2_isAnswered 19 = .ok (.iconst 1, 1) := by decide +kernel
theorem dX2_isAnswered_20 : decode cX2_isAnswered 20 = .ok (.goto 4, 3) := by decide +kernel
theorem dX2_isAnswered_23 : decode cX2_isAnswered 23 = .ok (.iconst 0, 1) := by decide +kernel
theorem dX2_isAnswered_24 : decode cX2_isAnswered 24 = .ok (.ireturn, 1) := by decide +kernel
theorem mX2_isAnswered (l : Launch) {Y : Nat → ClassId} {D : va_G} {σ : Nat → Nat} {np b0 : Nat} {M : Mc} {N : Md} {co : Nat} {p0 : Int32} {r : Int32} (hco : is2 co) (hf : fX2_isAnswered M co p0 = some r) : Met l yX2_isAnswered (.code yX2_isAnswered cX2_isAnswered 2 (some .boolean) :: lw_g) (rmD 2) (PR Y D σ np b0 [.ref (σ co), .int p0] M N) (QR Y D σ np b0 (some (.int r)) M N) 0 0 (xA b0) := by
  refine x_met (by decide) (Nat.le_of_ble_eq_true rfl) (fun p e s m args below meth c hE hr => ?_)
  unfold fX2_isAnswered at hf
  refine x_pick [0, 1] (L' := [(0, .ref (σ co)), (1, .int p0)]) rfl ?_
  refine x_iload_n hE 1 dX2_isAnswered_0 rfl rfl ?_
  refine x_bipush hE (nI 12) dX2_isAnswered_1 (by decide) ?_
  obtain ⟨v2, hc1, hf⟩ := bnd_some hf
  refine x_callSN1 hE [.int p0, .int (nI 12)] (rest := []) (v := .int v2) (c1 := M) (d1 := N) rfl yokX11_inside ysX11_inside lk_X2_59 rfl rfl ⟨Nat.le_of_ble_eq_true rfl, Nat.le_of_ble_eq_true rfl⟩ ⟨Nat.zero_le _, Nat.zero_le _⟩ rfl (Nat.le_of_ble_eq_true rfl) dX2_isAnswered_3 (mX11_inside l hc1) ?_
  refine x_if_eq hE 23 dX2_isAnswered_6 (by decide) hf (fun hf => ?_) (fun hf => ?_)
  · refine x_iconst hE (0 : Int32) dX2_isAnswered_23 (by decide) ?_
    replace hf := Option.some.inj hf
    subst hf
    exact x_ireturn hE (v := 0) hr rfl dX2_isAnswered_24
  · refine x_aload_n hE 0 dX2_isAnswered_9 rfl rfl ?_
    refine x_getR hE cl_2 (hE.kd (kO_2 hco)) (by decide) 5 (co + 3) rfl (by decide) lk_X2_18 dX2_isAnswered_10 ?_
    refine x_iload_n hE 1 dX2_isAnswered_13 rfl rfl ?_
    refine x_iald hE (hE.kd (kB_2_5 hco)) dX2_isAnswered_14 hf (fun hf => ?_)
    refine x_iconst hE (-1) dX2_isAnswered_15 (by decide) ?_
    refine x_icmp_eq hE 23 dX2_isAnswered_16 (by decide) hf (fun hf => ?_) (fun hf => ?_)
    · refine x_iconst hE (0 : Int32) dX2_isAnswered_23 (by decide) ?_
      replace hf := Option.some.inj hf
      subst hf
      exact x_ireturn hE (v := 0) hr rfl dX2_isAnswered_24
    · refine x_iconst hE (nI 1) dX2_isAnswered_19 (by decide) ?_
      refine x_goto hE 24 dX2_isAnswered_20 (by decide) ?_
      replace hf := Option.some.inj hf
      subst hf
      exact x_ireturn hE (v := nI 1) hr rfl dX2_isAnswered_24
theorem yokX2_isAnswered : YOK yX2_isAnswered cX2_isAnswered 2 1 (some .boolean) := ⟨mem_g 1572 (by decide +kernel) (by decide +kernel), mem_g 139 (by decide +kernel) (by decide +kernel), by decide +kernel, by decide +kernel, by decide +kernel⟩
theorem yvX2_isAnswered : YV yX2_isAnswered := ⟨mem_g 1570 (by decide +kernel) (by decide +kernel), mem_g 1571 (by decide +kernel) (by decide +kernel)⟩
theorem dX2_answer_0 : decode cX2_answer 0 = .ok (.iload_n 1, 1) := by decide +kernel
theorem dX2_answer_1 : decode cX2_answer 1 = .ok (.bipush 12, 2) := by decide +kernel
theorem dX2_answer_3 : decode cX2_answer 3 = .ok (.invokestatic 59, 3) := by decide +kernel
theorem dX2_answer_6 : decode cX2_answer 6 = .ok (.ifCond .ne 5, 3) := by decide +kernel
theorem dX2_answer_9 : decode cX2_answer 9 = .ok (.iconst (-1), 1) := by decide +kernel
theorem dX2_answer_10 : decode cX2_answer 10 = .ok (.ireturn, 1) := by decide +kernel
theorem dX2_answer_11 : decode cX2_answer 11 = .ok (.aload_n 0, 1) := by decide +kernel
theorem dX2_answer_12 : decode cX2_answer 12 = .ok (.getfield 21, 3) := by decide +kernel
theorem dX2_answer_15 : decode cX2_answer 15 = .ok (.iload_n 1, 1) := by decide +kernel
theorem dX2_answer_16 : decode cX2_answer 16 = .ok (.iload_n 2, 1) := by decide +kernel
theorem dX2_answer_17 : decode cX2_answer 17 = .ok (.ifCond .eq 7, 3) := by decide +kernel
theorem dX2_answer_20 : decode cX2_answer 20 = .ok (.iconst 1, 1) := by decide +kernel
theorem dX2_answer_21 : decode cX2_answer 21 = .ok (.goto 4, 3) := by decide +kernel
theorem dX2_answer_24 : decode cX2_answer 24 = .ok (.iconst 0, 1) := by decide +kernel
theorem dX2_answer_25 : decode cX2_answer 25 = .ok (.iastore, 1) := by decide +kernel
theorem dX2_answer_26 : decode cX2_answer 26 = .ok (.aload_n 0, 1) := by decide +kernel
theorem dX2_answer_27 : decode cX2_answer 27 = .ok (.getfield 18, 3) := by decide +kernel
theorem dX2_answer_30 : decode cX2_answer 30 = .ok (.iload_n 1, 1) := by decide +kernel
theorem dX2_answer_31 : decode cX2_answer 31 = .ok (.iload_n 3, 1) := by decide +kernel
theorem dX2_answer_32 : decode cX2_answer 32 = .ok (.iastore, 1) := by decide +kernel
theorem dX2_answer_33 : decode cX2_answer 33 = .ok (.iload_n 3, 1) := by decide +kernel
theorem dX2_answer_34 : decode cX2_answer 34 = .ok (.ireturn, 1) := by decide +kernel
theorem wX2_answer_J25 {p : Program} {l : Launch} {e : Env} {s : State} {m : MethodId} {args : Array Value} {below : List Frame} {meth : Method} {c : Code} {Y : Nat → ClassId} {D : va_G} {σ : Nat → Nat} {np b0 : Nat} {co : Nat} {r : Int32 × Mc} {M : Mc} {N : Md} {X1 : Int32} {X3 : Int32} {Z0 : Int32} {Z1 : Int32} (hE : EOK p s m args meth c cX2_answer 4 RX2 Y D σ np b0) (hr : meth.sig.returnType = (some .int)) (hco : is2 co) (hf : fX2_answer_J25 co M X1 X3 Z0 Z1 = some r) : Xw p l e (rmD 2) s m args below meth c 4 Y D σ np b0 0 0 (MQ below (QR Y D σ np b0 (some (.int r.1)) r.2 N) args s 0 0 (xA b0)) 25 [(0, .ref (σ co)), (1, .int X1), (3, .int X3)] [.int Z0, .int Z1, .ref (σ (co + 4))] M N := by
  unfold fX2_answer_J25 at hf
  refine x_iast hE (hE.kd (kB_2_6 hco)) dX2_answer_25 hf (fun M3 hf => ?_)
  refine x_aload_n hE 0 dX2_answer_26 rfl rfl ?_
  refine x_getR hE cl_2 (hE.kd (kO_2 hco)) (by decide) 5 (co + 3) rfl (by decide) lk_X2_18 dX2_answer_27 ?_
  refine x_iload_n hE 1 dX2_answer_30 rfl rfl ?_
  refine x_iload_n hE 2 dX2_answer_31 rfl rfl ?_
  refine x_iast hE (hE.kd (kB_2_5 hco)) dX2_answer_32 hf (fun M4 hf => ?_)
  refine x_iload_n hE 2 dX2_answer_33 rfl rfl ?_
  replace hf := Option.some.inj hf
  subst hf
  exact x_ireturn hE (v := X3) hr rfl dX2_answer_34
theorem mX2_answer (l : Launch) {Y : Nat → ClassId} {D : va_G} {σ : Nat → Nat} {np b0 : Nat} {M : Mc} {N : Md} {co : Nat} {p0 : Int32} {p1 : Int32} {p2 : Int32} {r : Int32 × Mc} (hco : is2 co) (hf : fX2_answer M co p0 p1 p2 = some r) : Met l yX2_answer (.code yX2_answer cX2_answer 4 (some .int) :: lw_g) (rmD 2) (PR Y D σ np b0 [.ref (σ co), .int p0, .int p1, .int p2] M N) (QR Y D σ np b0 (some (.int r.1)) r.2 N) 0 0 (xA b0) := by
  refine x_met (by decide) (Nat.le_of_ble_eq_true rfl) (fun p e s m args below meth c hE hr => ?_)
  unfold fX2_answer at hf
  refine x_pick [0, 1, 2, 3] (L' := [(0, .ref (σ co)), (1, .int p0), (2, .int p1), (3, .int p2)]) rfl ?_
  refine x_iload_n hE 1 dX2_answer_0 rfl rfl ?_
  refine x_bipush hE (nI 12) dX2_answer_1 (by decide) ?_
  obtain ⟨v2, hc1, hf⟩ := bnd_some hf
  refine x_callSN1 hE [.int p0, .int (nI 12)] (rest := []) (v := .int v2) (c1 := M) (d1 := N) rfl yokX11_inside ysX11_inside lk_X2_59 rfl rfl ⟨Nat.le_of_ble_eq_true rfl, Nat.le_of_ble_eq_true rfl⟩ ⟨Nat.zero_le _, Nat.zero_le _⟩ rfl (Nat.le_of_ble_eq_true rfl) dX2_answer_3 (mX11_inside l hc1) ?_
  refine x_if_ne hE 11 dX2_answer_6 (by decide) hf (fun hf => ?_) (fun hf => ?_)
  · refine x_aload_n hE 0 dX2_answer_11 rfl rfl ?_
    refine x_getR hE cl_2 (hE.kd (kO_2 hco)) (by decide) 6 (co + 4) rfl (by decide) lk_X2_21 dX2_answer_12 ?_
    refine x_iload_n hE 1 dX2_answer_15 rfl rfl ?_
    refine x_iload_n hE 2 dX2_answer_16 rfl rfl ?_
    refine x_if_eq hE 24 dX2_answer_17 (by decide) hf (fun hf => ?_) (fun hf => ?_)
    · refine x_iconst hE (0 : Int32) dX2_answer_24 (by decide) ?_
      refine x_pick [0, 1, 3] (L' := [(0, .ref (σ co)), (1, .int p0), (3, .int p2)]) rfl ?_
      exact wX2_answer_J25 hE hr hco hf
    · refine x_iconst hE (nI 1) dX2_answer_20 (by decide) ?_
      refine x_goto hE 25 dX2_answer_21 (by decide) ?_
      refine x_pick [0, 1, 3] (L' := [(0, .ref (σ co)), (1, .int p0), (3, .int p2)]) rfl ?_
      exact wX2_answer_J25 hE hr hco hf
  · refine x_iconst hE (-1) dX2_answer_9 (by decide) ?_
    replace hf := Option.some.inj hf
    subst hf
    exact x_ireturn hE (v := (-1)) hr rfl dX2_answer_10
theorem yokX2_answer : YOK yX2_answer cX2_answer 4 3 (some .int) := ⟨mem_g 1576 (by decide +kernel) (by decide +kernel), mem_g 139 (by decide +kernel) (by decide +kernel), by decide +kernel, by decide +kernel, by decide +kernel⟩
theorem yvX2_answer : YV yX2_answer := ⟨mem_g 1574 (by decide +kernel) (by decide +kernel), mem_g 1575 (by decide +kernel) (by decide +kernel)⟩
theorem dX2_isDue_0 : decode cX2_isDue 0 = .ok (.iload_n 1, 1) := by decide +kernel
theorem dX2_isDue_1 : decode cX2_isDue 1 = .ok (.bipush 12, 2) := by decide +kernel
theorem dX2_isDue_3 : decode cX2_isDue 3 = .ok (.invokestatic 59, 3) := by decide +kernel
theorem dX2_isDue_6 : decode cX2_isDue 6 = .ok (.ifCond .eq 35, 3) := by decide +kernel
theorem dX2_isDue_9 : decode cX2_isDue 9 = .ok (.iload_n 1, 1) := by decide +kernel
theorem dX2_isDue_10 : decode cX2_isDue 10 = .ok (.aload_n 0, 1) := by decide +kernel
theorem dX2_isDue_11 : decode cX2_isDue 11 = .ok (.getfield 46, 3) := by decide +kernel
theorem dX2_isDue_14 : decode cX2_isDue 14 = .ok (.if_icmp .ge 27, 3) := by decide +kernel
theorem dX2_isDue_17 : decode cX2_isDue 17 = .ok (.aload_n 0, 1) := by decide +kernel
theorem dX2_isDue_18 : decode cX2_isDue 18 = .ok (.getfield 9, 3) := by decide +kernel
theorem dX2_isDue_21 : decode cX2_isDue 21 = .ok (.iload_n 1, 1) := by decide +kernel
theorem dX2_isDue_22 : decode cX2_isDue 22 = .ok (.iaload, 1) := by decide +kernel
theorem dX2_isDue_23 : decode cX2_isDue 23 = .ok (.iconst 2, 1) := by decide +kernel
theorem dX2_isDue_24 : decode cX2_isDue 24 = .ok (.if_icmp .ne 17, 3) := by decide +kernel
theorem dX2_isDue_27 : decode cX2_isDue 27 = .ok (.aload_n 0, 1) := by decide +kernel
theorem dX2_isDue_28 : decode cX2_isDue 28 = .ok (.getfield 18, 3) := by decide +kernel
theorem dX2_isDue_31 : decode cX2_isDue 31 = .ok (.iload_n 1, 1) := by decide +kernel
theorem dX2_isDue_32 : decode cX2_isDue 32 = .ok (.iaload, 1) := by decide +kernel
theorem dX2_isDue_33 : decode cX2_isDue 33 = .ok (.iload_n 2, 1) := by decide +kernel
theorem dX2_isDue_34 : decode cX2_isDue 34 = .ok (.if_icmp .ne 7, 3) := by decide +kernel
theorem dX2_isDue_37 : decode cX2_isDue 37 = .ok (.iconst 1, 1) := by decide +kernel
theorem dX2_isDue_38 : decode cX2_isDue 38 = .ok (.goto 4, 3) := by decide +kernel
theorem dX2_isDue_41 : decode cX2_isDue 41 = .ok (.iconst 0, 1) := by decide +kernel
theorem dX2_isDue_42 : decode cX2_isDue 42 = .ok (.ireturn, 1) := by decide +kernel
theorem mX2_isDue (l : Launch) {Y : Nat → ClassId} {D : va_G} {σ : Nat → Nat} {np b0 : Nat} {M : Mc} {N : Md} {co : Nat} {p0 : Int32} {p1 : Int32} {r : Int32} (hco : is2 co) (hf : fX2_isDue M co p0 p1 = some r) : Met l yX2_isDue (.code yX2_isDue cX2_isDue 3 (some .boolean) :: lw_g) (rmD 2) (PR Y D σ np b0 [.ref (σ co), .int p0, .int p1] M N) (QR Y D σ np b0 (some (.int r)) M N) 0 0 (xA b0) := by
  refine x_met (by decide) (Nat.le_of_ble_eq_true rfl) (fun p e s m args below meth c hE hr => ?_)
  unfold fX2_isDue at hf
  refine x_pick [0, 1, 2] (L' := [(0, .ref (σ co)), (1, .int p0), (2, .int p1)]) rfl ?_
  refine x_iload_n hE 1 dX2_isDue_0 rfl rfl ?_
  refine x_bipush hE (nI 12) dX2_isDue_1 (by decide) ?_
  obtain ⟨v2, hc1, hf⟩ := bnd_some hf
  refine x_callSN1 hE [.int p0, .int (nI 12)] (rest := []) (v := .int v2) (c1 := M) (d1 := N) rfl yokX11_inside ysX11_inside lk_X2_59 rfl rfl ⟨Nat.le_of_ble_eq_true rfl, Nat.le_of_ble_eq_true rfl⟩ ⟨Nat.zero_le _, Nat.zero_le _⟩ rfl (Nat.le_of_ble_eq_true rfl) dX2_isDue_3 (mX11_inside l hc1) ?_
  refine x_if_eq hE 41 dX2_isDue_6 (by decide) hf (fun hf => ?_) (fun hf => ?_)
  · refine x_iconst hE (0 : Int32) dX2_isDue_41 (by decide) ?_
    replace hf := Option.some.inj hf
    subst hf
    exact x_ireturn hE (v := 0) hr rfl dX2_isDue_42
  · refine x_iload_n hE 1 dX2_isDue_9 rfl rfl ?_
    refine x_aload_n hE 0 dX2_isDue_10 rfl rfl ?_
    refine x_getI hE cl_2 (hE.kd (kO_2 hco)) (by decide) 1 rfl (by decide) lk_X2_46 dX2_isDue_11 ?_
    refine x_icmp_ge hE 41 dX2_isDue_14 (by decide) hf (fun hf => ?_) (fun hf => ?_)
    · refine x_iconst hE (0 : Int32) dX2_isDue_41 (by decide) ?_
      replace hf := Option.some.inj hf
      subst hf
      exact x_ireturn hE (v := 0) hr rfl dX2_isDue_42
    · refine x_aload_n hE 0 dX2_isDue_17 rfl rfl ?_
      refine x_getR hE cl_2 (hE.kd (kO_2 hco)) (by decide) 3 (co + 1) rfl (by decide) lk_X2_9 dX2_isDue_18 ?_
      refine x_iload_n hE 1 dX2_isDue_21 rfl rfl ?_
      refine x_iald hE (hE.kd (kB_2_3 hco)) dX2_isDue_22 hf (fun hf => ?_)
      refine x_iconst hE (nI 2) dX2_isDue_23 (by decide) ?_
      refine x_icmp_ne hE 41 dX2_isDue_24 (by decide) hf (fun hf => ?_) (fun hf => ?_)
      · refine x_iconst hE (0 : Int32) dX2_isDue_41 (by decide) ?_
        replace hf := Option.some.inj hf
        subst hf
        exact x_ireturn hE (v := 0) hr rfl dX2_isDue_42
      · refine x_aload_n hE 0 dX2_isDue_27 rfl rfl ?_
        refine x_getR hE cl_2 (hE.kd (kO_2 hco)) (by decide) 5 (co + 3) rfl (by decide) lk_X2_18 dX2_isDue_28 ?_
        refine x_iload_n hE 1 dX2_isDue_31 rfl rfl ?_
        refine x_iald hE (hE.kd (kB_2_5 hco)) dX2_isDue_32 hf (fun hf => ?_)
        refine x_iload_n hE 2 dX2_isDue_33 rfl rfl ?_
        refine x_icmp_ne hE 41 dX2_isDue_34 (by decide) hf (fun hf => ?_) (fun hf => ?_)
        · refine x_iconst hE (0 : Int32) dX2_isDue_41 (by decide) ?_
          replace hf := Option.some.inj hf
          subst hf
          exact x_ireturn hE (v := 0) hr rfl dX2_isDue_42
        · refine x_iconst hE (nI 1) dX2_isDue_37 (by decide) ?_
          refine x_goto hE 42 dX2_isDue_38 (by decide) ?_
          replace hf := Option.some.inj hf
          subst hf
          exact x_ireturn hE (v := nI 1) hr rfl dX2_isDue_42
theorem yokX2_isDue : YOK yX2_isDue cX2_isDue 3 2 (some .boolean) := ⟨mem_g 1688 (by decide +kernel) (by decide +kernel), mem_g 139 (by decide +kernel) (by decide +kernel), by decide +kernel, by decide +kernel, by decide +kernel⟩
theorem yvX2_isDue : YV yX2_isDue := ⟨mem_g 1686 (by decide +kernel) (by decide +kernel), mem_g 1687 (by decide +kernel) (by decide +kernel)⟩
theorem lk_X2_42 : Cond.fieldLink RX2 42 (TX2 0).1 (TX2 0).2.1 (TX2 0).2.2.1 ∈ lw_g := mem_g 362 (by decide +kernel) (by decide +kernel)
theorem lk_X2_63 : Cond.fieldLink RX2 63 (TX8 3).1 (TX8 3).2.1 (TX8 3).2.2.1 ∈ lw_g := mem_g 1500 (by decide +kernel) (by decide +kernel)
theorem dX2_hear_0 : decode cX2_hear 0 = .ok (.iload_n 1, 1) := by decide +kernel
theorem dX2_hear_1 : decode cX2_hear 1 = .ok (.bipush 12, 2) := by decide +kernel
theorem dX2_hear_3 : decode cX2_hear 3 = .ok (.invokestatic 59, 3) := by decide +kernel
theorem dX2_hear_6 : decode cX2_hear 6 = .ok (.ifCond .eq 15, 3) := by decide +kernel
theorem dX2_hear_9 : decode cX2_hear 9 = .ok (.iload_n 1, 1) := by decide +kernel
theorem dX2_hear_10 : decode cX2_hear 10 = .ok (.aload_n 0, 1) := by decide +kernel
theorem dX2_hear_11 : decode cX2_hear 11 = .ok (.getfield 42, 3) := by decide +kernel
theorem dX2_hear_14 : decode cX2_hear 14 = .ok (.arraylength, 1) := by decide +kernel
theorem dX2_hear_15 : decode cX2_hear 15 = .ok (.invokestatic 59, 3) := by decide +kernel
theorem dX2_hear_18 : decode cX2_hear 18 = .ok (.ifCond .ne 5, 3) := by decide +kernel
theorem dX2_hear_21 : decode cX2_hear 21 = .ok (.iconst 0, 1) := by decide +kernel
theorem dX2_hear_22 : decode cX2_hear 22 = .ok (.ireturn, 1) := by decide +kernel
theorem dX2_hear_23 : decode cX2_hear 23 = .ok (.aload_n 0, 1) := by decide +kernel
theorem dX2_hear_24 : decode cX2_hear 24 = .ok (.getfield 21, 3) := by decide +kernel
theorem dX2_hear_27 : decode cX2_hear 27 = .ok (.iload_n 1, 1) := by decide +kernel
theorem dX2_hear_28 : decode cX2_hear 28 = .ok (.iaload, 1) := by decide +kernel
theorem dX2_hear_29 : decode cX2_hear 29 = .ok (.iconst 1, 1) := by decide +kernel
theorem dX2_hear_30 : decode cX2_hear 30 = .ok (.if_icmp .ne 12, 3) := by decide +kernel
theorem dX2_hear_33 : decode cX2_hear 33 = .ok (.aload_n 0, 1) := by decide +kernel
theorem dX2_hear_34 : decode cX2_hear 34 = .ok (.getfield 9, 3) := by decide +kernel
theorem dX2_hear_37 : decode cX2_hear 37 = .ok (.iload_n 1, 1) := by decide +kernel
theorem dX2_hear_38 : decode cX2_hear 38 = .ok (.iconst 3, 1) := by decide +kernel
theorem dX2_hear_39 : decode cX2_hear 39 = .ok (.iastore, 1) := by decide +kernel
theorem dX2_hear_40 : decode cX2_hear 40 = .ok (.iconst 0, 1) := by decide +kernel
theorem dX2_hear_41 : decode cX2_hear 41 = .ok (.ireturn, 1) := by decide +kernel
theorem dX2_hear_42 : decode cX2_hear 42 = .ok (.aload_n 0, 1) := by decide +kernel
theorem dX2_hear_43 : decode cX2_hear 43 = .ok (.getfield 9, 3) := by decide +kernel
theorem dX2_hear_46 : decode cX2_hear 46 = .ok (.iload_n 1, 1) := by decide +kernel
theorem dX2_hear_47 : decode cX2_hear 47 = .ok (.iconst 4, 1) := by decide +kernel
theorem dX2_hear_48 : decode cX2_hear 48 = .ok (.iastore, 1) := by decide +kernel
theorem dX2_hear_49 : decode cX2_hear 49 = .ok (.aload_n 0, 1) := by decide +kernel
theorem dX2_hear_50 : decode cX2_hear 50 = .ok (.dup, 1) := by decide +kernel
theorem dX2_hear_51 : decode cX2_hear 51 = .ok (.getfield 50, 3) := by decide +kernel
theorem dX2_hear_54 : decode cX2_hear 54 = .ok (.iconst 1, 1) := by decide +kernel
theorem dX2_hear_55 : decode cX2_hear 55 = .ok (.iload_n 1, 1) := by decide +kernel
theorem dX2_hear_56 : decode cX2_hear 56 = .ok (.ishl, 1) := by decide +kernel
theorem dX2_hear_57 : decode cX2_hear 57 = .ok (.iconst (-1), 1) := by decide +kernel
theorem dX2_hear_58 : decode cX2_hear 58 = .ok (.ixor, 1) := by decide +kernel
theorem dX2_hear_59 : decode cX2_hear 59 = .ok (.iand, 1) := by decide +kernel
theorem dX2_hear_60 : decode cX2_hear 60 = .ok (.putfield 50, 3) := by decide +kernel
theorem dX2_hear_63 : decode cX2_hear 63 = .ok (.aload_n 0, 1) := by decide +kernel
theorem dX2_hear_64 : decode cX2_hear 64 = .ok (.getfield 42, 3) := by decide +kernel
theorem dX2_hear_67 : decode cX2_hear 67 = .ok (.iload_n 1, 1) := by decide +kernel
theorem dX2_hear_68 : decode cX2_hear 68 = .ok (.aaload, 1) := by decide +kernel
theorem dX2_hear_69 : decode cX2_hear 69 = .ok (.astore_n 2, 1) := by decide +kernel
theorem dX2_hear_70 : decode cX2_hear 70 = .ok (.aload_n 2, 1) := by decide +kernel
theorem dX2_hear_71 : decode cX2_hear 71 = .ok (.ifnull 14, 3) := by decide +kernel
theorem dX2_hear_74 : decode cX2_hear 74 = .ok (.aload_n 2, 1) := by decide +kernel
theorem dX2_hear_75 : decode cX2_hear 75 = .ok (.getfield 63, 3) := by decide +kernel
theorem dX2_hear_78 : decode cX2_hear 78 = .ok (.ifCond .eq 7, 3) := by decide +kernel
theorem dX2_hear_81 : decode cX2_hear 81 = .ok (.iconst 1, 1) := by decide +kernel
theorem dX2_hear_82 : decode cX2_hear 82 = .ok (.goto 4, 3) := by decide +kernel
theorem dX2_hear_85 : decode cX2_hear 85 = .ok (.iconst 0, 1) := by decide +kernel
theorem dX2_hear_86 : decode cX2_hear 86 = .ok (.ireturn, 1) := by decide +kernel
theorem mX2_hear (l : Launch) {Y : Nat → ClassId} {D : va_G} {σ : Nat → Nat} {np b0 : Nat} {M : Mc} {N : Md} {co : Nat} {p0 : Int32} {r : Int32 × Mc} (hco : is2 co) (hf : fX2_hear M co p0 = some r) : Met l yX2_hear (.code yX2_hear cX2_hear 3 (some .boolean) :: lw_g) (rmD 2) (PR Y D σ np b0 [.ref (σ co), .int p0] M N) (QR Y D σ np b0 (some (.int r.1)) r.2 N) 0 0 (xA b0) := by
  refine x_met (by decide) (Nat.le_of_ble_eq_true rfl) (fun p e s m args below meth c hE hr => ?_)
  unfold fX2_hear at hf
  refine x_pick [0, 1] (L' := [(0, .ref (σ co)), (1, .int p0)]) rfl ?_
  refine x_iload_n hE 1 dX2_hear_0 rfl rfl ?_
  refine x_bipush hE (nI 12) dX2_hear_1 (by decide) ?_
  obtain ⟨v2, hc1, hf⟩ := bnd_some hf
  refine x_callSN1 hE [.int p0, .int (nI 12)] (rest := []) (v := .int v2) (c1 := M) (d1 := N) rfl yokX11_inside ysX11_inside lk_X2_59 rfl rfl ⟨Nat.le_of_ble_eq_true rfl, Nat.le_of_ble_eq_true rfl⟩ ⟨Nat.zero_le _, Nat.zero_le _⟩ rfl (Nat.le_of_ble_eq_true rfl) dX2_hear_3 (mX11_inside l hc1) ?_
  refine x_if_eq hE 21 dX2_hear_6 (by decide) hf (fun hf => ?_) (fun hf => ?_)
  · refine x_iconst hE (0 : Int32) dX2_hear_21 (by decide) ?_
    replace hf := Option.some.inj hf
    subst hf
    exact x_ireturn hE (v := 0) hr rfl dX2_hear_22
  · refine x_iload_n hE 1 dX2_hear_9 rfl rfl ?_
    refine x_aload_n hE 0 dX2_hear_10 rfl rfl ?_
    refine x_getR hE cl_2 (hE.kd (kO_2 hco)) (by decide) 0 (16) rfl (by decide) lk_X2_42 dX2_hear_11 ?_
    refine x_alen hE (nI 12) (hE.kd kA_book) (Or.inr (Or.inr rfl)) rfl dX2_hear_14 ?_
    obtain ⟨v4, hc3, hf⟩ := bnd_some hf
    refine x_callSN1 hE [.int p0, .int (nI 12)] (rest := []) (v := .int v4) (c1 := M) (d1 := N) rfl yokX11_inside ysX11_inside lk_X2_59 rfl rfl ⟨Nat.le_of_ble_eq_true rfl, Nat.le_of_ble_eq_true rfl⟩ ⟨Nat.zero_le _, Nat.zero_le _⟩ rfl (Nat.le_of_ble_eq_true rfl) dX2_hear_15 (mX11_inside l hc3) ?_
    refine x_if_ne hE 23 dX2_hear_18 (by decide) hf (fun hf => ?_) (fun hf => ?_)
    · refine x_aload_n hE 0 dX2_hear_23 rfl rfl ?_
      refine x_getR hE cl_2 (hE.kd (kO_2 hco)) (by decide) 6 (co + 4) rfl (by decide) lk_X2_21 dX2_hear_24 ?_
      refine x_iload_n hE 1 dX2_hear_27 rfl rfl ?_
      refine x_iald hE (hE.kd (kB_2_6 hco)) dX2_hear_28 hf (fun hf => ?_)
      refine x_iconst hE (nI 1) dX2_hear_29 (by decide) ?_
      refine x_icmp_ne hE 42 dX2_hear_30 (by decide) hf (fun hf => ?_) (fun hf => ?_)
      · refine x_aload_n hE 0 dX2_hear_42 rfl rfl ?_
        refine x_getR hE cl_2 (hE.kd (kO_2 hco)) (by decide) 3 (co + 1) rfl (by decide) lk_X2_9 dX2_hear_43 ?_
        refine x_iload_n hE 1 dX2_hear_46 rfl rfl ?_
        refine x_iconst hE (nI 4) dX2_hear_47 (by decide) ?_
        refine x_iast hE (hE.kd (kB_2_3 hco)) dX2_hear_48 hf (fun M5 hf => ?_)
        refine x_aload_n hE 0 dX2_hear_49 rfl rfl ?_
        refine x_dup hE dX2_hear_50 rfl ?_
        refine x_getI hE cl_2 (hE.kd (kO_2 hco)) (by decide) 2 rfl (by decide) lk_X2_50 dX2_hear_51 ?_
        refine x_iconst hE (nI 1) dX2_hear_54 (by decide) ?_
        refine x_iload_n hE 1 dX2_hear_55 rfl rfl ?_
        refine x_ishl hE dX2_hear_56 ?_
        refine x_iconst hE (-1) dX2_hear_57 (by decide) ?_
        refine x_ixor hE dX2_hear_58 ?_
        refine x_iand hE dX2_hear_59 ?_
        refine x_putI hE cl_2 (hE.kd (kO_2 hco)) (by decide) 2 rfl (by decide) lk_X2_50 rfl rfl rfl rfl dX2_hear_60 hf (fun M6 hf => ?_)
        refine x_aload_n hE 0 dX2_hear_63 rfl rfl ?_
        refine x_getR hE cl_2 (hE.kd (kO_2 hco)) (by decide) 0 (16) rfl (by decide) lk_X2_42 dX2_hear_64 ?_
        refine x_iload_n hE 1 dX2_hear_67 rfl rfl ?_
        refine x_aldB hE dX2_hear_68 hf (fun z7 hz7 hf => ?_)
        refine x_vrf hz7 hf (fun hf => ?_) (fun hz7 hf => ?_)
        · refine x_astore_nN hE (L' := [(2, .null), (0, .ref (σ co)), (1, .int p0)]) dX2_hear_69 rfl (by decide) rfl ?_
          refine x_pick [1, 2, 0] (L' := [(0, .ref (σ co)), (1, .int p0), (2, .null)]) rfl ?_
          refine x_aload_nN hE 2 dX2_hear_70 rfl rfl ?_
          refine x_ifnullN hE 85 dX2_hear_71 (by decide) ?_
          refine x_iconst hE (0 : Int32) dX2_hear_85 (by decide) ?_
          replace hf := Option.some.inj hf
          subst hf
          exact x_ireturn hE (v := 0) hr rfl dX2_hear_86
        · refine x_astore_n hE (L' := [(2, .ref (σ z7)), (0, .ref (σ co)), (1, .int p0)]) dX2_hear_69 rfl (by decide) rfl ?_
          refine x_pick [1, 2, 0] (L' := [(0, .ref (σ co)), (1, .int p0), (2, .ref (σ z7))]) rfl ?_
          refine x_aload_n hE 2 dX2_hear_70 rfl rfl ?_
          refine x_ifnull hE dX2_hear_71 ?_
          refine x_aload_n hE 2 dX2_hear_74 rfl rfl ?_
          refine x_getI hE cl_8 (kO_8 hz7) (by decide) 3 rfl (by decide) lk_X2_63 dX2_hear_75 ?_
          refine x_if_eq hE 85 dX2_hear_78 (by decide) hf (fun hf => ?_) (fun hf => ?_)
          · refine x_iconst hE (0 : Int32) dX2_hear_85 (by decide) ?_
            replace hf := Option.some.inj hf
            subst hf
            exact x_ireturn hE (v := 0) hr rfl dX2_hear_86
          · refine x_iconst hE (nI 1) dX2_hear_81 (by decide) ?_
            refine x_goto hE 86 dX2_hear_82 (by decide) ?_
            replace hf := Option.some.inj hf
            subst hf
            exact x_ireturn hE (v := nI 1) hr rfl dX2_hear_86
      · refine x_aload_n hE 0 dX2_hear_33 rfl rfl ?_
        refine x_getR hE cl_2 (hE.kd (kO_2 hco)) (by decide) 3 (co + 1) rfl (by decide) lk_X2_9 dX2_hear_34 ?_
        refine x_iload_n hE 1 dX2_hear_37 rfl rfl ?_
        refine x_iconst hE (nI 3) dX2_hear_38 (by decide) ?_
        refine x_iast hE (hE.kd (kB_2_3 hco)) dX2_hear_39 hf (fun M8 hf => ?_)
        refine x_iconst hE (0 : Int32) dX2_hear_40 (by decide) ?_
        replace hf := Option.some.inj hf
        subst hf
        exact x_ireturn hE (v := 0) hr rfl dX2_hear_41
    · refine x_iconst hE (0 : Int32) dX2_hear_21 (by decide) ?_
      replace hf := Option.some.inj hf
      subst hf
      exact x_ireturn hE (v := 0) hr rfl dX2_hear_22
theorem yokX2_hear : YOK yX2_hear cX2_hear 3 1 (some .boolean) := ⟨mem_g 1692 (by decide +kernel) (by decide +kernel), mem_g 139 (by decide +kernel) (by decide +kernel), by decide +kernel, by decide +kernel, by decide +kernel⟩
theorem yvX2_hear : YV yX2_hear := ⟨mem_g 1690 (by decide +kernel) (by decide +kernel), mem_g 1691 (by decide +kernel) (by decide +kernel)⟩
theorem lk_X2_67 : Cond.methodLink RX2 67 yX8_tells ∈ lw_g := mem_g 652 (by decide +kernel) (by decide +kernel)
theorem dX2_teller_0 : decode cX2_teller 0 = .ok (.bipush 11, 2) := by decide +kernel
theorem dX2_teller_2 : decode cX2_teller 2 = .ok (.istore_n 3, 1) := by decide +kernel
theorem dX2_teller_3 : decode cX2_teller 3 = .ok (.iload_n 3, 1) := by decide +kernel
theorem dX2_teller_4 : decode cX2_teller 4 = .ok (.ifCond .lt 55, 3) := by decide +kernel
theorem dX2_teller_7 : decode cX2_teller 7 = .ok (.iload_n 3, 1) := by decide +kernel
theorem dX2_teller_8 : decode cX2_teller 8 = .ok (.aload_n 0, 1) := by decide +kernel
theorem dX2_teller_9 : decode cX2_teller 9 = .ok (.getfield 42, 3) := by decide +kernel
theorem dX2_teller_12 : decode cX2_teller 12 = .ok (.arraylength, 1) := by decide +kernel
theorem dX2_teller_13 : decode cX2_teller 13 = .ok (.if_icmp .ge 12, 3) := by decide +kernel
theorem dX2_teller_16 : decode cX2_teller 16 = .ok (.aload_n 0, 1) := by decide +kernel
theorem dX2_teller_17 : decode cX2_teller 17 = .ok (.getfield 42, 3) := by decide +kernel
theorem dX2_teller_20 : decode cX2_teller 20 = .ok (.iload_n 3, 1) := by decide +kernel
theorem dX2_teller_21 : decode cX2_teller 21 = .ok (.aaload, 1) := by decide +kernel
theorem dX2_teller_22 : decode cX2_teller 22 = .ok (.goto 4, 3) := by decide +kernel
theorem dX2_teller_25 : decode cX2_teller 25 = .ok (.aconst_null, 1) := by decide +kernel
theorem dX2_teller_26 : decode cX2_teller 26 = .ok (.astore 4, 2) := by decide +kernel
theorem dX2_teller_28 : decode cX2_teller 28 = .ok (.iload_n 1, 1) := by decide +kernel
theorem dX2_teller_29 : decode cX2_teller 29 = .ok (.iload_n 3, 1) := by decide +kernel
theorem dX2_teller_30 : decode cX2_teller 30 = .ok (.ishr, 1) := by decide +kernel
theorem dX2_teller_31 : decode cX2_teller 31 = .ok (.iconst 1, 1) := by decide +kernel
theorem dX2_teller_32 : decode cX2_teller 32 = .ok (.iand, 1) := by decide +kernel
theorem dX2_teller_33 : decode cX2_teller 33 = .ok (.iconst 1, 1) := by decide +kernel
theorem dX2_teller_34 : decode cX2_teller 34 = .ok (.if_icmp .ne 19, 3) := by decide +kernel
theorem dX2_teller_37 : decode cX2_teller 37 = .ok (.aload 4, 2) := by decide +kernel
theorem dX2_teller_39 : decode cX2_teller 39 = .ok (.ifnull 14, 3) := by decide +kernel
theorem dX2_teller_42 : decode cX2_teller 42 = .ok (.aload 4, 2) := by decide +kernel
theorem dX2_teller_44 : decode cX2_teller 44 = .ok (.iload_n 2, 1) := by decide +kernel
theorem dX2_teller_45 : decode cX2_teller 45 = .ok (.invokevirtual 67, 3) := by decide +kernel
theorem dX2_teller_48 : decode cX2_teller 48 = .ok (.ifCond .eq 5, 3) := by decide +kernel
theorem dX2_teller_51 : decode cX2_teller 51 = .ok (.iload_n 3, 1) := by decide +kernel
theorem dX2_teller_52 : decode cX2_teller 52 = .ok (.ireturn, 1) := by decide +kernel
theorem dX2_teller_53 : decode cX2_teller 53 = .ok (.iinc 3 (-1), 3) := by decide +kernel
theorem dX2_teller_56 : decode cX2_teller 56 = .ok (.goto (-53), 3) := by decide +kernel
theorem dX2_teller_59 : decode cX2_teller 59 = .ok (.iconst (-1), 1) := by decide +kernel
theorem dX2_teller_60 : decode cX2_teller 60 = .ok (.ireturn, 1) := by decide +kernel
theorem wX2_teller_J53 {p : Program} {l : Launch} {e : Env} {s : State} {m : MethodId} {args : Array Value} {below : List Frame} {meth : Method} {c : Code} {Y : Nat → ClassId} {D : va_G} {σ : Nat → Nat} {np b0 : Nat} {co : Nat} {r : Int32} {K3 : Mc → Int32 → Int32 → Int32 → Option (Int32)} {M : Mc} {N : Md} {X1 : Int32} {X2 : Int32} {X3 : Int32} (hE : EOK p s m args meth c cX2_teller 5 RX2 Y D σ np b0) (hr : meth.sig.returnType = (some .int)) (hco : is2 co) (hK3 : ∀ (M : Mc) (N : Md) (X1 : Int32) (X2 : Int32) (X3 : Int32), K3 M X1 X2 X3 = some r → Xw p l e (rmD 2) s m args below meth c 5 Y D σ np b0 0 0 (MQ below (QR Y D σ np b0 (some (.int r)) M N) args s 0 0 (xA b0)) 3 [(0, .ref (σ co)), (1, .int X1), (2, .int X2), (3, .int X3)] [] M N) (hf : fX2_teller_J53 co K3 M X1 X2 X3 = some r) : Xw p l e (rmD 2) s m args below meth c 5 Y D σ np b0 0 0 (MQ below (QR Y D σ np b0 (some (.int r)) M N) args s 0 0 (xA b0)) 53 [(0, .ref (σ co)), (1, .int X1), (2, .int X2), (3, .int X3)] [] M N := by
  unfold fX2_teller_J53 at hf
  refine x_iinc hE 3 (X3 + (-1)) (L' := [(3, .int (X3 + (-1))), (0, .ref (σ co)), (1, .int X1), (2, .int X2)]) dX2_teller_53 rfl rfl (by decide) rfl ?_
  refine x_pick [1, 2, 3, 0] (L' := [(0, .ref (σ co)), (1, .int X1), (2, .int X2), (3, .int (X3 + (-1)))]) rfl ?_
  refine x_goto hE 3 dX2_teller_56 (by decide) ?_
  exact hK3 _ _ _ _ _ hf
theorem wX2_teller_L3 {p : Program} {l : Launch} {e : Env} {s : State} {m : MethodId} {args : Array Value} {below : List Frame} {meth : Method} {c : Code} {Y : Nat → ClassId} {D : va_G} {σ : Nat → Nat} {np b0 : Nat} {co : Nat} {r : Int32} (hE : EOK p s m args meth c cX2_teller 5 RX2 Y D σ np b0) (hr : meth.sig.returnType = (some .int)) (hco : is2 co) : ∀ (n : Nat) (M : Mc) (N : Md) (X1 : Int32) (X2 : Int32) (X3 : Int32), fX2_teller_L3 co n M X1 X2 X3 = some r → Xw p l e (rmD 2) s m args below meth c 5 Y D σ np b0 0 0 (MQ below (QR Y D σ np b0 (some (.int r)) M N) args s 0 0 (xA b0)) 3 [(0, .ref (σ co)), (1, .int X1), (2, .int X2), (3, .int X3)] [] M N := by
  intro n
  induction n with
  | zero =>
    intro M N X1 X2 X3 hf
    cases hf
  | succ n ih =>
    intro M N X1 X2 X3 hf
    rw [fX2_teller_L3.eq_2] at hf
    refine x_iload_n hE 3 dX2_teller_3 rfl rfl ?_
    refine x_if_lt hE 59 dX2_teller_4 (by decide) hf (fun hf => ?_) (fun hf => ?_)
    · refine x_iconst hE (-1) dX2_teller_59 (by decide) ?_
      replace hf := Option.some.inj hf
      subst hf
      exact x_ireturn hE (v := (-1)) hr rfl dX2_teller_60
    · refine x_iload_n hE 3 dX2_teller_7 rfl rfl ?_
      refine x_aload_n hE 0 dX2_teller_8 rfl rfl ?_
      refine x_getR hE cl_2 (hE.kd (kO_2 hco)) (by decide) 0 (16) rfl (by decide) lk_X2_42 dX2_teller_9 ?_
      refine x_alen hE (nI 12) (hE.kd kA_book) (Or.inr (Or.inr rfl)) rfl dX2_teller_12 ?_
      refine x_icmp_ge hE 25 dX2_teller_13 (by decide) hf (fun hf => ?_) (fun hf => ?_)
      · refine x_null hE dX2_teller_25 ?_
        refine x_astoreN hE (L' := [(4, .null), (0, .ref (σ co)), (1, .int X1), (2, .int X2), (3, .int X3)]) dX2_teller_26 (by decide) rfl ?_
        refine x_pick [1, 2, 3, 4, 0] (L' := [(0, .ref (σ co)), (1, .int X1), (2, .int X2), (3, .int X3), (4, .null)]) rfl ?_
        refine x_iload_n hE 1 dX2_teller_28 rfl rfl ?_
        refine x_iload_n hE 3 dX2_teller_29 rfl rfl ?_
        refine x_ishr hE dX2_teller_30 ?_
        refine x_iconst hE (nI 1) dX2_teller_31 (by decide) ?_
        refine x_iand hE dX2_teller_32 ?_
        refine x_iconst hE (nI 1) dX2_teller_33 (by decide) ?_
        refine x_icmp_ne hE 53 dX2_teller_34 (by decide) hf (fun hf => ?_) (fun hf => ?_)
        · refine x_pick [0, 1, 2, 3] (L' := [(0, .ref (σ co)), (1, .int X1), (2, .int X2), (3, .int X3)]) rfl ?_
          exact wX2_teller_J53 hE hr hco (fun _ _ _ _ _ hf => ih _ _ _ _ _ hf) hf
        · refine x_aloadN hE 4 dX2_teller_37 rfl ?_
          refine x_ifnullN hE 53 dX2_teller_39 (by decide) ?_
          refine x_pick [0, 1, 2, 3] (L' := [(0, .ref (σ co)), (1, .int X1), (2, .int X2), (3, .int X3)]) rfl ?_
          exact wX2_teller_J53 hE hr hco (fun _ _ _ _ _ hf => ih _ _ _ _ _ hf) hf
      · refine x_aload_n hE 0 dX2_teller_16 rfl rfl ?_
        refine x_getR hE cl_2 (hE.kd (kO_2 hco)) (by decide) 0 (16) rfl (by decide) lk_X2_42 dX2_teller_17 ?_
        refine x_iload_n hE 3 dX2_teller_20 rfl rfl ?_
        refine x_aldB hE dX2_teller_21 hf (fun z1 hz1 hf => ?_)
        refine x_vrf hz1 hf (fun hf => ?_) (fun hz1 hf => ?_)
        · refine x_goto hE 26 dX2_teller_22 (by decide) ?_
          refine x_astoreN hE (L' := [(4, .null), (0, .ref (σ co)), (1, .int X1), (2, .int X2), (3, .int X3)]) dX2_teller_26 (by decide) rfl ?_
          refine x_pick [1, 2, 3, 4, 0] (L' := [(0, .ref (σ co)), (1, .int X1), (2, .int X2), (3, .int X3), (4, .null)]) rfl ?_
          refine x_iload_n hE 1 dX2_teller_28 rfl rfl ?_
          refine x_iload_n hE 3 dX2_teller_29 rfl rfl ?_
          refine x_ishr hE dX2_teller_30 ?_
          refine x_iconst hE (nI 1) dX2_teller_31 (by decide) ?_
          refine x_iand hE dX2_teller_32 ?_
          refine x_iconst hE (nI 1) dX2_teller_33 (by decide) ?_
          refine x_icmp_ne hE 53 dX2_teller_34 (by decide) hf (fun hf => ?_) (fun hf => ?_)
          · refine x_pick [0, 1, 2, 3] (L' := [(0, .ref (σ co)), (1, .int X1), (2, .int X2), (3, .int X3)]) rfl ?_
            exact wX2_teller_J53 hE hr hco (fun _ _ _ _ _ hf => ih _ _ _ _ _ hf) hf
          · refine x_aloadN hE 4 dX2_teller_37 rfl ?_
            refine x_ifnullN hE 53 dX2_teller_39 (by decide) ?_
            refine x_pick [0, 1, 2, 3] (L' := [(0, .ref (σ co)), (1, .int X1), (2, .int X2), (3, .int X3)]) rfl ?_
            exact wX2_teller_J53 hE hr hco (fun _ _ _ _ _ hf => ih _ _ _ _ _ hf) hf
        · refine x_goto hE 26 dX2_teller_22 (by decide) ?_
          refine x_astore hE (L' := [(4, .ref (σ z1)), (0, .ref (σ co)), (1, .int X1), (2, .int X2), (3, .int X3)]) dX2_teller_26 (by decide) rfl ?_
          refine x_pick [1, 2, 3, 4, 0] (L' := [(0, .ref (σ co)), (1, .int X1), (2, .int X2), (3, .int X3), (4, .ref (σ z1))]) rfl ?_
          refine x_iload_n hE 1 dX2_teller_28 rfl rfl ?_
          refine x_iload_n hE 3 dX2_teller_29 rfl rfl ?_
          refine x_ishr hE dX2_teller_30 ?_
          refine x_iconst hE (nI 1) dX2_teller_31 (by decide) ?_
          refine x_iand hE dX2_teller_32 ?_
          refine x_iconst hE (nI 1) dX2_teller_33 (by decide) ?_
          refine x_icmp_ne hE 53 dX2_teller_34 (by decide) hf (fun hf => ?_) (fun hf => ?_)
          · refine x_pick [0, 1, 2, 3] (L' := [(0, .ref (σ co)), (1, .int X1), (2, .int X2), (3, .int X3)]) rfl ?_
            exact wX2_teller_J53 hE hr hco (fun _ _ _ _ _ hf => ih _ _ _ _ _ hf) hf
          · refine x_aload hE 4 dX2_teller_37 rfl ?_
            refine x_ifnull hE dX2_teller_39 ?_
            refine x_aload hE 4 dX2_teller_42 rfl ?_
            refine x_iload_n hE 2 dX2_teller_44 rfl rfl ?_
            obtain ⟨v3, hc2, hf⟩ := bnd_some hf
            refine x_callV1 hE [.int X2] (rest := []) (v := .int v3) (c1 := M) (d1 := N) rfl yokX8_tells yvX8_tells lk_X2_67 rfl cl_8 (kO_8 hz1) (by decide) rfl rfl ⟨Nat.le_of_ble_eq_true rfl, Nat.le_of_ble_eq_true rfl⟩ ⟨Nat.zero_le _, Nat.zero_le _⟩ rfl (Nat.le_of_ble_eq_true rfl) dX2_teller_45 (mX8_tells l hz1 hc2) ?_
            refine x_if_eq hE 53 dX2_teller_48 (by decide) hf (fun hf => ?_) (fun hf => ?_)
            · refine x_pick [0, 1, 2, 3] (L' := [(0, .ref (σ co)), (1, .int X1), (2, .int X2), (3, .int X3)]) rfl ?_
              exact wX2_teller_J53 hE hr hco (fun _ _ _ _ _ hf => ih _ _ _ _ _ hf) hf
            · refine x_iload_n hE 3 dX2_teller_51 rfl rfl ?_
              replace hf := Option.some.inj hf
              subst hf
              exact x_ireturn hE (v := X3) hr rfl dX2_teller_52
theorem mX2_teller (l : Launch) {Y : Nat → ClassId} {D : va_G} {σ : Nat → Nat} {np b0 : Nat} {M : Mc} {N : Md} {co : Nat} {p0 : Int32} {p1 : Int32} {r : Int32} (hco : is2 co) (hf : fX2_teller M co p0 p1 = some r) : Met l yX2_teller (.code yX2_teller cX2_teller 5 (some .int) :: lw_g) (rmD 2) (PR Y D σ np b0 [.ref (σ co), .int p0, .int p1] M N) (QR Y D σ np b0 (some (.int r)) M N) 0 0 (xA b0) := by
  refine x_met (by decide) (Nat.le_of_ble_eq_true rfl) (fun p e s m args below meth c hE hr => ?_)
  unfold fX2_teller at hf
  refine x_pick [0, 1, 2] (L' := [(0, .ref (σ co)), (1, .int p0), (2, .int p1)]) rfl ?_
  refine x_bipush hE (nI 11) dX2_teller_0 (by decide) ?_
  refine x_istore_n hE (L' := [(3, .int (nI 11)), (0, .ref (σ co)), (1, .int p0), (2, .int p1)]) dX2_teller_2 rfl (by decide) rfl ?_
  refine x_pick [1, 2, 3, 0] (L' := [(0, .ref (σ co)), (1, .int p0), (2, .int p1), (3, .int (nI 11))]) rfl ?_
  exact wX2_teller_L3 hE hr hco FU _ _ _ _ _ hf
theorem yokX2_teller : YOK yX2_teller cX2_teller 5 2 (some .int) := ⟨mem_g 651 (by decide +kernel) (by decide +kernel), mem_g 139 (by decide +kernel) (by decide +kernel), by decide +kernel, by decide +kernel, by decide +kernel⟩
theorem yvX2_teller : YV yX2_teller := ⟨mem_g 649 (by decide +kernel) (by decide +kernel), mem_g 650 (by decide +kernel) (by decide +kernel)⟩
theorem lk_X2_71 : Cond.methodLink RX2 71 yX2_teller ∈ lw_g := mem_g 648 (by decide +kernel) (by decide +kernel)
theorem lk_X2_75 : Cond.fieldLinkNest RX2 75 "SettlerColony" "USUAL" "[I" "SettlerColony" ∈ lw_nw := mem_n 656 (by decide +kernel) rfl
theorem lk_X2_36 : Cond.fieldLink RX2 36 (TX2 10).1 (TX2 10).2.1 (TX2 10).2.2.1 ∈ lw_g := mem_g 376 (by decide +kernel) (by decide +kernel)
theorem lk_X2_39 : Cond.fieldLink RX2 39 (TX2 11).1 (TX2 11).2.1 (TX2 11).2.2.1 ∈ lw_g := mem_g 377 (by decide +kernel) (by decide +kernel)
theorem lk_X2_78 : Cond.methodLink RX2 78 yX8_value ∈ lw_g := mem_g 657 (by decide +kernel) (by decide +kernel)
theorem lk_X2_82 : Cond.methodLink RX2 82 Lib.Math.min.name ∈ lw_g := mem_g 664 (by decide +kernel) (by decide +kernel)
theorem lk_X2_87 : Cond.methodLink RX2 87 Lib.Math.max.name ∈ lw_g := mem_g 667 (by decide +kernel) (by decide +kernel)
theorem dX2_meaning_0 : decode cX2_meaning 0 = .ok (.aload_n 0, 1) := by decide +kernel
theorem dX2_meaning_1 : decode cX2_meaning 1 = .ok (.iload_n 1, 1) := by decide +kernel
theorem dX2_meaning_2 : decode cX2_meaning 2 = .ok (.iload_n 2, 1) := by decide +kernel
theorem dX2_meaning_3 : decode cX2_meaning 3 = .ok (.invokevirtual 71, 3) := by decide +kernel
theorem dX2_meaning_6 : decode cX2_meaning 6 = .ok (.istore 7, 2) := by decide +kernel
theorem dX2_meaning_8 : decode cX2_meaning 8 = .ok (.iload 7, 2) := by decide +kernel
theorem dX2_meaning_10 : decode cX2_meaning 10 = .ok (.ifCond .lt 23, 3) := by decide +kernel
theorem dX2_meaning_13 : decode cX2_meaning 13 = .ok (.iload 7, 2) := by decide +kernel
theorem dX2_meaning_15 : decode cX2_meaning 15 = .ok (.aload_n 0, 1) := by decide +kernel
theorem dX2_meaning_16 : decode cX2_meaning 16 = .ok (.getfield 42, 3) := by decide +kernel
theorem dX2_meaning_19 : decode cX2_meaning 19 = .ok (.arraylength, 1) := by decide +kernel
theorem dX2_meaning_20 : decode cX2_meaning 20 = .ok (.if_icmp .ge 13, 3) := by decide +kernel
theorem dX2_meaning_23 : decode cX2_meaning 23 = .ok (.aload_n 0, 1) := by decide +kernel
theorem dX2_meaning_24 : decode cX2_meaning 24 = .ok (.getfield 42, 3) := by decide +kernel
theorem dX2_meaning_27 : decode cX2_meaning 27 = .ok (.iload 7, 2) := by decide +kernel
theorem dX2_meaning_29 : decode cX2_meaning 29 = .ok (.aaload, 1) := by decide +kernel
theorem dX2_meaning_30 : decode cX2_meaning 30 = .ok (.goto 4, 3) := by decide +kernel
theorem dX2_meaning_33 : decode cX2_meaning 33 = .ok (.aconst_null, 1) := by decide +kernel
theorem dX2_meaning_34 : decode cX2_meaning 34 = .ok (.astore 8, 2) := by decide +kernel
theorem dX2_meaning_36 : decode cX2_meaning 36 = .ok (.aload 8, 2) := by decide +kernel
theorem dX2_meaning_38 : decode cX2_meaning 38 = .ok (.ifnonnull 25, 3) := by decide +kernel
theorem dX2_meaning_41 : decode cX2_meaning 41 = .ok (.iload_n 2, 1) := by decide +kernel
theorem dX2_meaning_42 : decode cX2_meaning 42 = .ok (.ifCond .lt 19, 3) := by decide +kernel
theorem dX2_meaning_45 : decode cX2_meaning 45 = .ok (.iload_n 2, 1) := by decide +kernel
theorem dX2_meaning_46 : decode cX2_meaning 46 = .ok (.getstatic 75, 3) := by decide +kernel
theorem dX2_meaning_49 : decode cX2_meaning 49 = .ok (.arraylength, 1) := by decide +kernel
theorem dX2_meaning_50 : decode cX2_meaning 50 = .ok (.if_icmp .ge 11, 3) := by decide +kernel
theorem dX2_meaning_53 : decode cX2_meaning 53 = .ok (.getstatic 75, 3) := by decide +kernel
theorem dX2_meaning_56 : decode cX2_meaning 56 = .ok (.iload_n 2, 1) := by decide +kernel
theorem dX2_meaning_57 : decode cX2_meaning 57 = .ok (.iaload, 1) := by decide +kernel
theorem dX2_meaning_58 : decode cX2_meaning 58 = .ok (.goto 4, 3) := by decide +kernel
theorem dX2_meaning_61 : decode cX2_meaning 61 = .ok (.iconst 0, 1) := by decide +kernel
theorem dX2_meaning_62 : decode cX2_meaning 62 = .ok (.ireturn, 1) := by decide +kernel
theorem dX2_meaning_63 : decode cX2_meaning 63 = .ok (.aload_n 0, 1) := by decide +kernel
theorem dX2_meaning_64 : decode cX2_meaning 64 = .ok (.getfield 36, 3) := by decide +kernel
theorem dX2_meaning_67 : decode cX2_meaning 67 = .ok (.iconst 0, 1) := by decide +kernel
theorem dX2_meaning_68 : decode cX2_meaning 68 = .ok (.iload_n 3, 1) := by decide +kernel
theorem dX2_meaning_69 : decode cX2_meaning 69 = .ok (.iastore, 1) := by decide +kernel
theorem dX2_meaning_70 : decode cX2_meaning 70 = .ok (.aload_n 0, 1) := by decide +kernel
theorem dX2_meaning_71 : decode cX2_meaning 71 = .ok (.getfield 36, 3) := by decide +kernel
theorem dX2_meaning_74 : decode cX2_meaning 74 = .ok (.iconst 1, 1) := by decide +kernel
theorem dX2_meaning_75 : decode cX2_meaning 75 = .ok (.iload_n 3, 1) := by decide +kernel
theorem dX2_meaning_76 : decode cX2_meaning 76 = .ok (.bipush 52, 2) := by decide +kernel
theorem dX2_meaning_78 : decode cX2_meaning 78 = .ok (.idiv, 1) := by decide +kernel
theorem dX2_meaning_79 : decode cX2_meaning 79 = .ok (.iastore, 1) := by decide +kernel
theorem dX2_meaning_80 : decode cX2_meaning 80 = .ok (.aload_n 0, 1) := by decide +kernel
theorem dX2_meaning_81 : decode cX2_meaning 81 = .ok (.getfield 36, 3) := by decide +kernel
theorem dX2_meaning_84 : decode cX2_meaning 84 = .ok (.iconst 2, 1) := by decide +kernel
theorem dX2_meaning_85 : decode cX2_meaning 85 = .ok (.iload 4, 2) := by decide +kernel
theorem dX2_meaning_87 : decode cX2_meaning 87 = .ok (.iastore, 1) := by decide +kernel
theorem dX2_meaning_88 : decode cX2_meaning 88 = .ok (.aload_n 0, 1) := by decide +kernel
theorem dX2_meaning_89 : decode cX2_meaning 89 = .ok (.getfield 36, 3) := by decide +kernel
theorem dX2_meaning_92 : decode cX2_meaning 92 = .ok (.iconst 3, 1) := by decide +kernel
theorem dX2_meaning_93 : decode cX2_meaning 93 = .ok (.iload 5, 2) := by decide +kernel
theorem dX2_meaning_95 : decode cX2_meaning 95 = .ok (.iastore, 1) := by decide +kernel
theorem dX2_meaning_96 : decode cX2_meaning 96 = .ok (.aload_n 0, 1) := by decide +kernel
theorem dX2_meaning_97 : decode cX2_meaning 97 = .ok (.getfield 36, 3) := by decide +kernel
theorem dX2_meaning_100 : decode cX2_meaning 100 = .ok (.iconst 4, 1) := by decide +kernel
theorem dX2_meaning_101 : decode cX2_meaning 101 = .ok (.iload 6, 2) := by decide +kernel
theorem dX2_meaning_103 : decode cX2_meaning 103 = .ok (.iastore, 1) := by decide +kernel
theorem dX2_meaning_104 : decode cX2_meaning 104 = .ok (.aload 8, 2) := by decide +kernel
theorem dX2_meaning_106 : decode cX2_meaning 106 = .ok (.iload_n 2, 1) := by decide +kernel
theorem dX2_meaning_107 : decode cX2_meaning 107 = .ok (.aload_n 0, 1) := by decide +kernel
theorem dX2_meaning_108 : decode cX2_meaning 108 = .ok (.getfield 36, 3) := by decide +kernel
theorem dX2_meaning_111 : decode cX2_meaning 111 = .ok (.aload_n 0, 1) := by decide +kernel
theorem dX2_meaning_112 : decode cX2_meaning 112 = .ok (.getfield 39, 3) := by decide +kernel
theorem dX2_meaning_115 : decode cX2_meaning 115 = .ok (.invokevirtual 78, 3) := by decide +kernel
theorem dX2_meaning_118 : decode cX2_meaning 118 = .ok (.istore 9, 2) := by decide +kernel
theorem dX2_meaning_120 : decode cX2_meaning 120 = .ok (.iload_n 2, 1) := by decide +kernel
theorem dX2_meaning_121 : decode cX2_meaning 121 = .ok (.ifCond .ne 7, 3) := by decide +kernel
theorem dX2_meaning_124 : decode cX2_meaning 124 = .ok (.iconst 1, 1) := by decide +kernel
theorem dX2_meaning_125 : decode cX2_meaning 125 = .ok (.goto 4, 3) := by decide +kernel
theorem dX2_meaning_128 : decode cX2_meaning 128 = .ok (.iconst 0, 1) := by decide +kernel
theorem dX2_meaning_129 : decode cX2_meaning 129 = .ok (.istore 10, 2) := by decide +kernel
theorem dX2_meaning_131 : decode cX2_meaning 131 = .ok (.iload_n 2, 1) := by decide +kernel
theorem dX2_meaning_132 : decode cX2_meaning 132 = .ok (.iconst 1, 1) := by decide +kernel
theorem dX2_meaning_133 : decode cX2_meaning 133 = .ok (.if_icmp .ne 8, 3) := by decide +kernel
theorem dX2_meaning_136 : decode cX2_meaning 136 = .ok (.bipush 100, 2) := by decide +kernel
theorem dX2_meaning_138 : decode cX2_meaning 138 = .ok (.goto 6, 3) := by decide +kernel
theorem dX2_meaning_141 : decode cX2_meaning 141 = .ok (.sipush 1000, 3) := by decide +kernel
theorem dX2_meaning_144 : decode cX2_meaning 144 = .ok (.istore 11, 2) := by decide +kernel
theorem dX2_meaning_146 : decode cX2_meaning 146 = .ok (.iload 10, 2) := by decide +kernel
theorem dX2_meaning_148 : decode cX2_meaning 148 = .ok (.iload 11, 2) := by decide +kernel
theorem dX2_meaning_150 : decode cX2_meaning 150 = .ok (.iload 9, 2) := by decide +kernel
theorem dX2_meaning_152 : decode cX2_meaning 152 = .ok (.invokestatic 82, 3) := by decide +kernel
theorem dX2_meaning_155 : decode cX2_meaning 155 = .ok (.invokestatic 87, 3) := by decide +kernel
theorem dX2_meaning_158 : decode cX2_meaning 158 = .ok (.ireturn, 1) := by decide +kernel
theorem wX2_meaning_J33 {p : Program} {l : Launch} {e : Env} {s : State} {m : MethodId} {args : Array Value} {below : List Frame} {meth : Method} {c : Code} {Y : Nat → ClassId} {D : va_G} {σ : Nat → Nat} {np b0 : Nat} {co : Nat} {r : Int32 × Mc} {M : Mc} {N : Md} {X2 : Int32} {X3 : Int32} {X4 : Int32} {X5 : Int32} {X6 : Int32} (hE : EOK p s m args meth c cX2_meaning 12 RX2 Y D σ np b0) (hr : meth.sig.returnType = (some .int)) (hco : is2 co) (hf : fX2_meaning_J33 co M X2 X3 X4 X5 X6 = some r) : Xw p l e (rmD 3) s m args below meth c 12 Y D σ np b0 0 0 (MQ below (QR Y D σ np b0 (some (.int r.1)) r.2 N) args s 0 0 (xA b0)) 33 [(0, .ref (σ co)), (2, .int X2), (3, .int X3), (4, .int X4), (5, .int X5), (6, .int X6)] [] M N := by
  unfold fX2_meaning_J33 at hf
  refine x_null hE dX2_meaning_33 ?_
  refine x_astoreN hE (L' := [(8, .null), (0, .ref (σ co)), (2, .int X2), (3, .int X3), (4, .int X4), (5, .int X5), (6, .int X6)]) dX2_meaning_34 (by decide) rfl ?_
  refine x_pick [1, 2, 3, 4, 5, 6, 0] (L' := [(0, .ref (σ co)), (2, .int X2), (3, .int X3), (4, .int X4), (5, .int X5), (6, .int X6), (8, .null)]) rfl ?_
  refine x_aloadN hE 6 dX2_meaning_36 rfl ?_
  refine x_ifnonnullN hE dX2_meaning_38 ?_
  refine x_iload_n hE 1 dX2_meaning_41 rfl rfl ?_
  refine x_if_lt hE 61 dX2_meaning_42 (by decide) hf (fun hf => ?_) (fun hf => ?_)
  · refine x_iconst hE (0 : Int32) dX2_meaning_61 (by decide) ?_
    replace hf := Option.some.inj hf
    subst hf
    exact x_ireturn hE (v := 0) hr rfl dX2_meaning_62
  · refine x_iload_n hE 1 dX2_meaning_45 rfl rfl ?_
    refine x_usualN hE lk_X2_75 dX2_meaning_46 ?_
    refine x_ualen hE dX2_meaning_49 ?_
    refine x_icmp_ge hE 61 dX2_meaning_50 (by decide) hf (fun hf => ?_) (fun hf => ?_)
    · refine x_iconst hE (0 : Int32) dX2_meaning_61 (by decide) ?_
      replace hf := Option.some.inj hf
      subst hf
      exact x_ireturn hE (v := 0) hr rfl dX2_meaning_62
    · refine x_usualN hE lk_X2_75 dX2_meaning_53 ?_
      refine x_iload_n hE 1 dX2_meaning_56 rfl rfl ?_
      refine x_uald hE dX2_meaning_57 hf (fun hf => ?_)
      refine x_goto hE 62 dX2_meaning_58 (by decide) ?_
      replace hf := Option.some.inj hf
      subst hf
      exact x_ireturn hE (v := usu X2.toNatClampNeg) hr rfl dX2_meaning_62
theorem wX2_meaning_J144 {p : Program} {l : Launch} {e : Env} {s : State} {m : MethodId} {args : Array Value} {below : List Frame} {meth : Method} {c : Code} {Y : Nat → ClassId} {D : va_G} {σ : Nat → Nat} {np b0 : Nat} {co : Nat} {r : Int32 × Mc} {M : Mc} {N : Md} {X9 : Int32} {X10 : Int32} {Z0 : Int32} (hE : EOK p s m args meth c cX2_meaning 12 RX2 Y D σ np b0) (hr : meth.sig.returnType = (some .int)) (hco : is2 co) (hf : fX2_meaning_J144 co M X9 X10 Z0 = some r) : Xw p l e (rmD 3) s m args below meth c 12 Y D σ np b0 0 0 (MQ below (QR Y D σ np b0 (some (.int r.1)) r.2 N) args s 0 0 (xA b0)) 144 [(9, .int X9), (10, .int X10)] [.int Z0] M N := by
  unfold fX2_meaning_J144 at hf
  refine x_istore hE (L' := [(11, .int Z0), (9, .int X9), (10, .int X10)]) dX2_meaning_144 (by decide) rfl ?_
  refine x_pick [1, 2, 0] (L' := [(9, .int X9), (10, .int X10), (11, .int Z0)]) rfl ?_
  refine x_iload hE 1 dX2_meaning_146 rfl ?_
  refine x_iload hE 2 dX2_meaning_148 rfl ?_
  refine x_iload hE 0 dX2_meaning_150 rfl ?_
  refine x_mmin hE lk_X2_82 (Nat.le_of_ble_eq_true rfl) dX2_meaning_152 ?_
  refine x_mmax hE lk_X2_87 (Nat.le_of_ble_eq_true rfl) dX2_meaning_155 ?_
  replace hf := Option.some.inj hf
  subst hf
  exact x_ireturn hE (v := xmax X10 (xmin Z0 X9)) hr rfl dX2_meaning_158
theorem wX2_meaning_J129 {p : Program} {l : Launch} {e : Env} {s : State} {m : MethodId} {args : Array Value} {below : List Frame} {meth : Method} {c : Code} {Y : Nat → ClassId} {D : va_G} {σ : Nat → Nat} {np b0 : Nat} {co : Nat} {r : Int32 × Mc} {M : Mc} {N : Md} {X2 : Int32} {X9 : Int32} {Z0 : Int32} (hE : EOK p s m args meth c cX2_meaning 12 RX2 Y D σ np b0) (hr : meth.sig.returnType = (some .int)) (hco : is2 co) (hf : fX2_meaning_J129 co M X2 X9 Z0 = some r) : Xw p l e (rmD 3) s m args below meth c 12 Y D σ np b0 0 0 (MQ below (QR Y D σ np b0 (some (.int r.1)) r.2 N) args s 0 0 (xA b0)) 129 [(2, .int X2), (9, .int X9)] [.int Z0] M N := by
  unfold fX2_meaning_J129 at hf
  refine x_istore hE (L' := [(10, .int Z0), (2, .int X2), (9, .int X9)]) dX2_meaning_129 (by decide) rfl ?_
  refine x_pick [1, 2, 0] (L' := [(2, .int X2), (9, .int X9), (10, .int Z0)]) rfl ?_
  refine x_iload_n hE 0 dX2_meaning_131 rfl rfl ?_
  refine x_iconst hE (nI 1) dX2_meaning_132 (by decide) ?_
  refine x_icmp_ne hE 141 dX2_meaning_133 (by decide) hf (fun hf => ?_) (fun hf => ?_)
  · refine x_sipush hE (nI 1000) dX2_meaning_141 (by decide) ?_
    refine x_pick [1, 2] (L' := [(9, .int X9), (10, .int Z0)]) rfl ?_
    exact wX2_meaning_J144 hE hr hco hf
  · refine x_bipush hE (nI 100) dX2_meaning_136 (by decide) ?_
    refine x_goto hE 144 dX2_meaning_138 (by decide) ?_
    refine x_pick [1, 2] (L' := [(9, .int X9), (10, .int Z0)]) rfl ?_
    exact wX2_meaning_J144 hE hr hco hf
theorem mX2_meaning (l : Launch) {Y : Nat → ClassId} {D : va_G} {σ : Nat → Nat} {np b0 : Nat} {M : Mc} {N : Md} {co : Nat} {p0 : Int32} {p1 : Int32} {p2 : Int32} {p3 : Int32} {p4 : Int32} {p5 : Int32} {r : Int32 × Mc} (hco : is2 co) (hf : fX2_meaning M co p0 p1 p2 p3 p4 p5 = some r) : Met l yX2_meaning (.code yX2_meaning cX2_meaning 12 (some .int) :: lw_g) (rmD 3) (PR Y D σ np b0 [.ref (σ co), .int p0, .int p1, .int p2, .int p3, .int p4, .int p5] M N) (QR Y D σ np b0 (some (.int r.1)) r.2 N) 0 0 (xA b0) := by
  refine x_met (by decide) (Nat.le_of_ble_eq_true rfl) (fun p e s m args below meth c hE hr => ?_)
  unfold fX2_meaning at hf
  refine x_pick [0, 1, 2, 3, 4, 5, 6] (L' := [(0, .ref (σ co)), (1, .int p0), (2, .int p1), (3, .int p2), (4, .int p3), (5, .int p4), (6, .int p5)]) rfl ?_
  refine x_aload_n hE 0 dX2_meaning_0 rfl rfl ?_
  refine x_iload_n hE 1 dX2_meaning_1 rfl rfl ?_
  refine x_iload_n hE 2 dX2_meaning_2 rfl rfl ?_
  obtain ⟨v2, hc1, hf⟩ := bnd_some hf
  refine x_callV1 hE [.int p0, .int p1] (rest := []) (v := .int v2) (c1 := M) (d1 := N) rfl yokX2_teller yvX2_teller lk_X2_71 rfl cl_2 (hE.kd (kO_2 hco)) (by decide) rfl rfl ⟨Nat.le_of_ble_eq_true rfl, Nat.le_of_ble_eq_true rfl⟩ ⟨Nat.zero_le _, Nat.zero_le _⟩ rfl (Nat.le_of_ble_eq_true rfl) dX2_meaning_3 (mX2_teller l hco hc1) ?_
  refine x_istore hE (L' := [(7, .int v2), (0, .ref (σ co)), (1, .int p0), (2, .int p1), (3, .int p2), (4, .int p3), (5, .int p4), (6, .int p5)]) dX2_meaning_6 (by decide) rfl ?_
  refine x_pick [1, 2, 3, 4, 5, 6, 7, 0] (L' := [(0, .ref (σ co)), (1, .int p0), (2, .int p1), (3, .int p2), (4, .int p3), (5, .int p4), (6, .int p5), (7, .int v2)]) rfl ?_
  refine x_iload hE 7 dX2_meaning_8 rfl ?_
  refine x_if_lt hE 33 dX2_meaning_10 (by decide) hf (fun hf => ?_) (fun hf => ?_)
  · refine x_pick [0, 2, 3, 4, 5, 6] (L' := [(0, .ref (σ co)), (2, .int p1), (3, .int p2), (4, .int p3), (5, .int p4), (6, .int p5)]) rfl ?_
    exact wX2_meaning_J33 hE hr hco hf
  · refine x_iload hE 7 dX2_meaning_13 rfl ?_
    refine x_aload_n hE 0 dX2_meaning_15 rfl rfl ?_
    refine x_getR hE cl_2 (hE.kd (kO_2 hco)) (by decide) 0 (16) rfl (by decide) lk_X2_42 dX2_meaning_16 ?_
    refine x_alen hE (nI 12) (hE.kd kA_book) (Or.inr (Or.inr rfl)) rfl dX2_meaning_19 ?_
    refine x_icmp_ge hE 33 dX2_meaning_20 (by decide) hf (fun hf => ?_) (fun hf => ?_)
    · refine x_pick [0, 2, 3, 4, 5, 6] (L' := [(0, .ref (σ co)), (2, .int p1), (3, .int p2), (4, .int p3), (5, .int p4), (6, .int p5)]) rfl ?_
      exact wX2_meaning_J33 hE hr hco hf
    · refine x_aload_n hE 0 dX2_meaning_23 rfl rfl ?_
      refine x_getR hE cl_2 (hE.kd (kO_2 hco)) (by decide) 0 (16) rfl (by decide) lk_X2_42 dX2_meaning_24 ?_
      refine x_iload hE 7 dX2_meaning_27 rfl ?_
      refine x_aldB hE dX2_meaning_29 hf (fun z3 hz3 hf => ?_)
      refine x_vrf hz3 hf (fun hf => ?_) (fun hz3 hf => ?_)
      · refine x_goto hE 34 dX2_meaning_30 (by decide) ?_
        refine x_astoreN hE (L' := [(8, .null), (0, .ref (σ co)), (1, .int p0), (2, .int p1), (3, .int p2), (4, .int p3), (5, .int p4), (6, .int p5), (7, .int v2)]) dX2_meaning_34 (by decide) rfl ?_
        refine x_pick [1, 2, 3, 4, 5, 6, 7, 8, 0] (L' := [(0, .ref (σ co)), (1, .int p0), (2, .int p1), (3, .int p2), (4, .int p3), (5, .int p4), (6, .int p5), (7, .int v2), (8, .null)]) rfl ?_
        refine x_aloadN hE 8 dX2_meaning_36 rfl ?_
        refine x_ifnonnullN hE dX2_meaning_38 ?_
        refine x_iload_n hE 2 dX2_meaning_41 rfl rfl ?_
        refine x_if_lt hE 61 dX2_meaning_42 (by decide) hf (fun hf => ?_) (fun hf => ?_)
        · refine x_iconst hE (0 : Int32) dX2_meaning_61 (by decide) ?_
          replace hf := Option.some.inj hf
          subst hf
          exact x_ireturn hE (v := 0) hr rfl dX2_meaning_62
        · refine x_iload_n hE 2 dX2_meaning_45 rfl rfl ?_
          refine x_usualN hE lk_X2_75 dX2_meaning_46 ?_
          refine x_ualen hE dX2_meaning_49 ?_
          refine x_icmp_ge hE 61 dX2_meaning_50 (by decide) hf (fun hf => ?_) (fun hf => ?_)
          · refine x_iconst hE (0 : Int32) dX2_meaning_61 (by decide) ?_
            replace hf := Option.some.inj hf
            subst hf
            exact x_ireturn hE (v := 0) hr rfl dX2_meaning_62
          · refine x_usualN hE lk_X2_75 dX2_meaning_53 ?_
            refine x_iload_n hE 2 dX2_meaning_56 rfl rfl ?_
            refine x_uald hE dX2_meaning_57 hf (fun hf => ?_)
            refine x_goto hE 62 dX2_meaning_58 (by decide) ?_
            replace hf := Option.some.inj hf
            subst hf
            exact x_ireturn hE (v := usu p1.toNatClampNeg) hr rfl dX2_meaning_62
      · refine x_goto hE 34 dX2_meaning_30 (by decide) ?_
        refine x_astore hE (L' := [(8, .ref (σ z3)), (0, .ref (σ co)), (1, .int p0), (2, .int p1), (3, .int p2), (4, .int p3), (5, .int p4), (6, .int p5), (7, .int v2)]) dX2_meaning_34 (by decide) rfl ?_
        refine x_pick [1, 2, 3, 4, 5, 6, 7, 8, 0] (L' := [(0, .ref (σ co)), (1, .int p0), (2, .int p1), (3, .int p2), (4, .int p3), (5, .int p4), (6, .int p5), (7, .int v2), (8, .ref (σ z3))]) rfl ?_
        refine x_aload hE 8 dX2_meaning_36 rfl ?_
        refine x_ifnonnull hE 63 dX2_meaning_38 (by decide) ?_
        refine x_aload_n hE 0 dX2_meaning_63 rfl rfl ?_
        refine x_getR hE cl_2 (hE.kd (kO_2 hco)) (by decide) 10 (co + 8) rfl (by decide) lk_X2_36 dX2_meaning_64 ?_
        refine x_iconst hE (0 : Int32) dX2_meaning_67 (by decide) ?_
        refine x_iload_n hE 3 dX2_meaning_68 rfl rfl ?_
        refine x_iast hE (hE.kd (kB_2_10 hco)) dX2_meaning_69 hf (fun M4 hf => ?_)
        refine x_aload_n hE 0 dX2_meaning_70 rfl rfl ?_
        refine x_getR hE cl_2 (hE.kd (kO_2 hco)) (by decide) 10 (co + 8) rfl (by decide) lk_X2_36 dX2_meaning_71 ?_
        refine x_iconst hE (nI 1) dX2_meaning_74 (by decide) ?_
        refine x_iload_n hE 3 dX2_meaning_75 rfl rfl ?_
        refine x_bipush hE (nI 52) dX2_meaning_76 (by decide) ?_
        refine x_idivC hE dX2_meaning_78 (by decide) ?_
        refine x_iast hE (hE.kd (kB_2_10 hco)) dX2_meaning_79 hf (fun M5 hf => ?_)
        refine x_aload_n hE 0 dX2_meaning_80 rfl rfl ?_
        refine x_getR hE cl_2 (hE.kd (kO_2 hco)) (by decide) 10 (co + 8) rfl (by decide) lk_X2_36 dX2_meaning_81 ?_
        refine x_iconst hE (nI 2) dX2_meaning_84 (by decide) ?_
        refine x_iload hE 4 dX2_meaning_85 rfl ?_
        refine x_iast hE (hE.kd (kB_2_10 hco)) dX2_meaning_87 hf (fun M6 hf => ?_)
        refine x_aload_n hE 0 dX2_meaning_88 rfl rfl ?_
        refine x_getR hE cl_2 (hE.kd (kO_2 hco)) (by decide) 10 (co + 8) rfl (by decide) lk_X2_36 dX2_meaning_89 ?_
        refine x_iconst hE (nI 3) dX2_meaning_92 (by decide) ?_
        refine x_iload hE 5 dX2_meaning_93 rfl ?_
        refine x_iast hE (hE.kd (kB_2_10 hco)) dX2_meaning_95 hf (fun M7 hf => ?_)
        refine x_aload_n hE 0 dX2_meaning_96 rfl rfl ?_
        refine x_getR hE cl_2 (hE.kd (kO_2 hco)) (by decide) 10 (co + 8) rfl (by decide) lk_X2_36 dX2_meaning_97 ?_
        refine x_iconst hE (nI 4) dX2_meaning_100 (by decide) ?_
        refine x_iload hE 6 dX2_meaning_101 rfl ?_
        refine x_iast hE (hE.kd (kB_2_10 hco)) dX2_meaning_103 hf (fun M8 hf => ?_)
        refine x_aload hE 8 dX2_meaning_104 rfl ?_
        refine x_iload_n hE 2 dX2_meaning_106 rfl rfl ?_
        refine x_aload_n hE 0 dX2_meaning_107 rfl rfl ?_
        refine x_getR hE cl_2 (hE.kd (kO_2 hco)) (by decide) 10 (co + 8) rfl (by decide) lk_X2_36 dX2_meaning_108 ?_
        refine x_aload_n hE 0 dX2_meaning_111 rfl rfl ?_
        refine x_getR hE cl_2 (hE.kd (kO_2 hco)) (by decide) 11 (co + 9) rfl (by decide) lk_X2_39 dX2_meaning_112 ?_
        obtain ⟨⟨v10, M11⟩, hc9, hf⟩ := bn2_some hf
        refine x_callV1 hE [.int p1, .ref (σ (co + 8)), .ref (σ (co + 9))] (rest := []) (v := .int v10) (c1 := M11) (d1 := N) rfl yokX8_value yvX8_value lk_X2_78 rfl cl_8 (kO_8 hz3) (by decide) rfl rfl ⟨Nat.le_of_ble_eq_true rfl, Nat.le_of_ble_eq_true rfl⟩ ⟨Nat.zero_le _, Nat.zero_le _⟩ rfl (Nat.le_of_ble_eq_true rfl) dX2_meaning_115 (mX8_value l hz3 (kB_2_10 hco) (kB_2_11 hco) hc9) ?_
        refine x_istore hE (L' := [(9, .int v10), (0, .ref (σ co)), (1, .int p0), (2, .int p1), (3, .int p2), (4, .int p3), (5, .int p4), (6, .int p5), (7, .int v2), (8, .ref (σ z3))]) dX2_meaning_118 (by decide) rfl ?_
        refine x_pick [1, 2, 3, 4, 5, 6, 7, 8, 9, 0] (L' := [(0, .ref (σ co)), (1, .int p0), (2, .int p1), (3, .int p2), (4, .int p3), (5, .int p4), (6, .int p5), (7, .int v2), (8, .ref (σ z3)), (9, .int v10)]) rfl ?_
        refine x_iload_n hE 2 dX2_meaning_120 rfl rfl ?_
        refine x_if_ne hE 128 dX2_meaning_121 (by decide) hf (fun hf => ?_) (fun hf => ?_)
        · refine x_iconst hE (0 : Int32) dX2_meaning_128 (by decide) ?_
          refine x_pick [2, 9] (L' := [(2, .int p1), (9, .int v10)]) rfl ?_
          exact wX2_meaning_J129 hE hr hco hf
        · refine x_iconst hE (nI 1) dX2_meaning_124 (by decide) ?_
          refine x_goto hE 129 dX2_meaning_125 (by decide) ?_
          refine x_pick [2, 9] (L' := [(2, .int p1), (9, .int v10)]) rfl ?_
          exact wX2_meaning_J129 hE hr hco hf
theorem yokX2_meaning : YOK yX2_meaning cX2_meaning 12 6 (some .int) := ⟨mem_g 647 (by decide +kernel) (by decide +kernel), mem_g 139 (by decide +kernel) (by decide +kernel), by decide +kernel, by decide +kernel, by decide +kernel⟩
theorem yvX2_meaning : YV yX2_meaning := ⟨mem_g 645 (by decide +kernel) (by decide +kernel), mem_g 646 (by decide +kernel) (by decide +kernel)⟩
