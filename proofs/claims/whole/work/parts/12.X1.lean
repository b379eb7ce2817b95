theorem lk_X1_24 : Cond.fieldLink RX1 24 (TX1 0).1 (TX1 0).2.1 (TX1 0).2.2.1 ∈ lw_g := mem_g 335 (by decide +kernel) (by decide +kernel)
theorem lk_X1_28 : Cond.fieldLink RX1 28 (TX1 1).1 (TX1 1).2.1 (TX1 1).2.2.1 ∈ lw_g := mem_g 337 (by decide +kernel) (by decide +kernel)
theorem lk_X1_9 : Cond.fieldLink RX1 9 (TX1 2).1 (TX1 2).2.1 (TX1 2).2.2.1 ∈ lw_g := mem_g 339 (by decide +kernel) (by decide +kernel)
theorem lk_X1_31 : Cond.methodLink RX1 31 arraycopyName ∈ lw_g := mem_g 1058 (by decide +kernel) (by decide +kernel)
theorem lk_X1_15 : Cond.fieldLink RX1 15 (TX1 3).1 (TX1 3).2.1 (TX1 3).2.2.1 ∈ lw_g := mem_g 340 (by decide +kernel) (by decide +kernel)
theorem lk_X1_18 : Cond.fieldLink RX1 18 (TX1 4).1 (TX1 4).2.1 (TX1 4).2.2.1 ∈ lw_g := mem_g 341 (by decide +kernel) (by decide +kernel)
theorem lk_X1_21 : Cond.fieldLink RX1 21 (TX1 5).1 (TX1 5).2.1 (TX1 5).2.2.1 ∈ lw_g := mem_g 342 (by decide +kernel) (by decide +kernel)
theorem dX1_copyFrom_0 : decode cX1_copyFrom 0 = .ok (.aload_n 1, 1) := by decide +kernel
theorem dX1_copyFrom_1 : decode cX1_copyFrom 1 = .ok (.ifnonnull 4, 3) := by decide +kernel
theorem dX1_copyFrom_4 : decode cX1_copyFrom 4 = .ok (.return_, 1) := by decide +kernel
theorem dX1_copyFrom_5 : decode cX1_copyFrom 5 = .ok (.aload_n 0, 1) := by decide +kernel
theorem dX1_copyFrom_6 : decode cX1_copyFrom 6 = .ok (.aload_n 1, 1) := by decide +kernel
theorem dX1_copyFrom_7 : decode cX1_copyFrom 7 = .ok (.getfield 24, 3) := by decide +kernel
theorem dX1_copyFrom_10 : decode cX1_copyFrom 10 = .ok (.putfield 24, 3) := by decide +kernel
theorem dX1_copyFrom_13 : decode cX1_copyFrom 13 = .ok (.aload_n 0, 1) := by decide +kernel
theorem dX1_copyFrom_14 : decode cX1_copyFrom 14 = .ok (.aload_n 1, 1) := by decide +kernel
theorem dX1_copyFrom_15 : decode cX1_copyFrom 15 = .ok (.getfield 28, 3) := by decide +kernel
theorem dX1_copyFrom_18 : decode cX1_copyFrom 18 = .ok (.putfield 28, 3) := by decide +kernel
theorem dX1_copyFrom_21 : decode cX1_copyFrom 21 = .ok (.aload_n 1, 1) := by decide +kernel
theorem dX1_copyFrom_22 : decode cX1_copyFrom 22 = .ok (.getfield 9, 3) := by decide +kernel
theorem dX1_copyFrom_25 : decode cX1_copyFrom 25 = .ok (.iconst 0, 1) := by decide +kernel
theorem dX1_copyFrom_26 : decode cX1_copyFrom 26 = .ok (.aload_n 0, 1) := by decide +kernel
theorem dX1_copyFrom_27 : decode cX1_copyFrom 27 = .ok (.getfield 9, 3) := by decide +kernel
theorem dX1_copyFrom_30 : decode cX1_copyFrom 30 = .ok (.iconst 0, 1) := by decide +kernel
theorem dX1_copyFrom_31 : decode cX1_copyFrom 31 = .ok (.bipush 20, 2) := by decide +kernel
theorem dX1_copyFrom_33 : decode cX1_copyFrom 33 = .ok (.invokestatic 31, 3) := by decide +kernel
theorem dX1_copyFrom_36 : decode cX1_copyFrom 36 = .ok (.aload_n 1, 1) := by decide +kernel
theorem dX1_copyFrom_37 : decode cX1_copyFrom 37 = .ok (.getfield 15, 3) := by decide +kernel
theorem dX1_copyFrom_40 : decode cX1_copyFrom 40 = .ok (.iconst 0, 1) := by decide +kernel
theorem dX1_copyFrom_41 : decode cX1_copyFrom 41 = .ok (.aload_n 0, 1) := by decide +kernel
theorem dX1_copyFrom_42 : decode cX1_copyFrom 42 = .ok (.getfield 15, 3) := by decide +kernel
theorem dX1_copyFrom_45 : decode cX1_copyFrom 45 = .ok (.iconst 0, 1) := by decide +kernel
theorem dX1_copyFrom_46 : decode cX1_copyFrom 46 = .ok (.bipush 20, 2) := by decide +kernel
theorem dX1_copyFrom_48 : decode cX1_copyFrom 48 = .ok (.invokestatic 31, 3) := by decide +kernel
theorem dX1_copyFrom_51 : decode cX1_copyFrom 51 = .ok (.aload_n 1, 1) := by decide +kernel
theorem dX1_copyFrom_52 : decode cX1_copyFrom 52 = .ok (.getfield 18, 3) := by decide +kernel
theorem dX1_copyFrom_55 : decode cX1_copyFrom 55 = .ok (.iconst 0, 1) := by decide +kernel
theorem dX1_copyFrom_56 : decode cX1_copyFrom 56 = .ok (.aload_n 0, 1) := by decide +kernel
theorem dX1_copyFrom_57 : decode cX1_copyFrom 57 = .ok (.getfield 18, 3) := by decide +kernel
theorem dX1_copyFrom_60 : decode cX1_copyFrom 60 = .ok (.iconst 0, 1) := by decide +kernel
theorem dX1_copyFrom_61 : decode cX1_copyFrom 61 = .ok (.bipush 20, 2) := by decide +kernel
theorem dX1_copyFrom_63 : decode cX1_copyFrom 63 = .ok (.invokestatic 31, 3) := by decide +kernel
theorem dX1_copyFrom_66 : decode cX1_copyFrom 66 = .ok (.aload_n 1, 1) := by decide +kernel
theorem dX1_copyFrom_67 : decode cX1_copyFrom 67 = .ok (.getfield 21, 3) := by decide +kernel
theorem dX1_copyFrom_70 : decode cX1_copyFrom 70 = .ok (.iconst 0, 1) := by decide +kernel
theorem dX1_copyFrom_71 : decode cX1_copyFrom 71 = .ok (.aload_n 0, 1) := by decide +kernel
theorem dX1_copyFrom_72 : decode cX1_copyFrom 72 = .ok (.getfield 21, 3) := by decide +kernel
theorem dX1_copyFrom_75 : decode cX1_copyFrom 75 = .ok (.iconst 0, 1) := by decide +kernel
theorem dX1_copyFrom_76 : decode cX1_copyFrom 76 = .ok (.bipush 20, 2) := by decide +kernel
theorem dX1_copyFrom_78 : decode cX1_copyFrom 78 = .ok (.invokestatic 31, 3) := by decide +kernel
theorem dX1_copyFrom_81 : decode cX1_copyFrom 81 = .ok (.return_, 1) := by decide +kernel
theorem mX1_copyFrom (l : Launch) {Y : Nat → ClassId} {D : va_G} {σ : Nat → Nat} {np b0 : Nat} {M : Mc} {N : Md} {bi : Nat} {bi2 : Nat} {r : Mc} (hbi : is1 bi) (hbi2 : is1 bi2) (hf : fX1_copyFrom M bi bi2 = some r) : Met l yX1_copyFrom (.code yX1_copyFrom cX1_copyFrom 2 none :: lw_g) (rmD 4) (PR Y D σ np b0 [.ref (σ bi), .ref (σ bi2)] M N) (QR Y D σ np b0 none r N) 0 0 (xA b0) := by
  refine x_met (by decide) (Nat.le_of_ble_eq_true rfl) (fun p e s m args below meth c hE hr => ?_)
  unfold fX1_copyFrom at hf
  refine x_pick [0, 1] (L' := [(0, .ref (σ bi)), (1, .ref (σ bi2))]) rfl ?_
  refine x_aload_n hE 1 dX1_copyFrom_0 rfl rfl ?_
  refine x_ifnonnull hE 5 dX1_copyFrom_1 (by decide) ?_
  refine x_aload_n hE 0 dX1_copyFrom_5 rfl rfl ?_
  refine x_aload_n hE 1 dX1_copyFrom_6 rfl rfl ?_
  refine x_getI hE cl_1 (hE.kd (kO_1 hbi2)) (by decide) 0 rfl (by decide) lk_X1_24 dX1_copyFrom_7 ?_
  refine x_putI hE cl_1 (hE.kd (kO_1 hbi)) (by decide) 0 rfl (by decide) lk_X1_24 rfl rfl rfl rfl dX1_copyFrom_10 hf (fun M1 hf => ?_)
  refine x_aload_n hE 0 dX1_copyFrom_13 rfl rfl ?_
  refine x_aload_n hE 1 dX1_copyFrom_14 rfl rfl ?_
  refine x_getI hE cl_1 (hE.kd (kO_1 hbi2)) (by decide) 1 rfl (by decide) lk_X1_28 dX1_copyFrom_15 ?_
  refine x_putI hE cl_1 (hE.kd (kO_1 hbi)) (by decide) 1 rfl (by decide) lk_X1_28 rfl rfl rfl rfl dX1_copyFrom_18 hf (fun M2 hf => ?_)
  refine x_aload_n hE 1 dX1_copyFrom_21 rfl rfl ?_
  refine x_getR hE cl_1 (hE.kd (kO_1 hbi2)) (by decide) 2 (bi2 + 1) rfl (by decide) lk_X1_9 dX1_copyFrom_22 ?_
  refine x_iconst hE (0 : Int32) dX1_copyFrom_25 (by decide) ?_
  refine x_aload_n hE 0 dX1_copyFrom_26 rfl rfl ?_
  refine x_getR hE cl_1 (hE.kd (kO_1 hbi)) (by decide) 2 (bi + 1) rfl (by decide) lk_X1_9 dX1_copyFrom_27 ?_
  refine x_iconst hE (0 : Int32) dX1_copyFrom_30 (by decide) ?_
  refine x_bipush hE (nI 20) dX1_copyFrom_31 (by decide) ?_
  refine x_copy hE (hE.kd (kB_1_2 hbi2)) (hE.kd (kB_1_2 hbi)) lk_X1_31 (Nat.le_of_ble_eq_true rfl) dX1_copyFrom_33 hf (fun M3 hf => ?_)
  refine x_aload_n hE 1 dX1_copyFrom_36 rfl rfl ?_
  refine x_getR hE cl_1 (hE.kd (kO_1 hbi2)) (by decide) 3 (bi2 + 2) rfl (by decide) lk_X1_15 dX1_copyFrom_37 ?_
  refine x_iconst hE (0 : Int32) dX1_copyFrom_40 (by decide) ?_
  refine x_aload_n hE 0 dX1_copyFrom_41 rfl rfl ?_
  refine x_getR hE cl_1 (hE.kd (kO_1 hbi)) (by decide) 3 (bi + 2) rfl (by decide) lk_X1_15 dX1_copyFrom_42 ?_
  refine x_iconst hE (0 : Int32) dX1_copyFrom_45 (by decide) ?_
  refine x_bipush hE (nI 20) dX1_copyFrom_46 (by decide) ?_
  refine x_copy hE (hE.kd (kB_1_3 hbi2)) (hE.kd (kB_1_3 hbi)) lk_X1_31 (Nat.le_of_ble_eq_true rfl) dX1_copyFrom_48 hf (fun M4 hf => ?_)
  refine x_aload_n hE 1 dX1_copyFrom_51 rfl rfl ?_
  refine x_getR hE cl_1 (hE.kd (kO_1 hbi2)) (by decide) 4 (bi2 + 3) rfl (by decide) lk_X1_18 dX1_copyFrom_52 ?_
  refine x_iconst hE (0 : Int32) dX1_copyFrom_55 (by decide) ?_
  refine x_aload_n hE 0 dX1_copyFrom_56 rfl rfl ?_
  refine x_getR hE cl_1 (hE.kd (kO_1 hbi)) (by decide) 4 (bi + 3) rfl (by decide) lk_X1_18 dX1_copyFrom_57 ?_
  refine x_iconst hE (0 : Int32) dX1_copyFrom_60 (by decide) ?_
  refine x_bipush hE (nI 20) dX1_copyFrom_61 (by decide) ?_
  refine x_copy hE (hE.kd (kB_1_4 hbi2)) (hE.kd (kB_1_4 hbi)) lk_X1_31 (Nat.le_of_ble_eq_true rfl) dX1_copyFrom_63 hf (fun M5 hf => ?_)
  refine x_aload_n hE 1 dX1_copyFrom_66 rfl rfl ?_
  refine x_getR hE cl_1 (hE.kd (kO_1 hbi2)) (by decide) 5 (bi2 + 4) rfl (by decide) lk_X1_21 dX1_copyFrom_67 ?_
  refine x_iconst hE (0 : Int32) dX1_copyFrom_70 (by decide) ?_
  refine x_aload_n hE 0 dX1_copyFrom_71 rfl rfl ?_
  refine x_getR hE cl_1 (hE.kd (kO_1 hbi)) (by decide) 5 (bi + 4) rfl (by decide) lk_X1_21 dX1_copyFrom_72 ?_
  refine x_iconst hE (0 : Int32) dX1_copyFrom_75 (by decide) ?_
  refine x_bipush hE (nI 20) dX1_copyFrom_76 (by decide) ?_
  refine x_copy hE (hE.kd (kB_1_5 hbi2)) (hE.kd (kB_1_5 hbi)) lk_X1_31 (Nat.le_of_ble_eq_true rfl) dX1_copyFrom_78 hf (fun M6 hf => ?_)
  replace hf := Option.some.inj hf
  subst hf
  exact x_vreturn hE hr dX1_copyFrom_81
theorem yokX1_copyFrom : YOK yX1_copyFrom cX1_copyFrom 2 1 none := ⟨mem_g 1057 (by decide +kernel) (by decide +kernel), mem_g 138 (by decide +kernel) (by decide +kernel), by decide +kernel, by decide +kernel, by decide +kernel⟩
theorem yvX1_copyFrom : YV yX1_copyFrom := ⟨mem_g 1055 (by decide +kernel) (by decide +kernel), mem_g 1056 (by decide +kernel) (by decide +kernel)⟩
theorem lk_X1_37 : Cond.methodLinkNest RX1 37 yX11_inside "SettlerColony" ∈ lw_nw := mem_n 1619 (by decide +kernel) rfl
theorem dX1_add_0 : decode cX1_add 0 = .ok (.aload_n 0, 1) := by decide +kernel
theorem dX1_add_1 : decode cX1_add 1 = .ok (.getfield 24, 3) := by decide +kernel
theorem dX1_add_4 : decode cX1_add 4 = .ok (.bipush 20, 2) := by decide +kernel
theorem dX1_add_6 : decode cX1_add 6 = .ok (.invokestatic 37, 3) := by decide +kernel
theorem dX1_add_9 : decode cX1_add 9 = .ok (.ifCond .ne 5, 3) := by decide +kernel
theorem dX1_add_12 : decode cX1_add 12 = .ok (.iconst (-1), 1) := by decide +kernel
theorem dX1_add_13 : decode cX1_add 13 = .ok (.ireturn, 1) := by decide +kernel
theorem dX1_add_14 : decode cX1_add 14 = .ok (.aload_n 0, 1) := by decide +kernel
theorem dX1_add_15 : decode cX1_add 15 = .ok (.getfield 9, 3) := by decide +kernel
theorem dX1_add_18 : decode cX1_add 18 = .ok (.aload_n 0, 1) := by decide +kernel
theorem dX1_add_19 : decode cX1_add 19 = .ok (.getfield 24, 3) := by decide +kernel
theorem dX1_add_22 : decode cX1_add 22 = .ok (.iload_n 1, 1) := by decide +kernel
theorem dX1_add_23 : decode cX1_add 23 = .ok (.iastore, 1) := by decide +kernel
theorem dX1_add_24 : decode cX1_add 24 = .ok (.aload_n 0, 1) := by decide +kernel
theorem dX1_add_25 : decode cX1_add 25 = .ok (.getfield 21, 3) := by decide +kernel
theorem dX1_add_28 : decode cX1_add 28 = .ok (.aload_n 0, 1) := by decide +kernel
theorem dX1_add_29 : decode cX1_add 29 = .ok (.getfield 24, 3) := by decide +kernel
theorem dX1_add_32 : decode cX1_add 32 = .ok (.iload_n 2, 1) := by decide +kernel
theorem dX1_add_33 : decode cX1_add 33 = .ok (.iastore, 1) := by decide +kernel
theorem dX1_add_34 : decode cX1_add 34 = .ok (.aload_n 0, 1) := by decide +kernel
theorem dX1_add_35 : decode cX1_add 35 = .ok (.dup, 1) := by decide +kernel
theorem dX1_add_36 : decode cX1_add 36 = .ok (.getfield 24, 3) := by decide +kernel
theorem dX1_add_39 : decode cX1_add 39 = .ok (.dup_x1, 1) := by decide +kernel
theorem dX1_add_40 : decode cX1_add 40 = .ok (.iconst 1, 1) := by decide +kernel
theorem dX1_add_41 : decode cX1_add 41 = .ok (.iadd, 1) := by decide +kernel
theorem dX1_add_42 : decode cX1_add 42 = .ok (.putfield 24, 3) := by decide +kernel
theorem dX1_add_45 : decode cX1_add 45 = .ok (.ireturn, 1) := by decide +kernel
theorem mX1_add (l : Launch) {Y : Nat → ClassId} {D : va_G} {σ : Nat → Nat} {np b0 : Nat} {M : Mc} {N : Md} {bi : Nat} {p0 : Int32} {p1 : Int32} {r : Int32 × Mc} (hbi : is1 bi) (hf : fX1_add M bi p0 p1 = some r) : Met l yX1_add (.code yX1_add cX1_add 3 (some .int) :: lw_g) (rmD 2) (PR Y D σ np b0 [.ref (σ bi), .int p0, .int p1] M N) (QR Y D σ np b0 (some (.int r.1)) r.2 N) 0 0 (xA b0) := by
  refine x_met (by decide) (Nat.le_of_ble_eq_true rfl) (fun p e s m args below meth c hE hr => ?_)
  unfold fX1_add at hf
  refine x_pick [0, 1, 2] (L' := [(0, .ref (σ bi)), (1, .int p0), (2, .int p1)]) rfl ?_
  refine x_aload_n hE 0 dX1_add_0 rfl rfl ?_
  refine x_getI hE cl_1 (hE.kd (kO_1 hbi)) (by decide) 0 rfl (by decide) lk_X1_24 dX1_add_1 ?_
  refine x_bipush hE (nI 20) dX1_add_4 (by decide) ?_
  obtain ⟨v2, hc1, hf⟩ := bnd_some hf
  refine x_callSN1 hE [.int (M bi 0), .int (nI 20)] (rest := []) (v := .int v2) (c1 := M) (d1 := N) rfl yokX11_inside ysX11_inside lk_X1_37 rfl rfl ⟨Nat.le_of_ble_eq_true rfl, Nat.le_of_ble_eq_true rfl⟩ ⟨Nat.zero_le _, Nat.zero_le _⟩ rfl (Nat.le_of_ble_eq_true rfl) dX1_add_6 (mX11_inside l hc1) ?_
  refine x_if_ne hE 14 dX1_add_9 (by decide) hf (fun hf => ?_) (fun hf => ?_)
  · refine x_aload_n hE 0 dX1_add_14 rfl rfl ?_
    refine x_getR hE cl_1 (hE.kd (kO_1 hbi)) (by decide) 2 (bi + 1) rfl (by decide) lk_X1_9 dX1_add_15 ?_
    refine x_aload_n hE 0 dX1_add_18 rfl rfl ?_
    refine x_getI hE cl_1 (hE.kd (kO_1 hbi)) (by decide) 0 rfl (by decide) lk_X1_24 dX1_add_19 ?_
    refine x_iload_n hE 1 dX1_add_22 rfl rfl ?_
    refine x_iast hE (hE.kd (kB_1_2 hbi)) dX1_add_23 hf (fun M3 hf => ?_)
    refine x_aload_n hE 0 dX1_add_24 rfl rfl ?_
    refine x_getR hE cl_1 (hE.kd (kO_1 hbi)) (by decide) 5 (bi + 4) rfl (by decide) lk_X1_21 dX1_add_25 ?_
    refine x_aload_n hE 0 dX1_add_28 rfl rfl ?_
    refine x_getI hE cl_1 (hE.kd (kO_1 hbi)) (by decide) 0 rfl (by decide) lk_X1_24 dX1_add_29 ?_
    refine x_iload_n hE 2 dX1_add_32 rfl rfl ?_
    refine x_iast hE (hE.kd (kB_1_5 hbi)) dX1_add_33 hf (fun M4 hf => ?_)
    refine x_aload_n hE 0 dX1_add_34 rfl rfl ?_
    refine x_dup hE dX1_add_35 rfl ?_
    refine x_getI hE cl_1 (hE.kd (kO_1 hbi)) (by decide) 0 rfl (by decide) lk_X1_24 dX1_add_36 ?_
    refine x_dup_x1 hE dX1_add_39 rfl rfl ?_
    refine x_iconst hE (nI 1) dX1_add_40 (by decide) ?_
    refine x_iadd hE dX1_add_41 ?_
    refine x_putI hE cl_1 (hE.kd (kO_1 hbi)) (by decide) 0 rfl (by decide) lk_X1_24 rfl rfl rfl rfl dX1_add_42 hf (fun M5 hf => ?_)
    replace hf := Option.some.inj hf
    subst hf
    exact x_ireturn hE (v := M4 bi 0) hr rfl dX1_add_45
  · refine x_iconst hE (-1) dX1_add_12 (by decide) ?_
    replace hf := Option.some.inj hf
    subst hf
    exact x_ireturn hE (v := (-1)) hr rfl dX1_add_13
theorem yokX1_add : YOK yX1_add cX1_add 3 2 (some .int) := ⟨mem_g 1618 (by decide +kernel) (by decide +kernel), mem_g 138 (by decide +kernel) (by decide +kernel), by decide +kernel, by decide +kernel, by decide +kernel⟩
theorem yvX1_add : YV yX1_add := ⟨mem_g 1616 (by decide +kernel) (by decide +kernel), mem_g 1617 (by decide +kernel) (by decide +kernel)⟩
theorem dX1_stateOf_0 : decode cX1_stateOf 0 = .ok (.iload_n 1, 1) := by decide +kernel
theorem dX1_stateOf_1 : decode cX1_stateOf 1 = .ok (.bipush 20, 2) := by decide +kernel
theorem dX1_stateOf_3 : decode cX1_stateOf 3 = .ok (.invokestatic 37, 3) := by decide +kernel
theorem dX1_stateOf_6 : decode cX1_stateOf 6 = .ok (.ifCond .eq 12, 3) := by decide +kernel
theorem dX1_stateOf_9 : decode cX1_stateOf 9 = .ok (.aload_n 0, 1) := by decide +kernel
theorem dX1_stateOf_10 : decode cX1_stateOf 10 = .ok (.getfield 18, 3) := by decide +kernel
theorem dX1_stateOf_13 : decode cX1_stateOf 13 = .ok (.iload_n 1, 1) := by decide +kernel
theorem dX1_stateOf_14 : decode cX1_stateOf 14 = .ok (.iaload, 1) := by decide +kernel
theorem dX1_stateOf_15 : decode cX1_stateOf 15 = .ok (.goto 4, 3) := by decide +kernel
theorem dX1_stateOf_18 : decode cX1_stateOf 18 = .ok (.iconst 0, 1) := by decide +kernel
theorem dX1_stateOf_19 : decode cX1_stateOf 19 = .ok (.ireturn, 1) := by decide +kernel
theorem mX1_stateOf (l : Launch) {Y : Nat → ClassId} {D : va_G} {σ : Nat → Nat} {np b0 : Nat} {M : Mc} {N : Md} {bi : Nat} {p0 : Int32} {r : Int32} (hbi : is1 bi) (hf : fX1_stateOf M bi p0 = some r) : Met l yX1_stateOf (.code yX1_stateOf cX1_stateOf 2 (some .int) :: lw_g) (rmD 2) (PR Y D σ np b0 [.ref (σ bi), .int p0] M N) (QR Y D σ np b0 (some (.int r)) M N) 0 0 (xA b0) := by
  refine x_met (by decide) (Nat.le_of_ble_eq_true rfl) (fun p e s m args below meth c hE hr => ?_)
  unfold fX1_stateOf at hf
  refine x_pick [0, 1] (L' := [(0, .ref (σ bi)), (1, .int p0)]) rfl ?_
  refine x_iload_n hE 1 dX1_stateOf_0 rfl rfl ?_
  refine x_bipush hE (nI 20) dX1_stateOf_1 (by decide) ?_
  obtain ⟨v2, hc1, hf⟩ := bnd_some hf
  refine x_callSN1 hE [.int p0, .int (nI 20)] (rest := []) (v := .int v2) (c1 := M) (d1 := N) rfl yokX11_inside ysX11_inside lk_X1_37 rfl rfl ⟨Nat.le_of_ble_eq_true rfl, Nat.le_of_ble_eq_true rfl⟩ ⟨Nat.zero_le _, Nat.zero_le _⟩ rfl (Nat.le_of_ble_eq_true rfl) dX1_stateOf_3 (mX11_inside l hc1) ?_
  refine x_if_eq hE 18 dX1_stateOf_6 (by decide) hf (fun hf => ?_) (fun hf => ?_)
  · refine x_iconst hE (0 : Int32) dX1_stateOf_18 (by decide) ?_
    replace hf := Option.some.inj hf
    subst hf
    exact x_ireturn hE (v := 0) hr rfl dX1_stateOf_19
  · refine x_aload_n hE 0 dX1_stateOf_9 rfl rfl ?_
    refine x_getR hE cl_1 (hE.kd (kO_1 hbi)) (by decide) 4 (bi + 3) rfl (by decide) lk_X1_18 dX1_stateOf_10 ?_
    refine x_iload_n hE 1 dX1_stateOf_13 rfl rfl ?_
    refine x_iald hE (hE.kd (kB_1_4 hbi)) dX1_stateOf_14 hf (fun hf => ?_)
    refine x_goto hE 19 dX1_stateOf_15 (by decide) ?_
    replace hf := Option.some.inj hf
    subst hf
    exact x_ireturn hE (v := M (bi + 3) p0.toNatClampNeg) hr rfl dX1_stateOf_19
theorem yokX1_stateOf : YOK yX1_stateOf cX1_stateOf 2 1 (some .int) := ⟨mem_g 1645 (by decide +kernel) (by decide +kernel), mem_g 138 (by decide +kernel) (by decide +kernel), by decide +kernel, by decide +kernel, by decide +kernel⟩
theorem yvX1_stateOf : YV yX1_stateOf := ⟨mem_g 1643 (by decide +kernel) (by decide +kernel), mem_g 1644 (by decide +kernel) (by decide +kernel)⟩
theorem dX1_handOn_0 : decode cX1_handOn 0 = .ok (.iload_n 1, 1) := by decide +kernel
theorem dX1_handOn_1 : decode cX1_handOn 1 = .ok (.bipush 20, 2) := by decide +kernel
theorem dX1_handOn_3 : decode cX1_handOn 3 = .ok (.invokestatic 37, 3) := by decide +kernel
theorem dX1_handOn_6 : decode cX1_handOn 6 = .ok (.ifCond .eq 13, 3) := by decide +kernel
theorem dX1_handOn_9 : decode cX1_handOn 9 = .ok (.aload_n 0, 1) := by decide +kernel
theorem dX1_handOn_10 : decode cX1_handOn 10 = .ok (.getfield 15, 3) := by decide +kernel
theorem dX1_handOn_13 : decode cX1_handOn 13 = .ok (.iload_n 1, 1) := by decide +kernel
theorem dX1_handOn_14 : decode cX1_handOn 14 = .ok (.iaload, 1) := by decide +kernel
theorem dX1_handOn_15 : decode cX1_handOn 15 = .ok (.iconst 5, 1) := by decide +kernel
theorem dX1_handOn_16 : decode cX1_handOn 16 = .ok (.if_icmp .lt 5, 3) := by decide +kernel
theorem dX1_handOn_19 : decode cX1_handOn 19 = .ok (.iconst (-1), 1) := by decide +kernel
theorem dX1_handOn_20 : decode cX1_handOn 20 = .ok (.ireturn, 1) := by decide +kernel
theorem dX1_handOn_21 : decode cX1_handOn 21 = .ok (.aload_n 0, 1) := by decide +kernel
theorem dX1_handOn_22 : decode cX1_handOn 22 = .ok (.getfield 18, 3) := by decide +kernel
theorem dX1_handOn_25 : decode cX1_handOn 25 = .ok (.iload_n 1, 1) := by decide +kernel
theorem dX1_handOn_26 : decode cX1_handOn 26 = .ok (.iaload, 1) := by decide +kernel
theorem dX1_handOn_27 : decode cX1_handOn 27 = .ok (.ifCond .eq 6, 3) := by decide +kernel
theorem dX1_handOn_30 : decode cX1_handOn 30 = .ok (.bipush (-2), 2) := by decide +kernel
theorem dX1_handOn_32 : decode cX1_handOn 32 = .ok (.ireturn, 1) := by decide +kernel
theorem dX1_handOn_33 : decode cX1_handOn 33 = .ok (.aload_n 0, 1) := by decide +kernel
theorem dX1_handOn_34 : decode cX1_handOn 34 = .ok (.getfield 15, 3) := by decide +kernel
theorem dX1_handOn_37 : decode cX1_handOn 37 = .ok (.iload_n 1, 1) := by decide +kernel
theorem dX1_handOn_38 : decode cX1_handOn 38 = .ok (.dup2, 1) := by decide +kernel
theorem dX1_handOn_39 : decode cX1_handOn 39 = .ok (.iaload, 1) := by decide +kernel
theorem dX1_handOn_40 : decode cX1_handOn 40 = .ok (.iconst 1, 1) := by decide +kernel
theorem dX1_handOn_41 : decode cX1_handOn 41 = .ok (.iadd, 1) := by decide +kernel
theorem dX1_handOn_42 : decode cX1_handOn 42 = .ok (.iastore, 1) := by decide +kernel
theorem dX1_handOn_43 : decode cX1_handOn 43 = .ok (.aload_n 0, 1) := by decide +kernel
theorem dX1_handOn_44 : decode cX1_handOn 44 = .ok (.getfield 15, 3) := by decide +kernel
theorem dX1_handOn_47 : decode cX1_handOn 47 = .ok (.iload_n 1, 1) := by decide +kernel
theorem dX1_handOn_48 : decode cX1_handOn 48 = .ok (.iaload, 1) := by decide +kernel
theorem dX1_handOn_49 : decode cX1_handOn 49 = .ok (.ireturn, 1) := by decide +kernel
theorem mX1_handOn (l : Launch) {Y : Nat → ClassId} {D : va_G} {σ : Nat → Nat} {np b0 : Nat} {M : Mc} {N : Md} {bi : Nat} {p0 : Int32} {r : Int32 × Mc} (hbi : is1 bi) (hf : fX1_handOn M bi p0 = some r) : Met l yX1_handOn (.code yX1_handOn cX1_handOn 2 (some .int) :: lw_g) (rmD 2) (PR Y D σ np b0 [.ref (σ bi), .int p0] M N) (QR Y D σ np b0 (some (.int r.1)) r.2 N) 0 0 (xA b0) := by
  refine x_met (by decide) (Nat.le_of_ble_eq_true rfl) (fun p e s m args below meth c hE hr => ?_)
  unfold fX1_handOn at hf
  refine x_pick [0, 1] (L' := [(0, .ref (σ bi)), (1, .int p0)]) rfl ?_
  refine x_iload_n hE 1 dX1_handOn_0 rfl rfl ?_
  refine x_bipush hE (nI 20) dX1_handOn_1 (by decide) ?_
  obtain ⟨v2, hc1, hf⟩ := bnd_some hf
  refine x_callSN1 hE [.int p0, .int (nI 20)] (rest := []) (v := .int v2) (c1 := M) (d1 := N) rfl yokX11_inside ysX11_inside lk_X1_37 rfl rfl ⟨Nat.le_of_ble_eq_true rfl, Nat.le_of_ble_eq_true rfl⟩ ⟨Nat.zero_le _, Nat.zero_le _⟩ rfl (Nat.le_of_ble_eq_true rfl) dX1_handOn_3 (mX11_inside l hc1) ?_
  refine x_if_eq hE 19 dX1_handOn_6 (by decide) hf (fun hf => ?_) (fun hf => ?_)
  · refine x_iconst hE (-1) dX1_handOn_19 (by decide) ?_
    replace hf := Option.some.inj hf
    subst hf
    exact x_ireturn hE (v := (-1)) hr rfl dX1_handOn_20
  · refine x_aload_n hE 0 dX1_handOn_9 rfl rfl ?_
    refine x_getR hE cl_1 (hE.kd (kO_1 hbi)) (by decide) 3 (bi + 2) rfl (by decide) lk_X1_15 dX1_handOn_10 ?_
    refine x_iload_n hE 1 dX1_handOn_13 rfl rfl ?_
    refine x_iald hE (hE.kd (kB_1_3 hbi)) dX1_handOn_14 hf (fun hf => ?_)
    refine x_iconst hE (nI 5) dX1_handOn_15 (by decide) ?_
    refine x_icmp_lt hE 21 dX1_handOn_16 (by decide) hf (fun hf => ?_) (fun hf => ?_)
    · refine x_aload_n hE 0 dX1_handOn_21 rfl rfl ?_
      refine x_getR hE cl_1 (hE.kd (kO_1 hbi)) (by decide) 4 (bi + 3) rfl (by decide) lk_X1_18 dX1_handOn_22 ?_
      refine x_iload_n hE 1 dX1_handOn_25 rfl rfl ?_
      refine x_iald hE (hE.kd (kB_1_4 hbi)) dX1_handOn_26 hf (fun hf => ?_)
      refine x_if_eq hE 33 dX1_handOn_27 (by decide) hf (fun hf => ?_) (fun hf => ?_)
      · refine x_aload_n hE 0 dX1_handOn_33 rfl rfl ?_
        refine x_getR hE cl_1 (hE.kd (kO_1 hbi)) (by decide) 3 (bi + 2) rfl (by decide) lk_X1_15 dX1_handOn_34 ?_
        refine x_iload_n hE 1 dX1_handOn_37 rfl rfl ?_
        refine x_dup2 hE dX1_handOn_38 rfl rfl ?_
        refine x_iald hE (hE.kd (kB_1_3 hbi)) dX1_handOn_39 hf (fun hf => ?_)
        refine x_iconst hE (nI 1) dX1_handOn_40 (by decide) ?_
        refine x_iadd hE dX1_handOn_41 ?_
        refine x_iast hE (hE.kd (kB_1_3 hbi)) dX1_handOn_42 hf (fun M3 hf => ?_)
        refine x_aload_n hE 0 dX1_handOn_43 rfl rfl ?_
        refine x_getR hE cl_1 (hE.kd (kO_1 hbi)) (by decide) 3 (bi + 2) rfl (by decide) lk_X1_15 dX1_handOn_44 ?_
        refine x_iload_n hE 1 dX1_handOn_47 rfl rfl ?_
        refine x_iald hE (hE.kd (kB_1_3 hbi)) dX1_handOn_48 hf (fun hf => ?_)
        replace hf := Option.some.inj hf
        subst hf
        exact x_ireturn hE (v := M3 (bi + 2) p0.toNatClampNeg) hr rfl dX1_handOn_49
      · refine x_bipush hE (-2) dX1_handOn_30 (by decide) ?_
        replace hf := Option.some.inj hf
        subst hf
        exact x_ireturn hE (v := (-2)) hr rfl dX1_handOn_32
    · refine x_iconst hE (-1) dX1_handOn_19 (by decide) ?_
      replace hf := Option.some.inj hf
      subst hf
      exact x_ireturn hE (v := (-1)) hr rfl dX1_handOn_20
theorem yokX1_handOn : YOK yX1_handOn cX1_handOn 2 1 (some .int) := ⟨mem_g 1634 (by decide +kernel) (by decide +kernel), mem_g 138 (by decide +kernel) (by decide +kernel), by decide +kernel, by decide +kernel, by decide +kernel⟩
theorem yvX1_handOn : YV yX1_handOn := ⟨mem_g 1632 (by decide +kernel) (by decide +kernel), mem_g 1633 (by decide +kernel) (by decide +kernel)⟩
theorem dX1_present_0 : decode cX1_present 0 = .ok (.iload_n 1, 1) := by decide +kernel
theorem dX1_present_1 : decode cX1_present 1 = .ok (.bipush 20, 2) := by decide +kernel
theorem dX1_present_3 : decode cX1_present 3 = .ok (.invokestatic 37, 3) := by decide +kernel
theorem dX1_present_6 : decode cX1_present 6 = .ok (.ifCond .ne 4, 3) := by decide +kernel
theorem dX1_present_9 : decode cX1_present 9 = .ok (.return_, 1) := by decide +kernel
theorem dX1_present_10 : decode cX1_present 10 = .ok (.aload_n 0, 1) := by decide +kernel
theorem dX1_present_11 : decode cX1_present 11 = .ok (.getfield 28, 3) := by decide +kernel
theorem dX1_present_14 : decode cX1_present 14 = .ok (.aload_n 0, 1) := by decide +kernel
theorem dX1_present_15 : decode cX1_present 15 = .ok (.getfield 9, 3) := by decide +kernel
theorem dX1_present_18 : decode cX1_present 18 = .ok (.iload_n 1, 1) := by decide +kernel
theorem dX1_present_19 : decode cX1_present 19 = .ok (.iaload, 1) := by decide +kernel
theorem dX1_present_20 : decode cX1_present 20 = .ok (.if_icmp .lt 28, 3) := by decide +kernel
theorem dX1_present_23 : decode cX1_present 23 = .ok (.aload_n 0, 1) := by decide +kernel
theorem dX1_present_24 : decode cX1_present 24 = .ok (.dup, 1) := by decide +kernel
theorem dX1_present_25 : decode cX1_present 25 = .ok (.getfield 28, 3) := by decide +kernel
theorem dX1_present_28 : decode cX1_present 28 = .ok (.aload_n 0, 1) := by decide +kernel
theorem dX1_present_29 : decode cX1_present 29 = .ok (.getfield 9, 3) := by decide +kernel
theorem dX1_present_32 : decode cX1_present 32 = .ok (.iload_n 1, 1) := by decide +kernel
theorem dX1_present_33 : decode cX1_present 33 = .ok (.iaload, 1) := by decide +kernel
theorem dX1_present_34 : decode cX1_present 34 = .ok (.isub, 1) := by decide +kernel
theorem dX1_present_35 : decode cX1_present 35 = .ok (.putfield 28, 3) := by decide +kernel
theorem dX1_present_38 : decode cX1_present 38 = .ok (.aload_n 0, 1) := by decide +kernel
theorem dX1_present_39 : decode cX1_present 39 = .ok (.getfield 18, 3) := by decide +kernel
theorem dX1_present_42 : decode cX1_present 42 = .ok (.iload_n 1, 1) := by decide +kernel
theorem dX1_present_43 : decode cX1_present 43 = .ok (.iconst 1, 1) := by decide +kernel
theorem dX1_present_44 : decode cX1_present 44 = .ok (.iastore, 1) := by decide +kernel
theorem dX1_present_45 : decode cX1_present 45 = .ok (.goto 21, 3) := by decide +kernel
theorem dX1_present_48 : decode cX1_present 48 = .ok (.aload_n 0, 1) := by decide +kernel
theorem dX1_present_49 : decode cX1_present 49 = .ok (.getfield 18, 3) := by decide +kernel
theorem dX1_present_52 : decode cX1_present 52 = .ok (.iload_n 1, 1) := by decide +kernel
theorem dX1_present_53 : decode cX1_present 53 = .ok (.iconst 2, 1) := by decide +kernel
theorem dX1_present_54 : decode cX1_present 54 = .ok (.iastore, 1) := by decide +kernel
theorem dX1_present_55 : decode cX1_present 55 = .ok (.aload_n 0, 1) := by decide +kernel
theorem dX1_present_56 : decode cX1_present 56 = .ok (.getfield 21, 3) := by decide +kernel
theorem dX1_present_59 : decode cX1_present 59 = .ok (.iload_n 1, 1) := by decide +kernel
theorem dX1_present_60 : decode cX1_present 60 = .ok (.dup2, 1) := by decide +kernel
theorem dX1_present_61 : decode cX1_present 61 = .ok (.iaload, 1) := by decide +kernel
theorem dX1_present_62 : decode cX1_present 62 = .ok (.bipush 34, 2) := by decide +kernel
theorem dX1_present_64 : decode cX1_present 64 = .ok (.iadd, 1) := by decide +kernel
theorem dX1_present_65 : decode cX1_present 65 = .ok (.iastore, 1) := by decide +kernel
theorem dX1_present_66 : decode cX1_present 66 = .ok (.return_, 1) := by decide +kernel
theorem mX1_present (l : Launch) {Y : Nat → ClassId} {D : va_G} {σ : Nat → Nat} {np b0 : Nat} {M : Mc} {N : Md} {bi : Nat} {p0 : Int32} {r : Mc} (hbi : is1 bi) (hf : fX1_present M bi p0 = some r) : Met l yX1_present (.code yX1_present cX1_present 2 none :: lw_g) (rmD 2) (PR Y D σ np b0 [.ref (σ bi), .int p0] M N) (QR Y D σ np b0 none r N) 0 0 (xA b0) := by
  refine x_met (by decide) (Nat.le_of_ble_eq_true rfl) (fun p e s m args below meth c hE hr => ?_)
  unfold fX1_present at hf
  refine x_pick [0, 1] (L' := [(0, .ref (σ bi)), (1, .int p0)]) rfl ?_
  refine x_iload_n hE 1 dX1_present_0 rfl rfl ?_
  refine x_bipush hE (nI 20) dX1_present_1 (by decide) ?_
  obtain ⟨v2, hc1, hf⟩ := bnd_some hf
  refine x_callSN1 hE [.int p0, .int (nI 20)] (rest := []) (v := .int v2) (c1 := M) (d1 := N) rfl yokX11_inside ysX11_inside lk_X1_37 rfl rfl ⟨Nat.le_of_ble_eq_true rfl, Nat.le_of_ble_eq_true rfl⟩ ⟨Nat.zero_le _, Nat.zero_le _⟩ rfl (Nat.le_of_ble_eq_true rfl) dX1_present_3 (mX11_inside l hc1) ?_
  refine x_if_ne hE 10 dX1_present_6 (by decide) hf (fun hf => ?_) (fun hf => ?_)
  · refine x_aload_n hE 0 dX1_present_10 rfl rfl ?_
    refine x_getI hE cl_1 (hE.kd (kO_1 hbi)) (by decide) 1 rfl (by decide) lk_X1_28 dX1_present_11 ?_
    refine x_aload_n hE 0 dX1_present_14 rfl rfl ?_
    refine x_getR hE cl_1 (hE.kd (kO_1 hbi)) (by decide) 2 (bi + 1) rfl (by decide) lk_X1_9 dX1_present_15 ?_
    refine x_iload_n hE 1 dX1_present_18 rfl rfl ?_
    refine x_iald hE (hE.kd (kB_1_2 hbi)) dX1_present_19 hf (fun hf => ?_)
    refine x_icmp_lt hE 48 dX1_present_20 (by decide) hf (fun hf => ?_) (fun hf => ?_)
    · refine x_aload_n hE 0 dX1_present_48 rfl rfl ?_
      refine x_getR hE cl_1 (hE.kd (kO_1 hbi)) (by decide) 4 (bi + 3) rfl (by decide) lk_X1_18 dX1_present_49 ?_
      refine x_iload_n hE 1 dX1_present_52 rfl rfl ?_
      refine x_iconst hE (nI 2) dX1_present_53 (by decide) ?_
      refine x_iast hE (hE.kd (kB_1_4 hbi)) dX1_present_54 hf (fun M3 hf => ?_)
      refine x_aload_n hE 0 dX1_present_55 rfl rfl ?_
      refine x_getR hE cl_1 (hE.kd (kO_1 hbi)) (by decide) 5 (bi + 4) rfl (by decide) lk_X1_21 dX1_present_56 ?_
      refine x_iload_n hE 1 dX1_present_59 rfl rfl ?_
      refine x_dup2 hE dX1_present_60 rfl rfl ?_
      refine x_iald hE (hE.kd (kB_1_5 hbi)) dX1_present_61 hf (fun hf => ?_)
      refine x_bipush hE (nI 34) dX1_present_62 (by decide) ?_
      refine x_iadd hE dX1_present_64 ?_
      refine x_iast hE (hE.kd (kB_1_5 hbi)) dX1_present_65 hf (fun M4 hf => ?_)
      replace hf := Option.some.inj hf
      subst hf
      exact x_vreturn hE hr dX1_present_66
    · refine x_aload_n hE 0 dX1_present_23 rfl rfl ?_
      refine x_dup hE dX1_present_24 rfl ?_
      refine x_getI hE cl_1 (hE.kd (kO_1 hbi)) (by decide) 1 rfl (by decide) lk_X1_28 dX1_present_25 ?_
      refine x_aload_n hE 0 dX1_present_28 rfl rfl ?_
      refine x_getR hE cl_1 (hE.kd (kO_1 hbi)) (by decide) 2 (bi + 1) rfl (by decide) lk_X1_9 dX1_present_29 ?_
      refine x_iload_n hE 1 dX1_present_32 rfl rfl ?_
      refine x_iald hE (hE.kd (kB_1_2 hbi)) dX1_present_33 hf (fun hf => ?_)
      refine x_isub hE dX1_present_34 ?_
      refine x_putI hE cl_1 (hE.kd (kO_1 hbi)) (by decide) 1 rfl (by decide) lk_X1_28 rfl rfl rfl rfl dX1_present_35 hf (fun M5 hf => ?_)
      refine x_aload_n hE 0 dX1_present_38 rfl rfl ?_
      refine x_getR hE cl_1 (hE.kd (kO_1 hbi)) (by decide) 4 (bi + 3) rfl (by decide) lk_X1_18 dX1_present_39 ?_
      refine x_iload_n hE 1 dX1_present_42 rfl rfl ?_
      refine x_iconst hE (nI 1) dX1_present_43 (by decide) ?_
      refine x_iast hE (hE.kd (kB_1_4 hbi)) dX1_present_44 hf (fun M6 hf => ?_)
      refine x_goto hE 66 dX1_present_45 (by decide) ?_
      replace hf := Option.some.inj hf
      subst hf
      exact x_vreturn hE hr dX1_present_66
  · replace hf := Option.some.inj hf
    subst hf
    exact x_vreturn hE hr dX1_present_9
theorem yokX1_present : YOK yX1_present cX1_present 2 1 none := ⟨mem_g 1728 (by decide +kernel) (by decide +kernel), mem_g 138 (by decide +kernel) (by decide +kernel), by decide +kernel, by decide +kernel, by decide +kernel⟩
theorem yvX1_present : YV yX1_present := ⟨mem_g 1727 (by decide +kernel) (by decide +kernel), mem_g 42 (by decide +kernel) (by decide +kernel)⟩
theorem dX1_comeBack_0 : decode cX1_comeBack 0 = .ok (.iload_n 1, 1) := by decide +kernel
theorem dX1_comeBack_1 : decode cX1_comeBack 1 = .ok (.bipush 20, 2) := by decide +kernel
theorem dX1_comeBack_3 : decode cX1_comeBack 3 = .ok (.invokestatic 37, 3) := by decide +kernel
theorem dX1_comeBack_6 : decode cX1_comeBack 6 = .ok (.ifCond .ne 5, 3) := by decide +kernel
theorem dX1_comeBack_9 : decode cX1_comeBack 9 = .ok (.iconst 0, 1) := by decide +kernel
theorem dX1_comeBack_10 : decode cX1_comeBack 10 = .ok (.ireturn, 1) := by decide +kernel
theorem dX1_comeBack_11 : decode cX1_comeBack 11 = .ok (.aload_n 0, 1) := by decide +kernel
theorem dX1_comeBack_12 : decode cX1_comeBack 12 = .ok (.getfield 18, 3) := by decide +kernel
theorem dX1_comeBack_15 : decode cX1_comeBack 15 = .ok (.iload_n 1, 1) := by decide +kernel
theorem dX1_comeBack_16 : decode cX1_comeBack 16 = .ok (.iconst 3, 1) := by decide +kernel
theorem dX1_comeBack_17 : decode cX1_comeBack 17 = .ok (.iastore, 1) := by decide +kernel
theorem dX1_comeBack_18 : decode cX1_comeBack 18 = .ok (.aload_n 0, 1) := by decide +kernel
theorem dX1_comeBack_19 : decode cX1_comeBack 19 = .ok (.getfield 9, 3) := by decide +kernel
theorem dX1_comeBack_22 : decode cX1_comeBack 22 = .ok (.iload_n 1, 1) := by decide +kernel
theorem dX1_comeBack_23 : decode cX1_comeBack 23 = .ok (.iaload, 1) := by decide +kernel
theorem dX1_comeBack_24 : decode cX1_comeBack 24 = .ok (.aload_n 0, 1) := by decide +kernel
theorem dX1_comeBack_25 : decode cX1_comeBack 25 = .ok (.getfield 9, 3) := by decide +kernel
theorem dX1_comeBack_28 : decode cX1_comeBack 28 = .ok (.iload_n 1, 1) := by decide +kernel
theorem dX1_comeBack_29 : decode cX1_comeBack 29 = .ok (.iaload, 1) := by decide +kernel
theorem dX1_comeBack_30 : decode cX1_comeBack 30 = .ok (.bipush 20, 2) := by decide +kernel
theorem dX1_comeBack_32 : decode cX1_comeBack 32 = .ok (.imul, 1) := by decide +kernel
theorem dX1_comeBack_33 : decode cX1_comeBack 33 = .ok (.bipush 100, 2) := by decide +kernel
theorem dX1_comeBack_35 : decode cX1_comeBack 35 = .ok (.idiv, 1) := by decide +kernel
theorem dX1_comeBack_36 : decode cX1_comeBack 36 = .ok (.iadd, 1) := by decide +kernel
theorem dX1_comeBack_37 : decode cX1_comeBack 37 = .ok (.aload_n 0, 1) := by decide +kernel
theorem dX1_comeBack_38 : decode cX1_comeBack 38 = .ok (.getfield 15, 3) := by decide +kernel
theorem dX1_comeBack_41 : decode cX1_comeBack 41 = .ok (.iload_n 1, 1) := by decide +kernel
theorem dX1_comeBack_42 : decode cX1_comeBack 42 = .ok (.iaload, 1) := by decide +kernel
theorem dX1_comeBack_43 : decode cX1_comeBack 43 = .ok (.iadd, 1) := by decide +kernel
theorem dX1_comeBack_44 : decode cX1_comeBack 44 = .ok (.ireturn, 1) := by decide +kernel
theorem mX1_comeBack (l : Launch) {Y : Nat → ClassId} {D : va_G} {σ : Nat → Nat} {np b0 : Nat} {M : Mc} {N : Md} {bi : Nat} {p0 : Int32} {r : Int32 × Mc} (hbi : is1 bi) (hf : fX1_comeBack M bi p0 = some r) : Met l yX1_comeBack (.code yX1_comeBack cX1_comeBack 2 (some .int) :: lw_g) (rmD 2) (PR Y D σ np b0 [.ref (σ bi), .int p0] M N) (QR Y D σ np b0 (some (.int r.1)) r.2 N) 0 0 (xA b0) := by
  refine x_met (by decide) (Nat.le_of_ble_eq_true rfl) (fun p e s m args below meth c hE hr => ?_)
  unfold fX1_comeBack at hf
  refine x_pick [0, 1] (L' := [(0, .ref (σ bi)), (1, .int p0)]) rfl ?_
  refine x_iload_n hE 1 dX1_comeBack_0 rfl rfl ?_
  refine x_bipush hE (nI 20) dX1_comeBack_1 (by decide) ?_
  obtain ⟨v2, hc1, hf⟩ := bnd_some hf
  refine x_callSN1 hE [.int p0, .int (nI 20)] (rest := []) (v := .int v2) (c1 := M) (d1 := N) rfl yokX11_inside ysX11_inside lk_X1_37 rfl rfl ⟨Nat.le_of_ble_eq_true rfl, Nat.le_of_ble_eq_true rfl⟩ ⟨Nat.zero_le _, Nat.zero_le _⟩ rfl (Nat.le_of_ble_eq_true rfl) dX1_comeBack_3 (mX11_inside l hc1) ?_
  refine x_if_ne hE 11 dX1_comeBack_6 (by decide) hf (fun hf => ?_) (fun hf => ?_)
  · refine x_aload_n hE 0 dX1_comeBack_11 rfl rfl ?_
    refine x_getR hE cl_1 (hE.kd (kO_1 hbi)) (by decide) 4 (bi + 3) rfl (by decide) lk_X1_18 dX1_comeBack_12 ?_
    refine x_iload_n hE 1 dX1_comeBack_15 rfl rfl ?_
    refine x_iconst hE (nI 3) dX1_comeBack_16 (by decide) ?_
    refine x_iast hE (hE.kd (kB_1_4 hbi)) dX1_comeBack_17 hf (fun M3 hf => ?_)
    refine x_aload_n hE 0 dX1_comeBack_18 rfl rfl ?_
    refine x_getR hE cl_1 (hE.kd (kO_1 hbi)) (by decide) 2 (bi + 1) rfl (by decide) lk_X1_9 dX1_comeBack_19 ?_
    refine x_iload_n hE 1 dX1_comeBack_22 rfl rfl ?_
    refine x_iald hE (hE.kd (kB_1_2 hbi)) dX1_comeBack_23 hf (fun hf => ?_)
    refine x_aload_n hE 0 dX1_comeBack_24 rfl rfl ?_
    refine x_getR hE cl_1 (hE.kd (kO_1 hbi)) (by decide) 2 (bi + 1) rfl (by decide) lk_X1_9 dX1_comeBack_25 ?_
    refine x_iload_n hE 1 dX1_comeBack_28 rfl rfl ?_
    refine x_iald hE (hE.kd (kB_1_2 hbi)) dX1_comeBack_29 hf (fun hf => ?_)
    refine x_bipush hE (nI 20) dX1_comeBack_30 (by decide) ?_
    refine x_imul hE dX1_comeBack_32 ?_
    refine x_bipush hE (nI 100) dX1_comeBack_33 (by decide) ?_
    refine x_idivC hE dX1_comeBack_35 (by decide) ?_
    refine x_iadd hE dX1_comeBack_36 ?_
    refine x_aload_n hE 0 dX1_comeBack_37 rfl rfl ?_
    refine x_getR hE cl_1 (hE.kd (kO_1 hbi)) (by decide) 3 (bi + 2) rfl (by decide) lk_X1_15 dX1_comeBack_38 ?_
    refine x_iload_n hE 1 dX1_comeBack_41 rfl rfl ?_
    refine x_iald hE (hE.kd (kB_1_3 hbi)) dX1_comeBack_42 hf (fun hf => ?_)
    refine x_iadd hE dX1_comeBack_43 ?_
    replace hf := Option.some.inj hf
    subst hf
    exact x_ireturn hE (v := ((M3 (bi + 1) p0.toNatClampNeg) + (((M3 (bi + 1) p0.toNatClampNeg) * (nI 20)) / (nI 100))) + (M3 (bi + 2) p0.toNatClampNeg)) hr rfl dX1_comeBack_44
  · refine x_iconst hE (0 : Int32) dX1_comeBack_9 (by decide) ?_
    replace hf := Option.some.inj hf
    subst hf
    exact x_ireturn hE (v := 0) hr rfl dX1_comeBack_10
theorem yokX1_comeBack : YOK yX1_comeBack cX1_comeBack 2 1 (some .int) := ⟨mem_g 1732 (by decide +kernel) (by decide +kernel), mem_g 138 (by decide +kernel) (by decide +kernel), by decide +kernel, by decide +kernel, by decide +kernel⟩
theorem yvX1_comeBack : YV yX1_comeBack := ⟨mem_g 1731 (by decide +kernel) (by decide +kernel), mem_g 43 (by decide +kernel) (by decide +kernel)⟩
theorem lk_X1_41 : Cond.methodLink RX1 41 yX1_present ∈ lw_g := mem_g 1725 (by decide +kernel) (by decide +kernel)
theorem lk_X1_45 : Cond.methodLink RX1 45 yX1_comeBack ∈ lw_g := mem_g 1729 (by decide +kernel) (by decide +kernel)
theorem dX1_readDue_0 : decode cX1_readDue 0 = .ok (.iconst 0, 1) := by decide +kernel
theorem dX1_readDue_1 : decode cX1_readDue 1 = .ok (.istore_n 2, 1) := by decide +kernel
theorem dX1_readDue_2 : decode cX1_readDue 2 = .ok (.iconst 0, 1) := by decide +kernel
theorem dX1_readDue_3 : decode cX1_readDue 3 = .ok (.istore_n 3, 1) := by decide +kernel
theorem dX1_readDue_4 : decode cX1_readDue 4 = .ok (.iload_n 3, 1) := by decide +kernel
theorem dX1_readDue_5 : decode cX1_readDue 5 = .ok (.aload_n 0, 1) := by decide +kernel
theorem dX1_readDue_6 : decode cX1_readDue 6 = .ok (.getfield 24, 3) := by decide +kernel
theorem dX1_readDue_9 : decode cX1_readDue 9 = .ok (.if_icmp .ge 70, 3) := by decide +kernel
theorem dX1_readDue_12 : decode cX1_readDue 12 = .ok (.iload_n 3, 1) := by decide +kernel
theorem dX1_readDue_13 : decode cX1_readDue 13 = .ok (.bipush 20, 2) := by decide +kernel
theorem dX1_readDue_15 : decode cX1_readDue 15 = .ok (.if_icmp .ge 64, 3) := by decide +kernel
theorem dX1_readDue_18 : decode cX1_readDue 18 = .ok (.aload_n 0, 1) := by decide +kernel
theorem dX1_readDue_19 : decode cX1_readDue 19 = .ok (.getfield 21, 3) := by decide +kernel
theorem dX1_readDue_22 : decode cX1_readDue 22 = .ok (.iload_n 3, 1) := by decide +kernel
theorem dX1_readDue_23 : decode cX1_readDue 23 = .ok (.iaload, 1) := by decide +kernel
theorem dX1_readDue_24 : decode cX1_readDue 24 = .ok (.iload_n 1, 1) := by decide +kernel
theorem dX1_readDue_25 : decode cX1_readDue 25 = .ok (.if_icmp .ne 20, 3) := by decide +kernel
theorem dX1_readDue_28 : decode cX1_readDue 28 = .ok (.aload_n 0, 1) := by decide +kernel
theorem dX1_readDue_29 : decode cX1_readDue 29 = .ok (.getfield 18, 3) := by decide +kernel
theorem dX1_readDue_32 : decode cX1_readDue 32 = .ok (.iload_n 3, 1) := by decide +kernel
theorem dX1_readDue_33 : decode cX1_readDue 33 = .ok (.iaload, 1) := by decide +kernel
theorem dX1_readDue_34 : decode cX1_readDue 34 = .ok (.ifCond .ne 11, 3) := by decide +kernel
theorem dX1_readDue_37 : decode cX1_readDue 37 = .ok (.aload_n 0, 1) := by decide +kernel
theorem dX1_readDue_38 : decode cX1_readDue 38 = .ok (.iload_n 3, 1) := by decide +kernel
theorem dX1_readDue_39 : decode cX1_readDue 39 = .ok (.invokevirtual 41, 3) := by decide +kernel
theorem dX1_readDue_42 : decode cX1_readDue 42 = .ok (.goto 31, 3) := by decide +kernel
theorem dX1_readDue_45 : decode cX1_readDue 45 = .ok (.aload_n 0, 1) := by decide +kernel
theorem dX1_readDue_46 : decode cX1_readDue 46 = .ok (.getfield 21, 3) := by decide +kernel
theorem dX1_readDue_49 : decode cX1_readDue 49 = .ok (.iload_n 3, 1) := by decide +kernel
theorem dX1_readDue_50 : decode cX1_readDue 50 = .ok (.iaload, 1) := by decide +kernel
theorem dX1_readDue_51 : decode cX1_readDue 51 = .ok (.iload_n 1, 1) := by decide +kernel
theorem dX1_readDue_52 : decode cX1_readDue 52 = .ok (.if_icmp .ne 21, 3) := by decide +kernel
theorem dX1_readDue_55 : decode cX1_readDue 55 = .ok (.aload_n 0, 1) := by decide +kernel
theorem dX1_readDue_56 : decode cX1_readDue 56 = .ok (.getfield 18, 3) := by decide +kernel
theorem dX1_readDue_59 : decode cX1_readDue 59 = .ok (.iload_n 3, 1) := by decide +kernel
theorem dX1_readDue_60 : decode cX1_readDue 60 = .ok (.iaload, 1) := by decide +kernel
theorem dX1_readDue_61 : decode cX1_readDue 61 = .ok (.iconst 2, 1) := by decide +kernel
theorem dX1_readDue_62 : decode cX1_readDue 62 = .ok (.if_icmp .ne 11, 3) := by decide +kernel
theorem dX1_readDue_65 : decode cX1_readDue 65 = .ok (.iload_n 2, 1) := by decide +kernel
theorem dX1_readDue_66 : decode cX1_readDue 66 = .ok (.aload_n 0, 1) := by decide +kernel
theorem dX1_readDue_67 : decode cX1_readDue 67 = .ok (.iload_n 3, 1) := by decide +kernel
theorem dX1_readDue_68 : decode cX1_readDue 68 = .ok (.invokevirtual 45, 3) := by decide +kernel
theorem dX1_readDue_71 : decode cX1_readDue 71 = .ok (.iadd, 1) := by decide +kernel
theorem dX1_readDue_72 : decode cX1_readDue 72 = .ok (.istore_n 2, 1) := by decide +kernel
theorem dX1_readDue_73 : decode cX1_readDue 73 = .ok (.iinc 3 1, 3) := by decide +kernel
theorem dX1_readDue_76 : decode cX1_readDue 76 = .ok (.goto (-72), 3) := by decide +kernel
theorem dX1_readDue_79 : decode cX1_readDue 79 = .ok (.iload_n 2, 1) := by decide +kernel
theorem dX1_readDue_80 : decode cX1_readDue 80 = .ok (.ireturn, 1) := by decide +kernel
theorem wX1_readDue_J73 {p : Program} {l : Launch} {e : Env} {s : State} {m : MethodId} {args : Array Value} {below : List Frame} {meth : Method} {c : Code} {Y : Nat → ClassId} {D : va_G} {σ : Nat → Nat} {np b0 : Nat} {bi : Nat} {r : Int32 × Mc} {K4 : Mc → Int32 → Int32 → Int32 → Option (Int32 × Mc)} {M : Mc} {N : Md} {X1 : Int32} {X2 : Int32} {X3 : Int32} (hE : EOK p s m args meth c cX1_readDue 4 RX1 Y D σ np b0) (hr : meth.sig.returnType = (some .int)) (hbi : is1 bi) (hK4 : ∀ (M : Mc) (N : Md) (X1 : Int32) (X2 : Int32) (X3 : Int32), K4 M X1 X2 X3 = some r → Xw p l e (rmD 3) s m args below meth c 4 Y D σ np b0 0 0 (MQ below (QR Y D σ np b0 (some (.int r.1)) r.2 N) args s 0 0 (xA b0)) 4 [(0, .ref (σ bi)), (1, .int X1), (2, .int X2), (3, .int X3)] [] M N) (hf : fX1_readDue_J73 bi K4 M X1 X2 X3 = some r) : Xw p l e (rmD 3) s m args below meth c 4 Y D σ np b0 0 0 (MQ below (QR Y D σ np b0 (some (.int r.1)) r.2 N) args s 0 0 (xA b0)) 73 [(0, .ref (σ bi)), (1, .int X1), (2, .int X2), (3, .int X3)] [] M N := by
  unfold fX1_readDue_J73 at hf
  refine x_iinc hE 3 (X3 + nI 1) (L' := [(3, .int (X3 + nI 1)), (0, .ref (σ bi)), (1, .int X1), (2, .int X2)]) dX1_readDue_73 rfl rfl (by decide) rfl ?_
  refine x_pick [1, 2, 3, 0] (L' := [(0, .ref (σ bi)), (1, .int X1), (2, .int X2), (3, .int (X3 + nI 1))]) rfl ?_
  refine x_goto hE 4 dX1_readDue_76 (by decide) ?_
  exact hK4 _ _ _ _ _ hf
theorem wX1_readDue_J45 {p : Program} {l : Launch} {e : Env} {s : State} {m : MethodId} {args : Array Value} {below : List Frame} {meth : Method} {c : Code} {Y : Nat → ClassId} {D : va_G} {σ : Nat → Nat} {np b0 : Nat} {bi : Nat} {r : Int32 × Mc} {K4 : Mc → Int32 → Int32 → Int32 → Option (Int32 × Mc)} {M : Mc} {N : Md} {X1 : Int32} {X2 : Int32} {X3 : Int32} (hE : EOK p s m args meth c cX1_readDue 4 RX1 Y D σ np b0) (hr : meth.sig.returnType = (some .int)) (hbi : is1 bi) (hK4 : ∀ (M : Mc) (N : Md) (X1 : Int32) (X2 : Int32) (X3 : Int32), K4 M X1 X2 X3 = some r → Xw p l e (rmD 3) s m args below meth c 4 Y D σ np b0 0 0 (MQ below (QR Y D σ np b0 (some (.int r.1)) r.2 N) args s 0 0 (xA b0)) 4 [(0, .ref (σ bi)), (1, .int X1), (2, .int X2), (3, .int X3)] [] M N) (hf : fX1_readDue_J45 bi K4 M X1 X2 X3 = some r) : Xw p l e (rmD 3) s m args below meth c 4 Y D σ np b0 0 0 (MQ below (QR Y D σ np b0 (some (.int r.1)) r.2 N) args s 0 0 (xA b0)) 45 [(0, .ref (σ bi)), (1, .int X1), (2, .int X2), (3, .int X3)] [] M N := by
  unfold fX1_readDue_J45 at hf
  refine x_aload_n hE 0 dX1_readDue_45 rfl rfl ?_
  refine x_getR hE cl_1 (hE.kd (kO_1 hbi)) (by decide) 5 (bi + 4) rfl (by decide) lk_X1_21 dX1_readDue_46 ?_
  refine x_iload_n hE 3 dX1_readDue_49 rfl rfl ?_
  refine x_iald hE (hE.kd (kB_1_5 hbi)) dX1_readDue_50 hf (fun hf => ?_)
  refine x_iload_n hE 1 dX1_readDue_51 rfl rfl ?_
  refine x_icmp_ne hE 73 dX1_readDue_52 (by decide) hf (fun hf => ?_) (fun hf => ?_)
  · exact wX1_readDue_J73 hE hr hbi hK4 hf
  · refine x_aload_n hE 0 dX1_readDue_55 rfl rfl ?_
    refine x_getR hE cl_1 (hE.kd (kO_1 hbi)) (by decide) 4 (bi + 3) rfl (by decide) lk_X1_18 dX1_readDue_56 ?_
    refine x_iload_n hE 3 dX1_readDue_59 rfl rfl ?_
    refine x_iald hE (hE.kd (kB_1_4 hbi)) dX1_readDue_60 hf (fun hf => ?_)
    refine x_iconst hE (nI 2) dX1_readDue_61 (by decide) ?_
    refine x_icmp_ne hE 73 dX1_readDue_62 (by decide) hf (fun hf => ?_) (fun hf => ?_)
    · exact wX1_readDue_J73 hE hr hbi hK4 hf
    · refine x_iload_n hE 2 dX1_readDue_65 rfl rfl ?_
      refine x_aload_n hE 0 dX1_readDue_66 rfl rfl ?_
      refine x_iload_n hE 3 dX1_readDue_67 rfl rfl ?_
      obtain ⟨⟨v4, M5⟩, hc3, hf⟩ := bn2_some hf
      refine x_callV1 hE [.int X3] (rest := [.int X2]) (v := .int v4) (c1 := M5) (d1 := N) rfl yokX1_comeBack yvX1_comeBack lk_X1_45 rfl cl_1 (hE.kd (kO_1 hbi)) (by decide) rfl rfl ⟨Nat.le_of_ble_eq_true rfl, Nat.le_of_ble_eq_true rfl⟩ ⟨Nat.zero_le _, Nat.zero_le _⟩ rfl (Nat.le_of_ble_eq_true rfl) dX1_readDue_68 (mX1_comeBack l hbi hc3) ?_
      refine x_iadd hE dX1_readDue_71 ?_
      refine x_ltI hf (fun v6 hf => ?_)
      refine x_istore_n hE (L' := [(2, .int v6), (0, .ref (σ bi)), (1, .int X1), (3, .int X3)]) dX1_readDue_72 rfl (by decide) rfl ?_
      refine x_pick [1, 2, 0, 3] (L' := [(0, .ref (σ bi)), (1, .int X1), (2, .int v6), (3, .int X3)]) rfl ?_
      exact wX1_readDue_J73 hE hr hbi hK4 hf
theorem wX1_readDue_L4 {p : Program} {l : Launch} {e : Env} {s : State} {m : MethodId} {args : Array Value} {below : List Frame} {meth : Method} {c : Code} {Y : Nat → ClassId} {D : va_G} {σ : Nat → Nat} {np b0 : Nat} {bi : Nat} {r : Int32 × Mc} (hE : EOK p s m args meth c cX1_readDue 4 RX1 Y D σ np b0) (hr : meth.sig.returnType = (some .int)) (hbi : is1 bi) : ∀ (n : Nat) (M : Mc) (N : Md) (X1 : Int32) (X2 : Int32) (X3 : Int32), fX1_readDue_L4 bi n M X1 X2 X3 = some r → Xw p l e (rmD 3) s m args below meth c 4 Y D σ np b0 0 0 (MQ below (QR Y D σ np b0 (some (.int r.1)) r.2 N) args s 0 0 (xA b0)) 4 [(0, .ref (σ bi)), (1, .int X1), (2, .int X2), (3, .int X3)] [] M N := by
  intro n
  induction n with
  | zero =>
    intro M N X1 X2 X3 hf
    cases hf
  | succ n ih =>
    intro M N X1 X2 X3 hf
    rw [fX1_readDue_L4.eq_2] at hf
    refine x_iload_n hE 3 dX1_readDue_4 rfl rfl ?_
    refine x_aload_n hE 0 dX1_readDue_5 rfl rfl ?_
    refine x_getI hE cl_1 (hE.kd (kO_1 hbi)) (by decide) 0 rfl (by decide) lk_X1_24 dX1_readDue_6 ?_
    refine x_icmp_ge hE 79 dX1_readDue_9 (by decide) hf (fun hf => ?_) (fun hf => ?_)
    · refine x_iload_n hE 2 dX1_readDue_79 rfl rfl ?_
      replace hf := Option.some.inj hf
      subst hf
      exact x_ireturn hE (v := X2) hr rfl dX1_readDue_80
    · refine x_iload_n hE 3 dX1_readDue_12 rfl rfl ?_
      refine x_bipush hE (nI 20) dX1_readDue_13 (by decide) ?_
      refine x_icmp_ge hE 79 dX1_readDue_15 (by decide) hf (fun hf => ?_) (fun hf => ?_)
      · refine x_iload_n hE 2 dX1_readDue_79 rfl rfl ?_
        replace hf := Option.some.inj hf
        subst hf
        exact x_ireturn hE (v := X2) hr rfl dX1_readDue_80
      · refine x_aload_n hE 0 dX1_readDue_18 rfl rfl ?_
        refine x_getR hE cl_1 (hE.kd (kO_1 hbi)) (by decide) 5 (bi + 4) rfl (by decide) lk_X1_21 dX1_readDue_19 ?_
        refine x_iload_n hE 3 dX1_readDue_22 rfl rfl ?_
        refine x_iald hE (hE.kd (kB_1_5 hbi)) dX1_readDue_23 hf (fun hf => ?_)
        refine x_iload_n hE 1 dX1_readDue_24 rfl rfl ?_
        refine x_icmp_ne hE 45 dX1_readDue_25 (by decide) hf (fun hf => ?_) (fun hf => ?_)
        · exact wX1_readDue_J45 hE hr hbi (fun _ _ _ _ _ hf => ih _ _ _ _ _ hf) hf
        · refine x_aload_n hE 0 dX1_readDue_28 rfl rfl ?_
          refine x_getR hE cl_1 (hE.kd (kO_1 hbi)) (by decide) 4 (bi + 3) rfl (by decide) lk_X1_18 dX1_readDue_29 ?_
          refine x_iload_n hE 3 dX1_readDue_32 rfl rfl ?_
          refine x_iald hE (hE.kd (kB_1_4 hbi)) dX1_readDue_33 hf (fun hf => ?_)
          refine x_if_ne hE 45 dX1_readDue_34 (by decide) hf (fun hf => ?_) (fun hf => ?_)
          · exact wX1_readDue_J45 hE hr hbi (fun _ _ _ _ _ hf => ih _ _ _ _ _ hf) hf
          · refine x_aload_n hE 0 dX1_readDue_37 rfl rfl ?_
            refine x_iload_n hE 3 dX1_readDue_38 rfl rfl ?_
            obtain ⟨M2, hc1, hf⟩ := bnd_some hf
            refine x_callV0 hE [.int X3] (rest := []) (c1 := M2) (d1 := N) rfl yokX1_present yvX1_present lk_X1_41 rfl cl_1 (hE.kd (kO_1 hbi)) (by decide) rfl rfl ⟨Nat.le_of_ble_eq_true rfl, Nat.le_of_ble_eq_true rfl⟩ ⟨Nat.zero_le _, Nat.zero_le _⟩ rfl (Nat.le_of_ble_eq_true rfl) dX1_readDue_39 (mX1_present l hbi hc1) ?_
            refine x_goto hE 73 dX1_readDue_42 (by decide) ?_
            exact wX1_readDue_J73 hE hr hbi (fun _ _ _ _ _ hf => ih _ _ _ _ _ hf) hf
theorem mX1_readDue (l : Launch) {Y : Nat → ClassId} {D : va_G} {σ : Nat → Nat} {np b0 : Nat} {M : Mc} {N : Md} {bi : Nat} {p0 : Int32} {r : Int32 × Mc} (hbi : is1 bi) (hf : fX1_readDue M bi p0 = some r) : Met l yX1_readDue (.code yX1_readDue cX1_readDue 4 (some .int) :: lw_g) (rmD 3) (PR Y D σ np b0 [.ref (σ bi), .int p0] M N) (QR Y D σ np b0 (some (.int r.1)) r.2 N) 0 0 (xA b0) := by
  refine x_met (by decide) (Nat.le_of_ble_eq_true rfl) (fun p e s m args below meth c hE hr => ?_)
  unfold fX1_readDue at hf
  refine x_pick [0, 1] (L' := [(0, .ref (σ bi)), (1, .int p0)]) rfl ?_
  refine x_iconst hE (0 : Int32) dX1_readDue_0 (by decide) ?_
  refine x_istore_n hE (L' := [(2, .int 0), (0, .ref (σ bi)), (1, .int p0)]) dX1_readDue_1 rfl (by decide) rfl ?_
  refine x_pick [1, 2, 0] (L' := [(0, .ref (σ bi)), (1, .int p0), (2, .int 0)]) rfl ?_
  refine x_iconst hE (0 : Int32) dX1_readDue_2 (by decide) ?_
  refine x_istore_n hE (L' := [(3, .int 0), (0, .ref (σ bi)), (1, .int p0), (2, .int 0)]) dX1_readDue_3 rfl (by decide) rfl ?_
  refine x_pick [1, 2, 3, 0] (L' := [(0, .ref (σ bi)), (1, .int p0), (2, .int 0), (3, .int 0)]) rfl ?_
  exact wX1_readDue_L4 hE hr hbi FU _ _ _ _ _ hf
theorem yokX1_readDue : YOK yX1_readDue cX1_readDue 4 1 (some .int) := ⟨mem_g 1724 (by decide +kernel) (by decide +kernel), mem_g 138 (by decide +kernel) (by decide +kernel), by decide +kernel, by decide +kernel, by decide +kernel⟩
theorem yvX1_readDue : YV yX1_readDue := ⟨mem_g 1722 (by decide +kernel) (by decide +kernel), mem_g 1723 (by decide +kernel) (by decide +kernel)⟩
