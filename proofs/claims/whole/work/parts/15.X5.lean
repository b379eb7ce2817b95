theorem lk_X5_24 : Cond.fieldLink RX5 24 (TX5 0).1 (TX5 0).2.1 (TX5 0).2.2.1 ∈ lw_g := mem_g 312 (by decide +kernel) (by decide +kernel)
theorem lk_X5_9 : Cond.fieldLink RX5 9 (TX5 1).1 (TX5 1).2.1 (TX5 1).2.2.1 ∈ lw_g := mem_g 314 (by decide +kernel) (by decide +kernel)
theorem lk_X5_28 : Cond.methodLink RX5 28 arraycopyName ∈ lw_g := mem_g 1053 (by decide +kernel) (by decide +kernel)
theorem lk_X5_15 : Cond.fieldLink RX5 15 (TX5 2).1 (TX5 2).2.1 (TX5 2).2.2.1 ∈ lw_g := mem_g 315 (by decide +kernel) (by decide +kernel)
theorem lk_X5_18 : Cond.fieldLink RX5 18 (TX5 3).1 (TX5 3).2.1 (TX5 3).2.2.1 ∈ lw_g := mem_g 316 (by decide +kernel) (by decide +kernel)
theorem lk_X5_21 : Cond.fieldLink RX5 21 (TX5 4).1 (TX5 4).2.1 (TX5 4).2.2.1 ∈ lw_g := mem_g 317 (by decide +kernel) (by decide +kernel)
theorem dX5_copyFrom_0 : decode cX5_copyFrom 0 = .ok (.aload_n 1, 1) := by decide +kernel
theorem dX5_copyFrom_1 : decode cX5_copyFrom 1 = .ok (.ifnonnull 4, 3) := by decide +kernel
theorem dX5_copyFrom_4 : decode cX5_copyFrom 4 = .ok (.return_, 1) := by decide +kernel
theorem dX5_copyFrom_5 : decode cX5_copyFrom 5 = .ok (.aload_n 0, 1) := by decide +kernel
theorem dX5_copyFrom_6 : decode cX5_copyFrom 6 = .ok (.aload_n 1, 1) := by decide +kernel
theorem dX5_copyFrom_7 : decode cX5_copyFrom 7 = .ok (.getfield 24, 3) := by decide +kernel
theorem dX5_copyFrom_10 : decode cX5_copyFrom 10 = .ok (.putfield 24, 3) := by decide +kernel
theorem dX5_copyFrom_13 : decode cX5_copyFrom 13 = .ok (.aload_n 1, 1) := by decide +kernel
theorem dX5_copyFrom_14 : decode cX5_copyFrom 14 = .ok (.getfield 9, 3) := by decide +kernel
theorem dX5_copyFrom_17 : decode cX5_copyFrom 17 = .ok (.iconst 0, 1) := by decide +kernel
theorem dX5_copyFrom_18 : decode cX5_copyFrom 18 = .ok (.aload_n 0, 1) := by decide +kernel
theorem dX5_copyFrom_19 : decode cX5_copyFrom 19 = .ok (.getfield 9, 3) := by decide +kernel
theorem dX5_copyFrom_22 : decode cX5_copyFrom 22 = .ok (.iconst 0, 1) := by decide +kernel
theorem dX5_copyFrom_23 : decode cX5_copyFrom 23 = .ok (.iconst 4, 1) := by decide +kernel
theorem dX5_copyFrom_24 : decode cX5_copyFrom 24 = .ok (.invokestatic 28, 3) := by decide +kernel
theorem dX5_copyFrom_27 : decode cX5_copyFrom 27 = .ok (.aload_n 1, 1) := by decide +kernel
theorem dX5_copyFrom_28 : decode cX5_copyFrom 28 = .ok (.getfield 15, 3) := by decide +kernel
theorem dX5_copyFrom_31 : decode cX5_copyFrom 31 = .ok (.iconst 0, 1) := by decide +kernel
theorem dX5_copyFrom_32 : decode cX5_copyFrom 32 = .ok (.aload_n 0, 1) := by decide +kernel
theorem dX5_copyFrom_33 : decode cX5_copyFrom 33 = .ok (.getfield 15, 3) := by decide +kernel
theorem dX5_copyFrom_36 : decode cX5_copyFrom 36 = .ok (.iconst 0, 1) := by decide +kernel
theorem dX5_copyFrom_37 : decode cX5_copyFrom 37 = .ok (.iconst 4, 1) := by decide +kernel
theorem dX5_copyFrom_38 : decode cX5_copyFrom 38 = .ok (.invokestatic 28, 3) := by decide +kernel
theorem dX5_copyFrom_41 : decode cX5_copyFrom 41 = .ok (.aload_n 1, 1) := by decide +kernel
theorem dX5_copyFrom_42 : decode cX5_copyFrom 42 = .ok (.getfield 18, 3) := by decide +kernel
theorem dX5_copyFrom_45 : decode cX5_copyFrom 45 = .ok (.iconst 0, 1) := by decide +kernel
theorem dX5_copyFrom_46 : decode cX5_copyFrom 46 = .ok (.aload_n 0, 1) := by decide +kernel
theorem dX5_copyFrom_47 : decode cX5_copyFrom 47 = .ok (.getfield 18, 3) := by decide +kernel
theorem dX5_copyFrom_50 : decode cX5_copyFrom 50 = .ok (.iconst 0, 1) := by decide +kernel
theorem dX5_copyFrom_51 : decode cX5_copyFrom 51 = .ok (.iconst 4, 1) := by decide +kernel
theorem dX5_copyFrom_52 : decode cX5_copyFrom 52 = .ok (.invokestatic 28, 3) := by decide +kernel
theorem dX5_copyFrom_55 : decode cX5_copyFrom 55 = .ok (.aload_n 1, 1) := by decide +kernel
theorem dX5_copyFrom_56 : decode cX5_copyFrom 56 = .ok (.getfield 21, 3) := by decide +kernel
theorem dX5_copyFrom_59 : decode cX5_copyFrom 59 = .ok (.iconst 0, 1) := by decide +kernel
theorem dX5_copyFrom_60 : decode cX5_copyFrom 60 = .ok (.aload_n 0, 1) := by decide +kernel
theorem dX5_copyFrom_61 : decode cX5_copyFrom 61 = .ok (.getfield 21, 3) := by decide +kernel
theorem dX5_copyFrom_64 : decode cX5_copyFrom 64 = .ok (.iconst 0, 1) := by decide +kernel
theorem dX5_copyFrom_65 : decode cX5_copyFrom 65 = .ok (.bipush 48, 2) := by decide +kernel
theorem dX5_copyFrom_67 : decode cX5_copyFrom 67 = .ok (.invokestatic 28, 3) := by decide +kernel
theorem dX5_copyFrom_70 : decode cX5_copyFrom 70 = .ok (.return_, 1) := by decide +kernel
theorem mX5_copyFrom (l : Launch) {Y : Nat → ClassId} {D : va_G} {σ : Nat → Nat} {np b0 : Nat} {M : Mc} {N : Md} {pa : Nat} {pa2 : Nat} {r : Mc} (hpa : is5 pa) (hpa2 : is5 pa2) (hf : fX5_copyFrom M pa pa2 = some r) : Met l yX5_copyFrom (.code yX5_copyFrom cX5_copyFrom 2 none :: lw_g) (rmD 4) (PR Y D σ np b0 [.ref (σ pa), .ref (σ pa2)] M N) (QR Y D σ np b0 none r N) 0 0 (xA b0) := by
  refine x_met (by decide) (Nat.le_of_ble_eq_true rfl) (fun p e s m args below meth c hE hr => ?_)
  unfold fX5_copyFrom at hf
  refine x_pick [0, 1] (L' := [(0, .ref (σ pa)), (1, .ref (σ pa2))]) rfl ?_
  refine x_aload_n hE 1 dX5_copyFrom_0 rfl rfl ?_
  refine x_ifnonnull hE 5 dX5_copyFrom_1 (by decide) ?_
  refine x_aload_n hE 0 dX5_copyFrom_5 rfl rfl ?_
  refine x_aload_n hE 1 dX5_copyFrom_6 rfl rfl ?_
  refine x_getI hE cl_5 (hE.kd (kO_5 hpa2)) (by decide) 0 rfl (by decide) lk_X5_24 dX5_copyFrom_7 ?_
  refine x_putI hE cl_5 (hE.kd (kO_5 hpa)) (by decide) 0 rfl (by decide) lk_X5_24 rfl rfl rfl rfl dX5_copyFrom_10 hf (fun M1 hf => ?_)
  refine x_aload_n hE 1 dX5_copyFrom_13 rfl rfl ?_
  refine x_getR hE cl_5 (hE.kd (kO_5 hpa2)) (by decide) 1 (pa2 + 1) rfl (by decide) lk_X5_9 dX5_copyFrom_14 ?_
  refine x_iconst hE (0 : Int32) dX5_copyFrom_17 (by decide) ?_
  refine x_aload_n hE 0 dX5_copyFrom_18 rfl rfl ?_
  refine x_getR hE cl_5 (hE.kd (kO_5 hpa)) (by decide) 1 (pa + 1) rfl (by decide) lk_X5_9 dX5_copyFrom_19 ?_
  refine x_iconst hE (0 : Int32) dX5_copyFrom_22 (by decide) ?_
  refine x_iconst hE (nI 4) dX5_copyFrom_23 (by decide) ?_
  refine x_copy hE (hE.kd (kB_5_1 hpa2)) (hE.kd (kB_5_1 hpa)) lk_X5_28 (Nat.le_of_ble_eq_true rfl) dX5_copyFrom_24 hf (fun M2 hf => ?_)
  refine x_aload_n hE 1 dX5_copyFrom_27 rfl rfl ?_
  refine x_getR hE cl_5 (hE.kd (kO_5 hpa2)) (by decide) 2 (pa2 + 2) rfl (by decide) lk_X5_15 dX5_copyFrom_28 ?_
  refine x_iconst hE (0 : Int32) dX5_copyFrom_31 (by decide) ?_
  refine x_aload_n hE 0 dX5_copyFrom_32 rfl rfl ?_
  refine x_getR hE cl_5 (hE.kd (kO_5 hpa)) (by decide) 2 (pa + 2) rfl (by decide) lk_X5_15 dX5_copyFrom_33 ?_
  refine x_iconst hE (0 : Int32) dX5_copyFrom_36 (by decide) ?_
  refine x_iconst hE (nI 4) dX5_copyFrom_37 (by decide) ?_
  refine x_copy hE (hE.kd (kB_5_2 hpa2)) (hE.kd (kB_5_2 hpa)) lk_X5_28 (Nat.le_of_ble_eq_true rfl) dX5_copyFrom_38 hf (fun M3 hf => ?_)
  refine x_aload_n hE 1 dX5_copyFrom_41 rfl rfl ?_
  refine x_getR hE cl_5 (hE.kd (kO_5 hpa2)) (by decide) 3 (pa2 + 3) rfl (by decide) lk_X5_18 dX5_copyFrom_42 ?_
  refine x_iconst hE (0 : Int32) dX5_copyFrom_45 (by decide) ?_
  refine x_aload_n hE 0 dX5_copyFrom_46 rfl rfl ?_
  refine x_getR hE cl_5 (hE.kd (kO_5 hpa)) (by decide) 3 (pa + 3) rfl (by decide) lk_X5_18 dX5_copyFrom_47 ?_
  refine x_iconst hE (0 : Int32) dX5_copyFrom_50 (by decide) ?_
  refine x_iconst hE (nI 4) dX5_copyFrom_51 (by decide) ?_
  refine x_copy hE (hE.kd (kB_5_3 hpa2)) (hE.kd (kB_5_3 hpa)) lk_X5_28 (Nat.le_of_ble_eq_true rfl) dX5_copyFrom_52 hf (fun M4 hf => ?_)
  refine x_aload_n hE 1 dX5_copyFrom_55 rfl rfl ?_
  refine x_getR hE cl_5 (hE.kd (kO_5 hpa2)) (by decide) 4 (pa2 + 4) rfl (by decide) lk_X5_21 dX5_copyFrom_56 ?_
  refine x_iconst hE (0 : Int32) dX5_copyFrom_59 (by decide) ?_
  refine x_aload_n hE 0 dX5_copyFrom_60 rfl rfl ?_
  refine x_getR hE cl_5 (hE.kd (kO_5 hpa)) (by decide) 4 (pa + 4) rfl (by decide) lk_X5_21 dX5_copyFrom_61 ?_
  refine x_iconst hE (0 : Int32) dX5_copyFrom_64 (by decide) ?_
  refine x_bipush hE (nI 48) dX5_copyFrom_65 (by decide) ?_
  refine x_copy hE (hE.kd (kB_5_4 hpa2)) (hE.kd (kB_5_4 hpa)) lk_X5_28 (Nat.le_of_ble_eq_true rfl) dX5_copyFrom_67 hf (fun M5 hf => ?_)
  replace hf := Option.some.inj hf
  subst hf
  exact x_vreturn hE hr dX5_copyFrom_70
theorem yokX5_copyFrom : YOK yX5_copyFrom cX5_copyFrom 2 1 none := ⟨mem_g 1052 (by decide +kernel) (by decide +kernel), mem_g 137 (by decide +kernel) (by decide +kernel), by decide +kernel, by decide +kernel, by decide +kernel⟩
theorem yvX5_copyFrom : YV yX5_copyFrom := ⟨mem_g 1050 (by decide +kernel) (by decide +kernel), mem_g 1051 (by decide +kernel) (by decide +kernel)⟩
theorem lk_X5_34 : Cond.methodLinkNest RX5 34 yX11_inside "SettlerColony" ∈ lw_nw := mem_n 991 (by decide +kernel) rfl
theorem dX5_add_0 : decode cX5_add 0 = .ok (.aload_n 0, 1) := by decide +kernel
theorem dX5_add_1 : decode cX5_add 1 = .ok (.getfield 24, 3) := by decide +kernel
theorem dX5_add_4 : decode cX5_add 4 = .ok (.iconst 4, 1) := by decide +kernel
theorem dX5_add_5 : decode cX5_add 5 = .ok (.invokestatic 34, 3) := by decide +kernel
theorem dX5_add_8 : decode cX5_add 8 = .ok (.ifCond .ne 5, 3) := by decide +kernel
theorem dX5_add_11 : decode cX5_add 11 = .ok (.iconst (-1), 1) := by decide +kernel
theorem dX5_add_12 : decode cX5_add 12 = .ok (.ireturn, 1) := by decide +kernel
theorem dX5_add_13 : decode cX5_add 13 = .ok (.aload_n 0, 1) := by decide +kernel
theorem dX5_add_14 : decode cX5_add 14 = .ok (.getfield 9, 3) := by decide +kernel
theorem dX5_add_17 : decode cX5_add 17 = .ok (.aload_n 0, 1) := by decide +kernel
theorem dX5_add_18 : decode cX5_add 18 = .ok (.getfield 24, 3) := by decide +kernel
theorem dX5_add_21 : decode cX5_add 21 = .ok (.iload_n 1, 1) := by decide +kernel
theorem dX5_add_22 : decode cX5_add 22 = .ok (.iastore, 1) := by decide +kernel
theorem dX5_add_23 : decode cX5_add 23 = .ok (.aload_n 0, 1) := by decide +kernel
theorem dX5_add_24 : decode cX5_add 24 = .ok (.dup, 1) := by decide +kernel
theorem dX5_add_25 : decode cX5_add 25 = .ok (.getfield 24, 3) := by decide +kernel
theorem dX5_add_28 : decode cX5_add 28 = .ok (.dup_x1, 1) := by decide +kernel
theorem dX5_add_29 : decode cX5_add 29 = .ok (.iconst 1, 1) := by decide +kernel
theorem dX5_add_30 : decode cX5_add 30 = .ok (.iadd, 1) := by decide +kernel
theorem dX5_add_31 : decode cX5_add 31 = .ok (.putfield 24, 3) := by decide +kernel
theorem dX5_add_34 : decode cX5_add 34 = .ok (.ireturn, 1) := by decide +kernel
theorem mX5_add (l : Launch) {Y : Nat → ClassId} {D : va_G} {σ : Nat → Nat} {np b0 : Nat} {M : Mc} {N : Md} {pa : Nat} {p0 : Int32} {r : Int32 × Mc} (hpa : is5 pa) (hf : fX5_add M pa p0 = some r) : Met l yX5_add (.code yX5_add cX5_add 2 (some .int) :: lw_g) (rmD 2) (PR Y D σ np b0 [.ref (σ pa), .int p0] M N) (QR Y D σ np b0 (some (.int r.1)) r.2 N) 0 0 (xA b0) := by
  refine x_met (by decide) (Nat.le_of_ble_eq_true rfl) (fun p e s m args below meth c hE hr => ?_)
  unfold fX5_add at hf
  refine x_pick [0, 1] (L' := [(0, .ref (σ pa)), (1, .int p0)]) rfl ?_
  refine x_aload_n hE 0 dX5_add_0 rfl rfl ?_
  refine x_getI hE cl_5 (hE.kd (kO_5 hpa)) (by decide) 0 rfl (by decide) lk_X5_24 dX5_add_1 ?_
  refine x_iconst hE (nI 4) dX5_add_4 (by decide) ?_
  obtain ⟨v2, hc1, hf⟩ := bnd_some hf
  refine x_callSN1 hE [.int (M pa 0), .int (nI 4)] (rest := []) (v := .int v2) (c1 := M) (d1 := N) rfl yokX11_inside ysX11_inside lk_X5_34 rfl rfl ⟨Nat.le_of_ble_eq_true rfl, Nat.le_of_ble_eq_true rfl⟩ ⟨Nat.zero_le _, Nat.zero_le _⟩ rfl (Nat.le_of_ble_eq_true rfl) dX5_add_5 (mX11_inside l hc1) ?_
  refine x_if_ne hE 13 dX5_add_8 (by decide) hf (fun hf => ?_) (fun hf => ?_)
  · refine x_aload_n hE 0 dX5_add_13 rfl rfl ?_
    refine x_getR hE cl_5 (hE.kd (kO_5 hpa)) (by decide) 1 (pa + 1) rfl (by decide) lk_X5_9 dX5_add_14 ?_
    refine x_aload_n hE 0 dX5_add_17 rfl rfl ?_
    refine x_getI hE cl_5 (hE.kd (kO_5 hpa)) (by decide) 0 rfl (by decide) lk_X5_24 dX5_add_18 ?_
    refine x_iload_n hE 1 dX5_add_21 rfl rfl ?_
    refine x_iast hE (hE.kd (kB_5_1 hpa)) dX5_add_22 hf (fun M3 hf => ?_)
    refine x_aload_n hE 0 dX5_add_23 rfl rfl ?_
    refine x_dup hE dX5_add_24 rfl ?_
    refine x_getI hE cl_5 (hE.kd (kO_5 hpa)) (by decide) 0 rfl (by decide) lk_X5_24 dX5_add_25 ?_
    refine x_dup_x1 hE dX5_add_28 rfl rfl ?_
    refine x_iconst hE (nI 1) dX5_add_29 (by decide) ?_
    refine x_iadd hE dX5_add_30 ?_
    refine x_putI hE cl_5 (hE.kd (kO_5 hpa)) (by decide) 0 rfl (by decide) lk_X5_24 rfl rfl rfl rfl dX5_add_31 hf (fun M4 hf => ?_)
    replace hf := Option.some.inj hf
    subst hf
    exact x_ireturn hE (v := M3 pa 0) hr rfl dX5_add_34
  · refine x_iconst hE (-1) dX5_add_11 (by decide) ?_
    replace hf := Option.some.inj hf
    subst hf
    exact x_ireturn hE (v := (-1)) hr rfl dX5_add_12
theorem yokX5_add : YOK yX5_add cX5_add 2 1 (some .int) := ⟨mem_g 990 (by decide +kernel) (by decide +kernel), mem_g 137 (by decide +kernel) (by decide +kernel), by decide +kernel, by decide +kernel, by decide +kernel⟩
theorem yvX5_add : YV yX5_add := ⟨mem_g 988 (by decide +kernel) (by decide +kernel), mem_g 989 (by decide +kernel) (by decide +kernel)⟩
theorem dX5_send_0 : decode cX5_send 0 = .ok (.iload_n 1, 1) := by decide +kernel
theorem dX5_send_1 : decode cX5_send 1 = .ok (.iconst 4, 1) := by decide +kernel
theorem dX5_send_2 : decode cX5_send 2 = .ok (.invokestatic 34, 3) := by decide +kernel
theorem dX5_send_5 : decode cX5_send 5 = .ok (.ifCond .eq 17, 3) := by decide +kernel
theorem dX5_send_8 : decode cX5_send 8 = .ok (.aload_n 0, 1) := by decide +kernel
theorem dX5_send_9 : decode cX5_send 9 = .ok (.getfield 18, 3) := by decide +kernel
theorem dX5_send_12 : decode cX5_send 12 = .ok (.iload_n 1, 1) := by decide +kernel
theorem dX5_send_13 : decode cX5_send 13 = .ok (.iaload, 1) := by decide +kernel
theorem dX5_send_14 : decode cX5_send 14 = .ok (.bipush 12, 2) := by decide +kernel
theorem dX5_send_16 : decode cX5_send 16 = .ok (.invokestatic 34, 3) := by decide +kernel
theorem dX5_send_19 : decode cX5_send 19 = .ok (.ifCond .ne 5, 3) := by decide +kernel
theorem dX5_send_22 : decode cX5_send 22 = .ok (.iconst (-1), 1) := by decide +kernel
theorem dX5_send_23 : decode cX5_send 23 = .ok (.ireturn, 1) := by decide +kernel
theorem dX5_send_24 : decode cX5_send 24 = .ok (.aload_n 0, 1) := by decide +kernel
theorem dX5_send_25 : decode cX5_send 25 = .ok (.getfield 21, 3) := by decide +kernel
theorem dX5_send_28 : decode cX5_send 28 = .ok (.iload_n 1, 1) := by decide +kernel
theorem dX5_send_29 : decode cX5_send 29 = .ok (.bipush 12, 2) := by decide +kernel
theorem dX5_send_31 : decode cX5_send 31 = .ok (.imul, 1) := by decide +kernel
theorem dX5_send_32 : decode cX5_send 32 = .ok (.aload_n 0, 1) := by decide +kernel
theorem dX5_send_33 : decode cX5_send 33 = .ok (.getfield 18, 3) := by decide +kernel
theorem dX5_send_36 : decode cX5_send 36 = .ok (.iload_n 1, 1) := by decide +kernel
theorem dX5_send_37 : decode cX5_send 37 = .ok (.iaload, 1) := by decide +kernel
theorem dX5_send_38 : decode cX5_send 38 = .ok (.iadd, 1) := by decide +kernel
theorem dX5_send_39 : decode cX5_send 39 = .ok (.iload_n 2, 1) := by decide +kernel
theorem dX5_send_40 : decode cX5_send 40 = .ok (.iastore, 1) := by decide +kernel
theorem dX5_send_41 : decode cX5_send 41 = .ok (.aload_n 0, 1) := by decide +kernel
theorem dX5_send_42 : decode cX5_send 42 = .ok (.getfield 18, 3) := by decide +kernel
theorem dX5_send_45 : decode cX5_send 45 = .ok (.iload_n 1, 1) := by decide +kernel
theorem dX5_send_46 : decode cX5_send 46 = .ok (.dup2, 1) := by decide +kernel
theorem dX5_send_47 : decode cX5_send 47 = .ok (.iaload, 1) := by decide +kernel
theorem dX5_send_48 : decode cX5_send 48 = .ok (.iconst 1, 1) := by decide +kernel
theorem dX5_send_49 : decode cX5_send 49 = .ok (.iadd, 1) := by decide +kernel
theorem dX5_send_50 : decode cX5_send 50 = .ok (.iastore, 1) := by decide +kernel
theorem dX5_send_51 : decode cX5_send 51 = .ok (.aload_n 0, 1) := by decide +kernel
theorem dX5_send_52 : decode cX5_send 52 = .ok (.getfield 18, 3) := by decide +kernel
theorem dX5_send_55 : decode cX5_send 55 = .ok (.iload_n 1, 1) := by decide +kernel
theorem dX5_send_56 : decode cX5_send 56 = .ok (.iaload, 1) := by decide +kernel
theorem dX5_send_57 : decode cX5_send 57 = .ok (.ireturn, 1) := by decide +kernel
theorem mX5_send (l : Launch) {Y : Nat → ClassId} {D : va_G} {σ : Nat → Nat} {np b0 : Nat} {M : Mc} {N : Md} {pa : Nat} {p0 : Int32} {p1 : Int32} {r : Int32 × Mc} (hpa : is5 pa) (hf : fX5_send M pa p0 p1 = some r) : Met l yX5_send (.code yX5_send cX5_send 3 (some .int) :: lw_g) (rmD 2) (PR Y D σ np b0 [.ref (σ pa), .int p0, .int p1] M N) (QR Y D σ np b0 (some (.int r.1)) r.2 N) 0 0 (xA b0) := by
  refine x_met (by decide) (Nat.le_of_ble_eq_true rfl) (fun p e s m args below meth c hE hr => ?_)
  unfold fX5_send at hf
  refine x_pick [0, 1, 2] (L' := [(0, .ref (σ pa)), (1, .int p0), (2, .int p1)]) rfl ?_
  refine x_iload_n hE 1 dX5_send_0 rfl rfl ?_
  refine x_iconst hE (nI 4) dX5_send_1 (by decide) ?_
  obtain ⟨v2, hc1, hf⟩ := bnd_some hf
  refine x_callSN1 hE [.int p0, .int (nI 4)] (rest := []) (v := .int v2) (c1 := M) (d1 := N) rfl yokX11_inside ysX11_inside lk_X5_34 rfl rfl ⟨Nat.le_of_ble_eq_true rfl, Nat.le_of_ble_eq_true rfl⟩ ⟨Nat.zero_le _, Nat.zero_le _⟩ rfl (Nat.le_of_ble_eq_true rfl) dX5_send_2 (mX11_inside l hc1) ?_
  refine x_if_eq hE 22 dX5_send_5 (by decide) hf (fun hf => ?_) (fun hf => ?_)
  · refine x_iconst hE (-1) dX5_send_22 (by decide) ?_
    replace hf := Option.some.inj hf
    subst hf
    exact x_ireturn hE (v := (-1)) hr rfl dX5_send_23
  · refine x_aload_n hE 0 dX5_send_8 rfl rfl ?_
    refine x_getR hE cl_5 (hE.kd (kO_5 hpa)) (by decide) 3 (pa + 3) rfl (by decide) lk_X5_18 dX5_send_9 ?_
    refine x_iload_n hE 1 dX5_send_12 rfl rfl ?_
    refine x_iald hE (hE.kd (kB_5_3 hpa)) dX5_send_13 hf (fun hf => ?_)
    refine x_bipush hE (nI 12) dX5_send_14 (by decide) ?_
    obtain ⟨v4, hc3, hf⟩ := bnd_some hf
    refine x_callSN1 hE [.int (M (pa + 3) p0.toNatClampNeg), .int (nI 12)] (rest := []) (v := .int v4) (c1 := M) (d1 := N) rfl yokX11_inside ysX11_inside lk_X5_34 rfl rfl ⟨Nat.le_of_ble_eq_true rfl, Nat.le_of_ble_eq_true rfl⟩ ⟨Nat.zero_le _, Nat.zero_le _⟩ rfl (Nat.le_of_ble_eq_true rfl) dX5_send_16 (mX11_inside l hc3) ?_
    refine x_if_ne hE 24 dX5_send_19 (by decide) hf (fun hf => ?_) (fun hf => ?_)
    · refine x_aload_n hE 0 dX5_send_24 rfl rfl ?_
      refine x_getR hE cl_5 (hE.kd (kO_5 hpa)) (by decide) 4 (pa + 4) rfl (by decide) lk_X5_21 dX5_send_25 ?_
      refine x_iload_n hE 1 dX5_send_28 rfl rfl ?_
      refine x_bipush hE (nI 12) dX5_send_29 (by decide) ?_
      refine x_imul hE dX5_send_31 ?_
      refine x_aload_n hE 0 dX5_send_32 rfl rfl ?_
      refine x_getR hE cl_5 (hE.kd (kO_5 hpa)) (by decide) 3 (pa + 3) rfl (by decide) lk_X5_18 dX5_send_33 ?_
      refine x_iload_n hE 1 dX5_send_36 rfl rfl ?_
      refine x_iald hE (hE.kd (kB_5_3 hpa)) dX5_send_37 hf (fun hf => ?_)
      refine x_iadd hE dX5_send_38 ?_
      refine x_iload_n hE 2 dX5_send_39 rfl rfl ?_
      refine x_iast hE (hE.kd (kB_5_4 hpa)) dX5_send_40 hf (fun M5 hf => ?_)
      refine x_aload_n hE 0 dX5_send_41 rfl rfl ?_
      refine x_getR hE cl_5 (hE.kd (kO_5 hpa)) (by decide) 3 (pa + 3) rfl (by decide) lk_X5_18 dX5_send_42 ?_
      refine x_iload_n hE 1 dX5_send_45 rfl rfl ?_
      refine x_dup2 hE dX5_send_46 rfl rfl ?_
      refine x_iald hE (hE.kd (kB_5_3 hpa)) dX5_send_47 hf (fun hf => ?_)
      refine x_iconst hE (nI 1) dX5_send_48 (by decide) ?_
      refine x_iadd hE dX5_send_49 ?_
      refine x_iast hE (hE.kd (kB_5_3 hpa)) dX5_send_50 hf (fun M6 hf => ?_)
      refine x_aload_n hE 0 dX5_send_51 rfl rfl ?_
      refine x_getR hE cl_5 (hE.kd (kO_5 hpa)) (by decide) 3 (pa + 3) rfl (by decide) lk_X5_18 dX5_send_52 ?_
      refine x_iload_n hE 1 dX5_send_55 rfl rfl ?_
      refine x_iald hE (hE.kd (kB_5_3 hpa)) dX5_send_56 hf (fun hf => ?_)
      replace hf := Option.some.inj hf
      subst hf
      exact x_ireturn hE (v := M6 (pa + 3) p0.toNatClampNeg) hr rfl dX5_send_57
    · refine x_iconst hE (-1) dX5_send_22 (by decide) ?_
      replace hf := Option.some.inj hf
      subst hf
      exact x_ireturn hE (v := (-1)) hr rfl dX5_send_23
theorem yokX5_send : YOK yX5_send cX5_send 3 2 (some .int) := ⟨mem_g 1010 (by decide +kernel) (by decide +kernel), mem_g 137 (by decide +kernel) (by decide +kernel), by decide +kernel, by decide +kernel, by decide +kernel⟩
theorem yvX5_send : YV yX5_send := ⟨mem_g 1008 (by decide +kernel) (by decide +kernel), mem_g 1009 (by decide +kernel) (by decide +kernel)⟩
theorem dX5_place_0 : decode cX5_place 0 = .ok (.iload_n 1, 1) := by decide +kernel
theorem dX5_place_1 : decode cX5_place 1 = .ok (.iconst 4, 1) := by decide +kernel
theorem dX5_place_2 : decode cX5_place 2 = .ok (.invokestatic 34, 3) := by decide +kernel
theorem dX5_place_5 : decode cX5_place 5 = .ok (.ifCond .eq 12, 3) := by decide +kernel
theorem dX5_place_8 : decode cX5_place 8 = .ok (.aload_n 0, 1) := by decide +kernel
theorem dX5_place_9 : decode cX5_place 9 = .ok (.getfield 15, 3) := by decide +kernel
theorem dX5_place_12 : decode cX5_place 12 = .ok (.iload_n 1, 1) := by decide +kernel
theorem dX5_place_13 : decode cX5_place 13 = .ok (.iaload, 1) := by decide +kernel
theorem dX5_place_14 : decode cX5_place 14 = .ok (.goto 4, 3) := by decide +kernel
theorem dX5_place_17 : decode cX5_place 17 = .ok (.iconst (-1), 1) := by decide +kernel
theorem dX5_place_18 : decode cX5_place 18 = .ok (.ireturn, 1) := by decide +kernel
theorem mX5_place (l : Launch) {Y : Nat → ClassId} {D : va_G} {σ : Nat → Nat} {np b0 : Nat} {M : Mc} {N : Md} {pa : Nat} {p0 : Int32} {r : Int32} (hpa : is5 pa) (hf : fX5_place M pa p0 = some r) : Met l yX5_place (.code yX5_place cX5_place 2 (some .int) :: lw_g) (rmD 2) (PR Y D σ np b0 [.ref (σ pa), .int p0] M N) (QR Y D σ np b0 (some (.int r)) M N) 0 0 (xA b0) := by
  refine x_met (by decide) (Nat.le_of_ble_eq_true rfl) (fun p e s m args below meth c hE hr => ?_)
  unfold fX5_place at hf
  refine x_pick [0, 1] (L' := [(0, .ref (σ pa)), (1, .int p0)]) rfl ?_
  refine x_iload_n hE 1 dX5_place_0 rfl rfl ?_
  refine x_iconst hE (nI 4) dX5_place_1 (by decide) ?_
  obtain ⟨v2, hc1, hf⟩ := bnd_some hf
  refine x_callSN1 hE [.int p0, .int (nI 4)] (rest := []) (v := .int v2) (c1 := M) (d1 := N) rfl yokX11_inside ysX11_inside lk_X5_34 rfl rfl ⟨Nat.le_of_ble_eq_true rfl, Nat.le_of_ble_eq_true rfl⟩ ⟨Nat.zero_le _, Nat.zero_le _⟩ rfl (Nat.le_of_ble_eq_true rfl) dX5_place_2 (mX11_inside l hc1) ?_
  refine x_if_eq hE 17 dX5_place_5 (by decide) hf (fun hf => ?_) (fun hf => ?_)
  · refine x_iconst hE (-1) dX5_place_17 (by decide) ?_
    replace hf := Option.some.inj hf
    subst hf
    exact x_ireturn hE (v := (-1)) hr rfl dX5_place_18
  · refine x_aload_n hE 0 dX5_place_8 rfl rfl ?_
    refine x_getR hE cl_5 (hE.kd (kO_5 hpa)) (by decide) 2 (pa + 2) rfl (by decide) lk_X5_15 dX5_place_9 ?_
    refine x_iload_n hE 1 dX5_place_12 rfl rfl ?_
    refine x_iald hE (hE.kd (kB_5_2 hpa)) dX5_place_13 hf (fun hf => ?_)
    refine x_goto hE 18 dX5_place_14 (by decide) ?_
    replace hf := Option.some.inj hf
    subst hf
    exact x_ireturn hE (v := M (pa + 2) p0.toNatClampNeg) hr rfl dX5_place_18
theorem yokX5_place : YOK yX5_place cX5_place 2 1 (some .int) := ⟨mem_g 1021 (by decide +kernel) (by decide +kernel), mem_g 137 (by decide +kernel) (by decide +kernel), by decide +kernel, by decide +kernel, by decide +kernel⟩
theorem yvX5_place : YV yX5_place := ⟨mem_g 1019 (by decide +kernel) (by decide +kernel), mem_g 1020 (by decide +kernel) (by decide +kernel)⟩
theorem dX5_queued_0 : decode cX5_queued 0 = .ok (.iload_n 1, 1) := by decide +kernel
theorem dX5_queued_1 : decode cX5_queued 1 = .ok (.iconst 4, 1) := by decide +kernel
theorem dX5_queued_2 : decode cX5_queued 2 = .ok (.invokestatic 34, 3) := by decide +kernel
theorem dX5_queued_5 : decode cX5_queued 5 = .ok (.ifCond .eq 12, 3) := by decide +kernel
theorem dX5_queued_8 : decode cX5_queued 8 = .ok (.aload_n 0, 1) := by decide +kernel
theorem dX5_queued_9 : decode cX5_queued 9 = .ok (.getfield 18, 3) := by decide +kernel
theorem dX5_queued_12 : decode cX5_queued 12 = .ok (.iload_n 1, 1) := by decide +kernel
theorem dX5_queued_13 : decode cX5_queued 13 = .ok (.iaload, 1) := by decide +kernel
theorem dX5_queued_14 : decode cX5_queued 14 = .ok (.goto 4, 3) := by decide +kernel
theorem dX5_queued_17 : decode cX5_queued 17 = .ok (.iconst 0, 1) := by decide +kernel
theorem dX5_queued_18 : decode cX5_queued 18 = .ok (.ireturn, 1) := by decide +kernel
theorem mX5_queued (l : Launch) {Y : Nat → ClassId} {D : va_G} {σ : Nat → Nat} {np b0 : Nat} {M : Mc} {N : Md} {pa : Nat} {p0 : Int32} {r : Int32} (hpa : is5 pa) (hf : fX5_queued M pa p0 = some r) : Met l yX5_queued (.code yX5_queued cX5_queued 2 (some .int) :: lw_g) (rmD 2) (PR Y D σ np b0 [.ref (σ pa), .int p0] M N) (QR Y D σ np b0 (some (.int r)) M N) 0 0 (xA b0) := by
  refine x_met (by decide) (Nat.le_of_ble_eq_true rfl) (fun p e s m args below meth c hE hr => ?_)
  unfold fX5_queued at hf
  refine x_pick [0, 1] (L' := [(0, .ref (σ pa)), (1, .int p0)]) rfl ?_
  refine x_iload_n hE 1 dX5_queued_0 rfl rfl ?_
  refine x_iconst hE (nI 4) dX5_queued_1 (by decide) ?_
  obtain ⟨v2, hc1, hf⟩ := bnd_some hf
  refine x_callSN1 hE [.int p0, .int (nI 4)] (rest := []) (v := .int v2) (c1 := M) (d1 := N) rfl yokX11_inside ysX11_inside lk_X5_34 rfl rfl ⟨Nat.le_of_ble_eq_true rfl, Nat.le_of_ble_eq_true rfl⟩ ⟨Nat.zero_le _, Nat.zero_le _⟩ rfl (Nat.le_of_ble_eq_true rfl) dX5_queued_2 (mX11_inside l hc1) ?_
  refine x_if_eq hE 17 dX5_queued_5 (by decide) hf (fun hf => ?_) (fun hf => ?_)
  · refine x_iconst hE (0 : Int32) dX5_queued_17 (by decide) ?_
    replace hf := Option.some.inj hf
    subst hf
    exact x_ireturn hE (v := 0) hr rfl dX5_queued_18
  · refine x_aload_n hE 0 dX5_queued_8 rfl rfl ?_
    refine x_getR hE cl_5 (hE.kd (kO_5 hpa)) (by decide) 3 (pa + 3) rfl (by decide) lk_X5_18 dX5_queued_9 ?_
    refine x_iload_n hE 1 dX5_queued_12 rfl rfl ?_
    refine x_iald hE (hE.kd (kB_5_3 hpa)) dX5_queued_13 hf (fun hf => ?_)
    refine x_goto hE 18 dX5_queued_14 (by decide) ?_
    replace hf := Option.some.inj hf
    subst hf
    exact x_ireturn hE (v := M (pa + 3) p0.toNatClampNeg) hr rfl dX5_queued_18
theorem yokX5_queued : YOK yX5_queued cX5_queued 2 1 (some .int) := ⟨mem_g 1006 (by decide +kernel) (by decide +kernel), mem_g 137 (by decide +kernel) (by decide +kernel), by decide +kernel, by decide +kernel, by decide +kernel⟩
theorem yvX5_queued : YV yX5_queued := ⟨mem_g 1004 (by decide +kernel) (by decide +kernel), mem_g 1005 (by decide +kernel) (by decide +kernel)⟩
theorem dX5_first_0 : decode cX5_first 0 = .ok (.iload_n 1, 1) := by decide +kernel
theorem dX5_first_1 : decode cX5_first 1 = .ok (.iconst 4, 1) := by decide +kernel
theorem dX5_first_2 : decode cX5_first 2 = .ok (.invokestatic 34, 3) := by decide +kernel
theorem dX5_first_5 : decode cX5_first 5 = .ok (.ifCond .eq 24, 3) := by decide +kernel
theorem dX5_first_8 : decode cX5_first 8 = .ok (.aload_n 0, 1) := by decide +kernel
theorem dX5_first_9 : decode cX5_first 9 = .ok (.getfield 18, 3) := by decide +kernel
theorem dX5_first_12 : decode cX5_first 12 = .ok (.iload_n 1, 1) := by decide +kernel
theorem dX5_first_13 : decode cX5_first 13 = .ok (.iaload, 1) := by decide +kernel
theorem dX5_first_14 : decode cX5_first 14 = .ok (.ifCond .le 15, 3) := by decide +kernel
theorem dX5_first_17 : decode cX5_first 17 = .ok (.aload_n 0, 1) := by decide +kernel
theorem dX5_first_18 : decode cX5_first 18 = .ok (.getfield 21, 3) := by decide +kernel
theorem dX5_first_21 : decode cX5_first 21 = .ok (.iload_n 1, 1) := by decide +kernel
theorem dX5_first_22 : decode cX5_first 22 = .ok (.bipush 12, 2) := by decide +kernel
theorem dX5_first_24 : decode cX5_first 24 = .ok (.imul, 1) := by decide +kernel
theorem dX5_first_25 : decode cX5_first 25 = .ok (.iaload, 1) := by decide +kernel
theorem dX5_first_26 : decode cX5_first 26 = .ok (.goto 4, 3) := by decide +kernel
theorem dX5_first_29 : decode cX5_first 29 = .ok (.iconst (-1), 1) := by decide +kernel
theorem dX5_first_30 : decode cX5_first 30 = .ok (.ireturn, 1) := by decide +kernel
theorem mX5_first (l : Launch) {Y : Nat → ClassId} {D : va_G} {σ : Nat → Nat} {np b0 : Nat} {M : Mc} {N : Md} {pa : Nat} {p0 : Int32} {r : Int32} (hpa : is5 pa) (hf : fX5_first M pa p0 = some r) : Met l yX5_first (.code yX5_first cX5_first 2 (some .int) :: lw_g) (rmD 2) (PR Y D σ np b0 [.ref (σ pa), .int p0] M N) (QR Y D σ np b0 (some (.int r)) M N) 0 0 (xA b0) := by
  refine x_met (by decide) (Nat.le_of_ble_eq_true rfl) (fun p e s m args below meth c hE hr => ?_)
  unfold fX5_first at hf
  refine x_pick [0, 1] (L' := [(0, .ref (σ pa)), (1, .int p0)]) rfl ?_
  refine x_iload_n hE 1 dX5_first_0 rfl rfl ?_
  refine x_iconst hE (nI 4) dX5_first_1 (by decide) ?_
  obtain ⟨v2, hc1, hf⟩ := bnd_some hf
  refine x_callSN1 hE [.int p0, .int (nI 4)] (rest := []) (v := .int v2) (c1 := M) (d1 := N) rfl yokX11_inside ysX11_inside lk_X5_34 rfl rfl ⟨Nat.le_of_ble_eq_true rfl, Nat.le_of_ble_eq_true rfl⟩ ⟨Nat.zero_le _, Nat.zero_le _⟩ rfl (Nat.le_of_ble_eq_true rfl) dX5_first_2 (mX11_inside l hc1) ?_
  refine x_if_eq hE 29 dX5_first_5 (by decide) hf (fun hf => ?_) (fun hf => ?_)
  · refine x_iconst hE (-1) dX5_first_29 (by decide) ?_
    replace hf := Option.some.inj hf
    subst hf
    exact x_ireturn hE (v := (-1)) hr rfl dX5_first_30
  · refine x_aload_n hE 0 dX5_first_8 rfl rfl ?_
    refine x_getR hE cl_5 (hE.kd (kO_5 hpa)) (by decide) 3 (pa + 3) rfl (by decide) lk_X5_18 dX5_first_9 ?_
    refine x_iload_n hE 1 dX5_first_12 rfl rfl ?_
    refine x_iald hE (hE.kd (kB_5_3 hpa)) dX5_first_13 hf (fun hf => ?_)
    refine x_if_le hE 29 dX5_first_14 (by decide) hf (fun hf => ?_) (fun hf => ?_)
    · refine x_iconst hE (-1) dX5_first_29 (by decide) ?_
      replace hf := Option.some.inj hf
      subst hf
      exact x_ireturn hE (v := (-1)) hr rfl dX5_first_30
    · refine x_aload_n hE 0 dX5_first_17 rfl rfl ?_
      refine x_getR hE cl_5 (hE.kd (kO_5 hpa)) (by decide) 4 (pa + 4) rfl (by decide) lk_X5_21 dX5_first_18 ?_
      refine x_iload_n hE 1 dX5_first_21 rfl rfl ?_
      refine x_bipush hE (nI 12) dX5_first_22 (by decide) ?_
      refine x_imul hE dX5_first_24 ?_
      refine x_iald hE (hE.kd (kB_5_4 hpa)) dX5_first_25 hf (fun hf => ?_)
      refine x_goto hE 30 dX5_first_26 (by decide) ?_
      replace hf := Option.some.inj hf
      subst hf
      exact x_ireturn hE (v := M (pa + 4) (p0 * (nI 12)).toNatClampNeg) hr rfl dX5_first_30
theorem yokX5_first : YOK yX5_first cX5_first 2 1 (some .int) := ⟨mem_g 1025 (by decide +kernel) (by decide +kernel), mem_g 137 (by decide +kernel) (by decide +kernel), by decide +kernel, by decide +kernel, by decide +kernel⟩
theorem yvX5_first : YV yX5_first := ⟨mem_g 1023 (by decide +kernel) (by decide +kernel), mem_g 1024 (by decide +kernel) (by decide +kernel)⟩
theorem dX5_idle_0 : decode cX5_idle 0 = .ok (.iconst 0, 1) := by decide +kernel
theorem dX5_idle_1 : decode cX5_idle 1 = .ok (.istore_n 1, 1) := by decide +kernel
theorem dX5_idle_2 : decode cX5_idle 2 = .ok (.iload_n 1, 1) := by decide +kernel
theorem dX5_idle_3 : decode cX5_idle 3 = .ok (.aload_n 0, 1) := by decide +kernel
theorem dX5_idle_4 : decode cX5_idle 4 = .ok (.getfield 24, 3) := by decide +kernel
theorem dX5_idle_7 : decode cX5_idle 7 = .ok (.if_icmp .ge 25, 3) := by decide +kernel
theorem dX5_idle_10 : decode cX5_idle 10 = .ok (.iload_n 1, 1) := by decide +kernel
theorem dX5_idle_11 : decode cX5_idle 11 = .ok (.iconst 4, 1) := by decide +kernel
theorem dX5_idle_12 : decode cX5_idle 12 = .ok (.if_icmp .ge 20, 3) := by decide +kernel
theorem dX5_idle_15 : decode cX5_idle 15 = .ok (.aload_n 0, 1) := by decide +kernel
theorem dX5_idle_16 : decode cX5_idle 16 = .ok (.getfield 18, 3) := by decide +kernel
theorem dX5_idle_19 : decode cX5_idle 19 = .ok (.iload_n 1, 1) := by decide +kernel
theorem dX5_idle_20 : decode cX5_idle 20 = .ok (.iaload, 1) := by decide +kernel
theorem dX5_idle_21 : decode cX5_idle 21 = .ok (.ifCond .le 5, 3) := by decide +kernel
theorem dX5_idle_24 : decode cX5_idle 24 = .ok (.iconst 0, 1) := by decide +kernel
theorem dX5_idle_25 : decode cX5_idle 25 = .ok (.ireturn, 1) := by decide +kernel
theorem dX5_idle_26 : decode cX5_idle 26 = .ok (.iinc 1 1, 3) := by decide +kernel
theorem dX5_idle_29 : decode cX5_idle 29 = .ok (.goto (-27), 3) := by decide +kernel
theorem dX5_idle_32 : decode cX5_idle 32 = .ok (.iconst 1, 1) := by decide +kernel
theorem dX5_idle_33 : decode cX5_idle 33 = .ok (.ireturn, 1) := by decide +kernel
theorem wX5_idle_L2 {p : Program} {l : Launch} {e : Env} {s : State} {m : MethodId} {args : Array Value} {below : List Frame} {meth : Method} {c : Code} {Y : Nat → ClassId} {D : va_G} {σ : Nat → Nat} {np b0 : Nat} {pa : Nat} {r : Int32} (hE : EOK p s m args meth c cX5_idle 2 RX5 Y D σ np b0) (hr : meth.sig.returnType = (some .boolean)) (hpa : is5 pa) : ∀ (n : Nat) (M : Mc) (N : Md) (X1 : Int32), fX5_idle_L2 pa n M X1 = some r → Xw p l e (rmD 1) s m args below meth c 2 Y D σ np b0 0 0 (MQ below (QR Y D σ np b0 (some (.int r)) M N) args s 0 0 (xA b0)) 2 [(0, .ref (σ pa)), (1, .int X1)] [] M N := by
  intro n
  induction n with
  | zero =>
    intro M N X1 hf
    cases hf
  | succ n ih =>
    intro M N X1 hf
    rw [fX5_idle_L2.eq_2] at hf
    refine x_iload_n hE 1 dX5_idle_2 rfl rfl ?_
    refine x_aload_n hE 0 dX5_idle_3 rfl rfl ?_
    refine x_getI hE cl_5 (hE.kd (kO_5 hpa)) (by decide) 0 rfl (by decide) lk_X5_24 dX5_idle_4 ?_
    refine x_icmp_ge hE 32 dX5_idle_7 (by decide) hf (fun hf => ?_) (fun hf => ?_)
    · refine x_iconst hE (nI 1) dX5_idle_32 (by decide) ?_
      replace hf := Option.some.inj hf
      subst hf
      exact x_ireturn hE (v := nI 1) hr rfl dX5_idle_33
    · refine x_iload_n hE 1 dX5_idle_10 rfl rfl ?_
      refine x_iconst hE (nI 4) dX5_idle_11 (by decide) ?_
      refine x_icmp_ge hE 32 dX5_idle_12 (by decide) hf (fun hf => ?_) (fun hf => ?_)
      · refine x_iconst hE (nI 1) dX5_idle_32 (by decide) ?_
        replace hf := Option.some.inj hf
        subst hf
        exact x_ireturn hE (v := nI 1) hr rfl dX5_idle_33
      · refine x_aload_n hE 0 dX5_idle_15 rfl rfl ?_
        refine x_getR hE cl_5 (hE.kd (kO_5 hpa)) (by decide) 3 (pa + 3) rfl (by decide) lk_X5_18 dX5_idle_16 ?_
        refine x_iload_n hE 1 dX5_idle_19 rfl rfl ?_
        refine x_iald hE (hE.kd (kB_5_3 hpa)) dX5_idle_20 hf (fun hf => ?_)
        refine x_if_le hE 26 dX5_idle_21 (by decide) hf (fun hf => ?_) (fun hf => ?_)
        · refine x_iinc hE 1 (X1 + nI 1) (L' := [(1, .int (X1 + nI 1)), (0, .ref (σ pa))]) dX5_idle_26 rfl rfl (by decide) rfl ?_
          refine x_pick [1, 0] (L' := [(0, .ref (σ pa)), (1, .int (X1 + nI 1))]) rfl ?_
          refine x_goto hE 2 dX5_idle_29 (by decide) ?_
          exact ih _ _ _ hf
        · refine x_iconst hE (0 : Int32) dX5_idle_24 (by decide) ?_
          replace hf := Option.some.inj hf
          subst hf
          exact x_ireturn hE (v := 0) hr rfl dX5_idle_25
theorem mX5_idle (l : Launch) {Y : Nat → ClassId} {D : va_G} {σ : Nat → Nat} {np b0 : Nat} {M : Mc} {N : Md} {pa : Nat} {r : Int32} (hpa : is5 pa) (hf : fX5_idle M pa = some r) : Met l yX5_idle (.code yX5_idle cX5_idle 2 (some .boolean) :: lw_g) (rmD 1) (PR Y D σ np b0 [.ref (σ pa)] M N) (QR Y D σ np b0 (some (.int r)) M N) 0 0 (xA b0) := by
  refine x_met (by decide) (Nat.le_of_ble_eq_true rfl) (fun p e s m args below meth c hE hr => ?_)
  unfold fX5_idle at hf
  refine x_pick [0] (L' := [(0, .ref (σ pa))]) rfl ?_
  refine x_iconst hE (0 : Int32) dX5_idle_0 (by decide) ?_
  refine x_istore_n hE (L' := [(1, .int 0), (0, .ref (σ pa))]) dX5_idle_1 rfl (by decide) rfl ?_
  refine x_pick [1, 0] (L' := [(0, .ref (σ pa)), (1, .int 0)]) rfl ?_
  exact wX5_idle_L2 hE hr hpa FU _ _ _ hf
theorem yokX5_idle : YOK yX5_idle cX5_idle 2 0 (some .boolean) := ⟨mem_g 1072 (by decide +kernel) (by decide +kernel), mem_g 137 (by decide +kernel) (by decide +kernel), by decide +kernel, by decide +kernel, by decide +kernel⟩
theorem yvX5_idle : YV yX5_idle := ⟨mem_g 1070 (by decide +kernel) (by decide +kernel), mem_g 1071 (by decide +kernel) (by decide +kernel)⟩
theorem lk_X5_45 : Cond.methodLink RX5 45 yX5_first ∈ lw_g := mem_g 1081 (by decide +kernel) (by decide +kernel)
theorem lk_X5_49 : Cond.methodLink RX5 49 yX4_isWild ∈ lw_g := mem_g 1082 (by decide +kernel) (by decide +kernel)
theorem dX5_dropDone_0 : decode cX5_dropDone 0 = .ok (.iload_n 1, 1) := by decide +kernel
theorem dX5_dropDone_1 : decode cX5_dropDone 1 = .ok (.iconst 4, 1) := by decide +kernel
theorem dX5_dropDone_2 : decode cX5_dropDone 2 = .ok (.invokestatic 34, 3) := by decide +kernel
theorem dX5_dropDone_5 : decode cX5_dropDone 5 = .ok (.ifCond .ne 4, 3) := by decide +kernel
theorem dX5_dropDone_8 : decode cX5_dropDone 8 = .ok (.return_, 1) := by decide +kernel
theorem dX5_dropDone_9 : decode cX5_dropDone 9 = .ok (.iconst 0, 1) := by decide +kernel
theorem dX5_dropDone_10 : decode cX5_dropDone 10 = .ok (.istore_n 3, 1) := by decide +kernel
theorem dX5_dropDone_11 : decode cX5_dropDone 11 = .ok (.iload_n 3, 1) := by decide +kernel
theorem dX5_dropDone_12 : decode cX5_dropDone 12 = .ok (.bipush 12, 2) := by decide +kernel
theorem dX5_dropDone_14 : decode cX5_dropDone 14 = .ok (.if_icmp .ge 64, 3) := by decide +kernel
theorem dX5_dropDone_17 : decode cX5_dropDone 17 = .ok (.aload_n 0, 1) := by decide +kernel
theorem dX5_dropDone_18 : decode cX5_dropDone 18 = .ok (.getfield 18, 3) := by decide +kernel
theorem dX5_dropDone_21 : decode cX5_dropDone 21 = .ok (.iload_n 1, 1) := by decide +kernel
theorem dX5_dropDone_22 : decode cX5_dropDone 22 = .ok (.iaload, 1) := by decide +kernel
theorem dX5_dropDone_23 : decode cX5_dropDone 23 = .ok (.ifCond .le 15, 3) := by decide +kernel
theorem dX5_dropDone_26 : decode cX5_dropDone 26 = .ok (.aload_n 2, 1) := by decide +kernel
theorem dX5_dropDone_27 : decode cX5_dropDone 27 = .ok (.aload_n 0, 1) := by decide +kernel
theorem dX5_dropDone_28 : decode cX5_dropDone 28 = .ok (.iload_n 1, 1) := by decide +kernel
theorem dX5_dropDone_29 : decode cX5_dropDone 29 = .ok (.invokevirtual 45, 3) := by decide +kernel
theorem dX5_dropDone_32 : decode cX5_dropDone 32 = .ok (.invokevirtual 49, 3) := by decide +kernel
theorem dX5_dropDone_35 : decode cX5_dropDone 35 = .ok (.ifCond .eq 4, 3) := by decide +kernel
theorem dX5_dropDone_38 : decode cX5_dropDone 38 = .ok (.return_, 1) := by decide +kernel
theorem dX5_dropDone_39 : decode cX5_dropDone 39 = .ok (.aload_n 0, 1) := by decide +kernel
theorem dX5_dropDone_40 : decode cX5_dropDone 40 = .ok (.getfield 21, 3) := by decide +kernel
theorem dX5_dropDone_43 : decode cX5_dropDone 43 = .ok (.iload_n 1, 1) := by decide +kernel
theorem dX5_dropDone_44 : decode cX5_dropDone 44 = .ok (.bipush 12, 2) := by decide +kernel
theorem dX5_dropDone_46 : decode cX5_dropDone 46 = .ok (.imul, 1) := by decide +kernel
theorem dX5_dropDone_47 : decode cX5_dropDone 47 = .ok (.iconst 1, 1) := by decide +kernel
theorem dX5_dropDone_48 : decode cX5_dropDone 48 = .ok (.iadd, 1) := by decide +kernel
theorem dX5_dropDone_49 : decode cX5_dropDone 49 = .ok (.aload_n 0, 1) := by decide +kernel
theorem dX5_dropDone_50 : decode cX5_dropDone 50 = .ok (.getfield 21, 3) := by decide +kernel
theorem dX5_dropDone_53 : decode cX5_dropDone 53 = .ok (.iload_n 1, 1) := by decide +kernel
theorem dX5_dropDone_54 : decode cX5_dropDone 54 = .ok (.bipush 12, 2) := by decide +kernel
theorem dX5_dropDone_56 : decode cX5_dropDone 56 = .ok (.imul, 1) := by decide +kernel
theorem dX5_dropDone_57 : decode cX5_dropDone 57 = .ok (.bipush 11, 2) := by decide +kernel
theorem dX5_dropDone_59 : decode cX5_dropDone 59 = .ok (.invokestatic 28, 3) := by decide +kernel
theorem dX5_dropDone_62 : decode cX5_dropDone 62 = .ok (.aload_n 0, 1) := by decide +kernel
theorem dX5_dropDone_63 : decode cX5_dropDone 63 = .ok (.getfield 18, 3) := by decide +kernel
theorem dX5_dropDone_66 : decode cX5_dropDone 66 = .ok (.iload_n 1, 1) := by decide +kernel
theorem dX5_dropDone_67 : decode cX5_dropDone 67 = .ok (.dup2, 1) := by decide +kernel
theorem dX5_dropDone_68 : decode cX5_dropDone 68 = .ok (.iaload, 1) := by decide +kernel
theorem dX5_dropDone_69 : decode cX5_dropDone 69 = .ok (.iconst 1, 1) := by decide +kernel
theorem dX5_dropDone_70 : decode cX5_dropDone 70 = .ok (.isub, 1) := by decide +kernel
theorem dX5_dropDone_71 : decode cX5_dropDone 71 = .ok (.iastore, 1) := by decide +kernel
theorem dX5_dropDone_72 : decode cX5_dropDone 72 = .ok (.iinc 3 1, 3) := by decide +kernel
theorem dX5_dropDone_75 : decode cX5_dropDone 75 = .ok (.goto (-64), 3) := by decide +kernel
theorem dX5_dropDone_78 : decode cX5_dropDone 78 = .ok (.return_, 1) := by decide +kernel
theorem wX5_dropDone_L11 {p : Program} {l : Launch} {e : Env} {s : State} {m : MethodId} {args : Array Value} {below : List Frame} {meth : Method} {c : Code} {Y : Nat → ClassId} {D : va_G} {σ : Nat → Nat} {np b0 : Nat} {pa : Nat} {g : Nat} {r : Mc} (hE : EOK p s m args meth c cX5_dropDone 4 RX5 Y D σ np b0) (hr : meth.sig.returnType = none) (hpa : is5 pa) (hg : is4 g) : ∀ (n : Nat) (M : Mc) (N : Md) (X1 : Int32) (X3 : Int32), fX5_dropDone_L11 pa g n M X1 X3 = some r → Xw p l e (rmD 4) s m args below meth c 4 Y D σ np b0 0 0 (MQ below (QR Y D σ np b0 none r N) args s 0 0 (xA b0)) 11 [(0, .ref (σ pa)), (1, .int X1), (2, .ref (σ g)), (3, .int X3)] [] M N := by
  intro n
  induction n with
  | zero =>
    intro M N X1 X3 hf
    cases hf
  | succ n ih =>
    intro M N X1 X3 hf
    rw [fX5_dropDone_L11.eq_2] at hf
    refine x_iload_n hE 3 dX5_dropDone_11 rfl rfl ?_
    refine x_bipush hE (nI 12) dX5_dropDone_12 (by decide) ?_
    refine x_icmp_ge hE 78 dX5_dropDone_14 (by decide) hf (fun hf => ?_) (fun hf => ?_)
    · replace hf := Option.some.inj hf
      subst hf
      exact x_vreturn hE hr dX5_dropDone_78
    · refine x_aload_n hE 0 dX5_dropDone_17 rfl rfl ?_
      refine x_getR hE cl_5 (hE.kd (kO_5 hpa)) (by decide) 3 (pa + 3) rfl (by decide) lk_X5_18 dX5_dropDone_18 ?_
      refine x_iload_n hE 1 dX5_dropDone_21 rfl rfl ?_
      refine x_iald hE (hE.kd (kB_5_3 hpa)) dX5_dropDone_22 hf (fun hf => ?_)
      refine x_if_le hE 38 dX5_dropDone_23 (by decide) hf (fun hf => ?_) (fun hf => ?_)
      · replace hf := Option.some.inj hf
        subst hf
        exact x_vreturn hE hr dX5_dropDone_38
      · refine x_aload_n hE 2 dX5_dropDone_26 rfl rfl ?_
        refine x_aload_n hE 0 dX5_dropDone_27 rfl rfl ?_
        refine x_iload_n hE 1 dX5_dropDone_28 rfl rfl ?_
        obtain ⟨v4, hc3, hf⟩ := bnd_some hf
        refine x_callV1 hE [.int X1] (rest := [.ref (σ g)]) (v := .int v4) (c1 := M) (d1 := N) rfl yokX5_first yvX5_first lk_X5_45 rfl cl_5 (hE.kd (kO_5 hpa)) (by decide) rfl rfl ⟨Nat.le_of_ble_eq_true rfl, Nat.le_of_ble_eq_true rfl⟩ ⟨Nat.zero_le _, Nat.zero_le _⟩ rfl (Nat.le_of_ble_eq_true rfl) dX5_dropDone_29 (mX5_first l hpa hc3) ?_
        obtain ⟨v6, hc5, hf⟩ := bnd_some hf
        refine x_callV1 hE [.int v4] (rest := []) (v := .int v6) (c1 := M) (d1 := N) rfl yokX4_isWild yvX4_isWild lk_X5_49 rfl cl_4 (hE.kd (kO_4 hg)) (by decide) rfl rfl ⟨Nat.le_of_ble_eq_true rfl, Nat.le_of_ble_eq_true rfl⟩ ⟨Nat.zero_le _, Nat.zero_le _⟩ rfl (Nat.le_of_ble_eq_true rfl) dX5_dropDone_32 (mX4_isWild l hg hc5) ?_
        refine x_if_eq hE 39 dX5_dropDone_35 (by decide) hf (fun hf => ?_) (fun hf => ?_)
        · refine x_aload_n hE 0 dX5_dropDone_39 rfl rfl ?_
          refine x_getR hE cl_5 (hE.kd (kO_5 hpa)) (by decide) 4 (pa + 4) rfl (by decide) lk_X5_21 dX5_dropDone_40 ?_
          refine x_iload_n hE 1 dX5_dropDone_43 rfl rfl ?_
          refine x_bipush hE (nI 12) dX5_dropDone_44 (by decide) ?_
          refine x_imul hE dX5_dropDone_46 ?_
          refine x_iconst hE (nI 1) dX5_dropDone_47 (by decide) ?_
          refine x_iadd hE dX5_dropDone_48 ?_
          refine x_aload_n hE 0 dX5_dropDone_49 rfl rfl ?_
          refine x_getR hE cl_5 (hE.kd (kO_5 hpa)) (by decide) 4 (pa + 4) rfl (by decide) lk_X5_21 dX5_dropDone_50 ?_
          refine x_iload_n hE 1 dX5_dropDone_53 rfl rfl ?_
          refine x_bipush hE (nI 12) dX5_dropDone_54 (by decide) ?_
          refine x_imul hE dX5_dropDone_56 ?_
          refine x_bipush hE (nI 11) dX5_dropDone_57 (by decide) ?_
          refine x_copy hE (hE.kd (kB_5_4 hpa)) (hE.kd (kB_5_4 hpa)) lk_X5_28 (Nat.le_of_ble_eq_true rfl) dX5_dropDone_59 hf (fun M7 hf => ?_)
          refine x_aload_n hE 0 dX5_dropDone_62 rfl rfl ?_
          refine x_getR hE cl_5 (hE.kd (kO_5 hpa)) (by decide) 3 (pa + 3) rfl (by decide) lk_X5_18 dX5_dropDone_63 ?_
          refine x_iload_n hE 1 dX5_dropDone_66 rfl rfl ?_
          refine x_dup2 hE dX5_dropDone_67 rfl rfl ?_
          refine x_iald hE (hE.kd (kB_5_3 hpa)) dX5_dropDone_68 hf (fun hf => ?_)
          refine x_iconst hE (nI 1) dX5_dropDone_69 (by decide) ?_
          refine x_isub hE dX5_dropDone_70 ?_
          refine x_iast hE (hE.kd (kB_5_3 hpa)) dX5_dropDone_71 hf (fun M8 hf => ?_)
          refine x_iinc hE 3 (X3 + nI 1) (L' := [(3, .int (X3 + nI 1)), (0, .ref (σ pa)), (1, .int X1), (2, .ref (σ g))]) dX5_dropDone_72 rfl rfl (by decide) rfl ?_
          refine x_pick [1, 2, 3, 0] (L' := [(0, .ref (σ pa)), (1, .int X1), (2, .ref (σ g)), (3, .int (X3 + nI 1))]) rfl ?_
          refine x_goto hE 11 dX5_dropDone_75 (by decide) ?_
          exact ih _ _ _ _ hf
        · replace hf := Option.some.inj hf
          subst hf
          exact x_vreturn hE hr dX5_dropDone_38
theorem mX5_dropDone (l : Launch) {Y : Nat → ClassId} {D : va_G} {σ : Nat → Nat} {np b0 : Nat} {M : Mc} {N : Md} {pa : Nat} {g : Nat} {p0 : Int32} {r : Mc} (hpa : is5 pa) (hg : is4 g) (hf : fX5_dropDone M pa g p0 = some r) : Met l yX5_dropDone (.code yX5_dropDone cX5_dropDone 4 none :: lw_g) (rmD 4) (PR Y D σ np b0 [.ref (σ pa), .int p0, .ref (σ g)] M N) (QR Y D σ np b0 none r N) 0 0 (xA b0) := by
  refine x_met (by decide) (Nat.le_of_ble_eq_true rfl) (fun p e s m args below meth c hE hr => ?_)
  unfold fX5_dropDone at hf
  refine x_pick [0, 1, 2] (L' := [(0, .ref (σ pa)), (1, .int p0), (2, .ref (σ g))]) rfl ?_
  refine x_iload_n hE 1 dX5_dropDone_0 rfl rfl ?_
  refine x_iconst hE (nI 4) dX5_dropDone_1 (by decide) ?_
  obtain ⟨v2, hc1, hf⟩ := bnd_some hf
  refine x_callSN1 hE [.int p0, .int (nI 4)] (rest := []) (v := .int v2) (c1 := M) (d1 := N) rfl yokX11_inside ysX11_inside lk_X5_34 rfl rfl ⟨Nat.le_of_ble_eq_true rfl, Nat.le_of_ble_eq_true rfl⟩ ⟨Nat.zero_le _, Nat.zero_le _⟩ rfl (Nat.le_of_ble_eq_true rfl) dX5_dropDone_2 (mX11_inside l hc1) ?_
  refine x_if_ne hE 9 dX5_dropDone_5 (by decide) hf (fun hf => ?_) (fun hf => ?_)
  · refine x_iconst hE (0 : Int32) dX5_dropDone_9 (by decide) ?_
    refine x_istore_n hE (L' := [(3, .int 0), (0, .ref (σ pa)), (1, .int p0), (2, .ref (σ g))]) dX5_dropDone_10 rfl (by decide) rfl ?_
    refine x_pick [1, 2, 3, 0] (L' := [(0, .ref (σ pa)), (1, .int p0), (2, .ref (σ g)), (3, .int 0)]) rfl ?_
    exact wX5_dropDone_L11 hE hr hpa hg FU _ _ _ _ hf
  · replace hf := Option.some.inj hf
    subst hf
    exact x_vreturn hE hr dX5_dropDone_8
theorem yokX5_dropDone : YOK yX5_dropDone cX5_dropDone 4 2 none := ⟨mem_g 1080 (by decide +kernel) (by decide +kernel), mem_g 137 (by decide +kernel) (by decide +kernel), by decide +kernel, by decide +kernel, by decide +kernel⟩
theorem yvX5_dropDone : YV yX5_dropDone := ⟨mem_g 1079 (by decide +kernel) (by decide +kernel), mem_g 10 (by decide +kernel) (by decide +kernel)⟩
theorem lk_X5_55 : Cond.methodLink RX5 55 yX4_dig ∈ lw_g := mem_g 1087 (by decide +kernel) (by decide +kernel)
theorem dX5_goMile_0 : decode cX5_goMile 0 = .ok (.iload_n 1, 1) := by decide +kernel
theorem dX5_goMile_1 : decode cX5_goMile 1 = .ok (.iconst 4, 1) := by decide +kernel
theorem dX5_goMile_2 : decode cX5_goMile 2 = .ok (.invokestatic 34, 3) := by decide +kernel
theorem dX5_goMile_5 : decode cX5_goMile 5 = .ok (.ifCond .ne 4, 3) := by decide +kernel
theorem dX5_goMile_8 : decode cX5_goMile 8 = .ok (.return_, 1) := by decide +kernel
theorem dX5_goMile_9 : decode cX5_goMile 9 = .ok (.aload_n 0, 1) := by decide +kernel
theorem dX5_goMile_10 : decode cX5_goMile 10 = .ok (.iload_n 1, 1) := by decide +kernel
theorem dX5_goMile_11 : decode cX5_goMile 11 = .ok (.invokevirtual 45, 3) := by decide +kernel
theorem dX5_goMile_14 : decode cX5_goMile 14 = .ok (.istore_n 3, 1) := by decide +kernel
theorem dX5_goMile_15 : decode cX5_goMile 15 = .ok (.aload_n 0, 1) := by decide +kernel
theorem dX5_goMile_16 : decode cX5_goMile 16 = .ok (.getfield 15, 3) := by decide +kernel
theorem dX5_goMile_19 : decode cX5_goMile 19 = .ok (.iload_n 1, 1) := by decide +kernel
theorem dX5_goMile_20 : decode cX5_goMile 20 = .ok (.iaload, 1) := by decide +kernel
theorem dX5_goMile_21 : decode cX5_goMile 21 = .ok (.iload_n 3, 1) := by decide +kernel
theorem dX5_goMile_22 : decode cX5_goMile 22 = .ok (.if_icmp .ne 11, 3) := by decide +kernel
theorem dX5_goMile_25 : decode cX5_goMile 25 = .ok (.aload_n 2, 1) := by decide +kernel
theorem dX5_goMile_26 : decode cX5_goMile 26 = .ok (.iload_n 3, 1) := by decide +kernel
theorem dX5_goMile_27 : decode cX5_goMile 27 = .ok (.invokevirtual 55, 3) := by decide +kernel
theorem dX5_goMile_30 : decode cX5_goMile 30 = .ok (.goto 78, 3) := by decide +kernel
theorem dX5_goMile_33 : decode cX5_goMile 33 = .ok (.aload_n 0, 1) := by decide +kernel
theorem dX5_goMile_34 : decode cX5_goMile 34 = .ok (.getfield 15, 3) := by decide +kernel
theorem dX5_goMile_37 : decode cX5_goMile 37 = .ok (.iload_n 1, 1) := by decide +kernel
theorem dX5_goMile_38 : decode cX5_goMile 38 = .ok (.iaload, 1) := by decide +kernel
theorem dX5_goMile_39 : decode cX5_goMile 39 = .ok (.bipush 12, 2) := by decide +kernel
theorem dX5_goMile_41 : decode cX5_goMile 41 = .ok (.irem, 1) := by decide +kernel
theorem dX5_goMile_42 : decode cX5_goMile 42 = .ok (.iload_n 3, 1) := by decide +kernel
theorem dX5_goMile_43 : decode cX5_goMile 43 = .ok (.bipush 12, 2) := by decide +kernel
theorem dX5_goMile_45 : decode cX5_goMile 45 = .ok (.irem, 1) := by decide +kernel
theorem dX5_goMile_46 : decode cX5_goMile 46 = .ok (.if_icmp .eq 36, 3) := by decide +kernel
theorem dX5_goMile_49 : decode cX5_goMile 49 = .ok (.aload_n 0, 1) := by decide +kernel
theorem dX5_goMile_50 : decode cX5_goMile 50 = .ok (.getfield 15, 3) := by decide +kernel
theorem dX5_goMile_53 : decode cX5_goMile 53 = .ok (.iload_n 1, 1) := by decide +kernel
theorem dX5_goMile_54 : decode cX5_goMile 54 = .ok (.dup2, 1) := by decide +kernel
theorem dX5_goMile_55 : decode cX5_goMile 55 = .ok (.iaload, 1) := by decide +kernel
theorem dX5_goMile_56 : decode cX5_goMile 56 = .ok (.aload_n 0, 1) := by decide +kernel
theorem dX5_goMile_57 : decode cX5_goMile 57 = .ok (.getfield 15, 3) := by decide +kernel
theorem dX5_goMile_60 : decode cX5_goMile 60 = .ok (.iload_n 1, 1) := by decide +kernel
theorem dX5_goMile_61 : decode cX5_goMile 61 = .ok (.iaload, 1) := by decide +kernel
theorem dX5_goMile_62 : decode cX5_goMile 62 = .ok (.bipush 12, 2) := by decide +kernel
theorem dX5_goMile_64 : decode cX5_goMile 64 = .ok (.irem, 1) := by decide +kernel
theorem dX5_goMile_65 : decode cX5_goMile 65 = .ok (.iload_n 3, 1) := by decide +kernel
theorem dX5_goMile_66 : decode cX5_goMile 66 = .ok (.bipush 12, 2) := by decide +kernel
theorem dX5_goMile_68 : decode cX5_goMile 68 = .ok (.irem, 1) := by decide +kernel
theorem dX5_goMile_69 : decode cX5_goMile 69 = .ok (.if_icmp .ge 7, 3) := by decide +kernel
theorem dX5_goMile_72 : decode cX5_goMile 72 = .ok (.iconst 1, 1) := by decide +kernel
theorem dX5_goMile_73 : decode cX5_goMile 73 = .ok (.goto 4, 3) := by decide +kernel
theorem dX5_goMile_76 : decode cX5_goMile 76 = .ok (.iconst (-1), 1) := by decide +kernel
theorem dX5_goMile_77 : decode cX5_goMile 77 = .ok (.iadd, 1) := by decide +kernel
theorem dX5_goMile_78 : decode cX5_goMile 78 = .ok (.iastore, 1) := by decide +kernel
theorem dX5_goMile_79 : decode cX5_goMile 79 = .ok (.goto 29, 3) := by decide +kernel
theorem dX5_goMile_82 : decode cX5_goMile 82 = .ok (.aload_n 0, 1) := by decide +kernel
theorem dX5_goMile_83 : decode cX5_goMile 83 = .ok (.getfield 15, 3) := by decide +kernel
theorem dX5_goMile_86 : decode cX5_goMile 86 = .ok (.iload_n 1, 1) := by decide +kernel
theorem dX5_goMile_87 : decode cX5_goMile 87 = .ok (.dup2, 1) := by decide +kernel
theorem dX5_goMile_88 : decode cX5_goMile 88 = .ok (.iaload, 1) := by decide +kernel
theorem dX5_goMile_89 : decode cX5_goMile 89 = .ok (.aload_n 0, 1) := by decide +kernel
theorem dX5_goMile_90 : decode cX5_goMile 90 = .ok (.getfield 15, 3) := by decide +kernel
theorem dX5_goMile_93 : decode cX5_goMile 93 = .ok (.iload_n 1, 1) := by decide +kernel
theorem dX5_goMile_94 : decode cX5_goMile 94 = .ok (.iaload, 1) := by decide +kernel
theorem dX5_goMile_95 : decode cX5_goMile 95 = .ok (.iload_n 3, 1) := by decide +kernel
theorem dX5_goMile_96 : decode cX5_goMile 96 = .ok (.if_icmp .ge 8, 3) := by decide +kernel
theorem dX5_goMile_99 : decode cX5_goMile 99 = .ok (.bipush 12, 2) := by decide +kernel
theorem dX5_goMile_101 : decode cX5_goMile 101 = .ok (.goto 5, 3) := by decide +kernel
theorem dX5_goMile_104 : decode cX5_goMile 104 = .ok (.bipush (-12), 2) := by decide +kernel
theorem dX5_goMile_106 : decode cX5_goMile 106 = .ok (.iadd, 1) := by decide +kernel
theorem dX5_goMile_107 : decode cX5_goMile 107 = .ok (.iastore, 1) := by decide +kernel
theorem dX5_goMile_108 : decode cX5_goMile 108 = .ok (.return_, 1) := by decide +kernel
theorem wX5_goMile_J106 {p : Program} {l : Launch} {e : Env} {s : State} {m : MethodId} {args : Array Value} {below : List Frame} {meth : Method} {c : Code} {Y : Nat → ClassId} {D : va_G} {σ : Nat → Nat} {np b0 : Nat} {pa : Nat} {g : Nat} {r : Mc} {M : Mc} {N : Md} {Z0 : Int32} {Z1 : Int32} {Z2 : Int32} (hE : EOK p s m args meth c cX5_goMile 4 RX5 Y D σ np b0) (hr : meth.sig.returnType = none) (hpa : is5 pa) (hg : is4 g) (hf : fX5_goMile_J106 pa g M Z0 Z1 Z2 = some r) : Xw p l e (rmD 4) s m args below meth c 4 Y D σ np b0 0 0 (MQ below (QR Y D σ np b0 none r N) args s 0 0 (xA b0)) 106 [] [.int Z0, .int Z1, .int Z2, .ref (σ (pa + 2))] M N := by
  unfold fX5_goMile_J106 at hf
  refine x_iadd hE dX5_goMile_106 ?_
  refine x_iast hE (hE.kd (kB_5_2 hpa)) dX5_goMile_107 hf (fun M7 hf => ?_)
  replace hf := Option.some.inj hf
  subst hf
  exact x_vreturn hE hr dX5_goMile_108
theorem wX5_goMile_J77 {p : Program} {l : Launch} {e : Env} {s : State} {m : MethodId} {args : Array Value} {below : List Frame} {meth : Method} {c : Code} {Y : Nat → ClassId} {D : va_G} {σ : Nat → Nat} {np b0 : Nat} {pa : Nat} {g : Nat} {r : Mc} {M : Mc} {N : Md} {Z0 : Int32} {Z1 : Int32} {Z2 : Int32} (hE : EOK p s m args meth c cX5_goMile 4 RX5 Y D σ np b0) (hr : meth.sig.returnType = none) (hpa : is5 pa) (hg : is4 g) (hf : fX5_goMile_J77 pa g M Z0 Z1 Z2 = some r) : Xw p l e (rmD 4) s m args below meth c 4 Y D σ np b0 0 0 (MQ below (QR Y D σ np b0 none r N) args s 0 0 (xA b0)) 77 [] [.int Z0, .int Z1, .int Z2, .ref (σ (pa + 2))] M N := by
  unfold fX5_goMile_J77 at hf
  refine x_iadd hE dX5_goMile_77 ?_
  refine x_iast hE (hE.kd (kB_5_2 hpa)) dX5_goMile_78 hf (fun M8 hf => ?_)
  refine x_goto hE 108 dX5_goMile_79 (by decide) ?_
  replace hf := Option.some.inj hf
  subst hf
  exact x_vreturn hE hr dX5_goMile_108
theorem mX5_goMile (l : Launch) {Y : Nat → ClassId} {D : va_G} {σ : Nat → Nat} {np b0 : Nat} {M : Mc} {N : Md} {pa : Nat} {g : Nat} {p0 : Int32} {r : Mc} (hpa : is5 pa) (hg : is4 g) (hf : fX5_goMile M pa g p0 = some r) : Met l yX5_goMile (.code yX5_goMile cX5_goMile 4 none :: lw_g) (rmD 4) (PR Y D σ np b0 [.ref (σ pa), .int p0, .ref (σ g)] M N) (QR Y D σ np b0 none r N) 0 0 (xA b0) := by
  refine x_met (by decide) (Nat.le_of_ble_eq_true rfl) (fun p e s m args below meth c hE hr => ?_)
  unfold fX5_goMile at hf
  refine x_pick [0, 1, 2] (L' := [(0, .ref (σ pa)), (1, .int p0), (2, .ref (σ g))]) rfl ?_
  refine x_iload_n hE 1 dX5_goMile_0 rfl rfl ?_
  refine x_iconst hE (nI 4) dX5_goMile_1 (by decide) ?_
  obtain ⟨v2, hc1, hf⟩ := bnd_some hf
  refine x_callSN1 hE [.int p0, .int (nI 4)] (rest := []) (v := .int v2) (c1 := M) (d1 := N) rfl yokX11_inside ysX11_inside lk_X5_34 rfl rfl ⟨Nat.le_of_ble_eq_true rfl, Nat.le_of_ble_eq_true rfl⟩ ⟨Nat.zero_le _, Nat.zero_le _⟩ rfl (Nat.le_of_ble_eq_true rfl) dX5_goMile_2 (mX11_inside l hc1) ?_
  refine x_if_ne hE 9 dX5_goMile_5 (by decide) hf (fun hf => ?_) (fun hf => ?_)
  · refine x_aload_n hE 0 dX5_goMile_9 rfl rfl ?_
    refine x_iload_n hE 1 dX5_goMile_10 rfl rfl ?_
    obtain ⟨v4, hc3, hf⟩ := bnd_some hf
    refine x_callV1 hE [.int p0] (rest := []) (v := .int v4) (c1 := M) (d1 := N) rfl yokX5_first yvX5_first lk_X5_45 rfl cl_5 (hE.kd (kO_5 hpa)) (by decide) rfl rfl ⟨Nat.le_of_ble_eq_true rfl, Nat.le_of_ble_eq_true rfl⟩ ⟨Nat.zero_le _, Nat.zero_le _⟩ rfl (Nat.le_of_ble_eq_true rfl) dX5_goMile_11 (mX5_first l hpa hc3) ?_
    refine x_istore_n hE (L' := [(3, .int v4), (0, .ref (σ pa)), (1, .int p0), (2, .ref (σ g))]) dX5_goMile_14 rfl (by decide) rfl ?_
    refine x_pick [1, 2, 3, 0] (L' := [(0, .ref (σ pa)), (1, .int p0), (2, .ref (σ g)), (3, .int v4)]) rfl ?_
    refine x_aload_n hE 0 dX5_goMile_15 rfl rfl ?_
    refine x_getR hE cl_5 (hE.kd (kO_5 hpa)) (by decide) 2 (pa + 2) rfl (by decide) lk_X5_15 dX5_goMile_16 ?_
    refine x_iload_n hE 1 dX5_goMile_19 rfl rfl ?_
    refine x_iald hE (hE.kd (kB_5_2 hpa)) dX5_goMile_20 hf (fun hf => ?_)
    refine x_iload_n hE 3 dX5_goMile_21 rfl rfl ?_
    refine x_icmp_ne hE 33 dX5_goMile_22 (by decide) hf (fun hf => ?_) (fun hf => ?_)
    · refine x_aload_n hE 0 dX5_goMile_33 rfl rfl ?_
      refine x_getR hE cl_5 (hE.kd (kO_5 hpa)) (by decide) 2 (pa + 2) rfl (by decide) lk_X5_15 dX5_goMile_34 ?_
      refine x_iload_n hE 1 dX5_goMile_37 rfl rfl ?_
      refine x_iald hE (hE.kd (kB_5_2 hpa)) dX5_goMile_38 hf (fun hf => ?_)
      refine x_bipush hE (nI 12) dX5_goMile_39 (by decide) ?_
      refine x_iremC hE dX5_goMile_41 (by decide) ?_
      refine x_iload_n hE 3 dX5_goMile_42 rfl rfl ?_
      refine x_bipush hE (nI 12) dX5_goMile_43 (by decide) ?_
      refine x_iremC hE dX5_goMile_45 (by decide) ?_
      refine x_icmp_eq hE 82 dX5_goMile_46 (by decide) hf (fun hf => ?_) (fun hf => ?_)
      · refine x_aload_n hE 0 dX5_goMile_82 rfl rfl ?_
        refine x_getR hE cl_5 (hE.kd (kO_5 hpa)) (by decide) 2 (pa + 2) rfl (by decide) lk_X5_15 dX5_goMile_83 ?_
        refine x_iload_n hE 1 dX5_goMile_86 rfl rfl ?_
        refine x_dup2 hE dX5_goMile_87 rfl rfl ?_
        refine x_iald hE (hE.kd (kB_5_2 hpa)) dX5_goMile_88 hf (fun hf => ?_)
        refine x_aload_n hE 0 dX5_goMile_89 rfl rfl ?_
        refine x_getR hE cl_5 (hE.kd (kO_5 hpa)) (by decide) 2 (pa + 2) rfl (by decide) lk_X5_15 dX5_goMile_90 ?_
        refine x_iload_n hE 1 dX5_goMile_93 rfl rfl ?_
        refine x_iald hE (hE.kd (kB_5_2 hpa)) dX5_goMile_94 hf (fun hf => ?_)
        refine x_iload_n hE 3 dX5_goMile_95 rfl rfl ?_
        refine x_icmp_ge hE 104 dX5_goMile_96 (by decide) hf (fun hf => ?_) (fun hf => ?_)
        · refine x_bipush hE (-12) dX5_goMile_104 (by decide) ?_
          refine x_pick [] (L' := []) rfl ?_
          exact wX5_goMile_J106 hE hr hpa hg hf
        · refine x_bipush hE (nI 12) dX5_goMile_99 (by decide) ?_
          refine x_goto hE 106 dX5_goMile_101 (by decide) ?_
          refine x_pick [] (L' := []) rfl ?_
          exact wX5_goMile_J106 hE hr hpa hg hf
      · refine x_aload_n hE 0 dX5_goMile_49 rfl rfl ?_
        refine x_getR hE cl_5 (hE.kd (kO_5 hpa)) (by decide) 2 (pa + 2) rfl (by decide) lk_X5_15 dX5_goMile_50 ?_
        refine x_iload_n hE 1 dX5_goMile_53 rfl rfl ?_
        refine x_dup2 hE dX5_goMile_54 rfl rfl ?_
        refine x_iald hE (hE.kd (kB_5_2 hpa)) dX5_goMile_55 hf (fun hf => ?_)
        refine x_aload_n hE 0 dX5_goMile_56 rfl rfl ?_
        refine x_getR hE cl_5 (hE.kd (kO_5 hpa)) (by decide) 2 (pa + 2) rfl (by decide) lk_X5_15 dX5_goMile_57 ?_
        refine x_iload_n hE 1 dX5_goMile_60 rfl rfl ?_
        refine x_iald hE (hE.kd (kB_5_2 hpa)) dX5_goMile_61 hf (fun hf => ?_)
        refine x_bipush hE (nI 12) dX5_goMile_62 (by decide) ?_
        refine x_iremC hE dX5_goMile_64 (by decide) ?_
        refine x_iload_n hE 3 dX5_goMile_65 rfl rfl ?_
        refine x_bipush hE (nI 12) dX5_goMile_66 (by decide) ?_
        refine x_iremC hE dX5_goMile_68 (by decide) ?_
        refine x_icmp_ge hE 76 dX5_goMile_69 (by decide) hf (fun hf => ?_) (fun hf => ?_)
        · refine x_iconst hE (-1) dX5_goMile_76 (by decide) ?_
          refine x_pick [] (L' := []) rfl ?_
          exact wX5_goMile_J77 hE hr hpa hg hf
        · refine x_iconst hE (nI 1) dX5_goMile_72 (by decide) ?_
          refine x_goto hE 77 dX5_goMile_73 (by decide) ?_
          refine x_pick [] (L' := []) rfl ?_
          exact wX5_goMile_J77 hE hr hpa hg hf
    · refine x_aload_n hE 2 dX5_goMile_25 rfl rfl ?_
      refine x_iload_n hE 3 dX5_goMile_26 rfl rfl ?_
      obtain ⟨M6, hc5, hf⟩ := bnd_some hf
      refine x_callV0 hE [.int v4] (rest := []) (c1 := M6) (d1 := N) rfl yokX4_dig yvX4_dig lk_X5_55 rfl cl_4 (hE.kd (kO_4 hg)) (by decide) rfl rfl ⟨Nat.le_of_ble_eq_true rfl, Nat.le_of_ble_eq_true rfl⟩ ⟨Nat.zero_le _, Nat.zero_le _⟩ rfl (Nat.le_of_ble_eq_true rfl) dX5_goMile_27 (mX4_dig l hg hc5) ?_
      refine x_goto hE 108 dX5_goMile_30 (by decide) ?_
      replace hf := Option.some.inj hf
      subst hf
      exact x_vreturn hE hr dX5_goMile_108
  · replace hf := Option.some.inj hf
    subst hf
    exact x_vreturn hE hr dX5_goMile_8
theorem yokX5_goMile : YOK yX5_goMile cX5_goMile 4 2 none := ⟨mem_g 1086 (by decide +kernel) (by decide +kernel), mem_g 137 (by decide +kernel) (by decide +kernel), by decide +kernel, by decide +kernel, by decide +kernel⟩
theorem yvX5_goMile : YV yX5_goMile := ⟨mem_g 1085 (by decide +kernel) (by decide +kernel), mem_g 11 (by decide +kernel) (by decide +kernel)⟩
theorem lk_X5_38 : Cond.methodLink RX5 38 yX5_dropDone ∈ lw_g := mem_g 1077 (by decide +kernel) (by decide +kernel)
theorem lk_X5_42 : Cond.methodLink RX5 42 yX5_goMile ∈ lw_g := mem_g 1083 (by decide +kernel) (by decide +kernel)
theorem dX5_goOut_0 : decode cX5_goOut 0 = .ok (.aload_n 1, 1) := by decide +kernel
theorem dX5_goOut_1 : decode cX5_goOut 1 = .ok (.ifnonnull 4, 3) := by decide +kernel
theorem dX5_goOut_4 : decode cX5_goOut 4 = .ok (.return_, 1) := by decide +kernel
theorem dX5_goOut_5 : decode cX5_goOut 5 = .ok (.iconst 0, 1) := by decide +kernel
theorem dX5_goOut_6 : decode cX5_goOut 6 = .ok (.istore_n 2, 1) := by decide +kernel
theorem dX5_goOut_7 : decode cX5_goOut 7 = .ok (.iload_n 2, 1) := by decide +kernel
theorem dX5_goOut_8 : decode cX5_goOut 8 = .ok (.aload_n 0, 1) := by decide +kernel
theorem dX5_goOut_9 : decode cX5_goOut 9 = .ok (.getfield 24, 3) := by decide +kernel
theorem dX5_goOut_12 : decode cX5_goOut 12 = .ok (.if_icmp .ge 59, 3) := by decide +kernel
theorem dX5_goOut_15 : decode cX5_goOut 15 = .ok (.iload_n 2, 1) := by decide +kernel
theorem dX5_goOut_16 : decode cX5_goOut 16 = .ok (.iconst 4, 1) := by decide +kernel
theorem dX5_goOut_17 : decode cX5_goOut 17 = .ok (.if_icmp .ge 54, 3) := by decide +kernel
theorem dX5_goOut_20 : decode cX5_goOut 20 = .ok (.aload_n 0, 1) := by decide +kernel
theorem dX5_goOut_21 : decode cX5_goOut 21 = .ok (.getfield 9, 3) := by decide +kernel
theorem dX5_goOut_24 : decode cX5_goOut 24 = .ok (.iload_n 2, 1) := by decide +kernel
theorem dX5_goOut_25 : decode cX5_goOut 25 = .ok (.iaload, 1) := by decide +kernel
theorem dX5_goOut_26 : decode cX5_goOut 26 = .ok (.istore_n 3, 1) := by decide +kernel
theorem dX5_goOut_27 : decode cX5_goOut 27 = .ok (.iload_n 3, 1) := by decide +kernel
theorem dX5_goOut_28 : decode cX5_goOut 28 = .ok (.ifCond .lt 37, 3) := by decide +kernel
theorem dX5_goOut_31 : decode cX5_goOut 31 = .ok (.aload_n 0, 1) := by decide +kernel
theorem dX5_goOut_32 : decode cX5_goOut 32 = .ok (.iload_n 2, 1) := by decide +kernel
theorem dX5_goOut_33 : decode cX5_goOut 33 = .ok (.aload_n 1, 1) := by decide +kernel
theorem dX5_goOut_34 : decode cX5_goOut 34 = .ok (.invokevirtual 38, 3) := by decide +kernel
theorem dX5_goOut_37 : decode cX5_goOut 37 = .ok (.iload_n 3, 1) := by decide +kernel
theorem dX5_goOut_38 : decode cX5_goOut 38 = .ok (.ifCond .eq 27, 3) := by decide +kernel
theorem dX5_goOut_41 : decode cX5_goOut 41 = .ok (.aload_n 0, 1) := by decide +kernel
theorem dX5_goOut_42 : decode cX5_goOut 42 = .ok (.getfield 18, 3) := by decide +kernel
theorem dX5_goOut_45 : decode cX5_goOut 45 = .ok (.iload_n 2, 1) := by decide +kernel
theorem dX5_goOut_46 : decode cX5_goOut 46 = .ok (.iaload, 1) := by decide +kernel
theorem dX5_goOut_47 : decode cX5_goOut 47 = .ok (.ifCond .gt 6, 3) := by decide +kernel
theorem dX5_goOut_50 : decode cX5_goOut 50 = .ok (.goto 15, 3) := by decide +kernel
theorem dX5_goOut_53 : decode cX5_goOut 53 = .ok (.aload_n 0, 1) := by decide +kernel
theorem dX5_goOut_54 : decode cX5_goOut 54 = .ok (.iload_n 2, 1) := by decide +kernel
theorem dX5_goOut_55 : decode cX5_goOut 55 = .ok (.aload_n 1, 1) := by decide +kernel
theorem dX5_goOut_56 : decode cX5_goOut 56 = .ok (.invokevirtual 42, 3) := by decide +kernel
theorem dX5_goOut_59 : decode cX5_goOut 59 = .ok (.iinc 3 (-1), 3) := by decide +kernel
theorem dX5_goOut_62 : decode cX5_goOut 62 = .ok (.goto (-35), 3) := by decide +kernel
theorem dX5_goOut_65 : decode cX5_goOut 65 = .ok (.iinc 2 1, 3) := by decide +kernel
theorem dX5_goOut_68 : decode cX5_goOut 68 = .ok (.goto (-61), 3) := by decide +kernel
theorem dX5_goOut_71 : decode cX5_goOut 71 = .ok (.return_, 1) := by decide +kernel
theorem wX5_goOut_J65 {p : Program} {l : Launch} {e : Env} {s : State} {m : MethodId} {args : Array Value} {below : List Frame} {meth : Method} {c : Code} {Y : Nat → ClassId} {D : va_G} {σ : Nat → Nat} {np b0 : Nat} {pa : Nat} {g : Nat} {r : Mc} {K7 : Mc → Int32 → Option (Mc)} {M : Mc} {N : Md} {X2 : Int32} (hE : EOK p s m args meth c cX5_goOut 4 RX5 Y D σ np b0) (hr : meth.sig.returnType = none) (hpa : is5 pa) (hg : is4 g) (hK7 : ∀ (M : Mc) (N : Md) (X2 : Int32), K7 M X2 = some r → Xw p l e (rmD 5) s m args below meth c 4 Y D σ np b0 0 0 (MQ below (QR Y D σ np b0 none r N) args s 0 0 (xA b0)) 7 [(0, .ref (σ pa)), (1, .ref (σ g)), (2, .int X2)] [] M N) (hf : fX5_goOut_J65 pa g K7 M X2 = some r) : Xw p l e (rmD 5) s m args below meth c 4 Y D σ np b0 0 0 (MQ below (QR Y D σ np b0 none r N) args s 0 0 (xA b0)) 65 [(0, .ref (σ pa)), (1, .ref (σ g)), (2, .int X2)] [] M N := by
  unfold fX5_goOut_J65 at hf
  refine x_iinc hE 2 (X2 + nI 1) (L' := [(2, .int (X2 + nI 1)), (0, .ref (σ pa)), (1, .ref (σ g))]) dX5_goOut_65 rfl rfl (by decide) rfl ?_
  refine x_pick [1, 2, 0] (L' := [(0, .ref (σ pa)), (1, .ref (σ g)), (2, .int (X2 + nI 1))]) rfl ?_
  refine x_goto hE 7 dX5_goOut_68 (by decide) ?_
  exact hK7 _ _ _ hf
theorem wX5_goOut_L27 {p : Program} {l : Launch} {e : Env} {s : State} {m : MethodId} {args : Array Value} {below : List Frame} {meth : Method} {c : Code} {Y : Nat → ClassId} {D : va_G} {σ : Nat → Nat} {np b0 : Nat} {pa : Nat} {g : Nat} {r : Mc} {K7 : Mc → Int32 → Option (Mc)} (hE : EOK p s m args meth c cX5_goOut 4 RX5 Y D σ np b0) (hr : meth.sig.returnType = none) (hpa : is5 pa) (hg : is4 g) (hK7 : ∀ (M : Mc) (N : Md) (X2 : Int32), K7 M X2 = some r → Xw p l e (rmD 5) s m args below meth c 4 Y D σ np b0 0 0 (MQ below (QR Y D σ np b0 none r N) args s 0 0 (xA b0)) 7 [(0, .ref (σ pa)), (1, .ref (σ g)), (2, .int X2)] [] M N) : ∀ (n : Nat) (M : Mc) (N : Md) (X2 : Int32) (X3 : Int32), fX5_goOut_L27 pa g K7 n M X2 X3 = some r → Xw p l e (rmD 5) s m args below meth c 4 Y D σ np b0 0 0 (MQ below (QR Y D σ np b0 none r N) args s 0 0 (xA b0)) 27 [(0, .ref (σ pa)), (1, .ref (σ g)), (2, .int X2), (3, .int X3)] [] M N := by
  intro n
  induction n with
  | zero =>
    intro M N X2 X3 hf
    cases hf
  | succ n ih =>
    intro M N X2 X3 hf
    rw [fX5_goOut_L27.eq_2] at hf
    refine x_iload_n hE 3 dX5_goOut_27 rfl rfl ?_
    refine x_if_lt hE 65 dX5_goOut_28 (by decide) hf (fun hf => ?_) (fun hf => ?_)
    · refine x_pick [0, 1, 2] (L' := [(0, .ref (σ pa)), (1, .ref (σ g)), (2, .int X2)]) rfl ?_
      exact wX5_goOut_J65 hE hr hpa hg hK7 hf
    · refine x_aload_n hE 0 dX5_goOut_31 rfl rfl ?_
      refine x_iload_n hE 2 dX5_goOut_32 rfl rfl ?_
      refine x_aload_n hE 1 dX5_goOut_33 rfl rfl ?_
      obtain ⟨M3, hc2, hf⟩ := bnd_some hf
      refine x_callV0 hE [.int X2, .ref (σ g)] (rest := []) (c1 := M3) (d1 := N) rfl yokX5_dropDone yvX5_dropDone lk_X5_38 rfl cl_5 (hE.kd (kO_5 hpa)) (by decide) rfl rfl ⟨Nat.le_of_ble_eq_true rfl, Nat.le_of_ble_eq_true rfl⟩ ⟨Nat.zero_le _, Nat.zero_le _⟩ rfl (Nat.le_of_ble_eq_true rfl) dX5_goOut_34 (mX5_dropDone l hpa hg hc2) ?_
      refine x_iload_n hE 3 dX5_goOut_37 rfl rfl ?_
      refine x_if_eq hE 65 dX5_goOut_38 (by decide) hf (fun hf => ?_) (fun hf => ?_)
      · refine x_pick [0, 1, 2] (L' := [(0, .ref (σ pa)), (1, .ref (σ g)), (2, .int X2)]) rfl ?_
        exact wX5_goOut_J65 hE hr hpa hg hK7 hf
      · refine x_aload_n hE 0 dX5_goOut_41 rfl rfl ?_
        refine x_getR hE cl_5 (hE.kd (kO_5 hpa)) (by decide) 3 (pa + 3) rfl (by decide) lk_X5_18 dX5_goOut_42 ?_
        refine x_iload_n hE 2 dX5_goOut_45 rfl rfl ?_
        refine x_iald hE (hE.kd (kB_5_3 hpa)) dX5_goOut_46 hf (fun hf => ?_)
        refine x_if_gt hE 53 dX5_goOut_47 (by decide) hf (fun hf => ?_) (fun hf => ?_)
        · refine x_aload_n hE 0 dX5_goOut_53 rfl rfl ?_
          refine x_iload_n hE 2 dX5_goOut_54 rfl rfl ?_
          refine x_aload_n hE 1 dX5_goOut_55 rfl rfl ?_
          obtain ⟨M5, hc4, hf⟩ := bnd_some hf
          refine x_callV0 hE [.int X2, .ref (σ g)] (rest := []) (c1 := M5) (d1 := N) rfl yokX5_goMile yvX5_goMile lk_X5_42 rfl cl_5 (hE.kd (kO_5 hpa)) (by decide) rfl rfl ⟨Nat.le_of_ble_eq_true rfl, Nat.le_of_ble_eq_true rfl⟩ ⟨Nat.zero_le _, Nat.zero_le _⟩ rfl (Nat.le_of_ble_eq_true rfl) dX5_goOut_56 (mX5_goMile l hpa hg hc4) ?_
          refine x_iinc hE 3 (X3 + (-1)) (L' := [(3, .int (X3 + (-1))), (0, .ref (σ pa)), (1, .ref (σ g)), (2, .int X2)]) dX5_goOut_59 rfl rfl (by decide) rfl ?_
          refine x_pick [1, 2, 3, 0] (L' := [(0, .ref (σ pa)), (1, .ref (σ g)), (2, .int X2), (3, .int (X3 + (-1)))]) rfl ?_
          refine x_goto hE 27 dX5_goOut_62 (by decide) ?_
          exact ih _ _ _ _ hf
        · refine x_goto hE 65 dX5_goOut_50 (by decide) ?_
          refine x_pick [0, 1, 2] (L' := [(0, .ref (σ pa)), (1, .ref (σ g)), (2, .int X2)]) rfl ?_
          exact wX5_goOut_J65 hE hr hpa hg hK7 hf
theorem wX5_goOut_L7 {p : Program} {l : Launch} {e : Env} {s : State} {m : MethodId} {args : Array Value} {below : List Frame} {meth : Method} {c : Code} {Y : Nat → ClassId} {D : va_G} {σ : Nat → Nat} {np b0 : Nat} {pa : Nat} {g : Nat} {r : Mc} (hE : EOK p s m args meth c cX5_goOut 4 RX5 Y D σ np b0) (hr : meth.sig.returnType = none) (hpa : is5 pa) (hg : is4 g) : ∀ (n : Nat) (M : Mc) (N : Md) (X2 : Int32), fX5_goOut_L7 pa g n M X2 = some r → Xw p l e (rmD 5) s m args below meth c 4 Y D σ np b0 0 0 (MQ below (QR Y D σ np b0 none r N) args s 0 0 (xA b0)) 7 [(0, .ref (σ pa)), (1, .ref (σ g)), (2, .int X2)] [] M N := by
  intro n
  induction n with
  | zero =>
    intro M N X2 hf
    cases hf
  | succ n ih =>
    intro M N X2 hf
    rw [fX5_goOut_L7.eq_2] at hf
    refine x_iload_n hE 2 dX5_goOut_7 rfl rfl ?_
    refine x_aload_n hE 0 dX5_goOut_8 rfl rfl ?_
    refine x_getI hE cl_5 (hE.kd (kO_5 hpa)) (by decide) 0 rfl (by decide) lk_X5_24 dX5_goOut_9 ?_
    refine x_icmp_ge hE 71 dX5_goOut_12 (by decide) hf (fun hf => ?_) (fun hf => ?_)
    · replace hf := Option.some.inj hf
      subst hf
      exact x_vreturn hE hr dX5_goOut_71
    · refine x_iload_n hE 2 dX5_goOut_15 rfl rfl ?_
      refine x_iconst hE (nI 4) dX5_goOut_16 (by decide) ?_
      refine x_icmp_ge hE 71 dX5_goOut_17 (by decide) hf (fun hf => ?_) (fun hf => ?_)
      · replace hf := Option.some.inj hf
        subst hf
        exact x_vreturn hE hr dX5_goOut_71
      · refine x_aload_n hE 0 dX5_goOut_20 rfl rfl ?_
        refine x_getR hE cl_5 (hE.kd (kO_5 hpa)) (by decide) 1 (pa + 1) rfl (by decide) lk_X5_9 dX5_goOut_21 ?_
        refine x_iload_n hE 2 dX5_goOut_24 rfl rfl ?_
        refine x_iald hE (hE.kd (kB_5_1 hpa)) dX5_goOut_25 hf (fun hf => ?_)
        refine x_ltI hf (fun v1 hf => ?_)
        refine x_istore_n hE (L' := [(3, .int v1), (0, .ref (σ pa)), (1, .ref (σ g)), (2, .int X2)]) dX5_goOut_26 rfl (by decide) rfl ?_
        refine x_pick [1, 2, 3, 0] (L' := [(0, .ref (σ pa)), (1, .ref (σ g)), (2, .int X2), (3, .int v1)]) rfl ?_
        exact wX5_goOut_L27 hE hr hpa hg (fun _ _ _ hf => ih _ _ _ hf) FU _ _ _ _ hf
theorem mX5_goOut (l : Launch) {Y : Nat → ClassId} {D : va_G} {σ : Nat → Nat} {np b0 : Nat} {M : Mc} {N : Md} {pa : Nat} {g : Nat} {r : Mc} (hpa : is5 pa) (hg : is4 g) (hf : fX5_goOut M pa g = some r) : Met l yX5_goOut (.code yX5_goOut cX5_goOut 4 none :: lw_g) (rmD 5) (PR Y D σ np b0 [.ref (σ pa), .ref (σ g)] M N) (QR Y D σ np b0 none r N) 0 0 (xA b0) := by
  refine x_met (by decide) (Nat.le_of_ble_eq_true rfl) (fun p e s m args below meth c hE hr => ?_)
  unfold fX5_goOut at hf
  refine x_pick [0, 1] (L' := [(0, .ref (σ pa)), (1, .ref (σ g))]) rfl ?_
  refine x_aload_n hE 1 dX5_goOut_0 rfl rfl ?_
  refine x_ifnonnull hE 5 dX5_goOut_1 (by decide) ?_
  refine x_iconst hE (0 : Int32) dX5_goOut_5 (by decide) ?_
  refine x_istore_n hE (L' := [(2, .int 0), (0, .ref (σ pa)), (1, .ref (σ g))]) dX5_goOut_6 rfl (by decide) rfl ?_
  refine x_pick [1, 2, 0] (L' := [(0, .ref (σ pa)), (1, .ref (σ g)), (2, .int 0)]) rfl ?_
  exact wX5_goOut_L7 hE hr hpa hg FU _ _ _ hf
theorem yokX5_goOut : YOK yX5_goOut cX5_goOut 4 1 none := ⟨mem_g 1076 (by decide +kernel) (by decide +kernel), mem_g 137 (by decide +kernel) (by decide +kernel), by decide +kernel, by decide +kernel, by decide +kernel⟩
theorem yvX5_goOut : YV yX5_goOut := ⟨mem_g 1074 (by decide +kernel) (by decide +kernel), mem_g 1075 (by decide +kernel) (by decide +kernel)⟩
