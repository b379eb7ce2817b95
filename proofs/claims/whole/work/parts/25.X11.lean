theorem lk_X11_191 : Cond.methodLink RX11 191 yX11_inside ∈ lw_g := mem_g 622 (by decide +kernel) (by decide +kernel)
theorem ak_X11_197_1 : Cond.classLink RX11 195 (xE 1) ∈ lw_g := mem_g 770 (by decide +kernel) (by decide +kernel)
theorem ai_X11_197_1 : Cond.initialized (xE 1) ∈ lw_g := mem_g 147 (by decide +kernel) (by decide +kernel)
theorem at_X11_197_1 : ∀ w ∈ vx_at0 RX11 197 (xE 1) ["java/lang/RuntimeException", "java/lang/Exception"], w ∈ lw_g ∨ w ∈ lw_nw := at_of (by decide +kernel)
theorem ag_X11_197_1 : ∀ w ∈ Cond.classLink RX11 195 (xE 1) :: Cond.initialized (xE 1) :: vx_at0 RX11 197 (xE 1) ["java/lang/RuntimeException", "java/lang/Exception"], vx_ot w = true := List.all_eq_true.mp (by decide +kernel)
theorem dX11_needSection_0 : decode cX11_needSection 0 = .ok (.iload_n 0, 1) := by decide +kernel
theorem dX11_needSection_1 : decode cX11_needSection 1 = .ok (.bipush 96, 2) := by decide +kernel
theorem dX11_needSection_3 : decode cX11_needSection 3 = .ok (.invokestatic 191, 3) := by decide +kernel
theorem dX11_needSection_6 : decode cX11_needSection 6 = .ok (.ifCond .ne 11, 3) := by decide +kernel
theorem dX11_needSection_9 : decode cX11_needSection 9 = .ok (.new 195, 3) := by decide +kernel
theorem dX11_needSection_12 : decode cX11_needSection 12 = .ok (.dup, 1) := by decide +kernel
theorem dX11_needSection_13 : decode cX11_needSection 13 = .ok (.invokespecial 197, 3) := by decide +kernel
theorem dX11_needSection_16 : decode cX11_needSection 16 = .ok (.athrow, 1) := by decide +kernel
theorem dX11_needSection_17 : decode cX11_needSection 17 = .ok (.return_, 1) := by decide +kernel
theorem mX11_needSection (l : Launch) (hfl : l.stackTraces = false) {Y : Nat → ClassId} {D : va_G} {σ : Nat → Nat} {np b0 : Nat} {M : Mc} {N : Md} {p0 : Int32} {r : Nat ⊕ (Unit)} (hf : fX11_needSection p0 = some r) : vx_Met l yX11_needSection (.code yX11_needSection cX11_needSection 1 none :: lw_g) (rmX 6 1) (PR Y D σ np b0 [.int p0] M N) (QX (fun r : Unit => QR Y D σ np b0 none M N) r) (XX Y D σ np b0 M N r) 1 (6 * 1) (xA b0) := by
  refine x_vmet (by decide) (Nat.le_of_ble_eq_true rfl) (fun p e s m args below meth c hE hr hT => ?_)
  unfold fX11_needSection at hf
  refine x_pick [0] (L' := [(0, .int p0)]) rfl ?_
  refine x_iload_n hE 0 dX11_needSection_0 rfl rfl ?_
  refine x_bipush hE (nI 96) dX11_needSection_1 (by decide) ?_
  obtain ⟨v2, hc1, hf⟩ := bnd_some hf
  refine x_callS1 hE [.int p0, .int (nI 96)] (rest := []) (v := .int v2) (c1 := M) (d1 := N) rfl yokX11_inside ysX11_inside lk_X11_191 rfl rfl ⟨Nat.le_of_ble_eq_true rfl, Nat.le_of_ble_eq_true rfl⟩ (by decide) rfl (Nat.le_of_ble_eq_true rfl) dX11_needSection_3 (mX11_inside l hc1) ?_
  refine x_if_ne hE 17 dX11_needSection_6 (by decide) hf (fun hf => ?_) (fun hf => ?_)
  · refine x_xin (by decide) (by decide) hf ?_
    exact x_vreturn hE hr dX11_needSection_17
  · exact x_throw hE hT hfl (ik := 195) (ic := 197) ["java/lang/RuntimeException", "java/lang/Exception"] (by decide +kernel) (by decide +kernel) ak_X11_197_1 ai_X11_197_1 at_X11_197_1 ag_X11_197_1 dX11_needSection_9 dX11_needSection_12 dX11_needSection_13 dX11_needSection_16 (by decide) (by decide) (Nat.le_of_ble_eq_true rfl) (by decide) (by decide) (by decide) (by decide) hf
theorem yokX11_needSection : YOK yX11_needSection cX11_needSection 1 1 none := ⟨mem_g 769 (by decide +kernel) (by decide +kernel), mem_g 131 (by decide +kernel) (by decide +kernel), by decide +kernel, by decide +kernel, by decide +kernel⟩
theorem ysX11_needSection : Cond.static yX11_needSection ∈ lw_g := mem_g 768 (by decide +kernel) (by decide +kernel)
theorem ak_X11_458_2 : Cond.classLink RX11 456 (xE 2) ∈ lw_g := mem_g 836 (by decide +kernel) (by decide +kernel)
theorem ai_X11_458_2 : Cond.initialized (xE 2) ∈ lw_g := mem_g 148 (by decide +kernel) (by decide +kernel)
theorem at_X11_458_2 : ∀ w ∈ vx_at0 RX11 458 (xE 2) ["java/lang/RuntimeException", "java/lang/Exception"], w ∈ lw_g ∨ w ∈ lw_nw := at_of (by decide +kernel)
theorem ag_X11_458_2 : ∀ w ∈ Cond.classLink RX11 456 (xE 2) :: Cond.initialized (xE 2) :: vx_at0 RX11 458 (xE 2) ["java/lang/RuntimeException", "java/lang/Exception"], vx_ot w = true := List.all_eq_true.mp (by decide +kernel)
theorem dX11_needThat_0 : decode cX11_needThat 0 = .ok (.iload_n 0, 1) := by decide +kernel
theorem dX11_needThat_1 : decode cX11_needThat 1 = .ok (.ifCond .ne 11, 3) := by decide +kernel
theorem dX11_needThat_4 : decode cX11_needThat 4 = .ok (.new 456, 3) := by decide +kernel
theorem dX11_needThat_7 : decode cX11_needThat 7 = .ok (.dup, 1) := by decide +kernel
theorem dX11_needThat_8 : decode cX11_needThat 8 = .ok (.invokespecial 458, 3) := by decide +kernel
theorem dX11_needThat_11 : decode cX11_needThat 11 = .ok (.athrow, 1) := by decide +kernel
theorem dX11_needThat_12 : decode cX11_needThat 12 = .ok (.return_, 1) := by decide +kernel
theorem mX11_needThat (l : Launch) (hfl : l.stackTraces = false) {Y : Nat → ClassId} {D : va_G} {σ : Nat → Nat} {np b0 : Nat} {M : Mc} {N : Md} {p0 : Int32} {r : Nat ⊕ (Unit)} (hf : fX11_needThat p0 = some r) : vx_Met l yX11_needThat (.code yX11_needThat cX11_needThat 1 none :: lw_g) (rmX 6 1) (PR Y D σ np b0 [.int p0] M N) (QX (fun r : Unit => QR Y D σ np b0 none M N) r) (XX Y D σ np b0 M N r) 1 (6 * 1) (xA b0) := by
  refine x_vmet (by decide) (Nat.le_of_ble_eq_true rfl) (fun p e s m args below meth c hE hr hT => ?_)
  unfold fX11_needThat at hf
  refine x_pick [0] (L' := [(0, .int p0)]) rfl ?_
  refine x_iload_n hE 0 dX11_needThat_0 rfl rfl ?_
  refine x_if_ne hE 12 dX11_needThat_1 (by decide) hf (fun hf => ?_) (fun hf => ?_)
  · refine x_xin (by decide) (by decide) hf ?_
    exact x_vreturn hE hr dX11_needThat_12
  · exact x_throw hE hT hfl (ik := 456) (ic := 458) ["java/lang/RuntimeException", "java/lang/Exception"] (by decide +kernel) (by decide +kernel) ak_X11_458_2 ai_X11_458_2 at_X11_458_2 ag_X11_458_2 dX11_needThat_4 dX11_needThat_7 dX11_needThat_8 dX11_needThat_11 (by decide) (by decide) (Nat.le_of_ble_eq_true rfl) (by decide) (by decide) (by decide) (by decide) hf
theorem yokX11_needThat : YOK yX11_needThat cX11_needThat 1 1 none := ⟨mem_g 835 (by decide +kernel) (by decide +kernel), mem_g 131 (by decide +kernel) (by decide +kernel), by decide +kernel, by decide +kernel, by decide +kernel⟩
theorem ysX11_needThat : Cond.static yX11_needThat ∈ lw_g := mem_g 834 (by decide +kernel) (by decide +kernel)
theorem lk_X11_72 : Cond.methodLink RX11 72 yX11_needSection ∈ lw_g := mem_g 767 (by decide +kernel) (by decide +kernel)
theorem lk_X11_76 : Cond.methodLink RX11 76 yX11_needThat ∈ lw_g := mem_g 833 (by decide +kernel) (by decide +kernel)
theorem lk_X11_27 : Cond.fieldLink RX11 27 (TX11 2).1 (TX11 2).2.1 (TX11 2).2.2.1 ∈ lw_g := mem_g 561 (by decide +kernel) (by decide +kernel)
theorem lk_X11_80 : Cond.fieldLink RX11 80 (TX10 1).1 (TX10 1).2.1 (TX10 1).2.2.1 ∈ lw_g := mem_g 405 (by decide +kernel) (by decide +kernel)
theorem lk_X11_84 : Cond.methodLink RX11 84 yX4_shape ∈ lw_g := mem_g 851 (by decide +kernel) (by decide +kernel)
theorem dX11_land_0 : decode cX11_land 0 = .ok (.iload_n 1, 1) := by decide +kernel
theorem dX11_land_1 : decode cX11_land 1 = .ok (.invokestatic 72, 3) := by decide +kernel
theorem dX11_land_4 : decode cX11_land 4 = .ok (.iload_n 2, 1) := by decide +kernel
theorem dX11_land_5 : decode cX11_land 5 = .ok (.ifCond .lt 13, 3) := by decide +kernel
theorem dX11_land_8 : decode cX11_land 8 = .ok (.iload_n 2, 1) := by decide +kernel
theorem dX11_land_9 : decode cX11_land 9 = .ok (.bipush 9, 2) := by decide +kernel
theorem dX11_land_11 : decode cX11_land 11 = .ok (.if_icmp .gt 7, 3) := by decide +kernel
theorem dX11_land_14 : decode cX11_land 14 = .ok (.iconst 1, 1) := by decide +kernel
theorem dX11_land_15 : decode cX11_land 15 = .ok (.goto 4, 3) := by decide +kernel
theorem dX11_land_18 : decode cX11_land 18 = .ok (.iconst 0, 1) := by decide +kernel
theorem dX11_land_19 : decode cX11_land 19 = .ok (.invokestatic 76, 3) := by decide +kernel
theorem dX11_land_22 : decode cX11_land 22 = .ok (.aload_n 0, 1) := by decide +kernel
theorem dX11_land_23 : decode cX11_land 23 = .ok (.getfield 27, 3) := by decide +kernel
theorem dX11_land_26 : decode cX11_land 26 = .ok (.getfield 80, 3) := by decide +kernel
theorem dX11_land_29 : decode cX11_land 29 = .ok (.iload_n 1, 1) := by decide +kernel
theorem dX11_land_30 : decode cX11_land 30 = .ok (.iload_n 2, 1) := by decide +kernel
theorem dX11_land_31 : decode cX11_land 31 = .ok (.iload_n 3, 1) := by decide +kernel
theorem dX11_land_32 : decode cX11_land 32 = .ok (.invokevirtual 84, 3) := by decide +kernel
theorem dX11_land_35 : decode cX11_land 35 = .ok (.ifCond .eq 7, 3) := by decide +kernel
theorem dX11_land_38 : decode cX11_land 38 = .ok (.iconst 1, 1) := by decide +kernel
theorem dX11_land_39 : decode cX11_land 39 = .ok (.goto 4, 3) := by decide +kernel
theorem dX11_land_42 : decode cX11_land 42 = .ok (.iconst (-1), 1) := by decide +kernel
theorem dX11_land_43 : decode cX11_land 43 = .ok (.ireturn, 1) := by decide +kernel
theorem wX11_land_J19 {p : Program} {l : Launch} {e : Env} {s : State} {m : MethodId} {args : Array Value} {below : List Frame} {meth : Method} {c : Code} {Y : Nat → ClassId} {D : va_G} {σ : Nat → Nat} {np b0 : Nat} {r : Nat ⊕ (Int32 × Mc)} {M : Mc} {N : Md} {X1 : Int32} {X2 : Int32} {X3 : Int32} {Z0 : Int32} (hE : EOK p s m args meth c cX11_land 4 RX11 Y D σ np b0) (hr : meth.sig.returnType = (some .int)) (hT : ∀ x ∈ c.exceptionTable.toList, False) (hfl : l.stackTraces = false) (hf : fX11_land_J19 M X1 X2 X3 Z0 = some r) : Xw p l e (rmX 7 2) s m args below meth c 4 Y D σ np b0 1 (6 * 1) (vx_MQ below (QX (fun r : Int32 × Mc => QR Y D σ np b0 (some (.int r.1)) r.2 N) r) (XX Y D σ np b0 M N r) args s 2 (6 * 2) (xA b0)) 19 [(0, .ref (σ 0)), (1, .int X1), (2, .int X2), (3, .int X3)] [.int Z0] M N := by
  unfold fX11_land_J19 at hf
  obtain ⟨y5, hc6, hy7⟩ := bnx_some hf
  refine x_callXS hE hT [.int Z0] (rest := []) rfl yokX11_needThat ysX11_needThat lk_X11_76 ⟨Nat.le_of_ble_eq_true rfl, Nat.le_of_ble_eq_true rfl⟩ (by decide) rfl (Nat.le_of_ble_eq_true rfl) dX11_land_19 (mX11_needThat l hfl hc6) ⟨rfl, rfl⟩ (by decide) (by decide) (hy7.imp id (fun ⟨_, ha8, hf⟩ => ⟨_, none, M, N, ha8, rfl, ?_⟩))
  refine x_aload_n hE 0 dX11_land_22 rfl rfl ?_
  refine x_getR hE cl_11 (hE.kd kO_11) (by decide) 2 (17) rfl (by decide) lk_X11_27 dX11_land_23 ?_
  refine x_getR hE cl_10 (hE.kd (kO_10 hI_17)) (by decide) 1 (17 + 1) rfl (by decide) lk_X11_80 dX11_land_26 ?_
  refine x_iload_n hE 1 dX11_land_29 rfl rfl ?_
  refine x_iload_n hE 2 dX11_land_30 rfl rfl ?_
  refine x_iload_n hE 3 dX11_land_31 rfl rfl ?_
  obtain ⟨⟨v10, M11⟩, hc9, hf⟩ := bn2_some hf
  refine x_callV1 hE [.int X1, .int X2, .int X3] (rest := []) (v := .int v10) (c1 := M11) (d1 := N) rfl yokX4_shape yvX4_shape lk_X11_84 rfl cl_4 (hE.kd (kO_4 (hL_10_1 hI_17))) (by decide) rfl rfl ⟨Nat.le_of_ble_eq_true rfl, Nat.le_of_ble_eq_true rfl⟩ (by decide) rfl (Nat.le_of_ble_eq_true rfl) dX11_land_32 (mX4_shape l (hL_10_1 hI_17) hc9) ?_
  refine x_if_eq hE 42 dX11_land_35 (by decide) hf (fun hf => ?_) (fun hf => ?_)
  · refine x_iconst hE (-1) dX11_land_42 (by decide) ?_
    refine x_xin (by decide) (by decide) hf ?_
    exact x_ireturn hE (v := (-1)) hr rfl dX11_land_43
  · refine x_iconst hE (nI 1) dX11_land_38 (by decide) ?_
    refine x_goto hE 43 dX11_land_39 (by decide) ?_
    refine x_xin (by decide) (by decide) hf ?_
    exact x_ireturn hE (v := nI 1) hr rfl dX11_land_43
theorem wX11_land_J18 {p : Program} {l : Launch} {e : Env} {s : State} {m : MethodId} {args : Array Value} {below : List Frame} {meth : Method} {c : Code} {Y : Nat → ClassId} {D : va_G} {σ : Nat → Nat} {np b0 : Nat} {r : Nat ⊕ (Int32 × Mc)} {M : Mc} {N : Md} {X1 : Int32} {X2 : Int32} {X3 : Int32} (hE : EOK p s m args meth c cX11_land 4 RX11 Y D σ np b0) (hr : meth.sig.returnType = (some .int)) (hT : ∀ x ∈ c.exceptionTable.toList, False) (hfl : l.stackTraces = false) (hf : fX11_land_J18 M X1 X2 X3 = some r) : Xw p l e (rmX 7 2) s m args below meth c 4 Y D σ np b0 1 (6 * 1) (vx_MQ below (QX (fun r : Int32 × Mc => QR Y D σ np b0 (some (.int r.1)) r.2 N) r) (XX Y D σ np b0 M N r) args s 2 (6 * 2) (xA b0)) 18 [(0, .ref (σ 0)), (1, .int X1), (2, .int X2), (3, .int X3)] [] M N := by
  unfold fX11_land_J18 at hf
  refine x_iconst hE (0 : Int32) dX11_land_18 (by decide) ?_
  exact wX11_land_J19 hE hr hT hfl hf
theorem mX11_land (l : Launch) (hfl : l.stackTraces = false) {Y : Nat → ClassId} {D : va_G} {σ : Nat → Nat} {np b0 : Nat} {M : Mc} {N : Md} {p0 : Int32} {p1 : Int32} {p2 : Int32} {r : Nat ⊕ (Int32 × Mc)} (hf : fX11_land M p0 p1 p2 = some r) : vx_Met l yX11_land (.code yX11_land cX11_land 4 (some .int) :: lw_g) (rmX 7 2) (PR Y D σ np b0 [.ref (σ 0), .int p0, .int p1, .int p2] M N) (QX (fun r : Int32 × Mc => QR Y D σ np b0 (some (.int r.1)) r.2 N) r) (XX Y D σ np b0 M N r) 2 (6 * 2) (xA b0) := by
  refine x_vmet (by decide) (Nat.le_of_ble_eq_true rfl) (fun p e s m args below meth c hE hr hT => ?_)
  unfold fX11_land at hf
  refine x_pick [0, 1, 2, 3] (L' := [(0, .ref (σ 0)), (1, .int p0), (2, .int p1), (3, .int p2)]) rfl ?_
  refine x_iload_n hE 1 dX11_land_0 rfl rfl ?_
  obtain ⟨y1, hc2, hy3⟩ := bnx_some hf
  refine x_callXS hE hT [.int p0] (rest := []) rfl yokX11_needSection ysX11_needSection lk_X11_72 ⟨Nat.le_of_ble_eq_true rfl, Nat.le_of_ble_eq_true rfl⟩ (by decide) rfl (Nat.le_of_ble_eq_true rfl) dX11_land_1 (mX11_needSection l hfl hc2) ⟨rfl, rfl⟩ (by decide) (by decide) (hy3.imp id (fun ⟨_, ha4, hf⟩ => ⟨_, none, M, N, ha4, rfl, ?_⟩))
  refine x_iload_n hE 2 dX11_land_4 rfl rfl ?_
  refine x_if_lt hE 18 dX11_land_5 (by decide) hf (fun hf => ?_) (fun hf => ?_)
  · exact wX11_land_J18 hE hr hT hfl hf
  · refine x_iload_n hE 2 dX11_land_8 rfl rfl ?_
    refine x_bipush hE (nI 9) dX11_land_9 (by decide) ?_
    refine x_icmp_gt hE 18 dX11_land_11 (by decide) hf (fun hf => ?_) (fun hf => ?_)
    · exact wX11_land_J18 hE hr hT hfl hf
    · refine x_iconst hE (nI 1) dX11_land_14 (by decide) ?_
      refine x_goto hE 19 dX11_land_15 (by decide) ?_
      exact wX11_land_J19 hE hr hT hfl hf
theorem yokX11_land : YOK yX11_land cX11_land 4 3 (some .int) := ⟨mem_g 766 (by decide +kernel) (by decide +kernel), mem_g 131 (by decide +kernel) (by decide +kernel), by decide +kernel, by decide +kernel, by decide +kernel⟩
theorem yvX11_land : YV yX11_land := ⟨mem_g 764 (by decide +kernel) (by decide +kernel), mem_g 765 (by decide +kernel) (by decide +kernel)⟩
theorem dX11_needZone_0 : decode cX11_needZone 0 = .ok (.iload_n 0, 1) := by decide +kernel
theorem dX11_needZone_1 : decode cX11_needZone 1 = .ok (.iconst 4, 1) := by decide +kernel
theorem dX11_needZone_2 : decode cX11_needZone 2 = .ok (.invokestatic 191, 3) := by decide +kernel
theorem dX11_needZone_5 : decode cX11_needZone 5 = .ok (.ifCond .ne 11, 3) := by decide +kernel
theorem dX11_needZone_8 : decode cX11_needZone 8 = .ok (.new 195, 3) := by decide +kernel
theorem dX11_needZone_11 : decode cX11_needZone 11 = .ok (.dup, 1) := by decide +kernel
theorem dX11_needZone_12 : decode cX11_needZone 12 = .ok (.invokespecial 197, 3) := by decide +kernel
theorem dX11_needZone_15 : decode cX11_needZone 15 = .ok (.athrow, 1) := by decide +kernel
theorem dX11_needZone_16 : decode cX11_needZone 16 = .ok (.return_, 1) := by decide +kernel
theorem mX11_needZone (l : Launch) (hfl : l.stackTraces = false) {Y : Nat → ClassId} {D : va_G} {σ : Nat → Nat} {np b0 : Nat} {M : Mc} {N : Md} {p0 : Int32} {r : Nat ⊕ (Unit)} (hf : fX11_needZone p0 = some r) : vx_Met l yX11_needZone (.code yX11_needZone cX11_needZone 1 none :: lw_g) (rmX 6 1) (PR Y D σ np b0 [.int p0] M N) (QX (fun r : Unit => QR Y D σ np b0 none M N) r) (XX Y D σ np b0 M N r) 1 (6 * 1) (xA b0) := by
  refine x_vmet (by decide) (Nat.le_of_ble_eq_true rfl) (fun p e s m args below meth c hE hr hT => ?_)
  unfold fX11_needZone at hf
  refine x_pick [0] (L' := [(0, .int p0)]) rfl ?_
  refine x_iload_n hE 0 dX11_needZone_0 rfl rfl ?_
  refine x_iconst hE (nI 4) dX11_needZone_1 (by decide) ?_
  obtain ⟨v2, hc1, hf⟩ := bnd_some hf
  refine x_callS1 hE [.int p0, .int (nI 4)] (rest := []) (v := .int v2) (c1 := M) (d1 := N) rfl yokX11_inside ysX11_inside lk_X11_191 rfl rfl ⟨Nat.le_of_ble_eq_true rfl, Nat.le_of_ble_eq_true rfl⟩ (by decide) rfl (Nat.le_of_ble_eq_true rfl) dX11_needZone_2 (mX11_inside l hc1) ?_
  refine x_if_ne hE 16 dX11_needZone_5 (by decide) hf (fun hf => ?_) (fun hf => ?_)
  · refine x_xin (by decide) (by decide) hf ?_
    exact x_vreturn hE hr dX11_needZone_16
  · exact x_throw hE hT hfl (ik := 195) (ic := 197) ["java/lang/RuntimeException", "java/lang/Exception"] (by decide +kernel) (by decide +kernel) ak_X11_197_1 ai_X11_197_1 at_X11_197_1 ag_X11_197_1 dX11_needZone_8 dX11_needZone_11 dX11_needZone_12 dX11_needZone_15 (by decide) (by decide) (Nat.le_of_ble_eq_true rfl) (by decide) (by decide) (by decide) (by decide) hf
theorem yokX11_needZone : YOK yX11_needZone cX11_needZone 1 1 none := ⟨mem_g 868 (by decide +kernel) (by decide +kernel), mem_g 131 (by decide +kernel) (by decide +kernel), by decide +kernel, by decide +kernel, by decide +kernel⟩
theorem ysX11_needZone : Cond.static yX11_needZone ∈ lw_g := mem_g 867 (by decide +kernel) (by decide +kernel)
theorem lk_X11_90 : Cond.methodLink RX11 90 yX11_needZone ∈ lw_g := mem_g 866 (by decide +kernel) (by decide +kernel)
theorem lk_X11_10 : Cond.fieldLink RX11 10 (TX11 0).1 (TX11 0).2.1 (TX11 0).2.2.1 ∈ lw_g := mem_g 559 (by decide +kernel) (by decide +kernel)
theorem lk_X11_93 : Cond.methodLink RX11 93 yX0_tell ∈ lw_g := mem_g 869 (by decide +kernel) (by decide +kernel)
theorem dX11_rain_0 : decode cX11_rain 0 = .ok (.iload_n 1, 1) := by decide +kernel
theorem dX11_rain_1 : decode cX11_rain 1 = .ok (.invokestatic 90, 3) := by decide +kernel
theorem dX11_rain_4 : decode cX11_rain 4 = .ok (.iload_n 2, 1) := by decide +kernel
theorem dX11_rain_5 : decode cX11_rain 5 = .ok (.iconst (-1), 1) := by decide +kernel
theorem dX11_rain_6 : decode cX11_rain 6 = .ok (.if_icmp .lt 14, 3) := by decide +kernel
theorem dX11_rain_9 : decode cX11_rain 9 = .ok (.iload_n 2, 1) := by decide +kernel
theorem dX11_rain_10 : decode cX11_rain 10 = .ok (.sipush 500, 3) := by decide +kernel
theorem dX11_rain_13 : decode cX11_rain 13 = .ok (.if_icmp .gt 7, 3) := by decide +kernel
theorem dX11_rain_16 : decode cX11_rain 16 = .ok (.iconst 1, 1) := by decide +kernel
theorem dX11_rain_17 : decode cX11_rain 17 = .ok (.goto 4, 3) := by decide +kernel
theorem dX11_rain_20 : decode cX11_rain 20 = .ok (.iconst 0, 1) := by decide +kernel
theorem dX11_rain_21 : decode cX11_rain 21 = .ok (.invokestatic 76, 3) := by decide +kernel
theorem dX11_rain_24 : decode cX11_rain 24 = .ok (.aload_n 0, 1) := by decide +kernel
theorem dX11_rain_25 : decode cX11_rain 25 = .ok (.getfield 10, 3) := by decide +kernel
theorem dX11_rain_28 : decode cX11_rain 28 = .ok (.iload_n 1, 1) := by decide +kernel
theorem dX11_rain_29 : decode cX11_rain 29 = .ok (.iload_n 2, 1) := by decide +kernel
theorem dX11_rain_30 : decode cX11_rain 30 = .ok (.iconst 1, 1) := by decide +kernel
theorem dX11_rain_31 : decode cX11_rain 31 = .ok (.invokevirtual 93, 3) := by decide +kernel
theorem dX11_rain_34 : decode cX11_rain 34 = .ok (.ireturn, 1) := by decide +kernel
theorem wX11_rain_J21 {p : Program} {l : Launch} {e : Env} {s : State} {m : MethodId} {args : Array Value} {below : List Frame} {meth : Method} {c : Code} {Y : Nat → ClassId} {D : va_G} {σ : Nat → Nat} {np b0 : Nat} {r : Nat ⊕ (Int32 × Mc)} {M : Mc} {N : Md} {X1 : Int32} {X2 : Int32} {Z0 : Int32} (hE : EOK p s m args meth c cX11_rain 3 RX11 Y D σ np b0) (hr : meth.sig.returnType = (some .int)) (hT : ∀ x ∈ c.exceptionTable.toList, False) (hfl : l.stackTraces = false) (hf : fX11_rain_J21 M X1 X2 Z0 = some r) : Xw p l e (rmX 7 2) s m args below meth c 3 Y D σ np b0 1 (6 * 1) (vx_MQ below (QX (fun r : Int32 × Mc => QR Y D σ np b0 (some (.int r.1)) r.2 N) r) (XX Y D σ np b0 M N r) args s 2 (6 * 2) (xA b0)) 21 [(0, .ref (σ 0)), (1, .int X1), (2, .int X2)] [.int Z0] M N := by
  unfold fX11_rain_J21 at hf
  obtain ⟨y5, hc6, hy7⟩ := bnx_some hf
  refine x_callXS hE hT [.int Z0] (rest := []) rfl yokX11_needThat ysX11_needThat lk_X11_76 ⟨Nat.le_of_ble_eq_true rfl, Nat.le_of_ble_eq_true rfl⟩ (by decide) rfl (Nat.le_of_ble_eq_true rfl) dX11_rain_21 (mX11_needThat l hfl hc6) ⟨rfl, rfl⟩ (by decide) (by decide) (hy7.imp id (fun ⟨_, ha8, hf⟩ => ⟨_, none, M, N, ha8, rfl, ?_⟩))
  refine x_aload_n hE 0 dX11_rain_24 rfl rfl ?_
  refine x_getR hE cl_11 (hE.kd kO_11) (by decide) 0 (1) rfl (by decide) lk_X11_10 dX11_rain_25 ?_
  refine x_iload_n hE 1 dX11_rain_28 rfl rfl ?_
  refine x_iload_n hE 2 dX11_rain_29 rfl rfl ?_
  refine x_iconst hE (nI 1) dX11_rain_30 (by decide) ?_
  obtain ⟨⟨v10, M11⟩, hc9, hf⟩ := bn2_some hf
  refine x_callV1 hE [.int X1, .int X2, .int (nI 1)] (rest := []) (v := .int v10) (c1 := M11) (d1 := N) rfl yokX0_tell yvX0_tell lk_X11_93 rfl cl_0 (hE.kd kO_0) (by decide) rfl rfl ⟨Nat.le_of_ble_eq_true rfl, Nat.le_of_ble_eq_true rfl⟩ (by decide) rfl (Nat.le_of_ble_eq_true rfl) dX11_rain_31 (mX0_tell l hc9) ?_
  refine x_xin (by decide) (by decide) hf ?_
  exact x_ireturn hE (v := v10) hr rfl dX11_rain_34
theorem wX11_rain_J20 {p : Program} {l : Launch} {e : Env} {s : State} {m : MethodId} {args : Array Value} {below : List Frame} {meth : Method} {c : Code} {Y : Nat → ClassId} {D : va_G} {σ : Nat → Nat} {np b0 : Nat} {r : Nat ⊕ (Int32 × Mc)} {M : Mc} {N : Md} {X1 : Int32} {X2 : Int32} (hE : EOK p s m args meth c cX11_rain 3 RX11 Y D σ np b0) (hr : meth.sig.returnType = (some .int)) (hT : ∀ x ∈ c.exceptionTable.toList, False) (hfl : l.stackTraces = false) (hf : fX11_rain_J20 M X1 X2 = some r) : Xw p l e (rmX 7 2) s m args below meth c 3 Y D σ np b0 1 (6 * 1) (vx_MQ below (QX (fun r : Int32 × Mc => QR Y D σ np b0 (some (.int r.1)) r.2 N) r) (XX Y D σ np b0 M N r) args s 2 (6 * 2) (xA b0)) 20 [(0, .ref (σ 0)), (1, .int X1), (2, .int X2)] [] M N := by
  unfold fX11_rain_J20 at hf
  refine x_iconst hE (0 : Int32) dX11_rain_20 (by decide) ?_
  exact wX11_rain_J21 hE hr hT hfl hf
theorem mX11_rain (l : Launch) (hfl : l.stackTraces = false) {Y : Nat → ClassId} {D : va_G} {σ : Nat → Nat} {np b0 : Nat} {M : Mc} {N : Md} {p0 : Int32} {p1 : Int32} {r : Nat ⊕ (Int32 × Mc)} (hf : fX11_rain M p0 p1 = some r) : vx_Met l yX11_rain (.code yX11_rain cX11_rain 3 (some .int) :: lw_g) (rmX 7 2) (PR Y D σ np b0 [.ref (σ 0), .int p0, .int p1] M N) (QX (fun r : Int32 × Mc => QR Y D σ np b0 (some (.int r.1)) r.2 N) r) (XX Y D σ np b0 M N r) 2 (6 * 2) (xA b0) := by
  refine x_vmet (by decide) (Nat.le_of_ble_eq_true rfl) (fun p e s m args below meth c hE hr hT => ?_)
  unfold fX11_rain at hf
  refine x_pick [0, 1, 2] (L' := [(0, .ref (σ 0)), (1, .int p0), (2, .int p1)]) rfl ?_
  refine x_iload_n hE 1 dX11_rain_0 rfl rfl ?_
  obtain ⟨y1, hc2, hy3⟩ := bnx_some hf
  refine x_callXS hE hT [.int p0] (rest := []) rfl yokX11_needZone ysX11_needZone lk_X11_90 ⟨Nat.le_of_ble_eq_true rfl, Nat.le_of_ble_eq_true rfl⟩ (by decide) rfl (Nat.le_of_ble_eq_true rfl) dX11_rain_1 (mX11_needZone l hfl hc2) ⟨rfl, rfl⟩ (by decide) (by decide) (hy3.imp id (fun ⟨_, ha4, hf⟩ => ⟨_, none, M, N, ha4, rfl, ?_⟩))
  refine x_iload_n hE 2 dX11_rain_4 rfl rfl ?_
  refine x_iconst hE (-1) dX11_rain_5 (by decide) ?_
  refine x_icmp_lt hE 20 dX11_rain_6 (by decide) hf (fun hf => ?_) (fun hf => ?_)
  · exact wX11_rain_J20 hE hr hT hfl hf
  · refine x_iload_n hE 2 dX11_rain_9 rfl rfl ?_
    refine x_sipush hE (nI 500) dX11_rain_10 (by decide) ?_
    refine x_icmp_gt hE 20 dX11_rain_13 (by decide) hf (fun hf => ?_) (fun hf => ?_)
    · exact wX11_rain_J20 hE hr hT hfl hf
    · refine x_iconst hE (nI 1) dX11_rain_16 (by decide) ?_
      refine x_goto hE 21 dX11_rain_17 (by decide) ?_
      exact wX11_rain_J21 hE hr hT hfl hf
theorem yokX11_rain : YOK yX11_rain cX11_rain 3 2 (some .int) := ⟨mem_g 865 (by decide +kernel) (by decide +kernel), mem_g 131 (by decide +kernel) (by decide +kernel), by decide +kernel, by decide +kernel, by decide +kernel⟩
theorem yvX11_rain : YV yX11_rain := ⟨mem_g 863 (by decide +kernel) (by decide +kernel), mem_g 864 (by decide +kernel) (by decide +kernel)⟩
theorem dX11_rains_0 : decode cX11_rains 0 = .ok (.iload_n 1, 1) := by decide +kernel
theorem dX11_rains_1 : decode cX11_rains 1 = .ok (.invokestatic 90, 3) := by decide +kernel
theorem dX11_rains_4 : decode cX11_rains 4 = .ok (.iload_n 2, 1) := by decide +kernel
theorem dX11_rains_5 : decode cX11_rains 5 = .ok (.ifCond .lt 26, 3) := by decide +kernel
theorem dX11_rains_8 : decode cX11_rains 8 = .ok (.iload_n 2, 1) := by decide +kernel
theorem dX11_rains_9 : decode cX11_rains 9 = .ok (.sipush 500, 3) := by decide +kernel
theorem dX11_rains_12 : decode cX11_rains 12 = .ok (.if_icmp .gt 19, 3) := by decide +kernel
theorem dX11_rains_15 : decode cX11_rains 15 = .ok (.iload_n 3, 1) := by decide +kernel
theorem dX11_rains_16 : decode cX11_rains 16 = .ok (.iconst 1, 1) := by decide +kernel
theorem dX11_rains_17 : decode cX11_rains 17 = .ok (.if_icmp .lt 14, 3) := by decide +kernel
theorem dX11_rains_20 : decode cX11_rains 20 = .ok (.iload_n 3, 1) := by decide +kernel
theorem dX11_rains_21 : decode cX11_rains 21 = .ok (.sipush 1000, 3) := by decide +kernel
theorem dX11_rains_24 : decode cX11_rains 24 = .ok (.if_icmp .gt 7, 3) := by decide +kernel
theorem dX11_rains_27 : decode cX11_rains 27 = .ok (.iconst 1, 1) := by decide +kernel
theorem dX11_rains_28 : decode cX11_rains 28 = .ok (.goto 4, 3) := by decide +kernel
theorem dX11_rains_31 : decode cX11_rains 31 = .ok (.iconst 0, 1) := by decide +kernel
theorem dX11_rains_32 : decode cX11_rains 32 = .ok (.invokestatic 76, 3) := by decide +kernel
theorem dX11_rains_35 : decode cX11_rains 35 = .ok (.aload_n 0, 1) := by decide +kernel
theorem dX11_rains_36 : decode cX11_rains 36 = .ok (.getfield 10, 3) := by decide +kernel
theorem dX11_rains_39 : decode cX11_rains 39 = .ok (.iload_n 1, 1) := by decide +kernel
theorem dX11_rains_40 : decode cX11_rains 40 = .ok (.iload_n 2, 1) := by decide +kernel
theorem dX11_rains_41 : decode cX11_rains 41 = .ok (.iload_n 3, 1) := by decide +kernel
theorem dX11_rains_42 : decode cX11_rains 42 = .ok (.invokevirtual 93, 3) := by decide +kernel
theorem dX11_rains_45 : decode cX11_rains 45 = .ok (.ireturn, 1) := by decide +kernel
theorem wX11_rains_J32 {p : Program} {l : Launch} {e : Env} {s : State} {m : MethodId} {args : Array Value} {below : List Frame} {meth : Method} {c : Code} {Y : Nat → ClassId} {D : va_G} {σ : Nat → Nat} {np b0 : Nat} {r : Nat ⊕ (Int32 × Mc)} {M : Mc} {N : Md} {X1 : Int32} {X2 : Int32} {X3 : Int32} {Z0 : Int32} (hE : EOK p s m args meth c cX11_rains 4 RX11 Y D σ np b0) (hr : meth.sig.returnType = (some .int)) (hT : ∀ x ∈ c.exceptionTable.toList, False) (hfl : l.stackTraces = false) (hf : fX11_rains_J32 M X1 X2 X3 Z0 = some r) : Xw p l e (rmX 7 2) s m args below meth c 4 Y D σ np b0 1 (6 * 1) (vx_MQ below (QX (fun r : Int32 × Mc => QR Y D σ np b0 (some (.int r.1)) r.2 N) r) (XX Y D σ np b0 M N r) args s 2 (6 * 2) (xA b0)) 32 [(0, .ref (σ 0)), (1, .int X1), (2, .int X2), (3, .int X3)] [.int Z0] M N := by
  unfold fX11_rains_J32 at hf
  obtain ⟨y5, hc6, hy7⟩ := bnx_some hf
  refine x_callXS hE hT [.int Z0] (rest := []) rfl yokX11_needThat ysX11_needThat lk_X11_76 ⟨Nat.le_of_ble_eq_true rfl, Nat.le_of_ble_eq_true rfl⟩ (by decide) rfl (Nat.le_of_ble_eq_true rfl) dX11_rains_32 (mX11_needThat l hfl hc6) ⟨rfl, rfl⟩ (by decide) (by decide) (hy7.imp id (fun ⟨_, ha8, hf⟩ => ⟨_, none, M, N, ha8, rfl, ?_⟩))
  refine x_aload_n hE 0 dX11_rains_35 rfl rfl ?_
  refine x_getR hE cl_11 (hE.kd kO_11) (by decide) 0 (1) rfl (by decide) lk_X11_10 dX11_rains_36 ?_
  refine x_iload_n hE 1 dX11_rains_39 rfl rfl ?_
  refine x_iload_n hE 2 dX11_rains_40 rfl rfl ?_
  refine x_iload_n hE 3 dX11_rains_41 rfl rfl ?_
  obtain ⟨⟨v10, M11⟩, hc9, hf⟩ := bn2_some hf
  refine x_callV1 hE [.int X1, .int X2, .int X3] (rest := []) (v := .int v10) (c1 := M11) (d1 := N) rfl yokX0_tell yvX0_tell lk_X11_93 rfl cl_0 (hE.kd kO_0) (by decide) rfl rfl ⟨Nat.le_of_ble_eq_true rfl, Nat.le_of_ble_eq_true rfl⟩ (by decide) rfl (Nat.le_of_ble_eq_true rfl) dX11_rains_42 (mX0_tell l hc9) ?_
  refine x_xin (by decide) (by decide) hf ?_
  exact x_ireturn hE (v := v10) hr rfl dX11_rains_45
theorem wX11_rains_J31 {p : Program} {l : Launch} {e : Env} {s : State} {m : MethodId} {args : Array Value} {below : List Frame} {meth : Method} {c : Code} {Y : Nat → ClassId} {D : va_G} {σ : Nat → Nat} {np b0 : Nat} {r : Nat ⊕ (Int32 × Mc)} {M : Mc} {N : Md} {X1 : Int32} {X2 : Int32} {X3 : Int32} (hE : EOK p s m args meth c cX11_rains 4 RX11 Y D σ np b0) (hr : meth.sig.returnType = (some .int)) (hT : ∀ x ∈ c.exceptionTable.toList, False) (hfl : l.stackTraces = false) (hf : fX11_rains_J31 M X1 X2 X3 = some r) : Xw p l e (rmX 7 2) s m args below meth c 4 Y D σ np b0 1 (6 * 1) (vx_MQ below (QX (fun r : Int32 × Mc => QR Y D σ np b0 (some (.int r.1)) r.2 N) r) (XX Y D σ np b0 M N r) args s 2 (6 * 2) (xA b0)) 31 [(0, .ref (σ 0)), (1, .int X1), (2, .int X2), (3, .int X3)] [] M N := by
  unfold fX11_rains_J31 at hf
  refine x_iconst hE (0 : Int32) dX11_rains_31 (by decide) ?_
  exact wX11_rains_J32 hE hr hT hfl hf
theorem mX11_rains (l : Launch) (hfl : l.stackTraces = false) {Y : Nat → ClassId} {D : va_G} {σ : Nat → Nat} {np b0 : Nat} {M : Mc} {N : Md} {p0 : Int32} {p1 : Int32} {p2 : Int32} {r : Nat ⊕ (Int32 × Mc)} (hf : fX11_rains M p0 p1 p2 = some r) : vx_Met l yX11_rains (.code yX11_rains cX11_rains 4 (some .int) :: lw_g) (rmX 7 2) (PR Y D σ np b0 [.ref (σ 0), .int p0, .int p1, .int p2] M N) (QX (fun r : Int32 × Mc => QR Y D σ np b0 (some (.int r.1)) r.2 N) r) (XX Y D σ np b0 M N r) 2 (6 * 2) (xA b0) := by
  refine x_vmet (by decide) (Nat.le_of_ble_eq_true rfl) (fun p e s m args below meth c hE hr hT => ?_)
  unfold fX11_rains at hf
  refine x_pick [0, 1, 2, 3] (L' := [(0, .ref (σ 0)), (1, .int p0), (2, .int p1), (3, .int p2)]) rfl ?_
  refine x_iload_n hE 1 dX11_rains_0 rfl rfl ?_
  obtain ⟨y1, hc2, hy3⟩ := bnx_some hf
  refine x_callXS hE hT [.int p0] (rest := []) rfl yokX11_needZone ysX11_needZone lk_X11_90 ⟨Nat.le_of_ble_eq_true rfl, Nat.le_of_ble_eq_true rfl⟩ (by decide) rfl (Nat.le_of_ble_eq_true rfl) dX11_rains_1 (mX11_needZone l hfl hc2) ⟨rfl, rfl⟩ (by decide) (by decide) (hy3.imp id (fun ⟨_, ha4, hf⟩ => ⟨_, none, M, N, ha4, rfl, ?_⟩))
  refine x_iload_n hE 2 dX11_rains_4 rfl rfl ?_
  refine x_if_lt hE 31 dX11_rains_5 (by decide) hf (fun hf => ?_) (fun hf => ?_)
  · exact wX11_rains_J31 hE hr hT hfl hf
  · refine x_iload_n hE 2 dX11_rains_8 rfl rfl ?_
    refine x_sipush hE (nI 500) dX11_rains_9 (by decide) ?_
    refine x_icmp_gt hE 31 dX11_rains_12 (by decide) hf (fun hf => ?_) (fun hf => ?_)
    · exact wX11_rains_J31 hE hr hT hfl hf
    · refine x_iload_n hE 3 dX11_rains_15 rfl rfl ?_
      refine x_iconst hE (nI 1) dX11_rains_16 (by decide) ?_
      refine x_icmp_lt hE 31 dX11_rains_17 (by decide) hf (fun hf => ?_) (fun hf => ?_)
      · exact wX11_rains_J31 hE hr hT hfl hf
      · refine x_iload_n hE 3 dX11_rains_20 rfl rfl ?_
        refine x_sipush hE (nI 1000) dX11_rains_21 (by decide) ?_
        refine x_icmp_gt hE 31 dX11_rains_24 (by decide) hf (fun hf => ?_) (fun hf => ?_)
        · exact wX11_rains_J31 hE hr hT hfl hf
        · refine x_iconst hE (nI 1) dX11_rains_27 (by decide) ?_
          refine x_goto hE 32 dX11_rains_28 (by decide) ?_
          exact wX11_rains_J32 hE hr hT hfl hf
theorem yokX11_rains : YOK yX11_rains cX11_rains 4 3 (some .int) := ⟨mem_g 879 (by decide +kernel) (by decide +kernel), mem_g 131 (by decide +kernel) (by decide +kernel), by decide +kernel, by decide +kernel, by decide +kernel⟩
theorem yvX11_rains : YV yX11_rains := ⟨mem_g 877 (by decide +kernel) (by decide +kernel), mem_g 878 (by decide +kernel) (by decide +kernel)⟩
theorem lk_X11_97 : Cond.methodLink RX11 97 yX0_rainAt ∈ lw_g := mem_g 887 (by decide +kernel) (by decide +kernel)
theorem dX11_fell_0 : decode cX11_fell 0 = .ok (.iload_n 1, 1) := by decide +kernel
theorem dX11_fell_1 : decode cX11_fell 1 = .ok (.invokestatic 90, 3) := by decide +kernel
theorem dX11_fell_4 : decode cX11_fell 4 = .ok (.iload_n 2, 1) := by decide +kernel
theorem dX11_fell_5 : decode cX11_fell 5 = .ok (.ifCond .lt 14, 3) := by decide +kernel
theorem dX11_fell_8 : decode cX11_fell 8 = .ok (.iload_n 2, 1) := by decide +kernel
theorem dX11_fell_9 : decode cX11_fell 9 = .ok (.sipush 1000, 3) := by decide +kernel
theorem dX11_fell_12 : decode cX11_fell 12 = .ok (.if_icmp .gt 7, 3) := by decide +kernel
theorem dX11_fell_15 : decode cX11_fell 15 = .ok (.iconst 1, 1) := by decide +kernel
theorem dX11_fell_16 : decode cX11_fell 16 = .ok (.goto 4, 3) := by decide +kernel
theorem dX11_fell_19 : decode cX11_fell 19 = .ok (.iconst 0, 1) := by decide +kernel
theorem dX11_fell_20 : decode cX11_fell 20 = .ok (.invokestatic 76, 3) := by decide +kernel
theorem dX11_fell_23 : decode cX11_fell 23 = .ok (.aload_n 0, 1) := by decide +kernel
theorem dX11_fell_24 : decode cX11_fell 24 = .ok (.getfield 10, 3) := by decide +kernel
theorem dX11_fell_27 : decode cX11_fell 27 = .ok (.iload_n 1, 1) := by decide +kernel
theorem dX11_fell_28 : decode cX11_fell 28 = .ok (.iload_n 2, 1) := by decide +kernel
theorem dX11_fell_29 : decode cX11_fell 29 = .ok (.invokevirtual 97, 3) := by decide +kernel
theorem dX11_fell_32 : decode cX11_fell 32 = .ok (.ireturn, 1) := by decide +kernel
theorem wX11_fell_J20 {p : Program} {l : Launch} {e : Env} {s : State} {m : MethodId} {args : Array Value} {below : List Frame} {meth : Method} {c : Code} {Y : Nat → ClassId} {D : va_G} {σ : Nat → Nat} {np b0 : Nat} {r : Nat ⊕ (Int32)} {M : Mc} {N : Md} {X1 : Int32} {X2 : Int32} {Z0 : Int32} (hE : EOK p s m args meth c cX11_fell 3 RX11 Y D σ np b0) (hr : meth.sig.returnType = (some .int)) (hT : ∀ x ∈ c.exceptionTable.toList, False) (hfl : l.stackTraces = false) (hf : fX11_fell_J20 M X1 X2 Z0 = some r) : Xw p l e (rmX 7 2) s m args below meth c 3 Y D σ np b0 1 (6 * 1) (vx_MQ below (QX (fun r : Int32 => QR Y D σ np b0 (some (.int r)) M N) r) (XX Y D σ np b0 M N r) args s 2 (6 * 2) (xA b0)) 20 [(0, .ref (σ 0)), (1, .int X1), (2, .int X2)] [.int Z0] M N := by
  unfold fX11_fell_J20 at hf
  obtain ⟨y5, hc6, hy7⟩ := bnx_some hf
  refine x_callXS hE hT [.int Z0] (rest := []) rfl yokX11_needThat ysX11_needThat lk_X11_76 ⟨Nat.le_of_ble_eq_true rfl, Nat.le_of_ble_eq_true rfl⟩ (by decide) rfl (Nat.le_of_ble_eq_true rfl) dX11_fell_20 (mX11_needThat l hfl hc6) ⟨rfl, rfl⟩ (by decide) (by decide) (hy7.imp id (fun ⟨_, ha8, hf⟩ => ⟨_, none, M, N, ha8, rfl, ?_⟩))
  refine x_aload_n hE 0 dX11_fell_23 rfl rfl ?_
  refine x_getR hE cl_11 (hE.kd kO_11) (by decide) 0 (1) rfl (by decide) lk_X11_10 dX11_fell_24 ?_
  refine x_iload_n hE 1 dX11_fell_27 rfl rfl ?_
  refine x_iload_n hE 2 dX11_fell_28 rfl rfl ?_
  obtain ⟨v10, hc9, hf⟩ := bnd_some hf
  refine x_callV1 hE [.int X1, .int X2] (rest := []) (v := .int v10) (c1 := M) (d1 := N) rfl yokX0_rainAt yvX0_rainAt lk_X11_97 rfl cl_0 (hE.kd kO_0) (by decide) rfl rfl ⟨Nat.le_of_ble_eq_true rfl, Nat.le_of_ble_eq_true rfl⟩ (by decide) rfl (Nat.le_of_ble_eq_true rfl) dX11_fell_29 (mX0_rainAt l hc9) ?_
  refine x_xin (by decide) (by decide) hf ?_
  exact x_ireturn hE (v := v10) hr rfl dX11_fell_32
theorem wX11_fell_J19 {p : Program} {l : Launch} {e : Env} {s : State} {m : MethodId} {args : Array Value} {below : List Frame} {meth : Method} {c : Code} {Y : Nat → ClassId} {D : va_G} {σ : Nat → Nat} {np b0 : Nat} {r : Nat ⊕ (Int32)} {M : Mc} {N : Md} {X1 : Int32} {X2 : Int32} (hE : EOK p s m args meth c cX11_fell 3 RX11 Y D σ np b0) (hr : meth.sig.returnType = (some .int)) (hT : ∀ x ∈ c.exceptionTable.toList, False) (hfl : l.stackTraces = false) (hf : fX11_fell_J19 M X1 X2 = some r) : Xw p l e (rmX 7 2) s m args below meth c 3 Y D σ np b0 1 (6 * 1) (vx_MQ below (QX (fun r : Int32 => QR Y D σ np b0 (some (.int r)) M N) r) (XX Y D σ np b0 M N r) args s 2 (6 * 2) (xA b0)) 19 [(0, .ref (σ 0)), (1, .int X1), (2, .int X2)] [] M N := by
  unfold fX11_fell_J19 at hf
  refine x_iconst hE (0 : Int32) dX11_fell_19 (by decide) ?_
  exact wX11_fell_J20 hE hr hT hfl hf
theorem mX11_fell (l : Launch) (hfl : l.stackTraces = false) {Y : Nat → ClassId} {D : va_G} {σ : Nat → Nat} {np b0 : Nat} {M : Mc} {N : Md} {p0 : Int32} {p1 : Int32} {r : Nat ⊕ (Int32)} (hf : fX11_fell M p0 p1 = some r) : vx_Met l yX11_fell (.code yX11_fell cX11_fell 3 (some .int) :: lw_g) (rmX 7 2) (PR Y D σ np b0 [.ref (σ 0), .int p0, .int p1] M N) (QX (fun r : Int32 => QR Y D σ np b0 (some (.int r)) M N) r) (XX Y D σ np b0 M N r) 2 (6 * 2) (xA b0) := by
  refine x_vmet (by decide) (Nat.le_of_ble_eq_true rfl) (fun p e s m args below meth c hE hr hT => ?_)
  unfold fX11_fell at hf
  refine x_pick [0, 1, 2] (L' := [(0, .ref (σ 0)), (1, .int p0), (2, .int p1)]) rfl ?_
  refine x_iload_n hE 1 dX11_fell_0 rfl rfl ?_
  obtain ⟨y1, hc2, hy3⟩ := bnx_some hf
  refine x_callXS hE hT [.int p0] (rest := []) rfl yokX11_needZone ysX11_needZone lk_X11_90 ⟨Nat.le_of_ble_eq_true rfl, Nat.le_of_ble_eq_true rfl⟩ (by decide) rfl (Nat.le_of_ble_eq_true rfl) dX11_fell_1 (mX11_needZone l hfl hc2) ⟨rfl, rfl⟩ (by decide) (by decide) (hy3.imp id (fun ⟨_, ha4, hf⟩ => ⟨_, none, M, N, ha4, rfl, ?_⟩))
  refine x_iload_n hE 2 dX11_fell_4 rfl rfl ?_
  refine x_if_lt hE 19 dX11_fell_5 (by decide) hf (fun hf => ?_) (fun hf => ?_)
  · exact wX11_fell_J19 hE hr hT hfl hf
  · refine x_iload_n hE 2 dX11_fell_8 rfl rfl ?_
    refine x_sipush hE (nI 1000) dX11_fell_9 (by decide) ?_
    refine x_icmp_gt hE 19 dX11_fell_12 (by decide) hf (fun hf => ?_) (fun hf => ?_)
    · exact wX11_fell_J19 hE hr hT hfl hf
    · refine x_iconst hE (nI 1) dX11_fell_15 (by decide) ?_
      refine x_goto hE 20 dX11_fell_16 (by decide) ?_
      exact wX11_fell_J20 hE hr hT hfl hf
theorem yokX11_fell : YOK yX11_fell cX11_fell 3 2 (some .int) := ⟨mem_g 886 (by decide +kernel) (by decide +kernel), mem_g 131 (by decide +kernel) (by decide +kernel), by decide +kernel, by decide +kernel, by decide +kernel⟩
theorem yvX11_fell : YV yX11_fell := ⟨mem_g 884 (by decide +kernel) (by decide +kernel), mem_g 885 (by decide +kernel) (by decide +kernel)⟩
theorem lk_X11_101 : Cond.methodLink RX11 101 yX4_yearsSeen ∈ lw_g := mem_g 906 (by decide +kernel) (by decide +kernel)
theorem dX11_seen_0 : decode cX11_seen 0 = .ok (.iload_n 1, 1) := by decide +kernel
theorem dX11_seen_1 : decode cX11_seen 1 = .ok (.invokestatic 90, 3) := by decide +kernel
theorem dX11_seen_4 : decode cX11_seen 4 = .ok (.aload_n 0, 1) := by decide +kernel
theorem dX11_seen_5 : decode cX11_seen 5 = .ok (.getfield 27, 3) := by decide +kernel
theorem dX11_seen_8 : decode cX11_seen 8 = .ok (.getfield 80, 3) := by decide +kernel
theorem dX11_seen_11 : decode cX11_seen 11 = .ok (.iload_n 1, 1) := by decide +kernel
theorem dX11_seen_12 : decode cX11_seen 12 = .ok (.invokevirtual 101, 3) := by decide +kernel
theorem dX11_seen_15 : decode cX11_seen 15 = .ok (.ireturn, 1) := by decide +kernel
theorem mX11_seen (l : Launch) (hfl : l.stackTraces = false) {Y : Nat → ClassId} {D : va_G} {σ : Nat → Nat} {np b0 : Nat} {M : Mc} {N : Md} {p0 : Int32} {r : Nat ⊕ (Int32)} (hf : fX11_seen M p0 = some r) : vx_Met l yX11_seen (.code yX11_seen cX11_seen 2 (some .int) :: lw_g) (rmX 7 1) (PR Y D σ np b0 [.ref (σ 0), .int p0] M N) (QX (fun r : Int32 => QR Y D σ np b0 (some (.int r)) M N) r) (XX Y D σ np b0 M N r) 1 (6 * 1) (xA b0) := by
  refine x_vmet (by decide) (Nat.le_of_ble_eq_true rfl) (fun p e s m args below meth c hE hr hT => ?_)
  unfold fX11_seen at hf
  refine x_pick [0, 1] (L' := [(0, .ref (σ 0)), (1, .int p0)]) rfl ?_
  refine x_iload_n hE 1 dX11_seen_0 rfl rfl ?_
  obtain ⟨y1, hc2, hy3⟩ := bnx_some hf
  refine x_callXS hE hT [.int p0] (rest := []) rfl yokX11_needZone ysX11_needZone lk_X11_90 ⟨Nat.le_of_ble_eq_true rfl, Nat.le_of_ble_eq_true rfl⟩ (by decide) rfl (Nat.le_of_ble_eq_true rfl) dX11_seen_1 (mX11_needZone l hfl hc2) ⟨rfl, rfl⟩ (by decide) (by decide) (hy3.imp id (fun ⟨_, ha4, hf⟩ => ⟨_, none, M, N, ha4, rfl, ?_⟩))
  refine x_aload_n hE 0 dX11_seen_4 rfl rfl ?_
  refine x_getR hE cl_11 (hE.kd kO_11) (by decide) 2 (17) rfl (by decide) lk_X11_27 dX11_seen_5 ?_
  refine x_getR hE cl_10 (hE.kd (kO_10 hI_17)) (by decide) 1 (17 + 1) rfl (by decide) lk_X11_80 dX11_seen_8 ?_
  refine x_iload_n hE 1 dX11_seen_11 rfl rfl ?_
  obtain ⟨v6, hc5, hf⟩ := bnd_some hf
  refine x_callV1 hE [.int p0] (rest := []) (v := .int v6) (c1 := M) (d1 := N) rfl yokX4_yearsSeen yvX4_yearsSeen lk_X11_101 rfl cl_4 (hE.kd (kO_4 (hL_10_1 hI_17))) (by decide) rfl rfl ⟨Nat.le_of_ble_eq_true rfl, Nat.le_of_ble_eq_true rfl⟩ (by decide) rfl (Nat.le_of_ble_eq_true rfl) dX11_seen_12 (mX4_yearsSeen l (hL_10_1 hI_17) hc5) ?_
  refine x_xin (by decide) (by decide) hf ?_
  exact x_ireturn hE (v := v6) hr rfl dX11_seen_15
theorem yokX11_seen : YOK yX11_seen cX11_seen 2 1 (some .int) := ⟨mem_g 905 (by decide +kernel) (by decide +kernel), mem_g 131 (by decide +kernel) (by decide +kernel), by decide +kernel, by decide +kernel, by decide +kernel⟩
theorem yvX11_seen : YV yX11_seen := ⟨mem_g 903 (by decide +kernel) (by decide +kernel), mem_g 904 (by decide +kernel) (by decide +kernel)⟩
theorem lk_X11_105 : Cond.methodLink RX11 105 yX4_promised ∈ lw_g := mem_g 917 (by decide +kernel) (by decide +kernel)
theorem dX11_promise_0 : decode cX11_promise 0 = .ok (.iload_n 1, 1) := by decide +kernel
theorem dX11_promise_1 : decode cX11_promise 1 = .ok (.invokestatic 72, 3) := by decide +kernel
theorem dX11_promise_4 : decode cX11_promise 4 = .ok (.aload_n 0, 1) := by decide +kernel
theorem dX11_promise_5 : decode cX11_promise 5 = .ok (.getfield 27, 3) := by decide +kernel
theorem dX11_promise_8 : decode cX11_promise 8 = .ok (.getfield 80, 3) := by decide +kernel
theorem dX11_promise_11 : decode cX11_promise 11 = .ok (.iload_n 1, 1) := by decide +kernel
theorem dX11_promise_12 : decode cX11_promise 12 = .ok (.invokevirtual 105, 3) := by decide +kernel
theorem dX11_promise_15 : decode cX11_promise 15 = .ok (.ireturn, 1) := by decide +kernel
theorem mX11_promise (l : Launch) (hfl : l.stackTraces = false) {Y : Nat → ClassId} {D : va_G} {σ : Nat → Nat} {np b0 : Nat} {M : Mc} {N : Md} {p0 : Int32} {r : Nat ⊕ (Int32)} (hf : fX11_promise M p0 = some r) : vx_Met l yX11_promise (.code yX11_promise cX11_promise 2 (some .int) :: lw_g) (rmX 7 1) (PR Y D σ np b0 [.ref (σ 0), .int p0] M N) (QX (fun r : Int32 => QR Y D σ np b0 (some (.int r)) M N) r) (XX Y D σ np b0 M N r) 1 (6 * 1) (xA b0) := by
  refine x_vmet (by decide) (Nat.le_of_ble_eq_true rfl) (fun p e s m args below meth c hE hr hT => ?_)
  unfold fX11_promise at hf
  refine x_pick [0, 1] (L' := [(0, .ref (σ 0)), (1, .int p0)]) rfl ?_
  refine x_iload_n hE 1 dX11_promise_0 rfl rfl ?_
  obtain ⟨y1, hc2, hy3⟩ := bnx_some hf
  refine x_callXS hE hT [.int p0] (rest := []) rfl yokX11_needSection ysX11_needSection lk_X11_72 ⟨Nat.le_of_ble_eq_true rfl, Nat.le_of_ble_eq_true rfl⟩ (by decide) rfl (Nat.le_of_ble_eq_true rfl) dX11_promise_1 (mX11_needSection l hfl hc2) ⟨rfl, rfl⟩ (by decide) (by decide) (hy3.imp id (fun ⟨_, ha4, hf⟩ => ⟨_, none, M, N, ha4, rfl, ?_⟩))
  refine x_aload_n hE 0 dX11_promise_4 rfl rfl ?_
  refine x_getR hE cl_11 (hE.kd kO_11) (by decide) 2 (17) rfl (by decide) lk_X11_27 dX11_promise_5 ?_
  refine x_getR hE cl_10 (hE.kd (kO_10 hI_17)) (by decide) 1 (17 + 1) rfl (by decide) lk_X11_80 dX11_promise_8 ?_
  refine x_iload_n hE 1 dX11_promise_11 rfl rfl ?_
  obtain ⟨v6, hc5, hf⟩ := bnd_some hf
  refine x_callV1 hE [.int p0] (rest := []) (v := .int v6) (c1 := M) (d1 := N) rfl yokX4_promised yvX4_promised lk_X11_105 rfl cl_4 (hE.kd (kO_4 (hL_10_1 hI_17))) (by decide) rfl rfl ⟨Nat.le_of_ble_eq_true rfl, Nat.le_of_ble_eq_true rfl⟩ (by decide) rfl (Nat.le_of_ble_eq_true rfl) dX11_promise_12 (mX4_promised l (hL_10_1 hI_17) hc5) ?_
  refine x_xin (by decide) (by decide) hf ?_
  exact x_ireturn hE (v := v6) hr rfl dX11_promise_15
theorem yokX11_promise : YOK yX11_promise cX11_promise 2 1 (some .int) := ⟨mem_g 916 (by decide +kernel) (by decide +kernel), mem_g 131 (by decide +kernel) (by decide +kernel), by decide +kernel, by decide +kernel, by decide +kernel⟩
theorem yvX11_promise : YV yX11_promise := ⟨mem_g 914 (by decide +kernel) (by decide +kernel), mem_g 915 (by decide +kernel) (by decide +kernel)⟩
theorem lk_X11_108 : Cond.methodLink RX11 108 yX4_fact ∈ lw_g := mem_g 931 (by decide +kernel) (by decide +kernel)
theorem dX11_section_0 : decode cX11_section 0 = .ok (.iload_n 1, 1) := by decide +kernel
theorem dX11_section_1 : decode cX11_section 1 = .ok (.invokestatic 72, 3) := by decide +kernel
theorem dX11_section_4 : decode cX11_section 4 = .ok (.iload_n 2, 1) := by decide +kernel
theorem dX11_section_5 : decode cX11_section 5 = .ok (.ifCond .lt 13, 3) := by decide +kernel
theorem dX11_section_8 : decode cX11_section 8 = .ok (.iload_n 2, 1) := by decide +kernel
theorem dX11_section_9 : decode cX11_section 9 = .ok (.bipush 6, 2) := by decide +kernel
theorem dX11_section_11 : decode cX11_section 11 = .ok (.if_icmp .gt 7, 3) := by decide +kernel
theorem dX11_section_14 : decode cX11_section 14 = .ok (.iconst 1, 1) := by decide +kernel
theorem dX11_section_15 : decode cX11_section 15 = .ok (.goto 4, 3) := by decide +kernel
theorem dX11_section_18 : decode cX11_section 18 = .ok (.iconst 0, 1) := by decide +kernel
theorem dX11_section_19 : decode cX11_section 19 = .ok (.invokestatic 76, 3) := by decide +kernel
theorem dX11_section_22 : decode cX11_section 22 = .ok (.aload_n 0, 1) := by decide +kernel
theorem dX11_section_23 : decode cX11_section 23 = .ok (.getfield 27, 3) := by decide +kernel
theorem dX11_section_26 : decode cX11_section 26 = .ok (.getfield 80, 3) := by decide +kernel
theorem dX11_section_29 : decode cX11_section 29 = .ok (.iload_n 1, 1) := by decide +kernel
theorem dX11_section_30 : decode cX11_section 30 = .ok (.iload_n 2, 1) := by decide +kernel
theorem dX11_section_31 : decode cX11_section 31 = .ok (.invokevirtual 108, 3) := by decide +kernel
theorem dX11_section_34 : decode cX11_section 34 = .ok (.ireturn, 1) := by decide +kernel
theorem wX11_section_J19 {p : Program} {l : Launch} {e : Env} {s : State} {m : MethodId} {args : Array Value} {below : List Frame} {meth : Method} {c : Code} {Y : Nat → ClassId} {D : va_G} {σ : Nat → Nat} {np b0 : Nat} {r : Nat ⊕ (Int32)} {M : Mc} {N : Md} {X1 : Int32} {X2 : Int32} {Z0 : Int32} (hE : EOK p s m args meth c cX11_section 3 RX11 Y D σ np b0) (hr : meth.sig.returnType = (some .int)) (hT : ∀ x ∈ c.exceptionTable.toList, False) (hfl : l.stackTraces = false) (hf : fX11_section_J19 M X1 X2 Z0 = some r) : Xw p l e (rmX 7 2) s m args below meth c 3 Y D σ np b0 1 (6 * 1) (vx_MQ below (QX (fun r : Int32 => QR Y D σ np b0 (some (.int r)) M N) r) (XX Y D σ np b0 M N r) args s 2 (6 * 2) (xA b0)) 19 [(0, .ref (σ 0)), (1, .int X1), (2, .int X2)] [.int Z0] M N := by
  unfold fX11_section_J19 at hf
  obtain ⟨y5, hc6, hy7⟩ := bnx_some hf
  refine x_callXS hE hT [.int Z0] (rest := []) rfl yokX11_needThat ysX11_needThat lk_X11_76 ⟨Nat.le_of_ble_eq_true rfl, Nat.le_of_ble_eq_true rfl⟩ (by decide) rfl (Nat.le_of_ble_eq_true rfl) dX11_section_19 (mX11_needThat l hfl hc6) ⟨rfl, rfl⟩ (by decide) (by decide) (hy7.imp id (fun ⟨_, ha8, hf⟩ => ⟨_, none, M, N, ha8, rfl, ?_⟩))
  refine x_aload_n hE 0 dX11_section_22 rfl rfl ?_
  refine x_getR hE cl_11 (hE.kd kO_11) (by decide) 2 (17) rfl (by decide) lk_X11_27 dX11_section_23 ?_
  refine x_getR hE cl_10 (hE.kd (kO_10 hI_17)) (by decide) 1 (17 + 1) rfl (by decide) lk_X11_80 dX11_section_26 ?_
  refine x_iload_n hE 1 dX11_section_29 rfl rfl ?_
  refine x_iload_n hE 2 dX11_section_30 rfl rfl ?_
  obtain ⟨v10, hc9, hf⟩ := bnd_some hf
  refine x_callV1 hE [.int X1, .int X2] (rest := []) (v := .int v10) (c1 := M) (d1 := N) rfl yokX4_fact yvX4_fact lk_X11_108 rfl cl_4 (hE.kd (kO_4 (hL_10_1 hI_17))) (by decide) rfl rfl ⟨Nat.le_of_ble_eq_true rfl, Nat.le_of_ble_eq_true rfl⟩ (by decide) rfl (Nat.le_of_ble_eq_true rfl) dX11_section_31 (mX4_fact l (hL_10_1 hI_17) hc9) ?_
  refine x_xin (by decide) (by decide) hf ?_
  exact x_ireturn hE (v := v10) hr rfl dX11_section_34
theorem wX11_section_J18 {p : Program} {l : Launch} {e : Env} {s : State} {m : MethodId} {args : Array Value} {below : List Frame} {meth : Method} {c : Code} {Y : Nat → ClassId} {D : va_G} {σ : Nat → Nat} {np b0 : Nat} {r : Nat ⊕ (Int32)} {M : Mc} {N : Md} {X1 : Int32} {X2 : Int32} (hE : EOK p s m args meth c cX11_section 3 RX11 Y D σ np b0) (hr : meth.sig.returnType = (some .int)) (hT : ∀ x ∈ c.exceptionTable.toList, False) (hfl : l.stackTraces = false) (hf : fX11_section_J18 M X1 X2 = some r) : Xw p l e (rmX 7 2) s m args below meth c 3 Y D σ np b0 1 (6 * 1) (vx_MQ below (QX (fun r : Int32 => QR Y D σ np b0 (some (.int r)) M N) r) (XX Y D σ np b0 M N r) args s 2 (6 * 2) (xA b0)) 18 [(0, .ref (σ 0)), (1, .int X1), (2, .int X2)] [] M N := by
  unfold fX11_section_J18 at hf
  refine x_iconst hE (0 : Int32) dX11_section_18 (by decide) ?_
  exact wX11_section_J19 hE hr hT hfl hf
theorem mX11_section (l : Launch) (hfl : l.stackTraces = false) {Y : Nat → ClassId} {D : va_G} {σ : Nat → Nat} {np b0 : Nat} {M : Mc} {N : Md} {p0 : Int32} {p1 : Int32} {r : Nat ⊕ (Int32)} (hf : fX11_section M p0 p1 = some r) : vx_Met l yX11_section (.code yX11_section cX11_section 3 (some .int) :: lw_g) (rmX 7 2) (PR Y D σ np b0 [.ref (σ 0), .int p0, .int p1] M N) (QX (fun r : Int32 => QR Y D σ np b0 (some (.int r)) M N) r) (XX Y D σ np b0 M N r) 2 (6 * 2) (xA b0) := by
  refine x_vmet (by decide) (Nat.le_of_ble_eq_true rfl) (fun p e s m args below meth c hE hr hT => ?_)
  unfold fX11_section at hf
  refine x_pick [0, 1, 2] (L' := [(0, .ref (σ 0)), (1, .int p0), (2, .int p1)]) rfl ?_
  refine x_iload_n hE 1 dX11_section_0 rfl rfl ?_
  obtain ⟨y1, hc2, hy3⟩ := bnx_some hf
  refine x_callXS hE hT [.int p0] (rest := []) rfl yokX11_needSection ysX11_needSection lk_X11_72 ⟨Nat.le_of_ble_eq_true rfl, Nat.le_of_ble_eq_true rfl⟩ (by decide) rfl (Nat.le_of_ble_eq_true rfl) dX11_section_1 (mX11_needSection l hfl hc2) ⟨rfl, rfl⟩ (by decide) (by decide) (hy3.imp id (fun ⟨_, ha4, hf⟩ => ⟨_, none, M, N, ha4, rfl, ?_⟩))
  refine x_iload_n hE 2 dX11_section_4 rfl rfl ?_
  refine x_if_lt hE 18 dX11_section_5 (by decide) hf (fun hf => ?_) (fun hf => ?_)
  · exact wX11_section_J18 hE hr hT hfl hf
  · refine x_iload_n hE 2 dX11_section_8 rfl rfl ?_
    refine x_bipush hE (nI 6) dX11_section_9 (by decide) ?_
    refine x_icmp_gt hE 18 dX11_section_11 (by decide) hf (fun hf => ?_) (fun hf => ?_)
    · exact wX11_section_J18 hE hr hT hfl hf
    · refine x_iconst hE (nI 1) dX11_section_14 (by decide) ?_
      refine x_goto hE 19 dX11_section_15 (by decide) ?_
      exact wX11_section_J19 hE hr hT hfl hf
theorem yokX11_section : YOK yX11_section cX11_section 3 2 (some .int) := ⟨mem_g 930 (by decide +kernel) (by decide +kernel), mem_g 131 (by decide +kernel) (by decide +kernel), by decide +kernel, by decide +kernel, by decide +kernel⟩
theorem yvX11_section : YV yX11_section := ⟨mem_g 928 (by decide +kernel) (by decide +kernel), mem_g 929 (by decide +kernel) (by decide +kernel)⟩
theorem lk_X11_111 : Cond.methodLink RX11 111 yX4_isWild ∈ lw_g := mem_g 946 (by decide +kernel) (by decide +kernel)
theorem lk_X11_115 : Cond.methodLink RX11 115 yX4_isFarm ∈ lw_g := mem_g 947 (by decide +kernel) (by decide +kernel)
theorem lk_X11_118 : Cond.methodLink RX11 118 yX4_isPasture ∈ lw_g := mem_g 951 (by decide +kernel) (by decide +kernel)
theorem lk_X11_121 : Cond.methodLink RX11 121 yX4_isHeld ∈ lw_g := mem_g 952 (by decide +kernel) (by decide +kernel)
theorem dX11_is_0 : decode cX11_is 0 = .ok (.iload_n 1, 1) := by decide +kernel
theorem dX11_is_1 : decode cX11_is 1 = .ok (.invokestatic 72, 3) := by decide +kernel
theorem dX11_is_4 : decode cX11_is 4 = .ok (.iload_n 2, 1) := by decide +kernel
theorem dX11_is_5 : decode cX11_is 5 = .ok (.ifCond .lt 12, 3) := by decide +kernel
theorem dX11_is_8 : decode cX11_is 8 = .ok (.iload_n 2, 1) := by decide +kernel
theorem dX11_is_9 : decode cX11_is 9 = .ok (.iconst 3, 1) := by decide +kernel
theorem dX11_is_10 : decode cX11_is 10 = .ok (.if_icmp .gt 7, 3) := by decide +kernel
theorem dX11_is_13 : decode cX11_is 13 = .ok (.iconst 1, 1) := by decide +kernel
theorem dX11_is_14 : decode cX11_is 14 = .ok (.goto 4, 3) := by decide +kernel
theorem dX11_is_17 : decode cX11_is 17 = .ok (.iconst 0, 1) := by decide +kernel
theorem dX11_is_18 : decode cX11_is 18 = .ok (.invokestatic 76, 3) := by decide +kernel
theorem dX11_is_21 : decode cX11_is 21 = .ok (.iload_n 2, 1) := by decide +kernel
theorem dX11_is_22 : decode cX11_is 22 = .ok (.tableswitch 70 0 2 #[26, 46, 58], 26) := by decide +kernel
theorem dX11_is_48 : decode cX11_is 48 = .ok (.aload_n 0, 1) := by decide +kernel
theorem dX11_is_49 : decode cX11_is 49 = .ok (.getfield 27, 3) := by decide +kernel
theorem dX11_is_52 : decode cX11_is 52 = .ok (.getfield 80, 3) := by decide +kernel
theorem dX11_is_55 : decode cX11_is 55 = .ok (.iload_n 1, 1) := by decide +kernel
theorem dX11_is_56 : decode cX11_is 56 = .ok (.invokevirtual 111, 3) := by decide +kernel
theorem dX11_is_59 : decode cX11_is 59 = .ok (.ifCond .ne 7, 3) := by decide +kernel
theorem dX11_is_62 : decode cX11_is 62 = .ok (.iconst 1, 1) := by decide +kernel
theorem dX11_is_63 : decode cX11_is 63 = .ok (.goto 4, 3) := by decide +kernel
theorem dX11_is_66 : decode cX11_is 66 = .ok (.iconst 0, 1) := by decide +kernel
theorem dX11_is_67 : decode cX11_is 67 = .ok (.ireturn, 1) := by decide +kernel
theorem dX11_is_68 : decode cX11_is 68 = .ok (.aload_n 0, 1) := by decide +kernel
theorem dX11_is_69 : decode cX11_is 69 = .ok (.getfield 27, 3) := by decide +kernel
theorem dX11_is_72 : decode cX11_is 72 = .ok (.getfield 80, 3) := by decide +kernel
theorem dX11_is_75 : decode cX11_is 75 = .ok (.iload_n 1, 1) := by decide +kernel
theorem dX11_is_76 : decode cX11_is 76 = .ok (.invokevirtual 115, 3) := by decide +kernel
theorem dX11_is_79 : decode cX11_is 79 = .ok (.ireturn, 1) := by decide +kernel
theorem dX11_is_80 : decode cX11_is 80 = .ok (.aload_n 0, 1) := by decide +kernel
theorem dX11_is_81 : decode cX11_is 81 = .ok (.getfield 27, 3) := by decide +kernel
theorem dX11_is_84 : decode cX11_is 84 = .ok (.getfield 80, 3) := by decide +kernel
theorem dX11_is_87 : decode cX11_is 87 = .ok (.iload_n 1, 1) := by decide +kernel
theorem dX11_is_88 : decode cX11_is 88 = .ok (.invokevirtual 118, 3) := by decide +kernel
theorem dX11_is_91 : decode cX11_is 91 = .ok (.ireturn, 1) := by decide +kernel
theorem dX11_is_92 : decode cX11_is 92 = .ok (.aload_n 0, 1) := by decide +kernel
theorem dX11_is_93 : decode cX11_is 93 = .ok (.getfield 27, 3) := by decide +kernel
theorem dX11_is_96 : decode cX11_is 96 = .ok (.getfield 80, 3) := by decide +kernel
theorem dX11_is_99 : decode cX11_is 99 = .ok (.iload_n 1, 1) := by decide +kernel
theorem dX11_is_100 : decode cX11_is 100 = .ok (.invokevirtual 121, 3) := by decide +kernel
theorem dX11_is_103 : decode cX11_is 103 = .ok (.ireturn, 1) := by decide +kernel
theorem wX11_is_J18 {p : Program} {l : Launch} {e : Env} {s : State} {m : MethodId} {args : Array Value} {below : List Frame} {meth : Method} {c : Code} {Y : Nat → ClassId} {D : va_G} {σ : Nat → Nat} {np b0 : Nat} {r : Nat ⊕ (Int32)} {M : Mc} {N : Md} {X1 : Int32} {X2 : Int32} {Z0 : Int32} (hE : EOK p s m args meth c cX11_is 3 RX11 Y D σ np b0) (hr : meth.sig.returnType = (some .boolean)) (hT : ∀ x ∈ c.exceptionTable.toList, False) (hfl : l.stackTraces = false) (hf : fX11_is_J18 M X1 X2 Z0 = some r) : Xw p l e (rmX 7 2) s m args below meth c 3 Y D σ np b0 1 (6 * 1) (vx_MQ below (QX (fun r : Int32 => QR Y D σ np b0 (some (.int r)) M N) r) (XX Y D σ np b0 M N r) args s 2 (6 * 2) (xA b0)) 18 [(0, .ref (σ 0)), (1, .int X1), (2, .int X2)] [.int Z0] M N := by
  unfold fX11_is_J18 at hf
  obtain ⟨y5, hc6, hy7⟩ := bnx_some hf
  refine x_callXS hE hT [.int Z0] (rest := []) rfl yokX11_needThat ysX11_needThat lk_X11_76 ⟨Nat.le_of_ble_eq_true rfl, Nat.le_of_ble_eq_true rfl⟩ (by decide) rfl (Nat.le_of_ble_eq_true rfl) dX11_is_18 (mX11_needThat l hfl hc6) ⟨rfl, rfl⟩ (by decide) (by decide) (hy7.imp id (fun ⟨_, ha8, hf⟩ => ⟨_, none, M, N, ha8, rfl, ?_⟩))
  refine x_iload_n hE 2 dX11_is_21 rfl rfl ?_
  refine x_swi (0) hf (fun hsw hf => ?_) (fun hsw0 hf => ?_)
  · refine x_tabI hE 48 dX11_is_22 hsw (by decide) (by decide) rfl (by decide) ?_
    refine x_aload_n hE 0 dX11_is_48 rfl rfl ?_
    refine x_getR hE cl_11 (hE.kd kO_11) (by decide) 2 (17) rfl (by decide) lk_X11_27 dX11_is_49 ?_
    refine x_getR hE cl_10 (hE.kd (kO_10 hI_17)) (by decide) 1 (17 + 1) rfl (by decide) lk_X11_80 dX11_is_52 ?_
    refine x_iload_n hE 1 dX11_is_55 rfl rfl ?_
    obtain ⟨v10, hc9, hf⟩ := bnd_some hf
    refine x_callV1 hE [.int X1] (rest := []) (v := .int v10) (c1 := M) (d1 := N) rfl yokX4_isWild yvX4_isWild lk_X11_111 rfl cl_4 (hE.kd (kO_4 (hL_10_1 hI_17))) (by decide) rfl rfl ⟨Nat.le_of_ble_eq_true rfl, Nat.le_of_ble_eq_true rfl⟩ (by decide) rfl (Nat.le_of_ble_eq_true rfl) dX11_is_56 (mX4_isWild l (hL_10_1 hI_17) hc9) ?_
    refine x_if_ne hE 66 dX11_is_59 (by decide) hf (fun hf => ?_) (fun hf => ?_)
    · refine x_iconst hE (0 : Int32) dX11_is_66 (by decide) ?_
      refine x_xin (by decide) (by decide) hf ?_
      exact x_ireturn hE (v := 0) hr rfl dX11_is_67
    · refine x_iconst hE (nI 1) dX11_is_62 (by decide) ?_
      refine x_goto hE 67 dX11_is_63 (by decide) ?_
      refine x_xin (by decide) (by decide) hf ?_
      exact x_ireturn hE (v := nI 1) hr rfl dX11_is_67
  refine x_swi (nI 1) hf (fun hsw hf => ?_) (fun hsw1 hf => ?_)
  · refine x_tabI hE 68 dX11_is_22 hsw (by decide) (by decide) rfl (by decide) ?_
    refine x_aload_n hE 0 dX11_is_68 rfl rfl ?_
    refine x_getR hE cl_11 (hE.kd kO_11) (by decide) 2 (17) rfl (by decide) lk_X11_27 dX11_is_69 ?_
    refine x_getR hE cl_10 (hE.kd (kO_10 hI_17)) (by decide) 1 (17 + 1) rfl (by decide) lk_X11_80 dX11_is_72 ?_
    refine x_iload_n hE 1 dX11_is_75 rfl rfl ?_
    obtain ⟨v12, hc11, hf⟩ := bnd_some hf
    refine x_callV1 hE [.int X1] (rest := []) (v := .int v12) (c1 := M) (d1 := N) rfl yokX4_isFarm yvX4_isFarm lk_X11_115 rfl cl_4 (hE.kd (kO_4 (hL_10_1 hI_17))) (by decide) rfl rfl ⟨Nat.le_of_ble_eq_true rfl, Nat.le_of_ble_eq_true rfl⟩ (by decide) rfl (Nat.le_of_ble_eq_true rfl) dX11_is_76 (mX4_isFarm l (hL_10_1 hI_17) hc11) ?_
    have hz := (chp_some hf).1
    replace hf := (chp_some hf).2
    refine x_xin (by decide) (by decide) hf ?_
    exact x_ireturn hE (v := v12) hr (nar_Z hz) dX11_is_79
  refine x_swi (nI 2) hf (fun hsw hf => ?_) (fun hsw2 hf => ?_)
  · refine x_tabI hE 80 dX11_is_22 hsw (by decide) (by decide) rfl (by decide) ?_
    refine x_aload_n hE 0 dX11_is_80 rfl rfl ?_
    refine x_getR hE cl_11 (hE.kd kO_11) (by decide) 2 (17) rfl (by decide) lk_X11_27 dX11_is_81 ?_
    refine x_getR hE cl_10 (hE.kd (kO_10 hI_17)) (by decide) 1 (17 + 1) rfl (by decide) lk_X11_80 dX11_is_84 ?_
    refine x_iload_n hE 1 dX11_is_87 rfl rfl ?_
    obtain ⟨v14, hc13, hf⟩ := bnd_some hf
    refine x_callV1 hE [.int X1] (rest := []) (v := .int v14) (c1 := M) (d1 := N) rfl yokX4_isPasture yvX4_isPasture lk_X11_118 rfl cl_4 (hE.kd (kO_4 (hL_10_1 hI_17))) (by decide) rfl rfl ⟨Nat.le_of_ble_eq_true rfl, Nat.le_of_ble_eq_true rfl⟩ (by decide) rfl (Nat.le_of_ble_eq_true rfl) dX11_is_88 (mX4_isPasture l (hL_10_1 hI_17) hc13) ?_
    have hz := (chp_some hf).1
    replace hf := (chp_some hf).2
    refine x_xin (by decide) (by decide) hf ?_
    exact x_ireturn hE (v := v14) hr (nar_Z hz) dX11_is_91
  refine x_tabO hE 92 dX11_is_22 (x_out 3 rfl (fun k hk => match k, hk with | 0, _ => x_ne hsw0 (by decide) | 1, _ => x_ne hsw1 (by decide) | 2, _ => x_ne hsw2 (by decide) | k + 3, hk => absurd hk (by omega))) (by decide) ?_
  refine x_aload_n hE 0 dX11_is_92 rfl rfl ?_
  refine x_getR hE cl_11 (hE.kd kO_11) (by decide) 2 (17) rfl (by decide) lk_X11_27 dX11_is_93 ?_
  refine x_getR hE cl_10 (hE.kd (kO_10 hI_17)) (by decide) 1 (17 + 1) rfl (by decide) lk_X11_80 dX11_is_96 ?_
  refine x_iload_n hE 1 dX11_is_99 rfl rfl ?_
  obtain ⟨v16, hc15, hf⟩ := bnd_some hf
  refine x_callV1 hE [.int X1] (rest := []) (v := .int v16) (c1 := M) (d1 := N) rfl yokX4_isHeld yvX4_isHeld lk_X11_121 rfl cl_4 (hE.kd (kO_4 (hL_10_1 hI_17))) (by decide) rfl rfl ⟨Nat.le_of_ble_eq_true rfl, Nat.le_of_ble_eq_true rfl⟩ (by decide) rfl (Nat.le_of_ble_eq_true rfl) dX11_is_100 (mX4_isHeld l (hL_10_1 hI_17) hc15) ?_
  have hz := (chp_some hf).1
  replace hf := (chp_some hf).2
  refine x_xin (by decide) (by decide) hf ?_
  exact x_ireturn hE (v := v16) hr (nar_Z hz) dX11_is_103
theorem wX11_is_J17 {p : Program} {l : Launch} {e : Env} {s : State} {m : MethodId} {args : Array Value} {below : List Frame} {meth : Method} {c : Code} {Y : Nat → ClassId} {D : va_G} {σ : Nat → Nat} {np b0 : Nat} {r : Nat ⊕ (Int32)} {M : Mc} {N : Md} {X1 : Int32} {X2 : Int32} (hE : EOK p s m args meth c cX11_is 3 RX11 Y D σ np b0) (hr : meth.sig.returnType = (some .boolean)) (hT : ∀ x ∈ c.exceptionTable.toList, False) (hfl : l.stackTraces = false) (hf : fX11_is_J17 M X1 X2 = some r) : Xw p l e (rmX 7 2) s m args below meth c 3 Y D σ np b0 1 (6 * 1) (vx_MQ below (QX (fun r : Int32 => QR Y D σ np b0 (some (.int r)) M N) r) (XX Y D σ np b0 M N r) args s 2 (6 * 2) (xA b0)) 17 [(0, .ref (σ 0)), (1, .int X1), (2, .int X2)] [] M N := by
  unfold fX11_is_J17 at hf
  refine x_iconst hE (0 : Int32) dX11_is_17 (by decide) ?_
  exact wX11_is_J18 hE hr hT hfl hf
theorem mX11_is (l : Launch) (hfl : l.stackTraces = false) {Y : Nat → ClassId} {D : va_G} {σ : Nat → Nat} {np b0 : Nat} {M : Mc} {N : Md} {p0 : Int32} {p1 : Int32} {r : Nat ⊕ (Int32)} (hf : fX11_is M p0 p1 = some r) : vx_Met l yX11_is (.code yX11_is cX11_is 3 (some .boolean) :: lw_g) (rmX 7 2) (PR Y D σ np b0 [.ref (σ 0), .int p0, .int p1] M N) (QX (fun r : Int32 => QR Y D σ np b0 (some (.int r)) M N) r) (XX Y D σ np b0 M N r) 2 (6 * 2) (xA b0) := by
  refine x_vmet (by decide) (Nat.le_of_ble_eq_true rfl) (fun p e s m args below meth c hE hr hT => ?_)
  unfold fX11_is at hf
  refine x_pick [0, 1, 2] (L' := [(0, .ref (σ 0)), (1, .int p0), (2, .int p1)]) rfl ?_
  refine x_iload_n hE 1 dX11_is_0 rfl rfl ?_
  obtain ⟨y1, hc2, hy3⟩ := bnx_some hf
  refine x_callXS hE hT [.int p0] (rest := []) rfl yokX11_needSection ysX11_needSection lk_X11_72 ⟨Nat.le_of_ble_eq_true rfl, Nat.le_of_ble_eq_true rfl⟩ (by decide) rfl (Nat.le_of_ble_eq_true rfl) dX11_is_1 (mX11_needSection l hfl hc2) ⟨rfl, rfl⟩ (by decide) (by decide) (hy3.imp id (fun ⟨_, ha4, hf⟩ => ⟨_, none, M, N, ha4, rfl, ?_⟩))
  refine x_iload_n hE 2 dX11_is_4 rfl rfl ?_
  refine x_if_lt hE 17 dX11_is_5 (by decide) hf (fun hf => ?_) (fun hf => ?_)
  · exact wX11_is_J17 hE hr hT hfl hf
  · refine x_iload_n hE 2 dX11_is_8 rfl rfl ?_
    refine x_iconst hE (nI 3) dX11_is_9 (by decide) ?_
    refine x_icmp_gt hE 17 dX11_is_10 (by decide) hf (fun hf => ?_) (fun hf => ?_)
    · exact wX11_is_J17 hE hr hT hfl hf
    · refine x_iconst hE (nI 1) dX11_is_13 (by decide) ?_
      refine x_goto hE 18 dX11_is_14 (by decide) ?_
      exact wX11_is_J18 hE hr hT hfl hf
theorem yokX11_is : YOK yX11_is cX11_is 3 2 (some .boolean) := ⟨mem_g 945 (by decide +kernel) (by decide +kernel), mem_g 131 (by decide +kernel) (by decide +kernel), by decide +kernel, by decide +kernel, by decide +kernel⟩
theorem yvX11_is : YV yX11_is := ⟨mem_g 943 (by decide +kernel) (by decide +kernel), mem_g 944 (by decide +kernel) (by decide +kernel)⟩
theorem lk_X11_124 : Cond.constant RX11 124 (nI 1000000) ∈ lw_g := mem_g 964 (by decide +kernel) (by decide +kernel)
theorem lk_X11_125 : Cond.fieldLink RX11 125 (TX10 2).1 (TX10 2).2.1 (TX10 2).2.2.1 ∈ lw_g := mem_g 409 (by decide +kernel) (by decide +kernel)
theorem lk_X11_129 : Cond.fieldLink RX11 129 (TX3 0).1 (TX3 0).2.1 (TX3 0).2.2.1 ∈ lw_g := mem_g 254 (by decide +kernel) (by decide +kernel)
theorem lk_X11_134 : Cond.methodLink RX11 134 yX3_add ∈ lw_g := mem_g 683 (by decide +kernel) (by decide +kernel)
theorem dX11_people_0 : decode cX11_people 0 = .ok (.iload_n 2, 1) := by decide +kernel
theorem dX11_people_1 : decode cX11_people 1 = .ok (.ifCond .lt 22, 3) := by decide +kernel
theorem dX11_people_4 : decode cX11_people 4 = .ok (.iload_n 2, 1) := by decide +kernel
theorem dX11_people_5 : decode cX11_people 5 = .ok (.iconst 3, 1) := by decide +kernel
theorem dX11_people_6 : decode cX11_people 6 = .ok (.if_icmp .gt 17, 3) := by decide +kernel
theorem dX11_people_9 : decode cX11_people 9 = .ok (.iload_n 3, 1) := by decide +kernel
theorem dX11_people_10 : decode cX11_people 10 = .ok (.ifCond .lt 13, 3) := by decide +kernel
theorem dX11_people_13 : decode cX11_people 13 = .ok (.iload_n 3, 1) := by decide +kernel
theorem dX11_people_14 : decode cX11_people 14 = .ok (.ldc 124, 2) := by decide +kernel
theorem dX11_people_16 : decode cX11_people 16 = .ok (.if_icmp .gt 7, 3) := by decide +kernel
theorem dX11_people_19 : decode cX11_people 19 = .ok (.iconst 1, 1) := by decide +kernel
theorem dX11_people_20 : decode cX11_people 20 = .ok (.goto 4, 3) := by decide +kernel
theorem dX11_people_23 : decode cX11_people 23 = .ok (.iconst 0, 1) := by decide +kernel
theorem dX11_people_24 : decode cX11_people 24 = .ok (.invokestatic 76, 3) := by decide +kernel
theorem dX11_people_27 : decode cX11_people 27 = .ok (.aload_n 0, 1) := by decide +kernel
theorem dX11_people_28 : decode cX11_people 28 = .ok (.getfield 27, 3) := by decide +kernel
theorem dX11_people_31 : decode cX11_people 31 = .ok (.getfield 125, 3) := by decide +kernel
theorem dX11_people_34 : decode cX11_people 34 = .ok (.getfield 129, 3) := by decide +kernel
theorem dX11_people_37 : decode cX11_people 37 = .ok (.istore 4, 2) := by decide +kernel
theorem dX11_people_39 : decode cX11_people 39 = .ok (.iload_n 1, 1) := by decide +kernel
theorem dX11_people_40 : decode cX11_people 40 = .ok (.bipush 100, 2) := by decide +kernel
theorem dX11_people_42 : decode cX11_people 42 = .ok (.iload 4, 2) := by decide +kernel
theorem dX11_people_44 : decode cX11_people 44 = .ok (.isub, 1) := by decide +kernel
theorem dX11_people_45 : decode cX11_people 45 = .ok (.if_icmp .le 5, 3) := by decide +kernel
theorem dX11_people_48 : decode cX11_people 48 = .ok (.iconst (-1), 1) := by decide +kernel
theorem dX11_people_49 : decode cX11_people 49 = .ok (.ireturn, 1) := by decide +kernel
theorem dX11_people_50 : decode cX11_people 50 = .ok (.iload_n 1, 1) := by decide +kernel
theorem dX11_people_51 : decode cX11_people 51 = .ok (.ifCond .ge 6, 3) := by decide +kernel
theorem dX11_people_54 : decode cX11_people 54 = .ok (.bipush (-2), 2) := by decide +kernel
theorem dX11_people_56 : decode cX11_people 56 = .ok (.ireturn, 1) := by decide +kernel
theorem dX11_people_57 : decode cX11_people 57 = .ok (.aload_n 0, 1) := by decide +kernel
theorem dX11_people_58 : decode cX11_people 58 = .ok (.getfield 27, 3) := by decide +kernel
theorem dX11_people_61 : decode cX11_people 61 = .ok (.getfield 125, 3) := by decide +kernel
theorem dX11_people_64 : decode cX11_people 64 = .ok (.iload_n 1, 1) := by decide +kernel
theorem dX11_people_65 : decode cX11_people 65 = .ok (.iload_n 2, 1) := by decide +kernel
theorem dX11_people_66 : decode cX11_people 66 = .ok (.iload_n 3, 1) := by decide +kernel
theorem dX11_people_67 : decode cX11_people 67 = .ok (.iconst (-1), 1) := by decide +kernel
theorem dX11_people_68 : decode cX11_people 68 = .ok (.invokevirtual 134, 3) := by decide +kernel
theorem dX11_people_71 : decode cX11_people 71 = .ok (.iload 4, 2) := by decide +kernel
theorem dX11_people_73 : decode cX11_people 73 = .ok (.ireturn, 1) := by decide +kernel
theorem wX11_people_J24 {p : Program} {l : Launch} {e : Env} {s : State} {m : MethodId} {args : Array Value} {below : List Frame} {meth : Method} {c : Code} {Y : Nat → ClassId} {D : va_G} {σ : Nat → Nat} {np b0 : Nat} {r : Nat ⊕ (Int32 × Mc)} {M : Mc} {N : Md} {X1 : Int32} {X2 : Int32} {X3 : Int32} {Z0 : Int32} (hE : EOK p s m args meth c cX11_people 5 RX11 Y D σ np b0) (hr : meth.sig.returnType = (some .int)) (hT : ∀ x ∈ c.exceptionTable.toList, False) (hfl : l.stackTraces = false) (hf : fX11_people_J24 M X1 X2 X3 Z0 = some r) : Xw p l e (rmX 7 1) s m args below meth c 5 Y D σ np b0 0 (6 * 0) (vx_MQ below (QX (fun r : Int32 × Mc => QR Y D σ np b0 (some (.int r.1)) r.2 N) r) (XX Y D σ np b0 M N r) args s 1 (6 * 1) (xA b0)) 24 [(0, .ref (σ 0)), (1, .int X1), (2, .int X2), (3, .int X3)] [.int Z0] M N := by
  unfold fX11_people_J24 at hf
  obtain ⟨y1, hc2, hy3⟩ := bnx_some hf
  refine x_callXS hE hT [.int Z0] (rest := []) rfl yokX11_needThat ysX11_needThat lk_X11_76 ⟨Nat.le_of_ble_eq_true rfl, Nat.le_of_ble_eq_true rfl⟩ (by decide) rfl (Nat.le_of_ble_eq_true rfl) dX11_people_24 (mX11_needThat l hfl hc2) ⟨rfl, rfl⟩ (by decide) (by decide) (hy3.imp id (fun ⟨_, ha4, hf⟩ => ⟨_, none, M, N, ha4, rfl, ?_⟩))
  refine x_aload_n hE 0 dX11_people_27 rfl rfl ?_
  refine x_getR hE cl_11 (hE.kd kO_11) (by decide) 2 (17) rfl (by decide) lk_X11_27 dX11_people_28 ?_
  refine x_getR hE cl_10 (hE.kd (kO_10 hI_17)) (by decide) 2 (17 + 15) rfl (by decide) lk_X11_125 dX11_people_31 ?_
  refine x_getI hE cl_3 (hE.kd (kO_3 (hL_10_2 hI_17))) (by decide) 0 rfl (by decide) lk_X11_129 dX11_people_34 ?_
  refine x_ltI hf (fun v5 hf => ?_)
  refine x_istore hE (L' := [(4, .int v5), (0, .ref (σ 0)), (1, .int X1), (2, .int X2), (3, .int X3)]) dX11_people_37 (by decide) rfl ?_
  refine x_pick [1, 2, 3, 4, 0] (L' := [(0, .ref (σ 0)), (1, .int X1), (2, .int X2), (3, .int X3), (4, .int v5)]) rfl ?_
  refine x_iload_n hE 1 dX11_people_39 rfl rfl ?_
  refine x_bipush hE (nI 100) dX11_people_40 (by decide) ?_
  refine x_iload hE 4 dX11_people_42 rfl ?_
  refine x_isub hE dX11_people_44 ?_
  refine x_icmp_le hE 50 dX11_people_45 (by decide) hf (fun hf => ?_) (fun hf => ?_)
  · refine x_iload_n hE 1 dX11_people_50 rfl rfl ?_
    refine x_if_ge hE 57 dX11_people_51 (by decide) hf (fun hf => ?_) (fun hf => ?_)
    · refine x_aload_n hE 0 dX11_people_57 rfl rfl ?_
      refine x_getR hE cl_11 (hE.kd kO_11) (by decide) 2 (17) rfl (by decide) lk_X11_27 dX11_people_58 ?_
      refine x_getR hE cl_10 (hE.kd (kO_10 hI_17)) (by decide) 2 (17 + 15) rfl (by decide) lk_X11_125 dX11_people_61 ?_
      refine x_iload_n hE 1 dX11_people_64 rfl rfl ?_
      refine x_iload_n hE 2 dX11_people_65 rfl rfl ?_
      refine x_iload_n hE 3 dX11_people_66 rfl rfl ?_
      refine x_iconst hE (-1) dX11_people_67 (by decide) ?_
      obtain ⟨M7, hc6, hf⟩ := bnd_some hf
      refine x_callV0 hE [.int X1, .int X2, .int X3, .int (-1)] (rest := []) (c1 := M7) (d1 := N) rfl yokX3_add yvX3_add lk_X11_134 rfl cl_3 (hE.kd (kO_3 (hL_10_2 hI_17))) (by decide) rfl rfl ⟨Nat.le_of_ble_eq_true rfl, Nat.le_of_ble_eq_true rfl⟩ (by decide) rfl (Nat.le_of_ble_eq_true rfl) dX11_people_68 (mX3_add l (hL_10_2 hI_17) hc6) ?_
      refine x_iload hE 4 dX11_people_71 rfl ?_
      refine x_xin (by decide) (by decide) hf ?_
      exact x_ireturn hE (v := v5) hr rfl dX11_people_73
    · refine x_bipush hE (-2) dX11_people_54 (by decide) ?_
      refine x_xin (by decide) (by decide) hf ?_
      exact x_ireturn hE (v := (-2)) hr rfl dX11_people_56
  · refine x_iconst hE (-1) dX11_people_48 (by decide) ?_
    refine x_xin (by decide) (by decide) hf ?_
    exact x_ireturn hE (v := (-1)) hr rfl dX11_people_49
theorem wX11_people_J23 {p : Program} {l : Launch} {e : Env} {s : State} {m : MethodId} {args : Array Value} {below : List Frame} {meth : Method} {c : Code} {Y : Nat → ClassId} {D : va_G} {σ : Nat → Nat} {np b0 : Nat} {r : Nat ⊕ (Int32 × Mc)} {M : Mc} {N : Md} {X1 : Int32} {X2 : Int32} {X3 : Int32} (hE : EOK p s m args meth c cX11_people 5 RX11 Y D σ np b0) (hr : meth.sig.returnType = (some .int)) (hT : ∀ x ∈ c.exceptionTable.toList, False) (hfl : l.stackTraces = false) (hf : fX11_people_J23 M X1 X2 X3 = some r) : Xw p l e (rmX 7 1) s m args below meth c 5 Y D σ np b0 0 (6 * 0) (vx_MQ below (QX (fun r : Int32 × Mc => QR Y D σ np b0 (some (.int r.1)) r.2 N) r) (XX Y D σ np b0 M N r) args s 1 (6 * 1) (xA b0)) 23 [(0, .ref (σ 0)), (1, .int X1), (2, .int X2), (3, .int X3)] [] M N := by
  unfold fX11_people_J23 at hf
  refine x_iconst hE (0 : Int32) dX11_people_23 (by decide) ?_
  exact wX11_people_J24 hE hr hT hfl hf
theorem mX11_people (l : Launch) (hfl : l.stackTraces = false) {Y : Nat → ClassId} {D : va_G} {σ : Nat → Nat} {np b0 : Nat} {M : Mc} {N : Md} {p0 : Int32} {p1 : Int32} {p2 : Int32} {r : Nat ⊕ (Int32 × Mc)} (hf : fX11_people M p0 p1 p2 = some r) : vx_Met l yX11_people (.code yX11_people cX11_people 5 (some .int) :: lw_g) (rmX 7 1) (PR Y D σ np b0 [.ref (σ 0), .int p0, .int p1, .int p2] M N) (QX (fun r : Int32 × Mc => QR Y D σ np b0 (some (.int r.1)) r.2 N) r) (XX Y D σ np b0 M N r) 1 (6 * 1) (xA b0) := by
  refine x_vmet (by decide) (Nat.le_of_ble_eq_true rfl) (fun p e s m args below meth c hE hr hT => ?_)
  unfold fX11_people at hf
  refine x_pick [0, 1, 2, 3] (L' := [(0, .ref (σ 0)), (1, .int p0), (2, .int p1), (3, .int p2)]) rfl ?_
  refine x_iload_n hE 2 dX11_people_0 rfl rfl ?_
  refine x_if_lt hE 23 dX11_people_1 (by decide) hf (fun hf => ?_) (fun hf => ?_)
  · exact wX11_people_J23 hE hr hT hfl hf
  · refine x_iload_n hE 2 dX11_people_4 rfl rfl ?_
    refine x_iconst hE (nI 3) dX11_people_5 (by decide) ?_
    refine x_icmp_gt hE 23 dX11_people_6 (by decide) hf (fun hf => ?_) (fun hf => ?_)
    · exact wX11_people_J23 hE hr hT hfl hf
    · refine x_iload_n hE 3 dX11_people_9 rfl rfl ?_
      refine x_if_lt hE 23 dX11_people_10 (by decide) hf (fun hf => ?_) (fun hf => ?_)
      · exact wX11_people_J23 hE hr hT hfl hf
      · refine x_iload_n hE 3 dX11_people_13 rfl rfl ?_
        refine x_ldc hE (nI 1000000) lk_X11_124 dX11_people_14 ?_
        refine x_icmp_gt hE 23 dX11_people_16 (by decide) hf (fun hf => ?_) (fun hf => ?_)
        · exact wX11_people_J23 hE hr hT hfl hf
        · refine x_iconst hE (nI 1) dX11_people_19 (by decide) ?_
          refine x_goto hE 24 dX11_people_20 (by decide) ?_
          exact wX11_people_J24 hE hr hT hfl hf
theorem yokX11_people : YOK yX11_people cX11_people 5 3 (some .int) := ⟨mem_g 963 (by decide +kernel) (by decide +kernel), mem_g 131 (by decide +kernel) (by decide +kernel), by decide +kernel, by decide +kernel, by decide +kernel⟩
theorem yvX11_people : YV yX11_people := ⟨mem_g 961 (by decide +kernel) (by decide +kernel), mem_g 962 (by decide +kernel) (by decide +kernel)⟩
theorem dX11_needPerson_0 : decode cX11_needPerson 0 = .ok (.iload_n 1, 1) := by decide +kernel
theorem dX11_needPerson_1 : decode cX11_needPerson 1 = .ok (.aload_n 0, 1) := by decide +kernel
theorem dX11_needPerson_2 : decode cX11_needPerson 2 = .ok (.getfield 27, 3) := by decide +kernel
theorem dX11_needPerson_5 : decode cX11_needPerson 5 = .ok (.getfield 125, 3) := by decide +kernel
theorem dX11_needPerson_8 : decode cX11_needPerson 8 = .ok (.getfield 129, 3) := by decide +kernel
theorem dX11_needPerson_11 : decode cX11_needPerson 11 = .ok (.invokestatic 191, 3) := by decide +kernel
theorem dX11_needPerson_14 : decode cX11_needPerson 14 = .ok (.ifCond .ne 11, 3) := by decide +kernel
theorem dX11_needPerson_17 : decode cX11_needPerson 17 = .ok (.new 195, 3) := by decide +kernel
theorem dX11_needPerson_20 : decode cX11_needPerson 20 = .ok (.dup, 1) := by decide +kernel
theorem dX11_needPerson_21 : decode cX11_needPerson 21 = .ok (.invokespecial 197, 3) := by decide +kernel
theorem dX11_needPerson_24 : decode cX11_needPerson 24 = .ok (.athrow, 1) := by decide +kernel
theorem dX11_needPerson_25 : decode cX11_needPerson 25 = .ok (.return_, 1) := by decide +kernel
theorem mX11_needPerson (l : Launch) (hfl : l.stackTraces = false) {Y : Nat → ClassId} {D : va_G} {σ : Nat → Nat} {np b0 : Nat} {M : Mc} {N : Md} {p0 : Int32} {r : Nat ⊕ (Unit)} (hf : fX11_needPerson M p0 = some r) : vx_Met l yX11_needPerson (.code yX11_needPerson cX11_needPerson 2 none :: lw_g) (rmX 6 1) (PR Y D σ np b0 [.ref (σ 0), .int p0] M N) (QX (fun r : Unit => QR Y D σ np b0 none M N) r) (XX Y D σ np b0 M N r) 1 (6 * 1) (xA b0) := by
  refine x_vmet (by decide) (Nat.le_of_ble_eq_true rfl) (fun p e s m args below meth c hE hr hT => ?_)
  unfold fX11_needPerson at hf
  refine x_pick [0, 1] (L' := [(0, .ref (σ 0)), (1, .int p0)]) rfl ?_
  refine x_iload_n hE 1 dX11_needPerson_0 rfl rfl ?_
  refine x_aload_n hE 0 dX11_needPerson_1 rfl rfl ?_
  refine x_getR hE cl_11 (hE.kd kO_11) (by decide) 2 (17) rfl (by decide) lk_X11_27 dX11_needPerson_2 ?_
  refine x_getR hE cl_10 (hE.kd (kO_10 hI_17)) (by decide) 2 (17 + 15) rfl (by decide) lk_X11_125 dX11_needPerson_5 ?_
  refine x_getI hE cl_3 (hE.kd (kO_3 (hL_10_2 hI_17))) (by decide) 0 rfl (by decide) lk_X11_129 dX11_needPerson_8 ?_
  obtain ⟨v2, hc1, hf⟩ := bnd_some hf
  refine x_callS1 hE [.int p0, .int (M (17 + 15) 0)] (rest := []) (v := .int v2) (c1 := M) (d1 := N) rfl yokX11_inside ysX11_inside lk_X11_191 rfl rfl ⟨Nat.le_of_ble_eq_true rfl, Nat.le_of_ble_eq_true rfl⟩ (by decide) rfl (Nat.le_of_ble_eq_true rfl) dX11_needPerson_11 (mX11_inside l hc1) ?_
  refine x_if_ne hE 25 dX11_needPerson_14 (by decide) hf (fun hf => ?_) (fun hf => ?_)
  · refine x_xin (by decide) (by decide) hf ?_
    exact x_vreturn hE hr dX11_needPerson_25
  · exact x_throw hE hT hfl (ik := 195) (ic := 197) ["java/lang/RuntimeException", "java/lang/Exception"] (by decide +kernel) (by decide +kernel) ak_X11_197_1 ai_X11_197_1 at_X11_197_1 ag_X11_197_1 dX11_needPerson_17 dX11_needPerson_20 dX11_needPerson_21 dX11_needPerson_24 (by decide) (by decide) (Nat.le_of_ble_eq_true rfl) (by decide) (by decide) (by decide) (by decide) hf
theorem yokX11_needPerson : YOK yX11_needPerson cX11_needPerson 2 1 none := ⟨mem_g 975 (by decide +kernel) (by decide +kernel), mem_g 131 (by decide +kernel) (by decide +kernel), by decide +kernel, by decide +kernel, by decide +kernel⟩
theorem yvX11_needPerson : YV yX11_needPerson := ⟨mem_g 974 (by decide +kernel) (by decide +kernel), mem_g 8 (by decide +kernel) (by decide +kernel)⟩
theorem lk_X11_138 : Cond.methodLink RX11 138 yX11_needPerson ∈ lw_g := mem_g 972 (by decide +kernel) (by decide +kernel)
theorem lk_X11_141 : Cond.methodLink RX11 141 yX3_fact ∈ lw_g := mem_g 976 (by decide +kernel) (by decide +kernel)
theorem dX11_person_0 : decode cX11_person 0 = .ok (.aload_n 0, 1) := by decide +kernel
theorem dX11_person_1 : decode cX11_person 1 = .ok (.iload_n 1, 1) := by decide +kernel
theorem dX11_person_2 : decode cX11_person 2 = .ok (.invokevirtual 138, 3) := by decide +kernel
theorem dX11_person_5 : decode cX11_person 5 = .ok (.iload_n 2, 1) := by decide +kernel
theorem dX11_person_6 : decode cX11_person 6 = .ok (.ifCond .lt 13, 3) := by decide +kernel
theorem dX11_person_9 : decode cX11_person 9 = .ok (.iload_n 2, 1) := by decide +kernel
theorem dX11_person_10 : decode cX11_person 10 = .ok (.bipush 8, 2) := by decide +kernel
theorem dX11_person_12 : decode cX11_person 12 = .ok (.if_icmp .gt 7, 3) := by decide +kernel
theorem dX11_person_15 : decode cX11_person 15 = .ok (.iconst 1, 1) := by decide +kernel
theorem dX11_person_16 : decode cX11_person 16 = .ok (.goto 4, 3) := by decide +kernel
theorem dX11_person_19 : decode cX11_person 19 = .ok (.iconst 0, 1) := by decide +kernel
theorem dX11_person_20 : decode cX11_person 20 = .ok (.invokestatic 76, 3) := by decide +kernel
theorem dX11_person_23 : decode cX11_person 23 = .ok (.aload_n 0, 1) := by decide +kernel
theorem dX11_person_24 : decode cX11_person 24 = .ok (.getfield 27, 3) := by decide +kernel
theorem dX11_person_27 : decode cX11_person 27 = .ok (.getfield 125, 3) := by decide +kernel
theorem dX11_person_30 : decode cX11_person 30 = .ok (.iload_n 1, 1) := by decide +kernel
theorem dX11_person_31 : decode cX11_person 31 = .ok (.iload_n 2, 1) := by decide +kernel
theorem dX11_person_32 : decode cX11_person 32 = .ok (.invokevirtual 141, 3) := by decide +kernel
theorem dX11_person_35 : decode cX11_person 35 = .ok (.ireturn, 1) := by decide +kernel
theorem wX11_person_J20 {p : Program} {l : Launch} {e : Env} {s : State} {m : MethodId} {args : Array Value} {below : List Frame} {meth : Method} {c : Code} {Y : Nat → ClassId} {D : va_G} {σ : Nat → Nat} {np b0 : Nat} {r : Nat ⊕ (Int32)} {M : Mc} {N : Md} {X1 : Int32} {X2 : Int32} {Z0 : Int32} (hE : EOK p s m args meth c cX11_person 3 RX11 Y D σ np b0) (hr : meth.sig.returnType = (some .int)) (hT : ∀ x ∈ c.exceptionTable.toList, False) (hfl : l.stackTraces = false) (hf : fX11_person_J20 M X1 X2 Z0 = some r) : Xw p l e (rmX 7 2) s m args below meth c 3 Y D σ np b0 1 (6 * 1) (vx_MQ below (QX (fun r : Int32 => QR Y D σ np b0 (some (.int r)) M N) r) (XX Y D σ np b0 M N r) args s 2 (6 * 2) (xA b0)) 20 [(0, .ref (σ 0)), (1, .int X1), (2, .int X2)] [.int Z0] M N := by
  unfold fX11_person_J20 at hf
  obtain ⟨y5, hc6, hy7⟩ := bnx_some hf
  refine x_callXS hE hT [.int Z0] (rest := []) rfl yokX11_needThat ysX11_needThat lk_X11_76 ⟨Nat.le_of_ble_eq_true rfl, Nat.le_of_ble_eq_true rfl⟩ (by decide) rfl (Nat.le_of_ble_eq_true rfl) dX11_person_20 (mX11_needThat l hfl hc6) ⟨rfl, rfl⟩ (by decide) (by decide) (hy7.imp id (fun ⟨_, ha8, hf⟩ => ⟨_, none, M, N, ha8, rfl, ?_⟩))
  refine x_aload_n hE 0 dX11_person_23 rfl rfl ?_
  refine x_getR hE cl_11 (hE.kd kO_11) (by decide) 2 (17) rfl (by decide) lk_X11_27 dX11_person_24 ?_
  refine x_getR hE cl_10 (hE.kd (kO_10 hI_17)) (by decide) 2 (17 + 15) rfl (by decide) lk_X11_125 dX11_person_27 ?_
  refine x_iload_n hE 1 dX11_person_30 rfl rfl ?_
  refine x_iload_n hE 2 dX11_person_31 rfl rfl ?_
  obtain ⟨v10, hc9, hf⟩ := bnd_some hf
  refine x_callV1 hE [.int X1, .int X2] (rest := []) (v := .int v10) (c1 := M) (d1 := N) rfl yokX3_fact yvX3_fact lk_X11_141 rfl cl_3 (hE.kd (kO_3 (hL_10_2 hI_17))) (by decide) rfl rfl ⟨Nat.le_of_ble_eq_true rfl, Nat.le_of_ble_eq_true rfl⟩ (by decide) rfl (Nat.le_of_ble_eq_true rfl) dX11_person_32 (mX3_fact l (hL_10_2 hI_17) hc9) ?_
  refine x_xin (by decide) (by decide) hf ?_
  exact x_ireturn hE (v := v10) hr rfl dX11_person_35
theorem wX11_person_J19 {p : Program} {l : Launch} {e : Env} {s : State} {m : MethodId} {args : Array Value} {below : List Frame} {meth : Method} {c : Code} {Y : Nat → ClassId} {D : va_G} {σ : Nat → Nat} {np b0 : Nat} {r : Nat ⊕ (Int32)} {M : Mc} {N : Md} {X1 : Int32} {X2 : Int32} (hE : EOK p s m args meth c cX11_person 3 RX11 Y D σ np b0) (hr : meth.sig.returnType = (some .int)) (hT : ∀ x ∈ c.exceptionTable.toList, False) (hfl : l.stackTraces = false) (hf : fX11_person_J19 M X1 X2 = some r) : Xw p l e (rmX 7 2) s m args below meth c 3 Y D σ np b0 1 (6 * 1) (vx_MQ below (QX (fun r : Int32 => QR Y D σ np b0 (some (.int r)) M N) r) (XX Y D σ np b0 M N r) args s 2 (6 * 2) (xA b0)) 19 [(0, .ref (σ 0)), (1, .int X1), (2, .int X2)] [] M N := by
  unfold fX11_person_J19 at hf
  refine x_iconst hE (0 : Int32) dX11_person_19 (by decide) ?_
  exact wX11_person_J20 hE hr hT hfl hf
theorem mX11_person (l : Launch) (hfl : l.stackTraces = false) {Y : Nat → ClassId} {D : va_G} {σ : Nat → Nat} {np b0 : Nat} {M : Mc} {N : Md} {p0 : Int32} {p1 : Int32} {r : Nat ⊕ (Int32)} (hf : fX11_person M p0 p1 = some r) : vx_Met l yX11_person (.code yX11_person cX11_person 3 (some .int) :: lw_g) (rmX 7 2) (PR Y D σ np b0 [.ref (σ 0), .int p0, .int p1] M N) (QX (fun r : Int32 => QR Y D σ np b0 (some (.int r)) M N) r) (XX Y D σ np b0 M N r) 2 (6 * 2) (xA b0) := by
  refine x_vmet (by decide) (Nat.le_of_ble_eq_true rfl) (fun p e s m args below meth c hE hr hT => ?_)
  unfold fX11_person at hf
  refine x_pick [0, 1, 2] (L' := [(0, .ref (σ 0)), (1, .int p0), (2, .int p1)]) rfl ?_
  refine x_aload_n hE 0 dX11_person_0 rfl rfl ?_
  refine x_iload_n hE 1 dX11_person_1 rfl rfl ?_
  obtain ⟨y1, hc2, hy3⟩ := bnx_some hf
  refine x_callXV hE hT [.int p0] (rest := []) rfl yokX11_needPerson yvX11_needPerson lk_X11_138 rfl cl_11 (hE.kd kO_11) (by decide) ⟨Nat.le_of_ble_eq_true rfl, Nat.le_of_ble_eq_true rfl⟩ (by decide) rfl (Nat.le_of_ble_eq_true rfl) dX11_person_2 (mX11_needPerson l hfl hc2) ⟨rfl, rfl⟩ (by decide) (by decide) (hy3.imp id (fun ⟨_, ha4, hf⟩ => ⟨_, none, M, N, ha4, rfl, ?_⟩))
  refine x_iload_n hE 2 dX11_person_5 rfl rfl ?_
  refine x_if_lt hE 19 dX11_person_6 (by decide) hf (fun hf => ?_) (fun hf => ?_)
  · exact wX11_person_J19 hE hr hT hfl hf
  · refine x_iload_n hE 2 dX11_person_9 rfl rfl ?_
    refine x_bipush hE (nI 8) dX11_person_10 (by decide) ?_
    refine x_icmp_gt hE 19 dX11_person_12 (by decide) hf (fun hf => ?_) (fun hf => ?_)
    · exact wX11_person_J19 hE hr hT hfl hf
    · refine x_iconst hE (nI 1) dX11_person_15 (by decide) ?_
      refine x_goto hE 20 dX11_person_16 (by decide) ?_
      exact wX11_person_J20 hE hr hT hfl hf
theorem yokX11_person : YOK yX11_person cX11_person 3 2 (some .int) := ⟨mem_g 971 (by decide +kernel) (by decide +kernel), mem_g 131 (by decide +kernel) (by decide +kernel), by decide +kernel, by decide +kernel, by decide +kernel⟩
theorem yvX11_person : YV yX11_person := ⟨mem_g 969 (by decide +kernel) (by decide +kernel), mem_g 970 (by decide +kernel) (by decide +kernel)⟩
theorem lk_X11_142 : Cond.fieldLink RX11 142 (TX10 3).1 (TX10 3).2.1 (TX10 3).2.2.1 ∈ lw_g := mem_g 411 (by decide +kernel) (by decide +kernel)
theorem lk_X11_146 : Cond.methodLink RX11 146 yX5_add ∈ lw_g := mem_g 987 (by decide +kernel) (by decide +kernel)
theorem dX11_party_0 : decode cX11_party 0 = .ok (.iload_n 1, 1) := by decide +kernel
theorem dX11_party_1 : decode cX11_party 1 = .ok (.iconst 1, 1) := by decide +kernel
theorem dX11_party_2 : decode cX11_party 2 = .ok (.if_icmp .lt 13, 3) := by decide +kernel
theorem dX11_party_5 : decode cX11_party 5 = .ok (.iload_n 1, 1) := by decide +kernel
theorem dX11_party_6 : decode cX11_party 6 = .ok (.bipush 9, 2) := by decide +kernel
theorem dX11_party_8 : decode cX11_party 8 = .ok (.if_icmp .gt 7, 3) := by decide +kernel
theorem dX11_party_11 : decode cX11_party 11 = .ok (.iconst 1, 1) := by decide +kernel
theorem dX11_party_12 : decode cX11_party 12 = .ok (.goto 4, 3) := by decide +kernel
theorem dX11_party_15 : decode cX11_party 15 = .ok (.iconst 0, 1) := by decide +kernel
theorem dX11_party_16 : decode cX11_party 16 = .ok (.invokestatic 76, 3) := by decide +kernel
theorem dX11_party_19 : decode cX11_party 19 = .ok (.aload_n 0, 1) := by decide +kernel
theorem dX11_party_20 : decode cX11_party 20 = .ok (.getfield 27, 3) := by decide +kernel
theorem dX11_party_23 : decode cX11_party 23 = .ok (.getfield 142, 3) := by decide +kernel
theorem dX11_party_26 : decode cX11_party 26 = .ok (.iload_n 1, 1) := by decide +kernel
theorem dX11_party_27 : decode cX11_party 27 = .ok (.invokevirtual 146, 3) := by decide +kernel
theorem dX11_party_30 : decode cX11_party 30 = .ok (.ireturn, 1) := by decide +kernel
theorem wX11_party_J16 {p : Program} {l : Launch} {e : Env} {s : State} {m : MethodId} {args : Array Value} {below : List Frame} {meth : Method} {c : Code} {Y : Nat → ClassId} {D : va_G} {σ : Nat → Nat} {np b0 : Nat} {r : Nat ⊕ (Int32 × Mc)} {M : Mc} {N : Md} {X1 : Int32} {Z0 : Int32} (hE : EOK p s m args meth c cX11_party 2 RX11 Y D σ np b0) (hr : meth.sig.returnType = (some .int)) (hT : ∀ x ∈ c.exceptionTable.toList, False) (hfl : l.stackTraces = false) (hf : fX11_party_J16 M X1 Z0 = some r) : Xw p l e (rmX 7 1) s m args below meth c 2 Y D σ np b0 0 (6 * 0) (vx_MQ below (QX (fun r : Int32 × Mc => QR Y D σ np b0 (some (.int r.1)) r.2 N) r) (XX Y D σ np b0 M N r) args s 1 (6 * 1) (xA b0)) 16 [(0, .ref (σ 0)), (1, .int X1)] [.int Z0] M N := by
  unfold fX11_party_J16 at hf
  obtain ⟨y1, hc2, hy3⟩ := bnx_some hf
  refine x_callXS hE hT [.int Z0] (rest := []) rfl yokX11_needThat ysX11_needThat lk_X11_76 ⟨Nat.le_of_ble_eq_true rfl, Nat.le_of_ble_eq_true rfl⟩ (by decide) rfl (Nat.le_of_ble_eq_true rfl) dX11_party_16 (mX11_needThat l hfl hc2) ⟨rfl, rfl⟩ (by decide) (by decide) (hy3.imp id (fun ⟨_, ha4, hf⟩ => ⟨_, none, M, N, ha4, rfl, ?_⟩))
  refine x_aload_n hE 0 dX11_party_19 rfl rfl ?_
  refine x_getR hE cl_11 (hE.kd kO_11) (by decide) 2 (17) rfl (by decide) lk_X11_27 dX11_party_20 ?_
  refine x_getR hE cl_10 (hE.kd (kO_10 hI_17)) (by decide) 3 (17 + 27) rfl (by decide) lk_X11_142 dX11_party_23 ?_
  refine x_iload_n hE 1 dX11_party_26 rfl rfl ?_
  obtain ⟨⟨v6, M7⟩, hc5, hf⟩ := bn2_some hf
  refine x_callV1 hE [.int X1] (rest := []) (v := .int v6) (c1 := M7) (d1 := N) rfl yokX5_add yvX5_add lk_X11_146 rfl cl_5 (hE.kd (kO_5 (hL_10_3 hI_17))) (by decide) rfl rfl ⟨Nat.le_of_ble_eq_true rfl, Nat.le_of_ble_eq_true rfl⟩ (by decide) rfl (Nat.le_of_ble_eq_true rfl) dX11_party_27 (mX5_add l (hL_10_3 hI_17) hc5) ?_
  refine x_xin (by decide) (by decide) hf ?_
  exact x_ireturn hE (v := v6) hr rfl dX11_party_30
theorem wX11_party_J15 {p : Program} {l : Launch} {e : Env} {s : State} {m : MethodId} {args : Array Value} {below : List Frame} {meth : Method} {c : Code} {Y : Nat → ClassId} {D : va_G} {σ : Nat → Nat} {np b0 : Nat} {r : Nat ⊕ (Int32 × Mc)} {M : Mc} {N : Md} {X1 : Int32} (hE : EOK p s m args meth c cX11_party 2 RX11 Y D σ np b0) (hr : meth.sig.returnType = (some .int)) (hT : ∀ x ∈ c.exceptionTable.toList, False) (hfl : l.stackTraces = false) (hf : fX11_party_J15 M X1 = some r) : Xw p l e (rmX 7 1) s m args below meth c 2 Y D σ np b0 0 (6 * 0) (vx_MQ below (QX (fun r : Int32 × Mc => QR Y D σ np b0 (some (.int r.1)) r.2 N) r) (XX Y D σ np b0 M N r) args s 1 (6 * 1) (xA b0)) 15 [(0, .ref (σ 0)), (1, .int X1)] [] M N := by
  unfold fX11_party_J15 at hf
  refine x_iconst hE (0 : Int32) dX11_party_15 (by decide) ?_
  exact wX11_party_J16 hE hr hT hfl hf
theorem mX11_party (l : Launch) (hfl : l.stackTraces = false) {Y : Nat → ClassId} {D : va_G} {σ : Nat → Nat} {np b0 : Nat} {M : Mc} {N : Md} {p0 : Int32} {r : Nat ⊕ (Int32 × Mc)} (hf : fX11_party M p0 = some r) : vx_Met l yX11_party (.code yX11_party cX11_party 2 (some .int) :: lw_g) (rmX 7 1) (PR Y D σ np b0 [.ref (σ 0), .int p0] M N) (QX (fun r : Int32 × Mc => QR Y D σ np b0 (some (.int r.1)) r.2 N) r) (XX Y D σ np b0 M N r) 1 (6 * 1) (xA b0) := by
  refine x_vmet (by decide) (Nat.le_of_ble_eq_true rfl) (fun p e s m args below meth c hE hr hT => ?_)
  unfold fX11_party at hf
  refine x_pick [0, 1] (L' := [(0, .ref (σ 0)), (1, .int p0)]) rfl ?_
  refine x_iload_n hE 1 dX11_party_0 rfl rfl ?_
  refine x_iconst hE (nI 1) dX11_party_1 (by decide) ?_
  refine x_icmp_lt hE 15 dX11_party_2 (by decide) hf (fun hf => ?_) (fun hf => ?_)
  · exact wX11_party_J15 hE hr hT hfl hf
  · refine x_iload_n hE 1 dX11_party_5 rfl rfl ?_
    refine x_bipush hE (nI 9) dX11_party_6 (by decide) ?_
    refine x_icmp_gt hE 15 dX11_party_8 (by decide) hf (fun hf => ?_) (fun hf => ?_)
    · exact wX11_party_J15 hE hr hT hfl hf
    · refine x_iconst hE (nI 1) dX11_party_11 (by decide) ?_
      refine x_goto hE 16 dX11_party_12 (by decide) ?_
      exact wX11_party_J16 hE hr hT hfl hf
theorem yokX11_party : YOK yX11_party cX11_party 2 1 (some .int) := ⟨mem_g 986 (by decide +kernel) (by decide +kernel), mem_g 131 (by decide +kernel) (by decide +kernel), by decide +kernel, by decide +kernel, by decide +kernel⟩
theorem yvX11_party : YV yX11_party := ⟨mem_g 984 (by decide +kernel) (by decide +kernel), mem_g 985 (by decide +kernel) (by decide +kernel)⟩
theorem lk_X11_449 : Cond.fieldLink RX11 449 (TX5 0).1 (TX5 0).2.1 (TX5 0).2.2.1 ∈ lw_g := mem_g 313 (by decide +kernel) (by decide +kernel)
theorem dX11_needParty_0 : decode cX11_needParty 0 = .ok (.iload_n 1, 1) := by decide +kernel
theorem dX11_needParty_1 : decode cX11_needParty 1 = .ok (.aload_n 0, 1) := by decide +kernel
theorem dX11_needParty_2 : decode cX11_needParty 2 = .ok (.getfield 27, 3) := by decide +kernel
theorem dX11_needParty_5 : decode cX11_needParty 5 = .ok (.getfield 142, 3) := by decide +kernel
theorem dX11_needParty_8 : decode cX11_needParty 8 = .ok (.getfield 449, 3) := by decide +kernel
theorem dX11_needParty_11 : decode cX11_needParty 11 = .ok (.invokestatic 191, 3) := by decide +kernel
theorem dX11_needParty_14 : decode cX11_needParty 14 = .ok (.ifCond .ne 11, 3) := by decide +kernel
theorem dX11_needParty_17 : decode cX11_needParty 17 = .ok (.new 195, 3) := by decide +kernel
theorem dX11_needParty_20 : decode cX11_needParty 20 = .ok (.dup, 1) := by decide +kernel
theorem dX11_needParty_21 : decode cX11_needParty 21 = .ok (.invokespecial 197, 3) := by decide +kernel
theorem dX11_needParty_24 : decode cX11_needParty 24 = .ok (.athrow, 1) := by decide +kernel
theorem dX11_needParty_25 : decode cX11_needParty 25 = .ok (.return_, 1) := by decide +kernel
theorem mX11_needParty (l : Launch) (hfl : l.stackTraces = false) {Y : Nat → ClassId} {D : va_G} {σ : Nat → Nat} {np b0 : Nat} {M : Mc} {N : Md} {p0 : Int32} {r : Nat ⊕ (Unit)} (hf : fX11_needParty M p0 = some r) : vx_Met l yX11_needParty (.code yX11_needParty cX11_needParty 2 none :: lw_g) (rmX 6 1) (PR Y D σ np b0 [.ref (σ 0), .int p0] M N) (QX (fun r : Unit => QR Y D σ np b0 none M N) r) (XX Y D σ np b0 M N r) 1 (6 * 1) (xA b0) := by
  refine x_vmet (by decide) (Nat.le_of_ble_eq_true rfl) (fun p e s m args below meth c hE hr hT => ?_)
  unfold fX11_needParty at hf
  refine x_pick [0, 1] (L' := [(0, .ref (σ 0)), (1, .int p0)]) rfl ?_
  refine x_iload_n hE 1 dX11_needParty_0 rfl rfl ?_
  refine x_aload_n hE 0 dX11_needParty_1 rfl rfl ?_
  refine x_getR hE cl_11 (hE.kd kO_11) (by decide) 2 (17) rfl (by decide) lk_X11_27 dX11_needParty_2 ?_
  refine x_getR hE cl_10 (hE.kd (kO_10 hI_17)) (by decide) 3 (17 + 27) rfl (by decide) lk_X11_142 dX11_needParty_5 ?_
  refine x_getI hE cl_5 (hE.kd (kO_5 (hL_10_3 hI_17))) (by decide) 0 rfl (by decide) lk_X11_449 dX11_needParty_8 ?_
  obtain ⟨v2, hc1, hf⟩ := bnd_some hf
  refine x_callS1 hE [.int p0, .int (M (17 + 27) 0)] (rest := []) (v := .int v2) (c1 := M) (d1 := N) rfl yokX11_inside ysX11_inside lk_X11_191 rfl rfl ⟨Nat.le_of_ble_eq_true rfl, Nat.le_of_ble_eq_true rfl⟩ (by decide) rfl (Nat.le_of_ble_eq_true rfl) dX11_needParty_11 (mX11_inside l hc1) ?_
  refine x_if_ne hE 25 dX11_needParty_14 (by decide) hf (fun hf => ?_) (fun hf => ?_)
  · refine x_xin (by decide) (by decide) hf ?_
    exact x_vreturn hE hr dX11_needParty_25
  · exact x_throw hE hT hfl (ik := 195) (ic := 197) ["java/lang/RuntimeException", "java/lang/Exception"] (by decide +kernel) (by decide +kernel) ak_X11_197_1 ai_X11_197_1 at_X11_197_1 ag_X11_197_1 dX11_needParty_17 dX11_needParty_20 dX11_needParty_21 dX11_needParty_24 (by decide) (by decide) (Nat.le_of_ble_eq_true rfl) (by decide) (by decide) (by decide) (by decide) hf
theorem yokX11_needParty : YOK yX11_needParty cX11_needParty 2 1 none := ⟨mem_g 1002 (by decide +kernel) (by decide +kernel), mem_g 131 (by decide +kernel) (by decide +kernel), by decide +kernel, by decide +kernel, by decide +kernel⟩
theorem yvX11_needParty : YV yX11_needParty := ⟨mem_g 1001 (by decide +kernel) (by decide +kernel), mem_g 9 (by decide +kernel) (by decide +kernel)⟩
theorem lk_X11_150 : Cond.methodLink RX11 150 yX11_needParty ∈ lw_g := mem_g 999 (by decide +kernel) (by decide +kernel)
theorem lk_X11_153 : Cond.methodLink RX11 153 yX5_queued ∈ lw_g := mem_g 1003 (by decide +kernel) (by decide +kernel)
theorem lk_X11_156 : Cond.methodLink RX11 156 yX5_send ∈ lw_g := mem_g 1007 (by decide +kernel) (by decide +kernel)
theorem dX11_queue_0 : decode cX11_queue 0 = .ok (.aload_n 0, 1) := by decide +kernel
theorem dX11_queue_1 : decode cX11_queue 1 = .ok (.iload_n 1, 1) := by decide +kernel
theorem dX11_queue_2 : decode cX11_queue 2 = .ok (.invokevirtual 150, 3) := by decide +kernel
theorem dX11_queue_5 : decode cX11_queue 5 = .ok (.iload_n 2, 1) := by decide +kernel
theorem dX11_queue_6 : decode cX11_queue 6 = .ok (.invokestatic 72, 3) := by decide +kernel
theorem dX11_queue_9 : decode cX11_queue 9 = .ok (.aload_n 0, 1) := by decide +kernel
theorem dX11_queue_10 : decode cX11_queue 10 = .ok (.getfield 27, 3) := by decide +kernel
theorem dX11_queue_13 : decode cX11_queue 13 = .ok (.getfield 142, 3) := by decide +kernel
theorem dX11_queue_16 : decode cX11_queue 16 = .ok (.iload_n 1, 1) := by decide +kernel
theorem dX11_queue_17 : decode cX11_queue 17 = .ok (.invokevirtual 153, 3) := by decide +kernel
theorem dX11_queue_20 : decode cX11_queue 20 = .ok (.bipush 12, 2) := by decide +kernel
theorem dX11_queue_22 : decode cX11_queue 22 = .ok (.if_icmp .lt 5, 3) := by decide +kernel
theorem dX11_queue_25 : decode cX11_queue 25 = .ok (.iconst (-1), 1) := by decide +kernel
theorem dX11_queue_26 : decode cX11_queue 26 = .ok (.ireturn, 1) := by decide +kernel
theorem dX11_queue_27 : decode cX11_queue 27 = .ok (.aload_n 0, 1) := by decide +kernel
theorem dX11_queue_28 : decode cX11_queue 28 = .ok (.getfield 27, 3) := by decide +kernel
theorem dX11_queue_31 : decode cX11_queue 31 = .ok (.getfield 80, 3) := by decide +kernel
theorem dX11_queue_34 : decode cX11_queue 34 = .ok (.iload_n 2, 1) := by decide +kernel
theorem dX11_queue_35 : decode cX11_queue 35 = .ok (.invokevirtual 111, 3) := by decide +kernel
theorem dX11_queue_38 : decode cX11_queue 38 = .ok (.ifCond .ne 6, 3) := by decide +kernel
theorem dX11_queue_41 : decode cX11_queue 41 = .ok (.bipush (-2), 2) := by decide +kernel
theorem dX11_queue_43 : decode cX11_queue 43 = .ok (.ireturn, 1) := by decide +kernel
theorem dX11_queue_44 : decode cX11_queue 44 = .ok (.aload_n 0, 1) := by decide +kernel
theorem dX11_queue_45 : decode cX11_queue 45 = .ok (.getfield 27, 3) := by decide +kernel
theorem dX11_queue_48 : decode cX11_queue 48 = .ok (.getfield 142, 3) := by decide +kernel
theorem dX11_queue_51 : decode cX11_queue 51 = .ok (.iload_n 1, 1) := by decide +kernel
theorem dX11_queue_52 : decode cX11_queue 52 = .ok (.iload_n 2, 1) := by decide +kernel
theorem dX11_queue_53 : decode cX11_queue 53 = .ok (.invokevirtual 156, 3) := by decide +kernel
theorem dX11_queue_56 : decode cX11_queue 56 = .ok (.ireturn, 1) := by decide +kernel
theorem mX11_queue (l : Launch) (hfl : l.stackTraces = false) {Y : Nat → ClassId} {D : va_G} {σ : Nat → Nat} {np b0 : Nat} {M : Mc} {N : Md} {p0 : Int32} {p1 : Int32} {r : Nat ⊕ (Int32 × Mc)} (hf : fX11_queue M p0 p1 = some r) : vx_Met l yX11_queue (.code yX11_queue cX11_queue 3 (some .int) :: lw_g) (rmX 7 2) (PR Y D σ np b0 [.ref (σ 0), .int p0, .int p1] M N) (QX (fun r : Int32 × Mc => QR Y D σ np b0 (some (.int r.1)) r.2 N) r) (XX Y D σ np b0 M N r) 2 (6 * 2) (xA b0) := by
  refine x_vmet (by decide) (Nat.le_of_ble_eq_true rfl) (fun p e s m args below meth c hE hr hT => ?_)
  unfold fX11_queue at hf
  refine x_pick [0, 1, 2] (L' := [(0, .ref (σ 0)), (1, .int p0), (2, .int p1)]) rfl ?_
  refine x_aload_n hE 0 dX11_queue_0 rfl rfl ?_
  refine x_iload_n hE 1 dX11_queue_1 rfl rfl ?_
  obtain ⟨y1, hc2, hy3⟩ := bnx_some hf
  refine x_callXV hE hT [.int p0] (rest := []) rfl yokX11_needParty yvX11_needParty lk_X11_150 rfl cl_11 (hE.kd kO_11) (by decide) ⟨Nat.le_of_ble_eq_true rfl, Nat.le_of_ble_eq_true rfl⟩ (by decide) rfl (Nat.le_of_ble_eq_true rfl) dX11_queue_2 (mX11_needParty l hfl hc2) ⟨rfl, rfl⟩ (by decide) (by decide) (hy3.imp id (fun ⟨_, ha4, hf⟩ => ⟨_, none, M, N, ha4, rfl, ?_⟩))
  refine x_iload_n hE 2 dX11_queue_5 rfl rfl ?_
  obtain ⟨y5, hc6, hy7⟩ := bnx_some hf
  refine x_callXS hE hT [.int p1] (rest := []) rfl yokX11_needSection ysX11_needSection lk_X11_72 ⟨Nat.le_of_ble_eq_true rfl, Nat.le_of_ble_eq_true rfl⟩ (by decide) rfl (Nat.le_of_ble_eq_true rfl) dX11_queue_6 (mX11_needSection l hfl hc6) ⟨rfl, rfl⟩ (by decide) (by decide) (hy7.imp id (fun ⟨_, ha8, hf⟩ => ⟨_, none, M, N, ha8, rfl, ?_⟩))
  refine x_aload_n hE 0 dX11_queue_9 rfl rfl ?_
  refine x_getR hE cl_11 (hE.kd kO_11) (by decide) 2 (17) rfl (by decide) lk_X11_27 dX11_queue_10 ?_
  refine x_getR hE cl_10 (hE.kd (kO_10 hI_17)) (by decide) 3 (17 + 27) rfl (by decide) lk_X11_142 dX11_queue_13 ?_
  refine x_iload_n hE 1 dX11_queue_16 rfl rfl ?_
  obtain ⟨v10, hc9, hf⟩ := bnd_some hf
  refine x_callV1 hE [.int p0] (rest := []) (v := .int v10) (c1 := M) (d1 := N) rfl yokX5_queued yvX5_queued lk_X11_153 rfl cl_5 (hE.kd (kO_5 (hL_10_3 hI_17))) (by decide) rfl rfl ⟨Nat.le_of_ble_eq_true rfl, Nat.le_of_ble_eq_true rfl⟩ (by decide) rfl (Nat.le_of_ble_eq_true rfl) dX11_queue_17 (mX5_queued l (hL_10_3 hI_17) hc9) ?_
  refine x_bipush hE (nI 12) dX11_queue_20 (by decide) ?_
  refine x_icmp_lt hE 27 dX11_queue_22 (by decide) hf (fun hf => ?_) (fun hf => ?_)
  · refine x_aload_n hE 0 dX11_queue_27 rfl rfl ?_
    refine x_getR hE cl_11 (hE.kd kO_11) (by decide) 2 (17) rfl (by decide) lk_X11_27 dX11_queue_28 ?_
    refine x_getR hE cl_10 (hE.kd (kO_10 hI_17)) (by decide) 1 (17 + 1) rfl (by decide) lk_X11_80 dX11_queue_31 ?_
    refine x_iload_n hE 2 dX11_queue_34 rfl rfl ?_
    obtain ⟨v12, hc11, hf⟩ := bnd_some hf
    refine x_callV1 hE [.int p1] (rest := []) (v := .int v12) (c1 := M) (d1 := N) rfl yokX4_isWild yvX4_isWild lk_X11_111 rfl cl_4 (hE.kd (kO_4 (hL_10_1 hI_17))) (by decide) rfl rfl ⟨Nat.le_of_ble_eq_true rfl, Nat.le_of_ble_eq_true rfl⟩ (by decide) rfl (Nat.le_of_ble_eq_true rfl) dX11_queue_35 (mX4_isWild l (hL_10_1 hI_17) hc11) ?_
    refine x_if_ne hE 44 dX11_queue_38 (by decide) hf (fun hf => ?_) (fun hf => ?_)
    · refine x_aload_n hE 0 dX11_queue_44 rfl rfl ?_
      refine x_getR hE cl_11 (hE.kd kO_11) (by decide) 2 (17) rfl (by decide) lk_X11_27 dX11_queue_45 ?_
      refine x_getR hE cl_10 (hE.kd (kO_10 hI_17)) (by decide) 3 (17 + 27) rfl (by decide) lk_X11_142 dX11_queue_48 ?_
      refine x_iload_n hE 1 dX11_queue_51 rfl rfl ?_
      refine x_iload_n hE 2 dX11_queue_52 rfl rfl ?_
      obtain ⟨⟨v14, M15⟩, hc13, hf⟩ := bn2_some hf
      refine x_callV1 hE [.int p0, .int p1] (rest := []) (v := .int v14) (c1 := M15) (d1 := N) rfl yokX5_send yvX5_send lk_X11_156 rfl cl_5 (hE.kd (kO_5 (hL_10_3 hI_17))) (by decide) rfl rfl ⟨Nat.le_of_ble_eq_true rfl, Nat.le_of_ble_eq_true rfl⟩ (by decide) rfl (Nat.le_of_ble_eq_true rfl) dX11_queue_53 (mX5_send l (hL_10_3 hI_17) hc13) ?_
      refine x_xin (by decide) (by decide) hf ?_
      exact x_ireturn hE (v := v14) hr rfl dX11_queue_56
    · refine x_bipush hE (-2) dX11_queue_41 (by decide) ?_
      refine x_xin (by decide) (by decide) hf ?_
      exact x_ireturn hE (v := (-2)) hr rfl dX11_queue_43
  · refine x_iconst hE (-1) dX11_queue_25 (by decide) ?_
    refine x_xin (by decide) (by decide) hf ?_
    exact x_ireturn hE (v := (-1)) hr rfl dX11_queue_26
theorem yokX11_queue : YOK yX11_queue cX11_queue 3 2 (some .int) := ⟨mem_g 998 (by decide +kernel) (by decide +kernel), mem_g 131 (by decide +kernel) (by decide +kernel), by decide +kernel, by decide +kernel, by decide +kernel⟩
theorem yvX11_queue : YV yX11_queue := ⟨mem_g 996 (by decide +kernel) (by decide +kernel), mem_g 997 (by decide +kernel) (by decide +kernel)⟩
theorem lk_X11_159 : Cond.methodLink RX11 159 yX5_place ∈ lw_g := mem_g 1018 (by decide +kernel) (by decide +kernel)
theorem lk_X11_162 : Cond.methodLink RX11 162 yX5_first ∈ lw_g := mem_g 1022 (by decide +kernel) (by decide +kernel)
theorem dX11_where_0 : decode cX11_where 0 = .ok (.aload_n 0, 1) := by decide +kernel
theorem dX11_where_1 : decode cX11_where 1 = .ok (.iload_n 1, 1) := by decide +kernel
theorem dX11_where_2 : decode cX11_where 2 = .ok (.invokevirtual 150, 3) := by decide +kernel
theorem dX11_where_5 : decode cX11_where 5 = .ok (.iload_n 2, 1) := by decide +kernel
theorem dX11_where_6 : decode cX11_where 6 = .ok (.ifCond .lt 12, 3) := by decide +kernel
theorem dX11_where_9 : decode cX11_where 9 = .ok (.iload_n 2, 1) := by decide +kernel
theorem dX11_where_10 : decode cX11_where 10 = .ok (.iconst 2, 1) := by decide +kernel
theorem dX11_where_11 : decode cX11_where 11 = .ok (.if_icmp .gt 7, 3) := by decide +kernel
theorem dX11_where_14 : decode cX11_where 14 = .ok (.iconst 1, 1) := by decide +kernel
theorem dX11_where_15 : decode cX11_where 15 = .ok (.goto 4, 3) := by decide +kernel
theorem dX11_where_18 : decode cX11_where 18 = .ok (.iconst 0, 1) := by decide +kernel
theorem dX11_where_19 : decode cX11_where 19 = .ok (.invokestatic 76, 3) := by decide +kernel
theorem dX11_where_22 : decode cX11_where 22 = .ok (.iload_n 2, 1) := by decide +kernel
theorem dX11_where_23 : decode cX11_where 23 = .ok (.lookupswitch 49 #[(0, 25), (1, 37)], 25) := by decide +kernel
theorem dX11_where_48 : decode cX11_where 48 = .ok (.aload_n 0, 1) := by decide +kernel
theorem dX11_where_49 : decode cX11_where 49 = .ok (.getfield 27, 3) := by decide +kernel
theorem dX11_where_52 : decode cX11_where 52 = .ok (.getfield 142, 3) := by decide +kernel
theorem dX11_where_55 : decode cX11_where 55 = .ok (.iload_n 1, 1) := by decide +kernel
theorem dX11_where_56 : decode cX11_where 56 = .ok (.invokevirtual 159, 3) := by decide +kernel
theorem dX11_where_59 : decode cX11_where 59 = .ok (.ireturn, 1) := by decide +kernel
theorem dX11_where_60 : decode cX11_where 60 = .ok (.aload_n 0, 1) := by decide +kernel
theorem dX11_where_61 : decode cX11_where 61 = .ok (.getfield 27, 3) := by decide +kernel
theorem dX11_where_64 : decode cX11_where 64 = .ok (.getfield 142, 3) := by decide +kernel
theorem dX11_where_67 : decode cX11_where 67 = .ok (.iload_n 1, 1) := by decide +kernel
theorem dX11_where_68 : decode cX11_where 68 = .ok (.invokevirtual 153, 3) := by decide +kernel
theorem dX11_where_71 : decode cX11_where 71 = .ok (.ireturn, 1) := by decide +kernel
theorem dX11_where_72 : decode cX11_where 72 = .ok (.aload_n 0, 1) := by decide +kernel
theorem dX11_where_73 : decode cX11_where 73 = .ok (.getfield 27, 3) := by decide +kernel
theorem dX11_where_76 : decode cX11_where 76 = .ok (.getfield 142, 3) := by decide +kernel
theorem dX11_where_79 : decode cX11_where 79 = .ok (.iload_n 1, 1) := by decide +kernel
theorem dX11_where_80 : decode cX11_where 80 = .ok (.invokevirtual 162, 3) := by decide +kernel
theorem dX11_where_83 : decode cX11_where 83 = .ok (.ireturn, 1) := by decide +kernel
theorem wX11_where_J19 {p : Program} {l : Launch} {e : Env} {s : State} {m : MethodId} {args : Array Value} {below : List Frame} {meth : Method} {c : Code} {Y : Nat → ClassId} {D : va_G} {σ : Nat → Nat} {np b0 : Nat} {r : Nat ⊕ (Int32)} {M : Mc} {N : Md} {X1 : Int32} {X2 : Int32} {Z0 : Int32} (hE : EOK p s m args meth c cX11_where 3 RX11 Y D σ np b0) (hr : meth.sig.returnType = (some .int)) (hT : ∀ x ∈ c.exceptionTable.toList, False) (hfl : l.stackTraces = false) (hf : fX11_where_J19 M X1 X2 Z0 = some r) : Xw p l e (rmX 7 2) s m args below meth c 3 Y D σ np b0 1 (6 * 1) (vx_MQ below (QX (fun r : Int32 => QR Y D σ np b0 (some (.int r)) M N) r) (XX Y D σ np b0 M N r) args s 2 (6 * 2) (xA b0)) 19 [(0, .ref (σ 0)), (1, .int X1), (2, .int X2)] [.int Z0] M N := by
  unfold fX11_where_J19 at hf
  obtain ⟨y5, hc6, hy7⟩ := bnx_some hf
  refine x_callXS hE hT [.int Z0] (rest := []) rfl yokX11_needThat ysX11_needThat lk_X11_76 ⟨Nat.le_of_ble_eq_true rfl, Nat.le_of_ble_eq_true rfl⟩ (by decide) rfl (Nat.le_of_ble_eq_true rfl) dX11_where_19 (mX11_needThat l hfl hc6) ⟨rfl, rfl⟩ (by decide) (by decide) (hy7.imp id (fun ⟨_, ha8, hf⟩ => ⟨_, none, M, N, ha8, rfl, ?_⟩))
  refine x_iload_n hE 2 dX11_where_22 rfl rfl ?_
  refine x_swi (0) hf (fun hsw hf => ?_) (fun hsw0 hf => ?_)
  · refine x_lsw hE 48 (off := 25) dX11_where_23 (by decide) (by rw [hsw]; decide) (by decide) ?_
    refine x_aload_n hE 0 dX11_where_48 rfl rfl ?_
    refine x_getR hE cl_11 (hE.kd kO_11) (by decide) 2 (17) rfl (by decide) lk_X11_27 dX11_where_49 ?_
    refine x_getR hE cl_10 (hE.kd (kO_10 hI_17)) (by decide) 3 (17 + 27) rfl (by decide) lk_X11_142 dX11_where_52 ?_
    refine x_iload_n hE 1 dX11_where_55 rfl rfl ?_
    obtain ⟨v10, hc9, hf⟩ := bnd_some hf
    refine x_callV1 hE [.int X1] (rest := []) (v := .int v10) (c1 := M) (d1 := N) rfl yokX5_place yvX5_place lk_X11_159 rfl cl_5 (hE.kd (kO_5 (hL_10_3 hI_17))) (by decide) rfl rfl ⟨Nat.le_of_ble_eq_true rfl, Nat.le_of_ble_eq_true rfl⟩ (by decide) rfl (Nat.le_of_ble_eq_true rfl) dX11_where_56 (mX5_place l (hL_10_3 hI_17) hc9) ?_
    refine x_xin (by decide) (by decide) hf ?_
    exact x_ireturn hE (v := v10) hr rfl dX11_where_59
  refine x_swi (nI 1) hf (fun hsw hf => ?_) (fun hsw1 hf => ?_)
  · refine x_lsw hE 60 (off := 37) dX11_where_23 (by decide) (by rw [hsw]; decide) (by decide) ?_
    refine x_aload_n hE 0 dX11_where_60 rfl rfl ?_
    refine x_getR hE cl_11 (hE.kd kO_11) (by decide) 2 (17) rfl (by decide) lk_X11_27 dX11_where_61 ?_
    refine x_getR hE cl_10 (hE.kd (kO_10 hI_17)) (by decide) 3 (17 + 27) rfl (by decide) lk_X11_142 dX11_where_64 ?_
    refine x_iload_n hE 1 dX11_where_67 rfl rfl ?_
    obtain ⟨v12, hc11, hf⟩ := bnd_some hf
    refine x_callV1 hE [.int X1] (rest := []) (v := .int v12) (c1 := M) (d1 := N) rfl yokX5_queued yvX5_queued lk_X11_153 rfl cl_5 (hE.kd (kO_5 (hL_10_3 hI_17))) (by decide) rfl rfl ⟨Nat.le_of_ble_eq_true rfl, Nat.le_of_ble_eq_true rfl⟩ (by decide) rfl (Nat.le_of_ble_eq_true rfl) dX11_where_68 (mX5_queued l (hL_10_3 hI_17) hc11) ?_
    refine x_xin (by decide) (by decide) hf ?_
    exact x_ireturn hE (v := v12) hr rfl dX11_where_71
  refine x_lsw hE 72 (off := 49) dX11_where_23 (by decide) (by simp [Op.lookupswitch.offset, Ne.symm (x_ne hsw0 (k := 0) (by decide)), Ne.symm (x_ne hsw1 (k := 1) (by decide))]) (by decide) ?_
  refine x_aload_n hE 0 dX11_where_72 rfl rfl ?_
  refine x_getR hE cl_11 (hE.kd kO_11) (by decide) 2 (17) rfl (by decide) lk_X11_27 dX11_where_73 ?_
  refine x_getR hE cl_10 (hE.kd (kO_10 hI_17)) (by decide) 3 (17 + 27) rfl (by decide) lk_X11_142 dX11_where_76 ?_
  refine x_iload_n hE 1 dX11_where_79 rfl rfl ?_
  obtain ⟨v14, hc13, hf⟩ := bnd_some hf
  refine x_callV1 hE [.int X1] (rest := []) (v := .int v14) (c1 := M) (d1 := N) rfl yokX5_first yvX5_first lk_X11_162 rfl cl_5 (hE.kd (kO_5 (hL_10_3 hI_17))) (by decide) rfl rfl ⟨Nat.le_of_ble_eq_true rfl, Nat.le_of_ble_eq_true rfl⟩ (by decide) rfl (Nat.le_of_ble_eq_true rfl) dX11_where_80 (mX5_first l (hL_10_3 hI_17) hc13) ?_
  refine x_xin (by decide) (by decide) hf ?_
  exact x_ireturn hE (v := v14) hr rfl dX11_where_83
theorem wX11_where_J18 {p : Program} {l : Launch} {e : Env} {s : State} {m : MethodId} {args : Array Value} {below : List Frame} {meth : Method} {c : Code} {Y : Nat → ClassId} {D : va_G} {σ : Nat → Nat} {np b0 : Nat} {r : Nat ⊕ (Int32)} {M : Mc} {N : Md} {X1 : Int32} {X2 : Int32} (hE : EOK p s m args meth c cX11_where 3 RX11 Y D σ np b0) (hr : meth.sig.returnType = (some .int)) (hT : ∀ x ∈ c.exceptionTable.toList, False) (hfl : l.stackTraces = false) (hf : fX11_where_J18 M X1 X2 = some r) : Xw p l e (rmX 7 2) s m args below meth c 3 Y D σ np b0 1 (6 * 1) (vx_MQ below (QX (fun r : Int32 => QR Y D σ np b0 (some (.int r)) M N) r) (XX Y D σ np b0 M N r) args s 2 (6 * 2) (xA b0)) 18 [(0, .ref (σ 0)), (1, .int X1), (2, .int X2)] [] M N := by
  unfold fX11_where_J18 at hf
  refine x_iconst hE (0 : Int32) dX11_where_18 (by decide) ?_
  exact wX11_where_J19 hE hr hT hfl hf
theorem mX11_where (l : Launch) (hfl : l.stackTraces = false) {Y : Nat → ClassId} {D : va_G} {σ : Nat → Nat} {np b0 : Nat} {M : Mc} {N : Md} {p0 : Int32} {p1 : Int32} {r : Nat ⊕ (Int32)} (hf : fX11_where M p0 p1 = some r) : vx_Met l yX11_where (.code yX11_where cX11_where 3 (some .int) :: lw_g) (rmX 7 2) (PR Y D σ np b0 [.ref (σ 0), .int p0, .int p1] M N) (QX (fun r : Int32 => QR Y D σ np b0 (some (.int r)) M N) r) (XX Y D σ np b0 M N r) 2 (6 * 2) (xA b0) := by
  refine x_vmet (by decide) (Nat.le_of_ble_eq_true rfl) (fun p e s m args below meth c hE hr hT => ?_)
  unfold fX11_where at hf
  refine x_pick [0, 1, 2] (L' := [(0, .ref (σ 0)), (1, .int p0), (2, .int p1)]) rfl ?_
  refine x_aload_n hE 0 dX11_where_0 rfl rfl ?_
  refine x_iload_n hE 1 dX11_where_1 rfl rfl ?_
  obtain ⟨y1, hc2, hy3⟩ := bnx_some hf
  refine x_callXV hE hT [.int p0] (rest := []) rfl yokX11_needParty yvX11_needParty lk_X11_150 rfl cl_11 (hE.kd kO_11) (by decide) ⟨Nat.le_of_ble_eq_true rfl, Nat.le_of_ble_eq_true rfl⟩ (by decide) rfl (Nat.le_of_ble_eq_true rfl) dX11_where_2 (mX11_needParty l hfl hc2) ⟨rfl, rfl⟩ (by decide) (by decide) (hy3.imp id (fun ⟨_, ha4, hf⟩ => ⟨_, none, M, N, ha4, rfl, ?_⟩))
  refine x_iload_n hE 2 dX11_where_5 rfl rfl ?_
  refine x_if_lt hE 18 dX11_where_6 (by decide) hf (fun hf => ?_) (fun hf => ?_)
  · exact wX11_where_J18 hE hr hT hfl hf
  · refine x_iload_n hE 2 dX11_where_9 rfl rfl ?_
    refine x_iconst hE (nI 2) dX11_where_10 (by decide) ?_
    refine x_icmp_gt hE 18 dX11_where_11 (by decide) hf (fun hf => ?_) (fun hf => ?_)
    · exact wX11_where_J18 hE hr hT hfl hf
    · refine x_iconst hE (nI 1) dX11_where_14 (by decide) ?_
      refine x_goto hE 19 dX11_where_15 (by decide) ?_
      exact wX11_where_J19 hE hr hT hfl hf
theorem yokX11_where : YOK yX11_where cX11_where 3 2 (some .int) := ⟨mem_g 1017 (by decide +kernel) (by decide +kernel), mem_g 131 (by decide +kernel) (by decide +kernel), by decide +kernel, by decide +kernel, by decide +kernel⟩
theorem yvX11_where : YV yX11_where := ⟨mem_g 1015 (by decide +kernel) (by decide +kernel), mem_g 1016 (by decide +kernel) (by decide +kernel)⟩
theorem lk_X11_31 : Cond.fieldLink RX11 31 (TX11 3).1 (TX11 3).2.1 (TX11 3).2.2.1 ∈ lw_g := mem_g 562 (by decide +kernel) (by decide +kernel)
theorem lk_X11_165 : Cond.methodLink RX11 165 yX10_copyFrom ∈ lw_g := mem_g 1033 (by decide +kernel) (by decide +kernel)
theorem lk_X11_169 : Cond.methodLink RX11 169 yX10_weeksTillLot ∈ lw_g := mem_g 1064 (by decide +kernel) (by decide +kernel)
theorem dX11_lot_0 : decode cX11_lot 0 = .ok (.iload_n 1, 1) := by decide +kernel
theorem dX11_lot_1 : decode cX11_lot 1 = .ok (.invokestatic 72, 3) := by decide +kernel
theorem dX11_lot_4 : decode cX11_lot 4 = .ok (.aload_n 0, 1) := by decide +kernel
theorem dX11_lot_5 : decode cX11_lot 5 = .ok (.getfield 31, 3) := by decide +kernel
theorem dX11_lot_8 : decode cX11_lot 8 = .ok (.aload_n 0, 1) := by decide +kernel
theorem dX11_lot_9 : decode cX11_lot 9 = .ok (.getfield 27, 3) := by decide +kernel
theorem dX11_lot_12 : decode cX11_lot 12 = .ok (.invokevirtual 165, 3) := by decide +kernel
theorem dX11_lot_15 : decode cX11_lot 15 = .ok (.aload_n 0, 1) := by decide +kernel
theorem dX11_lot_16 : decode cX11_lot 16 = .ok (.getfield 31, 3) := by decide +kernel
theorem dX11_lot_19 : decode cX11_lot 19 = .ok (.iload_n 1, 1) := by decide +kernel
theorem dX11_lot_20 : decode cX11_lot 20 = .ok (.invokevirtual 169, 3) := by decide +kernel
theorem dX11_lot_23 : decode cX11_lot 23 = .ok (.ireturn, 1) := by decide +kernel
theorem mX11_lot (l : Launch) (hfl : l.stackTraces = false) {Y : Nat → ClassId} {D : va_G} {σ : Nat → Nat} {np b0 : Nat} {M : Mc} {N : Md} {p0 : Int32} {r : Nat ⊕ (Int32 × Mc)} (hf : fX11_lot M p0 = some r) : vx_Met l yX11_lot (.code yX11_lot cX11_lot 2 (some .int) :: lw_g) (rmX 7 1) (PR Y D σ np b0 [.ref (σ 0), .int p0] M N) (QX (fun r : Int32 × Mc => QR Y D σ np b0 (some (.int r.1)) r.2 N) r) (XX Y D σ np b0 M N r) 1 (6 * 1) (xA b0) := by
  refine x_vmet (by decide) (Nat.le_of_ble_eq_true rfl) (fun p e s m args below meth c hE hr hT => ?_)
  unfold fX11_lot at hf
  refine x_pick [0, 1] (L' := [(0, .ref (σ 0)), (1, .int p0)]) rfl ?_
  refine x_iload_n hE 1 dX11_lot_0 rfl rfl ?_
  obtain ⟨y1, hc2, hy3⟩ := bnx_some hf
  refine x_callXS hE hT [.int p0] (rest := []) rfl yokX11_needSection ysX11_needSection lk_X11_72 ⟨Nat.le_of_ble_eq_true rfl, Nat.le_of_ble_eq_true rfl⟩ (by decide) rfl (Nat.le_of_ble_eq_true rfl) dX11_lot_1 (mX11_needSection l hfl hc2) ⟨rfl, rfl⟩ (by decide) (by decide) (hy3.imp id (fun ⟨_, ha4, hf⟩ => ⟨_, none, M, N, ha4, rfl, ?_⟩))
  refine x_aload_n hE 0 dX11_lot_4 rfl rfl ?_
  refine x_getR hE cl_11 (hE.kd kO_11) (by decide) 3 (64) rfl (by decide) lk_X11_31 dX11_lot_5 ?_
  refine x_aload_n hE 0 dX11_lot_8 rfl rfl ?_
  refine x_getR hE cl_11 (hE.kd kO_11) (by decide) 2 (17) rfl (by decide) lk_X11_27 dX11_lot_9 ?_
  obtain ⟨M6, hc5, hf⟩ := bnd_some hf
  refine x_callV0 hE [.ref (σ (17))] (rest := []) (c1 := M6) (d1 := N) rfl yokX10_copyFrom yvX10_copyFrom lk_X11_165 rfl cl_10 (hE.kd (kO_10 hI_64)) (by decide) rfl rfl ⟨Nat.le_of_ble_eq_true rfl, Nat.le_of_ble_eq_true rfl⟩ (by decide) rfl (Nat.le_of_ble_eq_true rfl) dX11_lot_12 (mX10_copyFrom l hI_64 hI_17 hc5) ?_
  refine x_aload_n hE 0 dX11_lot_15 rfl rfl ?_
  refine x_getR hE cl_11 (hE.kd kO_11) (by decide) 3 (64) rfl (by decide) lk_X11_31 dX11_lot_16 ?_
  refine x_iload_n hE 1 dX11_lot_19 rfl rfl ?_
  obtain ⟨⟨v8, M9⟩, hc7, hf⟩ := bn2_some hf
  refine x_callV1 hE [.int p0] (rest := []) (v := .int v8) (c1 := M9) (d1 := N) rfl yokX10_weeksTillLot yvX10_weeksTillLot lk_X11_169 rfl cl_10 (hE.kd (kO_10 hI_64)) (by decide) rfl rfl ⟨Nat.le_of_ble_eq_true rfl, Nat.le_of_ble_eq_true rfl⟩ (by decide) rfl (Nat.le_of_ble_eq_true rfl) dX11_lot_20 (mX10_weeksTillLot l hI_64 hc7) ?_
  refine x_xin (by decide) (by decide) hf ?_
  exact x_ireturn hE (v := v8) hr rfl dX11_lot_23
theorem yokX11_lot : YOK yX11_lot cX11_lot 2 1 (some .int) := ⟨mem_g 1032 (by decide +kernel) (by decide +kernel), mem_g 131 (by decide +kernel) (by decide +kernel), by decide +kernel, by decide +kernel, by decide +kernel⟩
theorem yvX11_lot : YV yX11_lot := ⟨mem_g 1030 (by decide +kernel) (by decide +kernel), mem_g 1031 (by decide +kernel) (by decide +kernel)⟩
theorem lk_X11_172 : Cond.methodLink RX11 172 yX3_isHere ∈ lw_g := mem_g 1102 (by decide +kernel) (by decide +kernel)
theorem lk_X11_37 : Cond.fieldLink RX11 37 (TX11 4).1 (TX11 4).2.1 (TX11 4).2.2.1 ∈ lw_g := mem_g 563 (by decide +kernel) (by decide +kernel)
theorem lk_X11_175 : Cond.methodLink RX11 175 yX9_has ∈ lw_g := mem_g 1106 (by decide +kernel) (by decide +kernel)
theorem lk_X11_178 : Cond.methodLink RX11 178 yX9_isAsking ∈ lw_g := mem_g 1110 (by decide +kernel) (by decide +kernel)
theorem lk_X11_181 : Cond.methodLink RX11 181 yX9_hear ∈ lw_g := mem_g 1114 (by decide +kernel) (by decide +kernel)
theorem dX11_ask_0 : decode cX11_ask 0 = .ok (.aload_n 0, 1) := by decide +kernel
theorem dX11_ask_1 : decode cX11_ask 1 = .ok (.iload_n 1, 1) := by decide +kernel
theorem dX11_ask_2 : decode cX11_ask 2 = .ok (.invokevirtual 138, 3) := by decide +kernel
theorem dX11_ask_5 : decode cX11_ask 5 = .ok (.aload_n 0, 1) := by decide +kernel
theorem dX11_ask_6 : decode cX11_ask 6 = .ok (.getfield 27, 3) := by decide +kernel
theorem dX11_ask_9 : decode cX11_ask 9 = .ok (.getfield 125, 3) := by decide +kernel
theorem dX11_ask_12 : decode cX11_ask 12 = .ok (.iload_n 1, 1) := by decide +kernel
theorem dX11_ask_13 : decode cX11_ask 13 = .ok (.invokevirtual 172, 3) := by decide +kernel
theorem dX11_ask_16 : decode cX11_ask 16 = .ok (.ifCond .ne 5, 3) := by decide +kernel
theorem dX11_ask_19 : decode cX11_ask 19 = .ok (.iconst (-1), 1) := by decide +kernel
theorem dX11_ask_20 : decode cX11_ask 20 = .ok (.ireturn, 1) := by decide +kernel
theorem dX11_ask_21 : decode cX11_ask 21 = .ok (.aload_n 0, 1) := by decide +kernel
theorem dX11_ask_22 : decode cX11_ask 22 = .ok (.getfield 37, 3) := by decide +kernel
theorem dX11_ask_25 : decode cX11_ask 25 = .ok (.iload_n 1, 1) := by decide +kernel
theorem dX11_ask_26 : decode cX11_ask 26 = .ok (.invokevirtual 175, 3) := by decide +kernel
theorem dX11_ask_29 : decode cX11_ask 29 = .ok (.ifCond .ne 14, 3) := by decide +kernel
theorem dX11_ask_32 : decode cX11_ask 32 = .ok (.aload_n 0, 1) := by decide +kernel
theorem dX11_ask_33 : decode cX11_ask 33 = .ok (.getfield 37, 3) := by decide +kernel
theorem dX11_ask_36 : decode cX11_ask 36 = .ok (.iload_n 1, 1) := by decide +kernel
theorem dX11_ask_37 : decode cX11_ask 37 = .ok (.invokevirtual 178, 3) := by decide +kernel
theorem dX11_ask_40 : decode cX11_ask 40 = .ok (.ifCond .eq 6, 3) := by decide +kernel
theorem dX11_ask_43 : decode cX11_ask 43 = .ok (.bipush (-2), 2) := by decide +kernel
theorem dX11_ask_45 : decode cX11_ask 45 = .ok (.ireturn, 1) := by decide +kernel
theorem dX11_ask_46 : decode cX11_ask 46 = .ok (.aload_n 0, 1) := by decide +kernel
theorem dX11_ask_47 : decode cX11_ask 47 = .ok (.getfield 37, 3) := by decide +kernel
theorem dX11_ask_50 : decode cX11_ask 50 = .ok (.iload_n 1, 1) := by decide +kernel
theorem dX11_ask_51 : decode cX11_ask 51 = .ok (.invokevirtual 181, 3) := by decide +kernel
theorem dX11_ask_54 : decode cX11_ask 54 = .ok (.ireturn, 1) := by decide +kernel
theorem mX11_ask (l : Launch) (hfl : l.stackTraces = false) {Y : Nat → ClassId} {D : va_G} {σ : Nat → Nat} {np b0 : Nat} {M : Mc} {N : Md} {p0 : Int32} {r : Nat ⊕ (Int32 × Mc)} (hf : fX11_ask M p0 = some r) : vx_Met l yX11_ask (.code yX11_ask cX11_ask 2 (some .int) :: lw_g) (rmX 7 1) (PR Y D σ np b0 [.ref (σ 0), .int p0] M N) (QX (fun r : Int32 × Mc => QR Y D σ np b0 (some (.int r.1)) r.2 N) r) (XX Y D σ np b0 M N r) 1 (6 * 1) (xA b0) := by
  refine x_vmet (by decide) (Nat.le_of_ble_eq_true rfl) (fun p e s m args below meth c hE hr hT => ?_)
  unfold fX11_ask at hf
  refine x_pick [0, 1] (L' := [(0, .ref (σ 0)), (1, .int p0)]) rfl ?_
  refine x_aload_n hE 0 dX11_ask_0 rfl rfl ?_
  refine x_iload_n hE 1 dX11_ask_1 rfl rfl ?_
  obtain ⟨y1, hc2, hy3⟩ := bnx_some hf
  refine x_callXV hE hT [.int p0] (rest := []) rfl yokX11_needPerson yvX11_needPerson lk_X11_138 rfl cl_11 (hE.kd kO_11) (by decide) ⟨Nat.le_of_ble_eq_true rfl, Nat.le_of_ble_eq_true rfl⟩ (by decide) rfl (Nat.le_of_ble_eq_true rfl) dX11_ask_2 (mX11_needPerson l hfl hc2) ⟨rfl, rfl⟩ (by decide) (by decide) (hy3.imp id (fun ⟨_, ha4, hf⟩ => ⟨_, none, M, N, ha4, rfl, ?_⟩))
  refine x_aload_n hE 0 dX11_ask_5 rfl rfl ?_
  refine x_getR hE cl_11 (hE.kd kO_11) (by decide) 2 (17) rfl (by decide) lk_X11_27 dX11_ask_6 ?_
  refine x_getR hE cl_10 (hE.kd (kO_10 hI_17)) (by decide) 2 (17 + 15) rfl (by decide) lk_X11_125 dX11_ask_9 ?_
  refine x_iload_n hE 1 dX11_ask_12 rfl rfl ?_
  obtain ⟨v6, hc5, hf⟩ := bnd_some hf
  refine x_callV1 hE [.int p0] (rest := []) (v := .int v6) (c1 := M) (d1 := N) rfl yokX3_isHere yvX3_isHere lk_X11_172 rfl cl_3 (hE.kd (kO_3 (hL_10_2 hI_17))) (by decide) rfl rfl ⟨Nat.le_of_ble_eq_true rfl, Nat.le_of_ble_eq_true rfl⟩ (by decide) rfl (Nat.le_of_ble_eq_true rfl) dX11_ask_13 (mX3_isHere l (hL_10_2 hI_17) hc5) ?_
  refine x_if_ne hE 21 dX11_ask_16 (by decide) hf (fun hf => ?_) (fun hf => ?_)
  · refine x_aload_n hE 0 dX11_ask_21 rfl rfl ?_
    refine x_getR hE cl_11 (hE.kd kO_11) (by decide) 4 (111) rfl (by decide) lk_X11_37 dX11_ask_22 ?_
    refine x_iload_n hE 1 dX11_ask_25 rfl rfl ?_
    obtain ⟨v8, hc7, hf⟩ := bnd_some hf
    refine x_callV1 hE [.int p0] (rest := []) (v := .int v8) (c1 := M) (d1 := N) rfl yokX9_has yvX9_has lk_X11_175 rfl cl_9 (hE.kd kO_9) (by decide) rfl rfl ⟨Nat.le_of_ble_eq_true rfl, Nat.le_of_ble_eq_true rfl⟩ (by decide) rfl (Nat.le_of_ble_eq_true rfl) dX11_ask_26 (mX9_has l hc7) ?_
    refine x_if_ne hE 43 dX11_ask_29 (by decide) hf (fun hf => ?_) (fun hf => ?_)
    · refine x_bipush hE (-2) dX11_ask_43 (by decide) ?_
      refine x_xin (by decide) (by decide) hf ?_
      exact x_ireturn hE (v := (-2)) hr rfl dX11_ask_45
    · refine x_aload_n hE 0 dX11_ask_32 rfl rfl ?_
      refine x_getR hE cl_11 (hE.kd kO_11) (by decide) 4 (111) rfl (by decide) lk_X11_37 dX11_ask_33 ?_
      refine x_iload_n hE 1 dX11_ask_36 rfl rfl ?_
      obtain ⟨v10, hc9, hf⟩ := bnd_some hf
      refine x_callV1 hE [.int p0] (rest := []) (v := .int v10) (c1 := M) (d1 := N) rfl yokX9_isAsking yvX9_isAsking lk_X11_178 rfl cl_9 (hE.kd kO_9) (by decide) rfl rfl ⟨Nat.le_of_ble_eq_true rfl, Nat.le_of_ble_eq_true rfl⟩ (by decide) rfl (Nat.le_of_ble_eq_true rfl) dX11_ask_37 (mX9_isAsking l hc9) ?_
      refine x_if_eq hE 46 dX11_ask_40 (by decide) hf (fun hf => ?_) (fun hf => ?_)
      · refine x_aload_n hE 0 dX11_ask_46 rfl rfl ?_
        refine x_getR hE cl_11 (hE.kd kO_11) (by decide) 4 (111) rfl (by decide) lk_X11_37 dX11_ask_47 ?_
        refine x_iload_n hE 1 dX11_ask_50 rfl rfl ?_
        obtain ⟨⟨v12, M13⟩, hc11, hf⟩ := bn2_some hf
        refine x_callV1 hE [.int p0] (rest := []) (v := .int v12) (c1 := M13) (d1 := N) rfl yokX9_hear yvX9_hear lk_X11_181 rfl cl_9 (hE.kd kO_9) (by decide) rfl rfl ⟨Nat.le_of_ble_eq_true rfl, Nat.le_of_ble_eq_true rfl⟩ (by decide) rfl (Nat.le_of_ble_eq_true rfl) dX11_ask_51 (mX9_hear l hc11) ?_
        refine x_xin (by decide) (by decide) hf ?_
        exact x_ireturn hE (v := v12) hr rfl dX11_ask_54
      · refine x_bipush hE (-2) dX11_ask_43 (by decide) ?_
        refine x_xin (by decide) (by decide) hf ?_
        exact x_ireturn hE (v := (-2)) hr rfl dX11_ask_45
  · refine x_iconst hE (-1) dX11_ask_19 (by decide) ?_
    refine x_xin (by decide) (by decide) hf ?_
    exact x_ireturn hE (v := (-1)) hr rfl dX11_ask_20
theorem yokX11_ask : YOK yX11_ask cX11_ask 2 1 (some .int) := ⟨mem_g 1101 (by decide +kernel) (by decide +kernel), mem_g 131 (by decide +kernel) (by decide +kernel), by decide +kernel, by decide +kernel, by decide +kernel⟩
theorem yvX11_ask : YV yX11_ask := ⟨mem_g 1099 (by decide +kernel) (by decide +kernel), mem_g 1100 (by decide +kernel) (by decide +kernel)⟩
theorem lk_X11_184 : Cond.methodLink RX11 184 yX9_waysToDraw ∈ lw_g := mem_g 1126 (by decide +kernel) (by decide +kernel)
theorem lk_X11_188 : Cond.methodLink RX11 188 yX9_drawBy ∈ lw_g := mem_g 1134 (by decide +kernel) (by decide +kernel)
theorem dX11_draw_0 : decode cX11_draw 0 = .ok (.iload_n 1, 1) := by decide +kernel
theorem dX11_draw_1 : decode cX11_draw 1 = .ok (.ifCond .lt 18, 3) := by decide +kernel
theorem dX11_draw_4 : decode cX11_draw 4 = .ok (.iload_n 1, 1) := by decide +kernel
theorem dX11_draw_5 : decode cX11_draw 5 = .ok (.aload_n 0, 1) := by decide +kernel
theorem dX11_draw_6 : decode cX11_draw 6 = .ok (.getfield 37, 3) := by decide +kernel
theorem dX11_draw_9 : decode cX11_draw 9 = .ok (.invokevirtual 184, 3) := by decide +kernel
theorem dX11_draw_12 : decode cX11_draw 12 = .ok (.if_icmp .ge 7, 3) := by decide +kernel
theorem dX11_draw_15 : decode cX11_draw 15 = .ok (.iconst 1, 1) := by decide +kernel
theorem dX11_draw_16 : decode cX11_draw 16 = .ok (.goto 4, 3) := by decide +kernel
theorem dX11_draw_19 : decode cX11_draw 19 = .ok (.iconst 0, 1) := by decide +kernel
theorem dX11_draw_20 : decode cX11_draw 20 = .ok (.invokestatic 76, 3) := by decide +kernel
theorem dX11_draw_23 : decode cX11_draw 23 = .ok (.aload_n 0, 1) := by decide +kernel
theorem dX11_draw_24 : decode cX11_draw 24 = .ok (.getfield 37, 3) := by decide +kernel
theorem dX11_draw_27 : decode cX11_draw 27 = .ok (.iload_n 1, 1) := by decide +kernel
theorem dX11_draw_28 : decode cX11_draw 28 = .ok (.invokevirtual 188, 3) := by decide +kernel
theorem dX11_draw_31 : decode cX11_draw 31 = .ok (.ireturn, 1) := by decide +kernel
theorem wX11_draw_J20 {p : Program} {l : Launch} {e : Env} {s : State} {m : MethodId} {args : Array Value} {below : List Frame} {meth : Method} {c : Code} {Y : Nat → ClassId} {D : va_G} {σ : Nat → Nat} {np b0 : Nat} {r : Nat ⊕ (Int32 × Mc)} {M : Mc} {N : Md} {X1 : Int32} {Z0 : Int32} (hE : EOK p s m args meth c cX11_draw 2 RX11 Y D σ np b0) (hr : meth.sig.returnType = (some .int)) (hT : ∀ x ∈ c.exceptionTable.toList, False) (hfl : l.stackTraces = false) (hf : fX11_draw_J20 M X1 Z0 = some r) : Xw p l e (rmX 7 1) s m args below meth c 2 Y D σ np b0 0 (6 * 0) (vx_MQ below (QX (fun r : Int32 × Mc => QR Y D σ np b0 (some (.int r.1)) r.2 N) r) (XX Y D σ np b0 M N r) args s 1 (6 * 1) (xA b0)) 20 [(0, .ref (σ 0)), (1, .int X1)] [.int Z0] M N := by
  unfold fX11_draw_J20 at hf
  obtain ⟨y3, hc4, hy5⟩ := bnx_some hf
  refine x_callXS hE hT [.int Z0] (rest := []) rfl yokX11_needThat ysX11_needThat lk_X11_76 ⟨Nat.le_of_ble_eq_true rfl, Nat.le_of_ble_eq_true rfl⟩ (by decide) rfl (Nat.le_of_ble_eq_true rfl) dX11_draw_20 (mX11_needThat l hfl hc4) ⟨rfl, rfl⟩ (by decide) (by decide) (hy5.imp id (fun ⟨_, ha6, hf⟩ => ⟨_, none, M, N, ha6, rfl, ?_⟩))
  refine x_aload_n hE 0 dX11_draw_23 rfl rfl ?_
  refine x_getR hE cl_11 (hE.kd kO_11) (by decide) 4 (111) rfl (by decide) lk_X11_37 dX11_draw_24 ?_
  refine x_iload_n hE 1 dX11_draw_27 rfl rfl ?_
  obtain ⟨⟨v8, M9⟩, hc7, hf⟩ := bn2_some hf
  refine x_callV1 hE [.int X1] (rest := []) (v := .int v8) (c1 := M9) (d1 := N) rfl yokX9_drawBy yvX9_drawBy lk_X11_188 rfl cl_9 (hE.kd kO_9) (by decide) rfl rfl ⟨Nat.le_of_ble_eq_true rfl, Nat.le_of_ble_eq_true rfl⟩ (by decide) rfl (Nat.le_of_ble_eq_true rfl) dX11_draw_28 (mX9_drawBy l hc7) ?_
  refine x_xin (by decide) (by decide) hf ?_
  exact x_ireturn hE (v := v8) hr rfl dX11_draw_31
theorem wX11_draw_J19 {p : Program} {l : Launch} {e : Env} {s : State} {m : MethodId} {args : Array Value} {below : List Frame} {meth : Method} {c : Code} {Y : Nat → ClassId} {D : va_G} {σ : Nat → Nat} {np b0 : Nat} {r : Nat ⊕ (Int32 × Mc)} {M : Mc} {N : Md} {X1 : Int32} (hE : EOK p s m args meth c cX11_draw 2 RX11 Y D σ np b0) (hr : meth.sig.returnType = (some .int)) (hT : ∀ x ∈ c.exceptionTable.toList, False) (hfl : l.stackTraces = false) (hf : fX11_draw_J19 M X1 = some r) : Xw p l e (rmX 7 1) s m args below meth c 2 Y D σ np b0 0 (6 * 0) (vx_MQ below (QX (fun r : Int32 × Mc => QR Y D σ np b0 (some (.int r.1)) r.2 N) r) (XX Y D σ np b0 M N r) args s 1 (6 * 1) (xA b0)) 19 [(0, .ref (σ 0)), (1, .int X1)] [] M N := by
  unfold fX11_draw_J19 at hf
  refine x_iconst hE (0 : Int32) dX11_draw_19 (by decide) ?_
  exact wX11_draw_J20 hE hr hT hfl hf
theorem mX11_draw (l : Launch) (hfl : l.stackTraces = false) {Y : Nat → ClassId} {D : va_G} {σ : Nat → Nat} {np b0 : Nat} {M : Mc} {N : Md} {p0 : Int32} {r : Nat ⊕ (Int32 × Mc)} (hf : fX11_draw M p0 = some r) : vx_Met l yX11_draw (.code yX11_draw cX11_draw 2 (some .int) :: lw_g) (rmX 7 1) (PR Y D σ np b0 [.ref (σ 0), .int p0] M N) (QX (fun r : Int32 × Mc => QR Y D σ np b0 (some (.int r.1)) r.2 N) r) (XX Y D σ np b0 M N r) 1 (6 * 1) (xA b0) := by
  refine x_vmet (by decide) (Nat.le_of_ble_eq_true rfl) (fun p e s m args below meth c hE hr hT => ?_)
  unfold fX11_draw at hf
  refine x_pick [0, 1] (L' := [(0, .ref (σ 0)), (1, .int p0)]) rfl ?_
  refine x_iload_n hE 1 dX11_draw_0 rfl rfl ?_
  refine x_if_lt hE 19 dX11_draw_1 (by decide) hf (fun hf => ?_) (fun hf => ?_)
  · exact wX11_draw_J19 hE hr hT hfl hf
  · refine x_iload_n hE 1 dX11_draw_4 rfl rfl ?_
    refine x_aload_n hE 0 dX11_draw_5 rfl rfl ?_
    refine x_getR hE cl_11 (hE.kd kO_11) (by decide) 4 (111) rfl (by decide) lk_X11_37 dX11_draw_6 ?_
    obtain ⟨v2, hc1, hf⟩ := bnd_some hf
    refine x_callV1 hE [] (rest := [.int p0]) (v := .int v2) (c1 := M) (d1 := N) rfl yokX9_waysToDraw yvX9_waysToDraw lk_X11_184 rfl cl_9 (hE.kd kO_9) (by decide) rfl rfl ⟨Nat.le_of_ble_eq_true rfl, Nat.le_of_ble_eq_true rfl⟩ (by decide) rfl (Nat.le_of_ble_eq_true rfl) dX11_draw_9 (mX9_waysToDraw l hc1) ?_
    refine x_icmp_ge hE 19 dX11_draw_12 (by decide) hf (fun hf => ?_) (fun hf => ?_)
    · exact wX11_draw_J19 hE hr hT hfl hf
    · refine x_iconst hE (nI 1) dX11_draw_15 (by decide) ?_
      refine x_goto hE 20 dX11_draw_16 (by decide) ?_
      exact wX11_draw_J20 hE hr hT hfl hf
theorem yokX11_draw : YOK yX11_draw cX11_draw 2 1 (some .int) := ⟨mem_g 1125 (by decide +kernel) (by decide +kernel), mem_g 131 (by decide +kernel) (by decide +kernel), by decide +kernel, by decide +kernel, by decide +kernel⟩
theorem yvX11_draw : YV yX11_draw := ⟨mem_g 1123 (by decide +kernel) (by decide +kernel), mem_g 1124 (by decide +kernel) (by decide +kernel)⟩
theorem lk_X11_198 : Cond.methodLink RX11 198 yX9_ownerOf ∈ lw_g := mem_g 1149 (by decide +kernel) (by decide +kernel)
theorem dX11_acre_0 : decode cX11_acre 0 = .ok (.iload_n 1, 1) := by decide +kernel
theorem dX11_acre_1 : decode cX11_acre 1 = .ok (.bipush 12, 2) := by decide +kernel
theorem dX11_acre_3 : decode cX11_acre 3 = .ok (.invokestatic 191, 3) := by decide +kernel
theorem dX11_acre_6 : decode cX11_acre 6 = .ok (.ifCond .ne 11, 3) := by decide +kernel
theorem dX11_acre_9 : decode cX11_acre 9 = .ok (.new 195, 3) := by decide +kernel
theorem dX11_acre_12 : decode cX11_acre 12 = .ok (.dup, 1) := by decide +kernel
theorem dX11_acre_13 : decode cX11_acre 13 = .ok (.invokespecial 197, 3) := by decide +kernel
theorem dX11_acre_16 : decode cX11_acre 16 = .ok (.athrow, 1) := by decide +kernel
theorem dX11_acre_17 : decode cX11_acre 17 = .ok (.aload_n 0, 1) := by decide +kernel
theorem dX11_acre_18 : decode cX11_acre 18 = .ok (.getfield 37, 3) := by decide +kernel
theorem dX11_acre_21 : decode cX11_acre 21 = .ok (.iload_n 1, 1) := by decide +kernel
theorem dX11_acre_22 : decode cX11_acre 22 = .ok (.invokevirtual 198, 3) := by decide +kernel
theorem dX11_acre_25 : decode cX11_acre 25 = .ok (.ireturn, 1) := by decide +kernel
theorem mX11_acre (l : Launch) (hfl : l.stackTraces = false) {Y : Nat → ClassId} {D : va_G} {σ : Nat → Nat} {np b0 : Nat} {M : Mc} {N : Md} {p0 : Int32} {r : Nat ⊕ (Int32)} (hf : fX11_acre M p0 = some r) : vx_Met l yX11_acre (.code yX11_acre cX11_acre 2 (some .int) :: lw_g) (rmX 6 1) (PR Y D σ np b0 [.ref (σ 0), .int p0] M N) (QX (fun r : Int32 => QR Y D σ np b0 (some (.int r)) M N) r) (XX Y D σ np b0 M N r) 1 (6 * 1) (xA b0) := by
  refine x_vmet (by decide) (Nat.le_of_ble_eq_true rfl) (fun p e s m args below meth c hE hr hT => ?_)
  unfold fX11_acre at hf
  refine x_pick [0, 1] (L' := [(0, .ref (σ 0)), (1, .int p0)]) rfl ?_
  refine x_iload_n hE 1 dX11_acre_0 rfl rfl ?_
  refine x_bipush hE (nI 12) dX11_acre_1 (by decide) ?_
  obtain ⟨v2, hc1, hf⟩ := bnd_some hf
  refine x_callS1 hE [.int p0, .int (nI 12)] (rest := []) (v := .int v2) (c1 := M) (d1 := N) rfl yokX11_inside ysX11_inside lk_X11_191 rfl rfl ⟨Nat.le_of_ble_eq_true rfl, Nat.le_of_ble_eq_true rfl⟩ (by decide) rfl (Nat.le_of_ble_eq_true rfl) dX11_acre_3 (mX11_inside l hc1) ?_
  refine x_if_ne hE 17 dX11_acre_6 (by decide) hf (fun hf => ?_) (fun hf => ?_)
  · refine x_aload_n hE 0 dX11_acre_17 rfl rfl ?_
    refine x_getR hE cl_11 (hE.kd kO_11) (by decide) 4 (111) rfl (by decide) lk_X11_37 dX11_acre_18 ?_
    refine x_iload_n hE 1 dX11_acre_21 rfl rfl ?_
    obtain ⟨v4, hc3, hf⟩ := bnd_some hf
    refine x_callV1 hE [.int p0] (rest := []) (v := .int v4) (c1 := M) (d1 := N) rfl yokX9_ownerOf yvX9_ownerOf lk_X11_198 rfl cl_9 (hE.kd kO_9) (by decide) rfl rfl ⟨Nat.le_of_ble_eq_true rfl, Nat.le_of_ble_eq_true rfl⟩ (by decide) rfl (Nat.le_of_ble_eq_true rfl) dX11_acre_22 (mX9_ownerOf l hc3) ?_
    refine x_xin (by decide) (by decide) hf ?_
    exact x_ireturn hE (v := v4) hr rfl dX11_acre_25
  · exact x_throw hE hT hfl (ik := 195) (ic := 197) ["java/lang/RuntimeException", "java/lang/Exception"] (by decide +kernel) (by decide +kernel) ak_X11_197_1 ai_X11_197_1 at_X11_197_1 ag_X11_197_1 dX11_acre_9 dX11_acre_12 dX11_acre_13 dX11_acre_16 (by decide) (by decide) (Nat.le_of_ble_eq_true rfl) (by decide) (by decide) (by decide) (by decide) hf
theorem yokX11_acre : YOK yX11_acre cX11_acre 2 1 (some .int) := ⟨mem_g 1148 (by decide +kernel) (by decide +kernel), mem_g 131 (by decide +kernel) (by decide +kernel), by decide +kernel, by decide +kernel, by decide +kernel⟩
theorem yvX11_acre : YV yX11_acre := ⟨mem_g 1146 (by decide +kernel) (by decide +kernel), mem_g 1147 (by decide +kernel) (by decide +kernel)⟩
theorem lk_X11_201 : Cond.methodLink RX11 201 yX4_isLot ∈ lw_g := mem_g 1160 (by decide +kernel) (by decide +kernel)
theorem lk_X11_204 : Cond.methodLink RX11 204 yX10_priceOf ∈ lw_g := mem_g 1164 (by decide +kernel) (by decide +kernel)
theorem lk_X11_207 : Cond.methodLink RX11 207 yX3_canPay ∈ lw_g := mem_g 1177 (by decide +kernel) (by decide +kernel)
theorem lk_X11_210 : Cond.methodLink RX11 210 yX10_sell ∈ lw_g := mem_g 1181 (by decide +kernel) (by decide +kernel)
theorem dX11_buy_0 : decode cX11_buy 0 = .ok (.aload_n 0, 1) := by decide +kernel
theorem dX11_buy_1 : decode cX11_buy 1 = .ok (.iload_n 1, 1) := by decide +kernel
theorem dX11_buy_2 : decode cX11_buy 2 = .ok (.invokevirtual 138, 3) := by decide +kernel
theorem dX11_buy_5 : decode cX11_buy 5 = .ok (.iload_n 2, 1) := by decide +kernel
theorem dX11_buy_6 : decode cX11_buy 6 = .ok (.invokestatic 72, 3) := by decide +kernel
theorem dX11_buy_9 : decode cX11_buy 9 = .ok (.aload_n 0, 1) := by decide +kernel
theorem dX11_buy_10 : decode cX11_buy 10 = .ok (.getfield 27, 3) := by decide +kernel
theorem dX11_buy_13 : decode cX11_buy 13 = .ok (.getfield 125, 3) := by decide +kernel
theorem dX11_buy_16 : decode cX11_buy 16 = .ok (.iload_n 1, 1) := by decide +kernel
theorem dX11_buy_17 : decode cX11_buy 17 = .ok (.invokevirtual 172, 3) := by decide +kernel
theorem dX11_buy_20 : decode cX11_buy 20 = .ok (.ifCond .ne 5, 3) := by decide +kernel
theorem dX11_buy_23 : decode cX11_buy 23 = .ok (.iconst (-1), 1) := by decide +kernel
theorem dX11_buy_24 : decode cX11_buy 24 = .ok (.ireturn, 1) := by decide +kernel
theorem dX11_buy_25 : decode cX11_buy 25 = .ok (.aload_n 0, 1) := by decide +kernel
theorem dX11_buy_26 : decode cX11_buy 26 = .ok (.getfield 27, 3) := by decide +kernel
theorem dX11_buy_29 : decode cX11_buy 29 = .ok (.getfield 80, 3) := by decide +kernel
theorem dX11_buy_32 : decode cX11_buy 32 = .ok (.iload_n 2, 1) := by decide +kernel
theorem dX11_buy_33 : decode cX11_buy 33 = .ok (.invokevirtual 201, 3) := by decide +kernel
theorem dX11_buy_36 : decode cX11_buy 36 = .ok (.ifCond .ne 6, 3) := by decide +kernel
theorem dX11_buy_39 : decode cX11_buy 39 = .ok (.bipush (-2), 2) := by decide +kernel
theorem dX11_buy_41 : decode cX11_buy 41 = .ok (.ireturn, 1) := by decide +kernel
theorem dX11_buy_42 : decode cX11_buy 42 = .ok (.aload_n 0, 1) := by decide +kernel
theorem dX11_buy_43 : decode cX11_buy 43 = .ok (.getfield 27, 3) := by decide +kernel
theorem dX11_buy_46 : decode cX11_buy 46 = .ok (.iload_n 2, 1) := by decide +kernel
theorem dX11_buy_47 : decode cX11_buy 47 = .ok (.invokevirtual 204, 3) := by decide +kernel
theorem dX11_buy_50 : decode cX11_buy 50 = .ok (.istore_n 3, 1) := by decide +kernel
theorem dX11_buy_51 : decode cX11_buy 51 = .ok (.aload_n 0, 1) := by decide +kernel
theorem dX11_buy_52 : decode cX11_buy 52 = .ok (.getfield 27, 3) := by decide +kernel
theorem dX11_buy_55 : decode cX11_buy 55 = .ok (.getfield 125, 3) := by decide +kernel
theorem dX11_buy_58 : decode cX11_buy 58 = .ok (.iload_n 1, 1) := by decide +kernel
theorem dX11_buy_59 : decode cX11_buy 59 = .ok (.iload_n 3, 1) := by decide +kernel
theorem dX11_buy_60 : decode cX11_buy 60 = .ok (.invokevirtual 207, 3) := by decide +kernel
theorem dX11_buy_63 : decode cX11_buy 63 = .ok (.ifCond .ne 6, 3) := by decide +kernel
theorem dX11_buy_66 : decode cX11_buy 66 = .ok (.bipush (-3), 2) := by decide +kernel
theorem dX11_buy_68 : decode cX11_buy 68 = .ok (.ireturn, 1) := by decide +kernel
theorem dX11_buy_69 : decode cX11_buy 69 = .ok (.aload_n 0, 1) := by decide +kernel
theorem dX11_buy_70 : decode cX11_buy 70 = .ok (.getfield 27, 3) := by decide +kernel
theorem dX11_buy_73 : decode cX11_buy 73 = .ok (.iload_n 1, 1) := by decide +kernel
theorem dX11_buy_74 : decode cX11_buy 74 = .ok (.iload_n 2, 1) := by decide +kernel
theorem dX11_buy_75 : decode cX11_buy 75 = .ok (.iload_n 3, 1) := by decide +kernel
theorem dX11_buy_76 : decode cX11_buy 76 = .ok (.invokevirtual 210, 3) := by decide +kernel
theorem dX11_buy_79 : decode cX11_buy 79 = .ok (.iload_n 3, 1) := by decide +kernel
theorem dX11_buy_80 : decode cX11_buy 80 = .ok (.ireturn, 1) := by decide +kernel
theorem mX11_buy (l : Launch) (hfl : l.stackTraces = false) {Y : Nat → ClassId} {D : va_G} {σ : Nat → Nat} {np b0 : Nat} {M : Mc} {N : Md} {p0 : Int32} {p1 : Int32} {r : Nat ⊕ (Int32 × Mc)} (hf : fX11_buy M p0 p1 = some r) : vx_Met l yX11_buy (.code yX11_buy cX11_buy 4 (some .int) :: lw_g) (rmX 7 2) (PR Y D σ np b0 [.ref (σ 0), .int p0, .int p1] M N) (QX (fun r : Int32 × Mc => QR Y D σ np b0 (some (.int r.1)) r.2 N) r) (XX Y D σ np b0 M N r) 2 (6 * 2) (xA b0) := by
  refine x_vmet (by decide) (Nat.le_of_ble_eq_true rfl) (fun p e s m args below meth c hE hr hT => ?_)
  unfold fX11_buy at hf
  refine x_pick [0, 1, 2] (L' := [(0, .ref (σ 0)), (1, .int p0), (2, .int p1)]) rfl ?_
  refine x_aload_n hE 0 dX11_buy_0 rfl rfl ?_
  refine x_iload_n hE 1 dX11_buy_1 rfl rfl ?_
  obtain ⟨y1, hc2, hy3⟩ := bnx_some hf
  refine x_callXV hE hT [.int p0] (rest := []) rfl yokX11_needPerson yvX11_needPerson lk_X11_138 rfl cl_11 (hE.kd kO_11) (by decide) ⟨Nat.le_of_ble_eq_true rfl, Nat.le_of_ble_eq_true rfl⟩ (by decide) rfl (Nat.le_of_ble_eq_true rfl) dX11_buy_2 (mX11_needPerson l hfl hc2) ⟨rfl, rfl⟩ (by decide) (by decide) (hy3.imp id (fun ⟨_, ha4, hf⟩ => ⟨_, none, M, N, ha4, rfl, ?_⟩))
  refine x_iload_n hE 2 dX11_buy_5 rfl rfl ?_
  obtain ⟨y5, hc6, hy7⟩ := bnx_some hf
  refine x_callXS hE hT [.int p1] (rest := []) rfl yokX11_needSection ysX11_needSection lk_X11_72 ⟨Nat.le_of_ble_eq_true rfl, Nat.le_of_ble_eq_true rfl⟩ (by decide) rfl (Nat.le_of_ble_eq_true rfl) dX11_buy_6 (mX11_needSection l hfl hc6) ⟨rfl, rfl⟩ (by decide) (by decide) (hy7.imp id (fun ⟨_, ha8, hf⟩ => ⟨_, none, M, N, ha8, rfl, ?_⟩))
  refine x_aload_n hE 0 dX11_buy_9 rfl rfl ?_
  refine x_getR hE cl_11 (hE.kd kO_11) (by decide) 2 (17) rfl (by decide) lk_X11_27 dX11_buy_10 ?_
  refine x_getR hE cl_10 (hE.kd (kO_10 hI_17)) (by decide) 2 (17 + 15) rfl (by decide) lk_X11_125 dX11_buy_13 ?_
  refine x_iload_n hE 1 dX11_buy_16 rfl rfl ?_
  obtain ⟨v10, hc9, hf⟩ := bnd_some hf
  refine x_callV1 hE [.int p0] (rest := []) (v := .int v10) (c1 := M) (d1 := N) rfl yokX3_isHere yvX3_isHere lk_X11_172 rfl cl_3 (hE.kd (kO_3 (hL_10_2 hI_17))) (by decide) rfl rfl ⟨Nat.le_of_ble_eq_true rfl, Nat.le_of_ble_eq_true rfl⟩ (by decide) rfl (Nat.le_of_ble_eq_true rfl) dX11_buy_17 (mX3_isHere l (hL_10_2 hI_17) hc9) ?_
  refine x_if_ne hE 25 dX11_buy_20 (by decide) hf (fun hf => ?_) (fun hf => ?_)
  · refine x_aload_n hE 0 dX11_buy_25 rfl rfl ?_
    refine x_getR hE cl_11 (hE.kd kO_11) (by decide) 2 (17) rfl (by decide) lk_X11_27 dX11_buy_26 ?_
    refine x_getR hE cl_10 (hE.kd (kO_10 hI_17)) (by decide) 1 (17 + 1) rfl (by decide) lk_X11_80 dX11_buy_29 ?_
    refine x_iload_n hE 2 dX11_buy_32 rfl rfl ?_
    obtain ⟨v12, hc11, hf⟩ := bnd_some hf
    refine x_callV1 hE [.int p1] (rest := []) (v := .int v12) (c1 := M) (d1 := N) rfl yokX4_isLot yvX4_isLot lk_X11_201 rfl cl_4 (hE.kd (kO_4 (hL_10_1 hI_17))) (by decide) rfl rfl ⟨Nat.le_of_ble_eq_true rfl, Nat.le_of_ble_eq_true rfl⟩ (by decide) rfl (Nat.le_of_ble_eq_true rfl) dX11_buy_33 (mX4_isLot l (hL_10_1 hI_17) hc11) ?_
    refine x_if_ne hE 42 dX11_buy_36 (by decide) hf (fun hf => ?_) (fun hf => ?_)
    · refine x_aload_n hE 0 dX11_buy_42 rfl rfl ?_
      refine x_getR hE cl_11 (hE.kd kO_11) (by decide) 2 (17) rfl (by decide) lk_X11_27 dX11_buy_43 ?_
      refine x_iload_n hE 2 dX11_buy_46 rfl rfl ?_
      obtain ⟨⟨v14, M15⟩, hc13, hf⟩ := bn2_some hf
      refine x_callV1 hE [.int p1] (rest := []) (v := .int v14) (c1 := M15) (d1 := N) rfl yokX10_priceOf yvX10_priceOf lk_X11_204 rfl cl_10 (hE.kd (kO_10 hI_17)) (by decide) rfl rfl ⟨Nat.le_of_ble_eq_true rfl, Nat.le_of_ble_eq_true rfl⟩ (by decide) rfl (Nat.le_of_ble_eq_true rfl) dX11_buy_47 (mX10_priceOf l hI_17 hc13) ?_
      refine x_istore_n hE (L' := [(3, .int v14), (0, .ref (σ 0)), (1, .int p0), (2, .int p1)]) dX11_buy_50 rfl (by decide) rfl ?_
      refine x_pick [1, 2, 3, 0] (L' := [(0, .ref (σ 0)), (1, .int p0), (2, .int p1), (3, .int v14)]) rfl ?_
      refine x_aload_n hE 0 dX11_buy_51 rfl rfl ?_
      refine x_getR hE cl_11 (hE.kd kO_11) (by decide) 2 (17) rfl (by decide) lk_X11_27 dX11_buy_52 ?_
      refine x_getR hE cl_10 (hE.kd (kO_10 hI_17)) (by decide) 2 (17 + 15) rfl (by decide) lk_X11_125 dX11_buy_55 ?_
      refine x_iload_n hE 1 dX11_buy_58 rfl rfl ?_
      refine x_iload_n hE 3 dX11_buy_59 rfl rfl ?_
      obtain ⟨v17, hc16, hf⟩ := bnd_some hf
      refine x_callV1 hE [.int p0, .int v14] (rest := []) (v := .int v17) (c1 := M15) (d1 := N) rfl yokX3_canPay yvX3_canPay lk_X11_207 rfl cl_3 (hE.kd (kO_3 (hL_10_2 hI_17))) (by decide) rfl rfl ⟨Nat.le_of_ble_eq_true rfl, Nat.le_of_ble_eq_true rfl⟩ (by decide) rfl (Nat.le_of_ble_eq_true rfl) dX11_buy_60 (mX3_canPay l (hL_10_2 hI_17) hc16) ?_
      refine x_if_ne hE 69 dX11_buy_63 (by decide) hf (fun hf => ?_) (fun hf => ?_)
      · refine x_aload_n hE 0 dX11_buy_69 rfl rfl ?_
        refine x_getR hE cl_11 (hE.kd kO_11) (by decide) 2 (17) rfl (by decide) lk_X11_27 dX11_buy_70 ?_
        refine x_iload_n hE 1 dX11_buy_73 rfl rfl ?_
        refine x_iload_n hE 2 dX11_buy_74 rfl rfl ?_
        refine x_iload_n hE 3 dX11_buy_75 rfl rfl ?_
        obtain ⟨M19, hc18, hf⟩ := bnd_some hf
        refine x_callV0 hE [.int p0, .int p1, .int v14] (rest := []) (c1 := M19) (d1 := N) rfl yokX10_sell yvX10_sell lk_X11_210 rfl cl_10 (hE.kd (kO_10 hI_17)) (by decide) rfl rfl ⟨Nat.le_of_ble_eq_true rfl, Nat.le_of_ble_eq_true rfl⟩ (by decide) rfl (Nat.le_of_ble_eq_true rfl) dX11_buy_76 (mX10_sell l hI_17 hc18) ?_
        refine x_iload_n hE 3 dX11_buy_79 rfl rfl ?_
        refine x_xin (by decide) (by decide) hf ?_
        exact x_ireturn hE (v := v14) hr rfl dX11_buy_80
      · refine x_bipush hE (-3) dX11_buy_66 (by decide) ?_
        refine x_xin (by decide) (by decide) hf ?_
        exact x_ireturn hE (v := (-3)) hr rfl dX11_buy_68
    · refine x_bipush hE (-2) dX11_buy_39 (by decide) ?_
      refine x_xin (by decide) (by decide) hf ?_
      exact x_ireturn hE (v := (-2)) hr rfl dX11_buy_41
  · refine x_iconst hE (-1) dX11_buy_23 (by decide) ?_
    refine x_xin (by decide) (by decide) hf ?_
    exact x_ireturn hE (v := (-1)) hr rfl dX11_buy_24
theorem yokX11_buy : YOK yX11_buy cX11_buy 4 2 (some .int) := ⟨mem_g 1159 (by decide +kernel) (by decide +kernel), mem_g 131 (by decide +kernel) (by decide +kernel), by decide +kernel, by decide +kernel, by decide +kernel⟩
theorem yvX11_buy : YV yX11_buy := ⟨mem_g 1157 (by decide +kernel) (by decide +kernel), mem_g 1158 (by decide +kernel) (by decide +kernel)⟩
theorem lk_X11_232 : Cond.fieldLink RX11 232 (TX10 6).1 (TX10 6).2.1 (TX10 6).2.2.1 ∈ lw_g := mem_g 419 (by decide +kernel) (by decide +kernel)
theorem lk_X11_289 : Cond.fieldLink RX11 289 (TX10 5).1 (TX10 5).2.1 (TX10 5).2.2.1 ∈ lw_g := mem_g 416 (by decide +kernel) (by decide +kernel)
theorem lk_X11_391 : Cond.methodLink RX11 391 yX0_rowOf ∈ lw_g := mem_g 639 (by decide +kernel) (by decide +kernel)
theorem lk_X11_468 : Cond.methodLink RX11 468 yX2_meaning ∈ lw_g := mem_g 644 (by decide +kernel) (by decide +kernel)
theorem lk_X11_465 : Cond.fieldLink RX11 465 "SettlerColony" "USUAL" "[I" ∈ lw_g := mem_g 637 (by decide +kernel) (by decide +kernel)
theorem dX11_priceAtHome_0 : decode cX11_priceAtHome 0 = .ok (.aload_n 0, 1) := by decide +kernel
theorem dX11_priceAtHome_1 : decode cX11_priceAtHome 1 = .ok (.getfield 27, 3) := by decide +kernel
theorem dX11_priceAtHome_4 : decode cX11_priceAtHome 4 = .ok (.getfield 232, 3) := by decide +kernel
theorem dX11_priceAtHome_7 : decode cX11_priceAtHome 7 = .ok (.bipush 34, 2) := by decide +kernel
theorem dX11_priceAtHome_9 : decode cX11_priceAtHome 9 = .ok (.isub, 1) := by decide +kernel
theorem dX11_priceAtHome_10 : decode cX11_priceAtHome 10 = .ok (.istore_n 1, 1) := by decide +kernel
theorem dX11_priceAtHome_11 : decode cX11_priceAtHome 11 = .ok (.iload_n 1, 1) := by decide +kernel
theorem dX11_priceAtHome_12 : decode cX11_priceAtHome 12 = .ok (.ifCond .ge 9, 3) := by decide +kernel
theorem dX11_priceAtHome_15 : decode cX11_priceAtHome 15 = .ok (.getstatic 465, 3) := by decide +kernel
theorem dX11_priceAtHome_18 : decode cX11_priceAtHome 18 = .ok (.iconst 0, 1) := by decide +kernel
theorem dX11_priceAtHome_19 : decode cX11_priceAtHome 19 = .ok (.iaload, 1) := by decide +kernel
theorem dX11_priceAtHome_20 : decode cX11_priceAtHome 20 = .ok (.ireturn, 1) := by decide +kernel
theorem dX11_priceAtHome_21 : decode cX11_priceAtHome 21 = .ok (.aload_n 0, 1) := by decide +kernel
theorem dX11_priceAtHome_22 : decode cX11_priceAtHome 22 = .ok (.getfield 27, 3) := by decide +kernel
theorem dX11_priceAtHome_25 : decode cX11_priceAtHome 25 = .ok (.getfield 289, 3) := by decide +kernel
theorem dX11_priceAtHome_28 : decode cX11_priceAtHome 28 = .ok (.aload_n 0, 1) := by decide +kernel
theorem dX11_priceAtHome_29 : decode cX11_priceAtHome 29 = .ok (.getfield 10, 3) := by decide +kernel
theorem dX11_priceAtHome_32 : decode cX11_priceAtHome 32 = .ok (.iload_n 1, 1) := by decide +kernel
theorem dX11_priceAtHome_33 : decode cX11_priceAtHome 33 = .ok (.bipush 6, 2) := by decide +kernel
theorem dX11_priceAtHome_35 : decode cX11_priceAtHome 35 = .ok (.invokevirtual 391, 3) := by decide +kernel
theorem dX11_priceAtHome_38 : decode cX11_priceAtHome 38 = .ok (.iconst 0, 1) := by decide +kernel
theorem dX11_priceAtHome_39 : decode cX11_priceAtHome 39 = .ok (.iload_n 1, 1) := by decide +kernel
theorem dX11_priceAtHome_40 : decode cX11_priceAtHome 40 = .ok (.aload_n 0, 1) := by decide +kernel
theorem dX11_priceAtHome_41 : decode cX11_priceAtHome 41 = .ok (.getfield 10, 3) := by decide +kernel
theorem dX11_priceAtHome_44 : decode cX11_priceAtHome 44 = .ok (.iload_n 1, 1) := by decide +kernel
theorem dX11_priceAtHome_45 : decode cX11_priceAtHome 45 = .ok (.iconst 1, 1) := by decide +kernel
theorem dX11_priceAtHome_46 : decode cX11_priceAtHome 46 = .ok (.invokevirtual 391, 3) := by decide +kernel
theorem dX11_priceAtHome_49 : decode cX11_priceAtHome 49 = .ok (.aload_n 0, 1) := by decide +kernel
theorem dX11_priceAtHome_50 : decode cX11_priceAtHome 50 = .ok (.getfield 10, 3) := by decide +kernel
theorem dX11_priceAtHome_53 : decode cX11_priceAtHome 53 = .ok (.iload_n 1, 1) := by decide +kernel
theorem dX11_priceAtHome_54 : decode cX11_priceAtHome 54 = .ok (.iconst 0, 1) := by decide +kernel
theorem dX11_priceAtHome_55 : decode cX11_priceAtHome 55 = .ok (.invokevirtual 391, 3) := by decide +kernel
theorem dX11_priceAtHome_58 : decode cX11_priceAtHome 58 = .ok (.iconst 0, 1) := by decide +kernel
theorem dX11_priceAtHome_59 : decode cX11_priceAtHome 59 = .ok (.invokevirtual 468, 3) := by decide +kernel
theorem dX11_priceAtHome_62 : decode cX11_priceAtHome 62 = .ok (.ireturn, 1) := by decide +kernel
theorem mX11_priceAtHome (l : Launch) {Y : Nat → ClassId} {D : va_G} {σ : Nat → Nat} {np b0 : Nat} {M : Mc} {N : Md} {r : Int32 × Mc} (hf : fX11_priceAtHome M = some r) : Met l yX11_priceAtHome (.code yX11_priceAtHome cX11_priceAtHome 2 (some .int) :: lw_g) (rmD 4) (PR Y D σ np b0 [.ref (σ 0)] M N) (QR Y D σ np b0 (some (.int r.1)) r.2 N) 0 0 (xA b0) := by
  refine x_met (by decide) (Nat.le_of_ble_eq_true rfl) (fun p e s m args below meth c hE hr => ?_)
  unfold fX11_priceAtHome at hf
  refine x_pick [0] (L' := [(0, .ref (σ 0))]) rfl ?_
  refine x_aload_n hE 0 dX11_priceAtHome_0 rfl rfl ?_
  refine x_getR hE cl_11 (hE.kd kO_11) (by decide) 2 (17) rfl (by decide) lk_X11_27 dX11_priceAtHome_1 ?_
  refine x_getI hE cl_10 (hE.kd (kO_10 hI_17)) (by decide) 6 rfl (by decide) lk_X11_232 dX11_priceAtHome_4 ?_
  refine x_bipush hE (nI 34) dX11_priceAtHome_7 (by decide) ?_
  refine x_isub hE dX11_priceAtHome_9 ?_
  refine x_ltI hf (fun v1 hf => ?_)
  refine x_istore_n hE (L' := [(1, .int v1), (0, .ref (σ 0))]) dX11_priceAtHome_10 rfl (by decide) rfl ?_
  refine x_pick [1, 0] (L' := [(0, .ref (σ 0)), (1, .int v1)]) rfl ?_
  refine x_iload_n hE 1 dX11_priceAtHome_11 rfl rfl ?_
  refine x_if_ge hE 21 dX11_priceAtHome_12 (by decide) hf (fun hf => ?_) (fun hf => ?_)
  · refine x_aload_n hE 0 dX11_priceAtHome_21 rfl rfl ?_
    refine x_getR hE cl_11 (hE.kd kO_11) (by decide) 2 (17) rfl (by decide) lk_X11_27 dX11_priceAtHome_22 ?_
    refine x_getR hE cl_10 (hE.kd (kO_10 hI_17)) (by decide) 5 (17 + 37) rfl (by decide) lk_X11_289 dX11_priceAtHome_25 ?_
    refine x_aload_n hE 0 dX11_priceAtHome_28 rfl rfl ?_
    refine x_getR hE cl_11 (hE.kd kO_11) (by decide) 0 (1) rfl (by decide) lk_X11_10 dX11_priceAtHome_29 ?_
    refine x_iload_n hE 1 dX11_priceAtHome_32 rfl rfl ?_
    refine x_bipush hE (nI 6) dX11_priceAtHome_33 (by decide) ?_
    obtain ⟨v3, hc2, hf⟩ := bnd_some hf
    refine x_callV1 hE [.int v1, .int (nI 6)] (rest := [.ref (σ (17 + 37))]) (v := .int v3) (c1 := M) (d1 := N) rfl yokX0_rowOf yvX0_rowOf lk_X11_391 rfl cl_0 (hE.kd kO_0) (by decide) rfl rfl ⟨Nat.le_of_ble_eq_true rfl, Nat.le_of_ble_eq_true rfl⟩ ⟨Nat.zero_le _, Nat.zero_le _⟩ rfl (Nat.le_of_ble_eq_true rfl) dX11_priceAtHome_35 (mX0_rowOf l hc2) ?_
    refine x_iconst hE (0 : Int32) dX11_priceAtHome_38 (by decide) ?_
    refine x_iload_n hE 1 dX11_priceAtHome_39 rfl rfl ?_
    refine x_aload_n hE 0 dX11_priceAtHome_40 rfl rfl ?_
    refine x_getR hE cl_11 (hE.kd kO_11) (by decide) 0 (1) rfl (by decide) lk_X11_10 dX11_priceAtHome_41 ?_
    refine x_iload_n hE 1 dX11_priceAtHome_44 rfl rfl ?_
    refine x_iconst hE (nI 1) dX11_priceAtHome_45 (by decide) ?_
    obtain ⟨v5, hc4, hf⟩ := bnd_some hf
    refine x_callV1 hE [.int v1, .int (nI 1)] (rest := [.int v1, .int 0, .int v3, .ref (σ (17 + 37))]) (v := .int v5) (c1 := M) (d1 := N) rfl yokX0_rowOf yvX0_rowOf lk_X11_391 rfl cl_0 (hE.kd kO_0) (by decide) rfl rfl ⟨Nat.le_of_ble_eq_true rfl, Nat.le_of_ble_eq_true rfl⟩ ⟨Nat.zero_le _, Nat.zero_le _⟩ rfl (Nat.le_of_ble_eq_true rfl) dX11_priceAtHome_46 (mX0_rowOf l hc4) ?_
    refine x_aload_n hE 0 dX11_priceAtHome_49 rfl rfl ?_
    refine x_getR hE cl_11 (hE.kd kO_11) (by decide) 0 (1) rfl (by decide) lk_X11_10 dX11_priceAtHome_50 ?_
    refine x_iload_n hE 1 dX11_priceAtHome_53 rfl rfl ?_
    refine x_iconst hE (0 : Int32) dX11_priceAtHome_54 (by decide) ?_
    obtain ⟨v7, hc6, hf⟩ := bnd_some hf
    refine x_callV1 hE [.int v1, .int 0] (rest := [.int v5, .int v1, .int 0, .int v3, .ref (σ (17 + 37))]) (v := .int v7) (c1 := M) (d1 := N) rfl yokX0_rowOf yvX0_rowOf lk_X11_391 rfl cl_0 (hE.kd kO_0) (by decide) rfl rfl ⟨Nat.le_of_ble_eq_true rfl, Nat.le_of_ble_eq_true rfl⟩ ⟨Nat.zero_le _, Nat.zero_le _⟩ rfl (Nat.le_of_ble_eq_true rfl) dX11_priceAtHome_55 (mX0_rowOf l hc6) ?_
    refine x_iconst hE (0 : Int32) dX11_priceAtHome_58 (by decide) ?_
    obtain ⟨⟨v9, M10⟩, hc8, hf⟩ := bn2_some hf
    refine x_callV1 hE [.int v3, .int 0, .int v1, .int v5, .int v7, .int 0] (rest := []) (v := .int v9) (c1 := M10) (d1 := N) rfl yokX2_meaning yvX2_meaning lk_X11_468 rfl cl_2 (hE.kd (kO_2 (hL_10_5 hI_17))) (by decide) rfl rfl ⟨Nat.le_of_ble_eq_true rfl, Nat.le_of_ble_eq_true rfl⟩ ⟨Nat.zero_le _, Nat.zero_le _⟩ rfl (Nat.le_of_ble_eq_true rfl) dX11_priceAtHome_59 (mX2_meaning l (hL_10_5 hI_17) hc8) ?_
    replace hf := Option.some.inj hf
    subst hf
    exact x_ireturn hE (v := v9) hr rfl dX11_priceAtHome_62
  · refine x_usual hE lk_X11_465 dX11_priceAtHome_15 ?_
    refine x_iconst hE (0 : Int32) dX11_priceAtHome_18 (by decide) ?_
    refine x_uald hE dX11_priceAtHome_19 hf (fun hf => ?_)
    replace hf := Option.some.inj hf
    subst hf
    exact x_ireturn hE (v := usu (0 : Int32).toNatClampNeg) hr rfl dX11_priceAtHome_20
theorem yokX11_priceAtHome : YOK yX11_priceAtHome cX11_priceAtHome 2 0 (some .int) := ⟨mem_g 636 (by decide +kernel) (by decide +kernel), mem_g 131 (by decide +kernel) (by decide +kernel), by decide +kernel, by decide +kernel, by decide +kernel⟩
theorem yvX11_priceAtHome : YV yX11_priceAtHome := ⟨mem_g 635 (by decide +kernel) (by decide +kernel), mem_g 1 (by decide +kernel) (by decide +kernel)⟩
theorem lk_X11_214 : Cond.methodLink RX11 214 yX3_isAtHome ∈ lw_g := mem_g 1209 (by decide +kernel) (by decide +kernel)
theorem lk_X11_217 : Cond.methodLink RX11 217 yX3_orderOf ∈ lw_g := mem_g 1213 (by decide +kernel) (by decide +kernel)
theorem lk_X11_220 : Cond.methodLink RX11 220 yX11_priceAtHome ∈ lw_g := mem_g 633 (by decide +kernel) (by decide +kernel)
theorem lk_X11_223 : Cond.fieldLink RX11 223 (TX11 11).1 (TX11 11).2.1 (TX11 11).2.2.1 ∈ lw_g := mem_g 570 (by decide +kernel) (by decide +kernel)
theorem lk_X11_226 : Cond.methodLink RX11 226 yX3_takeOrder ∈ lw_g := mem_g 1217 (by decide +kernel) (by decide +kernel)
theorem dX11_order_0 : decode cX11_order 0 = .ok (.aload_n 0, 1) := by decide +kernel
theorem dX11_order_1 : decode cX11_order 1 = .ok (.iload_n 1, 1) := by decide +kernel
theorem dX11_order_2 : decode cX11_order 2 = .ok (.invokevirtual 138, 3) := by decide +kernel
theorem dX11_order_5 : decode cX11_order 5 = .ok (.aload_n 0, 1) := by decide +kernel
theorem dX11_order_6 : decode cX11_order 6 = .ok (.getfield 27, 3) := by decide +kernel
theorem dX11_order_9 : decode cX11_order 9 = .ok (.getfield 125, 3) := by decide +kernel
theorem dX11_order_12 : decode cX11_order 12 = .ok (.iload_n 1, 1) := by decide +kernel
theorem dX11_order_13 : decode cX11_order 13 = .ok (.invokevirtual 214, 3) := by decide +kernel
theorem dX11_order_16 : decode cX11_order 16 = .ok (.ifCond .ne 5, 3) := by decide +kernel
theorem dX11_order_19 : decode cX11_order 19 = .ok (.iconst (-1), 1) := by decide +kernel
theorem dX11_order_20 : decode cX11_order 20 = .ok (.ireturn, 1) := by decide +kernel
theorem dX11_order_21 : decode cX11_order 21 = .ok (.aload_n 0, 1) := by decide +kernel
theorem dX11_order_22 : decode cX11_order 22 = .ok (.getfield 27, 3) := by decide +kernel
theorem dX11_order_25 : decode cX11_order 25 = .ok (.getfield 125, 3) := by decide +kernel
theorem dX11_order_28 : decode cX11_order 28 = .ok (.iload_n 1, 1) := by decide +kernel
theorem dX11_order_29 : decode cX11_order 29 = .ok (.invokevirtual 217, 3) := by decide +kernel
theorem dX11_order_32 : decode cX11_order 32 = .ok (.iconst (-1), 1) := by decide +kernel
theorem dX11_order_33 : decode cX11_order 33 = .ok (.if_icmp .eq 6, 3) := by decide +kernel
theorem dX11_order_36 : decode cX11_order 36 = .ok (.bipush (-2), 2) := by decide +kernel
theorem dX11_order_38 : decode cX11_order 38 = .ok (.ireturn, 1) := by decide +kernel
theorem dX11_order_39 : decode cX11_order 39 = .ok (.aload_n 0, 1) := by decide +kernel
theorem dX11_order_40 : decode cX11_order 40 = .ok (.invokevirtual 220, 3) := by decide +kernel
theorem dX11_order_43 : decode cX11_order 43 = .ok (.istore_n 2, 1) := by decide +kernel
theorem dX11_order_44 : decode cX11_order 44 = .ok (.aload_n 0, 1) := by decide +kernel
theorem dX11_order_45 : decode cX11_order 45 = .ok (.getfield 27, 3) := by decide +kernel
theorem dX11_order_48 : decode cX11_order 48 = .ok (.getfield 125, 3) := by decide +kernel
theorem dX11_order_51 : decode cX11_order 51 = .ok (.iload_n 1, 1) := by decide +kernel
theorem dX11_order_52 : decode cX11_order 52 = .ok (.iload_n 2, 1) := by decide +kernel
theorem dX11_order_53 : decode cX11_order 53 = .ok (.invokevirtual 207, 3) := by decide +kernel
theorem dX11_order_56 : decode cX11_order 56 = .ok (.ifCond .ne 6, 3) := by decide +kernel
theorem dX11_order_59 : decode cX11_order 59 = .ok (.bipush (-3), 2) := by decide +kernel
theorem dX11_order_61 : decode cX11_order 61 = .ok (.ireturn, 1) := by decide +kernel
theorem dX11_order_62 : decode cX11_order 62 = .ok (.aload_n 0, 1) := by decide +kernel
theorem dX11_order_63 : decode cX11_order 63 = .ok (.dup, 1) := by decide +kernel
theorem dX11_order_64 : decode cX11_order 64 = .ok (.getfield 223, 3) := by decide +kernel
theorem dX11_order_67 : decode cX11_order 67 = .ok (.iload_n 2, 1) := by decide +kernel
theorem dX11_order_68 : decode cX11_order 68 = .ok (.iadd, 1) := by decide +kernel
theorem dX11_order_69 : decode cX11_order 69 = .ok (.putfield 223, 3) := by decide +kernel
theorem dX11_order_72 : decode cX11_order 72 = .ok (.aload_n 0, 1) := by decide +kernel
theorem dX11_order_73 : decode cX11_order 73 = .ok (.getfield 27, 3) := by decide +kernel
theorem dX11_order_76 : decode cX11_order 76 = .ok (.getfield 125, 3) := by decide +kernel
theorem dX11_order_79 : decode cX11_order 79 = .ok (.iload_n 1, 1) := by decide +kernel
theorem dX11_order_80 : decode cX11_order 80 = .ok (.iload_n 2, 1) := by decide +kernel
theorem dX11_order_81 : decode cX11_order 81 = .ok (.invokevirtual 226, 3) := by decide +kernel
theorem dX11_order_84 : decode cX11_order 84 = .ok (.ireturn, 1) := by decide +kernel
theorem mX11_order (l : Launch) (hfl : l.stackTraces = false) {Y : Nat → ClassId} {D : va_G} {σ : Nat → Nat} {np b0 : Nat} {M : Mc} {N : Md} {p0 : Int32} {r : Nat ⊕ (Int32 × Mc)} (hf : fX11_order M p0 = some r) : vx_Met l yX11_order (.code yX11_order cX11_order 3 (some .int) :: lw_g) (rmX 7 1) (PR Y D σ np b0 [.ref (σ 0), .int p0] M N) (QX (fun r : Int32 × Mc => QR Y D σ np b0 (some (.int r.1)) r.2 N) r) (XX Y D σ np b0 M N r) 1 (6 * 1) (xA b0) := by
  refine x_vmet (by decide) (Nat.le_of_ble_eq_true rfl) (fun p e s m args below meth c hE hr hT => ?_)
  unfold fX11_order at hf
  refine x_pick [0, 1] (L' := [(0, .ref (σ 0)), (1, .int p0)]) rfl ?_
  refine x_aload_n hE 0 dX11_order_0 rfl rfl ?_
  refine x_iload_n hE 1 dX11_order_1 rfl rfl ?_
  obtain ⟨y1, hc2, hy3⟩ := bnx_some hf
  refine x_callXV hE hT [.int p0] (rest := []) rfl yokX11_needPerson yvX11_needPerson lk_X11_138 rfl cl_11 (hE.kd kO_11) (by decide) ⟨Nat.le_of_ble_eq_true rfl, Nat.le_of_ble_eq_true rfl⟩ (by decide) rfl (Nat.le_of_ble_eq_true rfl) dX11_order_2 (mX11_needPerson l hfl hc2) ⟨rfl, rfl⟩ (by decide) (by decide) (hy3.imp id (fun ⟨_, ha4, hf⟩ => ⟨_, none, M, N, ha4, rfl, ?_⟩))
  refine x_aload_n hE 0 dX11_order_5 rfl rfl ?_
  refine x_getR hE cl_11 (hE.kd kO_11) (by decide) 2 (17) rfl (by decide) lk_X11_27 dX11_order_6 ?_
  refine x_getR hE cl_10 (hE.kd (kO_10 hI_17)) (by decide) 2 (17 + 15) rfl (by decide) lk_X11_125 dX11_order_9 ?_
  refine x_iload_n hE 1 dX11_order_12 rfl rfl ?_
  obtain ⟨v6, hc5, hf⟩ := bnd_some hf
  refine x_callV1 hE [.int p0] (rest := []) (v := .int v6) (c1 := M) (d1 := N) rfl yokX3_isAtHome yvX3_isAtHome lk_X11_214 rfl cl_3 (hE.kd (kO_3 (hL_10_2 hI_17))) (by decide) rfl rfl ⟨Nat.le_of_ble_eq_true rfl, Nat.le_of_ble_eq_true rfl⟩ (by decide) rfl (Nat.le_of_ble_eq_true rfl) dX11_order_13 (mX3_isAtHome l (hL_10_2 hI_17) hc5) ?_
  refine x_if_ne hE 21 dX11_order_16 (by decide) hf (fun hf => ?_) (fun hf => ?_)
  · refine x_aload_n hE 0 dX11_order_21 rfl rfl ?_
    refine x_getR hE cl_11 (hE.kd kO_11) (by decide) 2 (17) rfl (by decide) lk_X11_27 dX11_order_22 ?_
    refine x_getR hE cl_10 (hE.kd (kO_10 hI_17)) (by decide) 2 (17 + 15) rfl (by decide) lk_X11_125 dX11_order_25 ?_
    refine x_iload_n hE 1 dX11_order_28 rfl rfl ?_
    obtain ⟨v8, hc7, hf⟩ := bnd_some hf
    refine x_callV1 hE [.int p0] (rest := []) (v := .int v8) (c1 := M) (d1 := N) rfl yokX3_orderOf yvX3_orderOf lk_X11_217 rfl cl_3 (hE.kd (kO_3 (hL_10_2 hI_17))) (by decide) rfl rfl ⟨Nat.le_of_ble_eq_true rfl, Nat.le_of_ble_eq_true rfl⟩ (by decide) rfl (Nat.le_of_ble_eq_true rfl) dX11_order_29 (mX3_orderOf l (hL_10_2 hI_17) hc7) ?_
    refine x_iconst hE (-1) dX11_order_32 (by decide) ?_
    refine x_icmp_eq hE 39 dX11_order_33 (by decide) hf (fun hf => ?_) (fun hf => ?_)
    · refine x_aload_n hE 0 dX11_order_39 rfl rfl ?_
      obtain ⟨⟨v10, M11⟩, hc9, hf⟩ := bn2_some hf
      refine x_callV1 hE [] (rest := []) (v := .int v10) (c1 := M11) (d1 := N) rfl yokX11_priceAtHome yvX11_priceAtHome lk_X11_220 rfl cl_11 (hE.kd kO_11) (by decide) rfl rfl ⟨Nat.le_of_ble_eq_true rfl, Nat.le_of_ble_eq_true rfl⟩ (by decide) rfl (Nat.le_of_ble_eq_true rfl) dX11_order_40 (mX11_priceAtHome l hc9) ?_
      refine x_istore_n hE (L' := [(2, .int v10), (0, .ref (σ 0)), (1, .int p0)]) dX11_order_43 rfl (by decide) rfl ?_
      refine x_pick [1, 2, 0] (L' := [(0, .ref (σ 0)), (1, .int p0), (2, .int v10)]) rfl ?_
      refine x_aload_n hE 0 dX11_order_44 rfl rfl ?_
      refine x_getR hE cl_11 (hE.kd kO_11) (by decide) 2 (17) rfl (by decide) lk_X11_27 dX11_order_45 ?_
      refine x_getR hE cl_10 (hE.kd (kO_10 hI_17)) (by decide) 2 (17 + 15) rfl (by decide) lk_X11_125 dX11_order_48 ?_
      refine x_iload_n hE 1 dX11_order_51 rfl rfl ?_
      refine x_iload_n hE 2 dX11_order_52 rfl rfl ?_
      obtain ⟨v13, hc12, hf⟩ := bnd_some hf
      refine x_callV1 hE [.int p0, .int v10] (rest := []) (v := .int v13) (c1 := M11) (d1 := N) rfl yokX3_canPay yvX3_canPay lk_X11_207 rfl cl_3 (hE.kd (kO_3 (hL_10_2 hI_17))) (by decide) rfl rfl ⟨Nat.le_of_ble_eq_true rfl, Nat.le_of_ble_eq_true rfl⟩ (by decide) rfl (Nat.le_of_ble_eq_true rfl) dX11_order_53 (mX3_canPay l (hL_10_2 hI_17) hc12) ?_
      refine x_if_ne hE 62 dX11_order_56 (by decide) hf (fun hf => ?_) (fun hf => ?_)
      · refine x_aload_n hE 0 dX11_order_62 rfl rfl ?_
        refine x_dup hE dX11_order_63 rfl ?_
        refine x_getI hE cl_11 (hE.kd kO_11) (by decide) 11 rfl (by decide) lk_X11_223 dX11_order_64 ?_
        refine x_iload_n hE 2 dX11_order_67 rfl rfl ?_
        refine x_iadd hE dX11_order_68 ?_
        refine x_putI hE cl_11 (hE.kd kO_11) (by decide) 11 rfl (by decide) lk_X11_223 rfl rfl rfl rfl dX11_order_69 hf (fun M14 hf => ?_)
        refine x_aload_n hE 0 dX11_order_72 rfl rfl ?_
        refine x_getR hE cl_11 (hE.kd kO_11) (by decide) 2 (17) rfl (by decide) lk_X11_27 dX11_order_73 ?_
        refine x_getR hE cl_10 (hE.kd (kO_10 hI_17)) (by decide) 2 (17 + 15) rfl (by decide) lk_X11_125 dX11_order_76 ?_
        refine x_iload_n hE 1 dX11_order_79 rfl rfl ?_
        refine x_iload_n hE 2 dX11_order_80 rfl rfl ?_
        obtain ⟨⟨v16, M17⟩, hc15, hf⟩ := bn2_some hf
        refine x_callV1 hE [.int p0, .int v10] (rest := []) (v := .int v16) (c1 := M17) (d1 := N) rfl yokX3_takeOrder yvX3_takeOrder lk_X11_226 rfl cl_3 (hE.kd (kO_3 (hL_10_2 hI_17))) (by decide) rfl rfl ⟨Nat.le_of_ble_eq_true rfl, Nat.le_of_ble_eq_true rfl⟩ (by decide) rfl (Nat.le_of_ble_eq_true rfl) dX11_order_81 (mX3_takeOrder l (hL_10_2 hI_17) hc15) ?_
        refine x_xin (by decide) (by decide) hf ?_
        exact x_ireturn hE (v := v16) hr rfl dX11_order_84
      · refine x_bipush hE (-3) dX11_order_59 (by decide) ?_
        refine x_xin (by decide) (by decide) hf ?_
        exact x_ireturn hE (v := (-3)) hr rfl dX11_order_61
    · refine x_bipush hE (-2) dX11_order_36 (by decide) ?_
      refine x_xin (by decide) (by decide) hf ?_
      exact x_ireturn hE (v := (-2)) hr rfl dX11_order_38
  · refine x_iconst hE (-1) dX11_order_19 (by decide) ?_
    refine x_xin (by decide) (by decide) hf ?_
    exact x_ireturn hE (v := (-1)) hr rfl dX11_order_20
theorem yokX11_order : YOK yX11_order cX11_order 3 1 (some .int) := ⟨mem_g 1208 (by decide +kernel) (by decide +kernel), mem_g 131 (by decide +kernel) (by decide +kernel), by decide +kernel, by decide +kernel, by decide +kernel⟩
theorem yvX11_order : YV yX11_order := ⟨mem_g 1206 (by decide +kernel) (by decide +kernel), mem_g 1207 (by decide +kernel) (by decide +kernel)⟩
theorem lk_X11_229 : Cond.methodLink RX11 229 yX3_mayChooseStill ∈ lw_g := mem_g 1228 (by decide +kernel) (by decide +kernel)
theorem lk_X11_235 : Cond.methodLink RX11 235 yX10_meaning ∈ lw_g := mem_g 1232 (by decide +kernel) (by decide +kernel)
theorem lk_X11_238 : Cond.methodLink RX11 238 yX3_mustWait ∈ lw_g := mem_g 1233 (by decide +kernel) (by decide +kernel)
theorem lk_X11_242 : Cond.methodLink RX11 242 yX3_useOrder ∈ lw_g := mem_g 1240 (by decide +kernel) (by decide +kernel)
theorem lk_X11_245 : Cond.methodLink RX11 245 yX4_giveFarm ∈ lw_g := mem_g 1244 (by decide +kernel) (by decide +kernel)
theorem lk_X11_249 : Cond.methodLink RX11 249 yX3_gainFarm ∈ lw_g := mem_g 1245 (by decide +kernel) (by decide +kernel)
theorem dX11_choose_0 : decode cX11_choose 0 = .ok (.aload_n 0, 1) := by decide +kernel
theorem dX11_choose_1 : decode cX11_choose 1 = .ok (.iload_n 1, 1) := by decide +kernel
theorem dX11_choose_2 : decode cX11_choose 2 = .ok (.invokevirtual 138, 3) := by decide +kernel
theorem dX11_choose_5 : decode cX11_choose 5 = .ok (.iload_n 2, 1) := by decide +kernel
theorem dX11_choose_6 : decode cX11_choose 6 = .ok (.invokestatic 72, 3) := by decide +kernel
theorem dX11_choose_9 : decode cX11_choose 9 = .ok (.aload_n 0, 1) := by decide +kernel
theorem dX11_choose_10 : decode cX11_choose 10 = .ok (.getfield 27, 3) := by decide +kernel
theorem dX11_choose_13 : decode cX11_choose 13 = .ok (.getfield 125, 3) := by decide +kernel
theorem dX11_choose_16 : decode cX11_choose 16 = .ok (.iload_n 1, 1) := by decide +kernel
theorem dX11_choose_17 : decode cX11_choose 17 = .ok (.invokevirtual 229, 3) := by decide +kernel
theorem dX11_choose_20 : decode cX11_choose 20 = .ok (.ifCond .ne 5, 3) := by decide +kernel
theorem dX11_choose_23 : decode cX11_choose 23 = .ok (.iconst (-1), 1) := by decide +kernel
theorem dX11_choose_24 : decode cX11_choose 24 = .ok (.ireturn, 1) := by decide +kernel
theorem dX11_choose_25 : decode cX11_choose 25 = .ok (.aload_n 0, 1) := by decide +kernel
theorem dX11_choose_26 : decode cX11_choose 26 = .ok (.getfield 27, 3) := by decide +kernel
theorem dX11_choose_29 : decode cX11_choose 29 = .ok (.getfield 125, 3) := by decide +kernel
theorem dX11_choose_32 : decode cX11_choose 32 = .ok (.iload_n 1, 1) := by decide +kernel
theorem dX11_choose_33 : decode cX11_choose 33 = .ok (.invokevirtual 172, 3) := by decide +kernel
theorem dX11_choose_36 : decode cX11_choose 36 = .ok (.ifCond .ne 6, 3) := by decide +kernel
theorem dX11_choose_39 : decode cX11_choose 39 = .ok (.bipush (-2), 2) := by decide +kernel
theorem dX11_choose_41 : decode cX11_choose 41 = .ok (.ireturn, 1) := by decide +kernel
theorem dX11_choose_42 : decode cX11_choose 42 = .ok (.aload_n 0, 1) := by decide +kernel
theorem dX11_choose_43 : decode cX11_choose 43 = .ok (.getfield 27, 3) := by decide +kernel
theorem dX11_choose_46 : decode cX11_choose 46 = .ok (.getfield 80, 3) := by decide +kernel
theorem dX11_choose_49 : decode cX11_choose 49 = .ok (.iload_n 2, 1) := by decide +kernel
theorem dX11_choose_50 : decode cX11_choose 50 = .ok (.invokevirtual 201, 3) := by decide +kernel
theorem dX11_choose_53 : decode cX11_choose 53 = .ok (.ifCond .ne 6, 3) := by decide +kernel
theorem dX11_choose_56 : decode cX11_choose 56 = .ok (.bipush (-3), 2) := by decide +kernel
theorem dX11_choose_58 : decode cX11_choose 58 = .ok (.ireturn, 1) := by decide +kernel
theorem dX11_choose_59 : decode cX11_choose 59 = .ok (.aload_n 0, 1) := by decide +kernel
theorem dX11_choose_60 : decode cX11_choose 60 = .ok (.getfield 27, 3) := by decide +kernel
theorem dX11_choose_63 : decode cX11_choose 63 = .ok (.getfield 125, 3) := by decide +kernel
theorem dX11_choose_66 : decode cX11_choose 66 = .ok (.iload_n 1, 1) := by decide +kernel
theorem dX11_choose_67 : decode cX11_choose 67 = .ok (.aload_n 0, 1) := by decide +kernel
theorem dX11_choose_68 : decode cX11_choose 68 = .ok (.getfield 27, 3) := by decide +kernel
theorem dX11_choose_71 : decode cX11_choose 71 = .ok (.getfield 232, 3) := by decide +kernel
theorem dX11_choose_74 : decode cX11_choose 74 = .ok (.aload_n 0, 1) := by decide +kernel
theorem dX11_choose_75 : decode cX11_choose 75 = .ok (.getfield 27, 3) := by decide +kernel
theorem dX11_choose_78 : decode cX11_choose 78 = .ok (.bipush 6, 2) := by decide +kernel
theorem dX11_choose_80 : decode cX11_choose 80 = .ok (.iconst 0, 1) := by decide +kernel
theorem dX11_choose_81 : decode cX11_choose 81 = .ok (.invokevirtual 235, 3) := by decide +kernel
theorem dX11_choose_84 : decode cX11_choose 84 = .ok (.invokevirtual 238, 3) := by decide +kernel
theorem dX11_choose_87 : decode cX11_choose 87 = .ok (.ifCond .eq 6, 3) := by decide +kernel
theorem dX11_choose_90 : decode cX11_choose 90 = .ok (.bipush (-4), 2) := by decide +kernel
theorem dX11_choose_92 : decode cX11_choose 92 = .ok (.ireturn, 1) := by decide +kernel
theorem dX11_choose_93 : decode cX11_choose 93 = .ok (.aload_n 0, 1) := by decide +kernel
theorem dX11_choose_94 : decode cX11_choose 94 = .ok (.getfield 27, 3) := by decide +kernel
theorem dX11_choose_97 : decode cX11_choose 97 = .ok (.getfield 80, 3) := by decide +kernel
theorem dX11_choose_100 : decode cX11_choose 100 = .ok (.iload_n 2, 1) := by decide +kernel
theorem dX11_choose_101 : decode cX11_choose 101 = .ok (.iconst 5, 1) := by decide +kernel
theorem dX11_choose_102 : decode cX11_choose 102 = .ok (.iload_n 1, 1) := by decide +kernel
theorem dX11_choose_103 : decode cX11_choose 103 = .ok (.aload_n 0, 1) := by decide +kernel
theorem dX11_choose_104 : decode cX11_choose 104 = .ok (.getfield 27, 3) := by decide +kernel
theorem dX11_choose_107 : decode cX11_choose 107 = .ok (.getfield 125, 3) := by decide +kernel
theorem dX11_choose_110 : decode cX11_choose 110 = .ok (.iload_n 1, 1) := by decide +kernel
theorem dX11_choose_111 : decode cX11_choose 111 = .ok (.invokevirtual 242, 3) := by decide +kernel
theorem dX11_choose_114 : decode cX11_choose 114 = .ok (.iconst (-1), 1) := by decide +kernel
theorem dX11_choose_115 : decode cX11_choose 115 = .ok (.invokevirtual 245, 3) := by decide +kernel
theorem dX11_choose_118 : decode cX11_choose 118 = .ok (.aload_n 0, 1) := by decide +kernel
theorem dX11_choose_119 : decode cX11_choose 119 = .ok (.getfield 27, 3) := by decide +kernel
theorem dX11_choose_122 : decode cX11_choose 122 = .ok (.getfield 125, 3) := by decide +kernel
theorem dX11_choose_125 : decode cX11_choose 125 = .ok (.iload_n 1, 1) := by decide +kernel
theorem dX11_choose_126 : decode cX11_choose 126 = .ok (.invokevirtual 249, 3) := by decide +kernel
theorem dX11_choose_129 : decode cX11_choose 129 = .ok (.iconst 1, 1) := by decide +kernel
theorem dX11_choose_130 : decode cX11_choose 130 = .ok (.ireturn, 1) := by decide +kernel
theorem mX11_choose (l : Launch) (hfl : l.stackTraces = false) {Y : Nat → ClassId} {D : va_G} {σ : Nat → Nat} {np b0 : Nat} {M : Mc} {N : Md} {p0 : Int32} {p1 : Int32} {r : Nat ⊕ (Int32 × Mc)} (hf : fX11_choose M p0 p1 = some r) : vx_Met l yX11_choose (.code yX11_choose cX11_choose 3 (some .int) :: lw_g) (rmX 7 2) (PR Y D σ np b0 [.ref (σ 0), .int p0, .int p1] M N) (QX (fun r : Int32 × Mc => QR Y D σ np b0 (some (.int r.1)) r.2 N) r) (XX Y D σ np b0 M N r) 2 (6 * 2) (xA b0) := by
  refine x_vmet (by decide) (Nat.le_of_ble_eq_true rfl) (fun p e s m args below meth c hE hr hT => ?_)
  unfold fX11_choose at hf
  refine x_pick [0, 1, 2] (L' := [(0, .ref (σ 0)), (1, .int p0), (2, .int p1)]) rfl ?_
  refine x_aload_n hE 0 dX11_choose_0 rfl rfl ?_
  refine x_iload_n hE 1 dX11_choose_1 rfl rfl ?_
  obtain ⟨y1, hc2, hy3⟩ := bnx_some hf
  refine x_callXV hE hT [.int p0] (rest := []) rfl yokX11_needPerson yvX11_needPerson lk_X11_138 rfl cl_11 (hE.kd kO_11) (by decide) ⟨Nat.le_of_ble_eq_true rfl, Nat.le_of_ble_eq_true rfl⟩ (by decide) rfl (Nat.le_of_ble_eq_true rfl) dX11_choose_2 (mX11_needPerson l hfl hc2) ⟨rfl, rfl⟩ (by decide) (by decide) (hy3.imp id (fun ⟨_, ha4, hf⟩ => ⟨_, none, M, N, ha4, rfl, ?_⟩))
  refine x_iload_n hE 2 dX11_choose_5 rfl rfl ?_
  obtain ⟨y5, hc6, hy7⟩ := bnx_some hf
  refine x_callXS hE hT [.int p1] (rest := []) rfl yokX11_needSection ysX11_needSection lk_X11_72 ⟨Nat.le_of_ble_eq_true rfl, Nat.le_of_ble_eq_true rfl⟩ (by decide) rfl (Nat.le_of_ble_eq_true rfl) dX11_choose_6 (mX11_needSection l hfl hc6) ⟨rfl, rfl⟩ (by decide) (by decide) (hy7.imp id (fun ⟨_, ha8, hf⟩ => ⟨_, none, M, N, ha8, rfl, ?_⟩))
  refine x_aload_n hE 0 dX11_choose_9 rfl rfl ?_
  refine x_getR hE cl_11 (hE.kd kO_11) (by decide) 2 (17) rfl (by decide) lk_X11_27 dX11_choose_10 ?_
  refine x_getR hE cl_10 (hE.kd (kO_10 hI_17)) (by decide) 2 (17 + 15) rfl (by decide) lk_X11_125 dX11_choose_13 ?_
  refine x_iload_n hE 1 dX11_choose_16 rfl rfl ?_
  obtain ⟨v10, hc9, hf⟩ := bnd_some hf
  refine x_callV1 hE [.int p0] (rest := []) (v := .int v10) (c1 := M) (d1 := N) rfl yokX3_mayChooseStill yvX3_mayChooseStill lk_X11_229 rfl cl_3 (hE.kd (kO_3 (hL_10_2 hI_17))) (by decide) rfl rfl ⟨Nat.le_of_ble_eq_true rfl, Nat.le_of_ble_eq_true rfl⟩ (by decide) rfl (Nat.le_of_ble_eq_true rfl) dX11_choose_17 (mX3_mayChooseStill l (hL_10_2 hI_17) hc9) ?_
  refine x_if_ne hE 25 dX11_choose_20 (by decide) hf (fun hf => ?_) (fun hf => ?_)
  · refine x_aload_n hE 0 dX11_choose_25 rfl rfl ?_
    refine x_getR hE cl_11 (hE.kd kO_11) (by decide) 2 (17) rfl (by decide) lk_X11_27 dX11_choose_26 ?_
    refine x_getR hE cl_10 (hE.kd (kO_10 hI_17)) (by decide) 2 (17 + 15) rfl (by decide) lk_X11_125 dX11_choose_29 ?_
    refine x_iload_n hE 1 dX11_choose_32 rfl rfl ?_
    obtain ⟨v12, hc11, hf⟩ := bnd_some hf
    refine x_callV1 hE [.int p0] (rest := []) (v := .int v12) (c1 := M) (d1 := N) rfl yokX3_isHere yvX3_isHere lk_X11_172 rfl cl_3 (hE.kd (kO_3 (hL_10_2 hI_17))) (by decide) rfl rfl ⟨Nat.le_of_ble_eq_true rfl, Nat.le_of_ble_eq_true rfl⟩ (by decide) rfl (Nat.le_of_ble_eq_true rfl) dX11_choose_33 (mX3_isHere l (hL_10_2 hI_17) hc11) ?_
    refine x_if_ne hE 42 dX11_choose_36 (by decide) hf (fun hf => ?_) (fun hf => ?_)
    · refine x_aload_n hE 0 dX11_choose_42 rfl rfl ?_
      refine x_getR hE cl_11 (hE.kd kO_11) (by decide) 2 (17) rfl (by decide) lk_X11_27 dX11_choose_43 ?_
      refine x_getR hE cl_10 (hE.kd (kO_10 hI_17)) (by decide) 1 (17 + 1) rfl (by decide) lk_X11_80 dX11_choose_46 ?_
      refine x_iload_n hE 2 dX11_choose_49 rfl rfl ?_
      obtain ⟨v14, hc13, hf⟩ := bnd_some hf
      refine x_callV1 hE [.int p1] (rest := []) (v := .int v14) (c1 := M) (d1 := N) rfl yokX4_isLot yvX4_isLot lk_X11_201 rfl cl_4 (hE.kd (kO_4 (hL_10_1 hI_17))) (by decide) rfl rfl ⟨Nat.le_of_ble_eq_true rfl, Nat.le_of_ble_eq_true rfl⟩ (by decide) rfl (Nat.le_of_ble_eq_true rfl) dX11_choose_50 (mX4_isLot l (hL_10_1 hI_17) hc13) ?_
      refine x_if_ne hE 59 dX11_choose_53 (by decide) hf (fun hf => ?_) (fun hf => ?_)
      · refine x_aload_n hE 0 dX11_choose_59 rfl rfl ?_
        refine x_getR hE cl_11 (hE.kd kO_11) (by decide) 2 (17) rfl (by decide) lk_X11_27 dX11_choose_60 ?_
        refine x_getR hE cl_10 (hE.kd (kO_10 hI_17)) (by decide) 2 (17 + 15) rfl (by decide) lk_X11_125 dX11_choose_63 ?_
        refine x_iload_n hE 1 dX11_choose_66 rfl rfl ?_
        refine x_aload_n hE 0 dX11_choose_67 rfl rfl ?_
        refine x_getR hE cl_11 (hE.kd kO_11) (by decide) 2 (17) rfl (by decide) lk_X11_27 dX11_choose_68 ?_
        refine x_getI hE cl_10 (hE.kd (kO_10 hI_17)) (by decide) 6 rfl (by decide) lk_X11_232 dX11_choose_71 ?_
        refine x_aload_n hE 0 dX11_choose_74 rfl rfl ?_
        refine x_getR hE cl_11 (hE.kd kO_11) (by decide) 2 (17) rfl (by decide) lk_X11_27 dX11_choose_75 ?_
        refine x_bipush hE (nI 6) dX11_choose_78 (by decide) ?_
        refine x_iconst hE (0 : Int32) dX11_choose_80 (by decide) ?_
        obtain ⟨⟨v16, M17⟩, hc15, hf⟩ := bn2_some hf
        refine x_callV1 hE [.int (nI 6), .int 0] (rest := [.int (M (17) 6), .int p0, .ref (σ (17 + 15))]) (v := .int v16) (c1 := M17) (d1 := N) rfl yokX10_meaning yvX10_meaning lk_X11_235 rfl cl_10 (hE.kd (kO_10 hI_17)) (by decide) rfl rfl ⟨Nat.le_of_ble_eq_true rfl, Nat.le_of_ble_eq_true rfl⟩ (by decide) rfl (Nat.le_of_ble_eq_true rfl) dX11_choose_81 (mX10_meaning l hI_17 hc15) ?_
        obtain ⟨v19, hc18, hf⟩ := bnd_some hf
        refine x_callV1 hE [.int p0, .int (M (17) 6), .int v16] (rest := []) (v := .int v19) (c1 := M17) (d1 := N) rfl yokX3_mustWait yvX3_mustWait lk_X11_238 rfl cl_3 (hE.kd (kO_3 (hL_10_2 hI_17))) (by decide) rfl rfl ⟨Nat.le_of_ble_eq_true rfl, Nat.le_of_ble_eq_true rfl⟩ (by decide) rfl (Nat.le_of_ble_eq_true rfl) dX11_choose_84 (mX3_mustWait l (hL_10_2 hI_17) hc18) ?_
        refine x_if_eq hE 93 dX11_choose_87 (by decide) hf (fun hf => ?_) (fun hf => ?_)
        · refine x_aload_n hE 0 dX11_choose_93 rfl rfl ?_
          refine x_getR hE cl_11 (hE.kd kO_11) (by decide) 2 (17) rfl (by decide) lk_X11_27 dX11_choose_94 ?_
          refine x_getR hE cl_10 (hE.kd (kO_10 hI_17)) (by decide) 1 (17 + 1) rfl (by decide) lk_X11_80 dX11_choose_97 ?_
          refine x_iload_n hE 2 dX11_choose_100 rfl rfl ?_
          refine x_iconst hE (nI 5) dX11_choose_101 (by decide) ?_
          refine x_iload_n hE 1 dX11_choose_102 rfl rfl ?_
          refine x_aload_n hE 0 dX11_choose_103 rfl rfl ?_
          refine x_getR hE cl_11 (hE.kd kO_11) (by decide) 2 (17) rfl (by decide) lk_X11_27 dX11_choose_104 ?_
          refine x_getR hE cl_10 (hE.kd (kO_10 hI_17)) (by decide) 2 (17 + 15) rfl (by decide) lk_X11_125 dX11_choose_107 ?_
          refine x_iload_n hE 1 dX11_choose_110 rfl rfl ?_
          obtain ⟨⟨v21, M22⟩, hc20, hf⟩ := bn2_some hf
          refine x_callV1 hE [.int p0] (rest := [.int p0, .int (nI 5), .int p1, .ref (σ (17 + 1))]) (v := .int v21) (c1 := M22) (d1 := N) rfl yokX3_useOrder yvX3_useOrder lk_X11_242 rfl cl_3 (hE.kd (kO_3 (hL_10_2 hI_17))) (by decide) rfl rfl ⟨Nat.le_of_ble_eq_true rfl, Nat.le_of_ble_eq_true rfl⟩ (by decide) rfl (Nat.le_of_ble_eq_true rfl) dX11_choose_111 (mX3_useOrder l (hL_10_2 hI_17) hc20) ?_
          refine x_iconst hE (-1) dX11_choose_114 (by decide) ?_
          obtain ⟨M24, hc23, hf⟩ := bnd_some hf
          refine x_callV0 hE [.int p1, .int (nI 5), .int p0, .int v21, .int (-1)] (rest := []) (c1 := M24) (d1 := N) rfl yokX4_giveFarm yvX4_giveFarm lk_X11_245 rfl cl_4 (hE.kd (kO_4 (hL_10_1 hI_17))) (by decide) rfl rfl ⟨Nat.le_of_ble_eq_true rfl, Nat.le_of_ble_eq_true rfl⟩ (by decide) rfl (Nat.le_of_ble_eq_true rfl) dX11_choose_115 (mX4_giveFarm l (hL_10_1 hI_17) hc23) ?_
          refine x_aload_n hE 0 dX11_choose_118 rfl rfl ?_
          refine x_getR hE cl_11 (hE.kd kO_11) (by decide) 2 (17) rfl (by decide) lk_X11_27 dX11_choose_119 ?_
          refine x_getR hE cl_10 (hE.kd (kO_10 hI_17)) (by decide) 2 (17 + 15) rfl (by decide) lk_X11_125 dX11_choose_122 ?_
          refine x_iload_n hE 1 dX11_choose_125 rfl rfl ?_
          obtain ⟨M26, hc25, hf⟩ := bnd_some hf
          refine x_callV0 hE [.int p0] (rest := []) (c1 := M26) (d1 := N) rfl yokX3_gainFarm yvX3_gainFarm lk_X11_249 rfl cl_3 (hE.kd (kO_3 (hL_10_2 hI_17))) (by decide) rfl rfl ⟨Nat.le_of_ble_eq_true rfl, Nat.le_of_ble_eq_true rfl⟩ (by decide) rfl (Nat.le_of_ble_eq_true rfl) dX11_choose_126 (mX3_gainFarm l (hL_10_2 hI_17) hc25) ?_
          refine x_iconst hE (nI 1) dX11_choose_129 (by decide) ?_
          refine x_xin (by decide) (by decide) hf ?_
          exact x_ireturn hE (v := nI 1) hr rfl dX11_choose_130
        · refine x_bipush hE (-4) dX11_choose_90 (by decide) ?_
          refine x_xin (by decide) (by decide) hf ?_
          exact x_ireturn hE (v := (-4)) hr rfl dX11_choose_92
      · refine x_bipush hE (-3) dX11_choose_56 (by decide) ?_
        refine x_xin (by decide) (by decide) hf ?_
        exact x_ireturn hE (v := (-3)) hr rfl dX11_choose_58
    · refine x_bipush hE (-2) dX11_choose_39 (by decide) ?_
      refine x_xin (by decide) (by decide) hf ?_
      exact x_ireturn hE (v := (-2)) hr rfl dX11_choose_41
  · refine x_iconst hE (-1) dX11_choose_23 (by decide) ?_
    refine x_xin (by decide) (by decide) hf ?_
    exact x_ireturn hE (v := (-1)) hr rfl dX11_choose_24
theorem yokX11_choose : YOK yX11_choose cX11_choose 3 2 (some .int) := ⟨mem_g 1227 (by decide +kernel) (by decide +kernel), mem_g 131 (by decide +kernel) (by decide +kernel), by decide +kernel, by decide +kernel, by decide +kernel⟩
theorem yvX11_choose : YV yX11_choose := ⟨mem_g 1225 (by decide +kernel) (by decide +kernel), mem_g 1226 (by decide +kernel) (by decide +kernel)⟩
theorem lk_X11_252 : Cond.methodLink RX11 252 yX4_isPastureOf ∈ lw_g := mem_g 1253 (by decide +kernel) (by decide +kernel)
theorem lk_X11_255 : Cond.methodLink RX11 255 yX3_spend ∈ lw_g := mem_g 1258 (by decide +kernel) (by decide +kernel)
theorem lk_X11_259 : Cond.fieldLink RX11 259 (TX10 8).1 (TX10 8).2.1 (TX10 8).2.2.1 ∈ lw_g := mem_g 425 (by decide +kernel) (by decide +kernel)
theorem lk_X11_262 : Cond.methodLink RX11 262 yX4_lease ∈ lw_g := mem_g 1259 (by decide +kernel) (by decide +kernel)
theorem dX11_run_0 : decode cX11_run 0 = .ok (.aload_n 0, 1) := by decide +kernel
theorem dX11_run_1 : decode cX11_run 1 = .ok (.iload_n 1, 1) := by decide +kernel
theorem dX11_run_2 : decode cX11_run 2 = .ok (.invokevirtual 138, 3) := by decide +kernel
theorem dX11_run_5 : decode cX11_run 5 = .ok (.iload_n 2, 1) := by decide +kernel
theorem dX11_run_6 : decode cX11_run 6 = .ok (.invokestatic 72, 3) := by decide +kernel
theorem dX11_run_9 : decode cX11_run 9 = .ok (.aload_n 0, 1) := by decide +kernel
theorem dX11_run_10 : decode cX11_run 10 = .ok (.getfield 27, 3) := by decide +kernel
theorem dX11_run_13 : decode cX11_run 13 = .ok (.getfield 125, 3) := by decide +kernel
theorem dX11_run_16 : decode cX11_run 16 = .ok (.iload_n 1, 1) := by decide +kernel
theorem dX11_run_17 : decode cX11_run 17 = .ok (.invokevirtual 172, 3) := by decide +kernel
theorem dX11_run_20 : decode cX11_run 20 = .ok (.ifCond .ne 5, 3) := by decide +kernel
theorem dX11_run_23 : decode cX11_run 23 = .ok (.iconst (-1), 1) := by decide +kernel
theorem dX11_run_24 : decode cX11_run 24 = .ok (.ireturn, 1) := by decide +kernel
theorem dX11_run_25 : decode cX11_run 25 = .ok (.aload_n 0, 1) := by decide +kernel
theorem dX11_run_26 : decode cX11_run 26 = .ok (.getfield 27, 3) := by decide +kernel
theorem dX11_run_29 : decode cX11_run 29 = .ok (.getfield 80, 3) := by decide +kernel
theorem dX11_run_32 : decode cX11_run 32 = .ok (.iload_n 2, 1) := by decide +kernel
theorem dX11_run_33 : decode cX11_run 33 = .ok (.invokevirtual 201, 3) := by decide +kernel
theorem dX11_run_36 : decode cX11_run 36 = .ok (.ifCond .ne 21, 3) := by decide +kernel
theorem dX11_run_39 : decode cX11_run 39 = .ok (.aload_n 0, 1) := by decide +kernel
theorem dX11_run_40 : decode cX11_run 40 = .ok (.getfield 27, 3) := by decide +kernel
theorem dX11_run_43 : decode cX11_run 43 = .ok (.getfield 80, 3) := by decide +kernel
theorem dX11_run_46 : decode cX11_run 46 = .ok (.iload_n 2, 1) := by decide +kernel
theorem dX11_run_47 : decode cX11_run 47 = .ok (.iload_n 1, 1) := by decide +kernel
theorem dX11_run_48 : decode cX11_run 48 = .ok (.invokevirtual 252, 3) := by decide +kernel
theorem dX11_run_51 : decode cX11_run 51 = .ok (.ifCond .ne 6, 3) := by decide +kernel
theorem dX11_run_54 : decode cX11_run 54 = .ok (.bipush (-2), 2) := by decide +kernel
theorem dX11_run_56 : decode cX11_run 56 = .ok (.ireturn, 1) := by decide +kernel
theorem dX11_run_57 : decode cX11_run 57 = .ok (.aload_n 0, 1) := by decide +kernel
theorem dX11_run_58 : decode cX11_run 58 = .ok (.getfield 27, 3) := by decide +kernel
theorem dX11_run_61 : decode cX11_run 61 = .ok (.iconst 3, 1) := by decide +kernel
theorem dX11_run_62 : decode cX11_run 62 = .ok (.iconst 0, 1) := by decide +kernel
theorem dX11_run_63 : decode cX11_run 63 = .ok (.invokevirtual 235, 3) := by decide +kernel
theorem dX11_run_66 : decode cX11_run 66 = .ok (.istore_n 3, 1) := by decide +kernel
theorem dX11_run_67 : decode cX11_run 67 = .ok (.aload_n 0, 1) := by decide +kernel
theorem dX11_run_68 : decode cX11_run 68 = .ok (.getfield 27, 3) := by decide +kernel
theorem dX11_run_71 : decode cX11_run 71 = .ok (.getfield 125, 3) := by decide +kernel
theorem dX11_run_74 : decode cX11_run 74 = .ok (.iload_n 1, 1) := by decide +kernel
theorem dX11_run_75 : decode cX11_run 75 = .ok (.iload_n 3, 1) := by decide +kernel
theorem dX11_run_76 : decode cX11_run 76 = .ok (.invokevirtual 207, 3) := by decide +kernel
theorem dX11_run_79 : decode cX11_run 79 = .ok (.ifCond .ne 6, 3) := by decide +kernel
theorem dX11_run_82 : decode cX11_run 82 = .ok (.bipush (-3), 2) := by decide +kernel
theorem dX11_run_84 : decode cX11_run 84 = .ok (.ireturn, 1) := by decide +kernel
theorem dX11_run_85 : decode cX11_run 85 = .ok (.aload_n 0, 1) := by decide +kernel
theorem dX11_run_86 : decode cX11_run 86 = .ok (.getfield 27, 3) := by decide +kernel
theorem dX11_run_89 : decode cX11_run 89 = .ok (.getfield 125, 3) := by decide +kernel
theorem dX11_run_92 : decode cX11_run 92 = .ok (.iload_n 1, 1) := by decide +kernel
theorem dX11_run_93 : decode cX11_run 93 = .ok (.iload_n 3, 1) := by decide +kernel
theorem dX11_run_94 : decode cX11_run 94 = .ok (.invokevirtual 255, 3) := by decide +kernel
theorem dX11_run_97 : decode cX11_run 97 = .ok (.aload_n 0, 1) := by decide +kernel
theorem dX11_run_98 : decode cX11_run 98 = .ok (.getfield 27, 3) := by decide +kernel
theorem dX11_run_101 : decode cX11_run 101 = .ok (.dup, 1) := by decide +kernel
theorem dX11_run_102 : decode cX11_run 102 = .ok (.getfield 259, 3) := by decide +kernel
theorem dX11_run_105 : decode cX11_run 105 = .ok (.iload_n 3, 1) := by decide +kernel
theorem dX11_run_106 : decode cX11_run 106 = .ok (.iadd, 1) := by decide +kernel
theorem dX11_run_107 : decode cX11_run 107 = .ok (.putfield 259, 3) := by decide +kernel
theorem dX11_run_110 : decode cX11_run 110 = .ok (.aload_n 0, 1) := by decide +kernel
theorem dX11_run_111 : decode cX11_run 111 = .ok (.getfield 27, 3) := by decide +kernel
theorem dX11_run_114 : decode cX11_run 114 = .ok (.getfield 80, 3) := by decide +kernel
theorem dX11_run_117 : decode cX11_run 117 = .ok (.iload_n 2, 1) := by decide +kernel
theorem dX11_run_118 : decode cX11_run 118 = .ok (.iload_n 1, 1) := by decide +kernel
theorem dX11_run_119 : decode cX11_run 119 = .ok (.aload_n 0, 1) := by decide +kernel
theorem dX11_run_120 : decode cX11_run 120 = .ok (.getfield 27, 3) := by decide +kernel
theorem dX11_run_123 : decode cX11_run 123 = .ok (.getfield 232, 3) := by decide +kernel
theorem dX11_run_126 : decode cX11_run 126 = .ok (.bipush 52, 2) := by decide +kernel
theorem dX11_run_128 : decode cX11_run 128 = .ok (.iadd, 1) := by decide +kernel
theorem dX11_run_129 : decode cX11_run 129 = .ok (.invokevirtual 262, 3) := by decide +kernel
theorem dX11_run_132 : decode cX11_run 132 = .ok (.iload_n 3, 1) := by decide +kernel
theorem dX11_run_133 : decode cX11_run 133 = .ok (.ireturn, 1) := by decide +kernel
theorem wX11_run_J57 {p : Program} {l : Launch} {e : Env} {s : State} {m : MethodId} {args : Array Value} {below : List Frame} {meth : Method} {c : Code} {Y : Nat → ClassId} {D : va_G} {σ : Nat → Nat} {np b0 : Nat} {r : Nat ⊕ (Int32 × Mc)} {M : Mc} {N : Md} {X1 : Int32} {X2 : Int32} (hE : EOK p s m args meth c cX11_run 4 RX11 Y D σ np b0) (hr : meth.sig.returnType = (some .int)) (hT : ∀ x ∈ c.exceptionTable.toList, False) (hfl : l.stackTraces = false) (hf : fX11_run_J57 M X1 X2 = some r) : Xw p l e (rmX 7 2) s m args below meth c 4 Y D σ np b0 2 (6 * 2) (vx_MQ below (QX (fun r : Int32 × Mc => QR Y D σ np b0 (some (.int r.1)) r.2 N) r) (XX Y D σ np b0 M N r) args s 2 (6 * 2) (xA b0)) 57 [(0, .ref (σ 0)), (1, .int X1), (2, .int X2)] [] M N := by
  unfold fX11_run_J57 at hf
  refine x_aload_n hE 0 dX11_run_57 rfl rfl ?_
  refine x_getR hE cl_11 (hE.kd kO_11) (by decide) 2 (17) rfl (by decide) lk_X11_27 dX11_run_58 ?_
  refine x_iconst hE (nI 3) dX11_run_61 (by decide) ?_
  refine x_iconst hE (0 : Int32) dX11_run_62 (by decide) ?_
  obtain ⟨⟨v16, M17⟩, hc15, hf⟩ := bn2_some hf
  refine x_callV1 hE [.int (nI 3), .int 0] (rest := []) (v := .int v16) (c1 := M17) (d1 := N) rfl yokX10_meaning yvX10_meaning lk_X11_235 rfl cl_10 (hE.kd (kO_10 hI_17)) (by decide) rfl rfl ⟨Nat.le_of_ble_eq_true rfl, Nat.le_of_ble_eq_true rfl⟩ (by decide) rfl (Nat.le_of_ble_eq_true rfl) dX11_run_63 (mX10_meaning l hI_17 hc15) ?_
  refine x_istore_n hE (L' := [(3, .int v16), (0, .ref (σ 0)), (1, .int X1), (2, .int X2)]) dX11_run_66 rfl (by decide) rfl ?_
  refine x_pick [1, 2, 3, 0] (L' := [(0, .ref (σ 0)), (1, .int X1), (2, .int X2), (3, .int v16)]) rfl ?_
  refine x_aload_n hE 0 dX11_run_67 rfl rfl ?_
  refine x_getR hE cl_11 (hE.kd kO_11) (by decide) 2 (17) rfl (by decide) lk_X11_27 dX11_run_68 ?_
  refine x_getR hE cl_10 (hE.kd (kO_10 hI_17)) (by decide) 2 (17 + 15) rfl (by decide) lk_X11_125 dX11_run_71 ?_
  refine x_iload_n hE 1 dX11_run_74 rfl rfl ?_
  refine x_iload_n hE 3 dX11_run_75 rfl rfl ?_
  obtain ⟨v19, hc18, hf⟩ := bnd_some hf
  refine x_callV1 hE [.int X1, .int v16] (rest := []) (v := .int v19) (c1 := M17) (d1 := N) rfl yokX3_canPay yvX3_canPay lk_X11_207 rfl cl_3 (hE.kd (kO_3 (hL_10_2 hI_17))) (by decide) rfl rfl ⟨Nat.le_of_ble_eq_true rfl, Nat.le_of_ble_eq_true rfl⟩ (by decide) rfl (Nat.le_of_ble_eq_true rfl) dX11_run_76 (mX3_canPay l (hL_10_2 hI_17) hc18) ?_
  refine x_if_ne hE 85 dX11_run_79 (by decide) hf (fun hf => ?_) (fun hf => ?_)
  · refine x_aload_n hE 0 dX11_run_85 rfl rfl ?_
    refine x_getR hE cl_11 (hE.kd kO_11) (by decide) 2 (17) rfl (by decide) lk_X11_27 dX11_run_86 ?_
    refine x_getR hE cl_10 (hE.kd (kO_10 hI_17)) (by decide) 2 (17 + 15) rfl (by decide) lk_X11_125 dX11_run_89 ?_
    refine x_iload_n hE 1 dX11_run_92 rfl rfl ?_
    refine x_iload_n hE 3 dX11_run_93 rfl rfl ?_
    obtain ⟨M21, hc20, hf⟩ := bnd_some hf
    refine x_callV0 hE [.int X1, .int v16] (rest := []) (c1 := M21) (d1 := N) rfl yokX3_spend yvX3_spend lk_X11_255 rfl cl_3 (hE.kd (kO_3 (hL_10_2 hI_17))) (by decide) rfl rfl ⟨Nat.le_of_ble_eq_true rfl, Nat.le_of_ble_eq_true rfl⟩ (by decide) rfl (Nat.le_of_ble_eq_true rfl) dX11_run_94 (mX3_spend l (hL_10_2 hI_17) hc20) ?_
    refine x_aload_n hE 0 dX11_run_97 rfl rfl ?_
    refine x_getR hE cl_11 (hE.kd kO_11) (by decide) 2 (17) rfl (by decide) lk_X11_27 dX11_run_98 ?_
    refine x_dup hE dX11_run_101 rfl ?_
    refine x_getI hE cl_10 (hE.kd (kO_10 hI_17)) (by decide) 8 rfl (by decide) lk_X11_259 dX11_run_102 ?_
    refine x_iload_n hE 3 dX11_run_105 rfl rfl ?_
    refine x_iadd hE dX11_run_106 ?_
    refine x_putI hE cl_10 (hE.kd (kO_10 hI_17)) (by decide) 8 rfl (by decide) lk_X11_259 rfl rfl rfl rfl dX11_run_107 hf (fun M22 hf => ?_)
    refine x_aload_n hE 0 dX11_run_110 rfl rfl ?_
    refine x_getR hE cl_11 (hE.kd kO_11) (by decide) 2 (17) rfl (by decide) lk_X11_27 dX11_run_111 ?_
    refine x_getR hE cl_10 (hE.kd (kO_10 hI_17)) (by decide) 1 (17 + 1) rfl (by decide) lk_X11_80 dX11_run_114 ?_
    refine x_iload_n hE 2 dX11_run_117 rfl rfl ?_
    refine x_iload_n hE 1 dX11_run_118 rfl rfl ?_
    refine x_aload_n hE 0 dX11_run_119 rfl rfl ?_
    refine x_getR hE cl_11 (hE.kd kO_11) (by decide) 2 (17) rfl (by decide) lk_X11_27 dX11_run_120 ?_
    refine x_getI hE cl_10 (hE.kd (kO_10 hI_17)) (by decide) 6 rfl (by decide) lk_X11_232 dX11_run_123 ?_
    refine x_bipush hE (nI 52) dX11_run_126 (by decide) ?_
    refine x_iadd hE dX11_run_128 ?_
    obtain ⟨M24, hc23, hf⟩ := bnd_some hf
    refine x_callV0 hE [.int X2, .int X1, .int ((M22 (17) 6) + (nI 52))] (rest := []) (c1 := M24) (d1 := N) rfl yokX4_lease yvX4_lease lk_X11_262 rfl cl_4 (hE.kd (kO_4 (hL_10_1 hI_17))) (by decide) rfl rfl ⟨Nat.le_of_ble_eq_true rfl, Nat.le_of_ble_eq_true rfl⟩ (by decide) rfl (Nat.le_of_ble_eq_true rfl) dX11_run_129 (mX4_lease l (hL_10_1 hI_17) hc23) ?_
    refine x_iload_n hE 3 dX11_run_132 rfl rfl ?_
    refine x_xin (by decide) (by decide) hf ?_
    exact x_ireturn hE (v := v16) hr rfl dX11_run_133
  · refine x_bipush hE (-3) dX11_run_82 (by decide) ?_
    refine x_xin (by decide) (by decide) hf ?_
    exact x_ireturn hE (v := (-3)) hr rfl dX11_run_84
theorem mX11_run (l : Launch) (hfl : l.stackTraces = false) {Y : Nat → ClassId} {D : va_G} {σ : Nat → Nat} {np b0 : Nat} {M : Mc} {N : Md} {p0 : Int32} {p1 : Int32} {r : Nat ⊕ (Int32 × Mc)} (hf : fX11_run M p0 p1 = some r) : vx_Met l yX11_run (.code yX11_run cX11_run 4 (some .int) :: lw_g) (rmX 7 2) (PR Y D σ np b0 [.ref (σ 0), .int p0, .int p1] M N) (QX (fun r : Int32 × Mc => QR Y D σ np b0 (some (.int r.1)) r.2 N) r) (XX Y D σ np b0 M N r) 2 (6 * 2) (xA b0) := by
  refine x_vmet (by decide) (Nat.le_of_ble_eq_true rfl) (fun p e s m args below meth c hE hr hT => ?_)
  unfold fX11_run at hf
  refine x_pick [0, 1, 2] (L' := [(0, .ref (σ 0)), (1, .int p0), (2, .int p1)]) rfl ?_
  refine x_aload_n hE 0 dX11_run_0 rfl rfl ?_
  refine x_iload_n hE 1 dX11_run_1 rfl rfl ?_
  obtain ⟨y1, hc2, hy3⟩ := bnx_some hf
  refine x_callXV hE hT [.int p0] (rest := []) rfl yokX11_needPerson yvX11_needPerson lk_X11_138 rfl cl_11 (hE.kd kO_11) (by decide) ⟨Nat.le_of_ble_eq_true rfl, Nat.le_of_ble_eq_true rfl⟩ (by decide) rfl (Nat.le_of_ble_eq_true rfl) dX11_run_2 (mX11_needPerson l hfl hc2) ⟨rfl, rfl⟩ (by decide) (by decide) (hy3.imp id (fun ⟨_, ha4, hf⟩ => ⟨_, none, M, N, ha4, rfl, ?_⟩))
  refine x_iload_n hE 2 dX11_run_5 rfl rfl ?_
  obtain ⟨y5, hc6, hy7⟩ := bnx_some hf
  refine x_callXS hE hT [.int p1] (rest := []) rfl yokX11_needSection ysX11_needSection lk_X11_72 ⟨Nat.le_of_ble_eq_true rfl, Nat.le_of_ble_eq_true rfl⟩ (by decide) rfl (Nat.le_of_ble_eq_true rfl) dX11_run_6 (mX11_needSection l hfl hc6) ⟨rfl, rfl⟩ (by decide) (by decide) (hy7.imp id (fun ⟨_, ha8, hf⟩ => ⟨_, none, M, N, ha8, rfl, ?_⟩))
  refine x_aload_n hE 0 dX11_run_9 rfl rfl ?_
  refine x_getR hE cl_11 (hE.kd kO_11) (by decide) 2 (17) rfl (by decide) lk_X11_27 dX11_run_10 ?_
  refine x_getR hE cl_10 (hE.kd (kO_10 hI_17)) (by decide) 2 (17 + 15) rfl (by decide) lk_X11_125 dX11_run_13 ?_
  refine x_iload_n hE 1 dX11_run_16 rfl rfl ?_
  obtain ⟨v10, hc9, hf⟩ := bnd_some hf
  refine x_callV1 hE [.int p0] (rest := []) (v := .int v10) (c1 := M) (d1 := N) rfl yokX3_isHere yvX3_isHere lk_X11_172 rfl cl_3 (hE.kd (kO_3 (hL_10_2 hI_17))) (by decide) rfl rfl ⟨Nat.le_of_ble_eq_true rfl, Nat.le_of_ble_eq_true rfl⟩ (by decide) rfl (Nat.le_of_ble_eq_true rfl) dX11_run_17 (mX3_isHere l (hL_10_2 hI_17) hc9) ?_
  refine x_if_ne hE 25 dX11_run_20 (by decide) hf (fun hf => ?_) (fun hf => ?_)
  · refine x_aload_n hE 0 dX11_run_25 rfl rfl ?_
    refine x_getR hE cl_11 (hE.kd kO_11) (by decide) 2 (17) rfl (by decide) lk_X11_27 dX11_run_26 ?_
    refine x_getR hE cl_10 (hE.kd (kO_10 hI_17)) (by decide) 1 (17 + 1) rfl (by decide) lk_X11_80 dX11_run_29 ?_
    refine x_iload_n hE 2 dX11_run_32 rfl rfl ?_
    obtain ⟨v12, hc11, hf⟩ := bnd_some hf
    refine x_callV1 hE [.int p1] (rest := []) (v := .int v12) (c1 := M) (d1 := N) rfl yokX4_isLot yvX4_isLot lk_X11_201 rfl cl_4 (hE.kd (kO_4 (hL_10_1 hI_17))) (by decide) rfl rfl ⟨Nat.le_of_ble_eq_true rfl, Nat.le_of_ble_eq_true rfl⟩ (by decide) rfl (Nat.le_of_ble_eq_true rfl) dX11_run_33 (mX4_isLot l (hL_10_1 hI_17) hc11) ?_
    refine x_if_ne hE 57 dX11_run_36 (by decide) hf (fun hf => ?_) (fun hf => ?_)
    · exact wX11_run_J57 hE hr hT hfl hf
    · refine x_aload_n hE 0 dX11_run_39 rfl rfl ?_
      refine x_getR hE cl_11 (hE.kd kO_11) (by decide) 2 (17) rfl (by decide) lk_X11_27 dX11_run_40 ?_
      refine x_getR hE cl_10 (hE.kd (kO_10 hI_17)) (by decide) 1 (17 + 1) rfl (by decide) lk_X11_80 dX11_run_43 ?_
      refine x_iload_n hE 2 dX11_run_46 rfl rfl ?_
      refine x_iload_n hE 1 dX11_run_47 rfl rfl ?_
      obtain ⟨v14, hc13, hf⟩ := bnd_some hf
      refine x_callV1 hE [.int p1, .int p0] (rest := []) (v := .int v14) (c1 := M) (d1 := N) rfl yokX4_isPastureOf yvX4_isPastureOf lk_X11_252 rfl cl_4 (hE.kd (kO_4 (hL_10_1 hI_17))) (by decide) rfl rfl ⟨Nat.le_of_ble_eq_true rfl, Nat.le_of_ble_eq_true rfl⟩ (by decide) rfl (Nat.le_of_ble_eq_true rfl) dX11_run_48 (mX4_isPastureOf l (hL_10_1 hI_17) hc13) ?_
      refine x_if_ne hE 57 dX11_run_51 (by decide) hf (fun hf => ?_) (fun hf => ?_)
      · exact wX11_run_J57 hE hr hT hfl hf
      · refine x_bipush hE (-2) dX11_run_54 (by decide) ?_
        refine x_xin (by decide) (by decide) hf ?_
        exact x_ireturn hE (v := (-2)) hr rfl dX11_run_56
  · refine x_iconst hE (-1) dX11_run_23 (by decide) ?_
    refine x_xin (by decide) (by decide) hf ?_
    exact x_ireturn hE (v := (-1)) hr rfl dX11_run_24
theorem yokX11_run : YOK yX11_run cX11_run 4 2 (some .int) := ⟨mem_g 1252 (by decide +kernel) (by decide +kernel), mem_g 131 (by decide +kernel) (by decide +kernel), by decide +kernel, by decide +kernel, by decide +kernel⟩
theorem yvX11_run : YV yX11_run := ⟨mem_g 1250 (by decide +kernel) (by decide +kernel), mem_g 1251 (by decide +kernel) (by decide +kernel)⟩
theorem lk_X11_265 : Cond.methodLink RX11 265 yX4_giveSquat ∈ lw_g := mem_g 1271 (by decide +kernel) (by decide +kernel)
theorem dX11_squat_0 : decode cX11_squat 0 = .ok (.aload_n 0, 1) := by decide +kernel
theorem dX11_squat_1 : decode cX11_squat 1 = .ok (.iload_n 1, 1) := by decide +kernel
theorem dX11_squat_2 : decode cX11_squat 2 = .ok (.invokevirtual 138, 3) := by decide +kernel
theorem dX11_squat_5 : decode cX11_squat 5 = .ok (.iload_n 2, 1) := by decide +kernel
theorem dX11_squat_6 : decode cX11_squat 6 = .ok (.invokestatic 72, 3) := by decide +kernel
theorem dX11_squat_9 : decode cX11_squat 9 = .ok (.aload_n 0, 1) := by decide +kernel
theorem dX11_squat_10 : decode cX11_squat 10 = .ok (.getfield 27, 3) := by decide +kernel
theorem dX11_squat_13 : decode cX11_squat 13 = .ok (.getfield 125, 3) := by decide +kernel
theorem dX11_squat_16 : decode cX11_squat 16 = .ok (.iload_n 1, 1) := by decide +kernel
theorem dX11_squat_17 : decode cX11_squat 17 = .ok (.invokevirtual 172, 3) := by decide +kernel
theorem dX11_squat_20 : decode cX11_squat 20 = .ok (.ifCond .ne 5, 3) := by decide +kernel
theorem dX11_squat_23 : decode cX11_squat 23 = .ok (.iconst (-1), 1) := by decide +kernel
theorem dX11_squat_24 : decode cX11_squat 24 = .ok (.ireturn, 1) := by decide +kernel
theorem dX11_squat_25 : decode cX11_squat 25 = .ok (.aload_n 0, 1) := by decide +kernel
theorem dX11_squat_26 : decode cX11_squat 26 = .ok (.getfield 27, 3) := by decide +kernel
theorem dX11_squat_29 : decode cX11_squat 29 = .ok (.getfield 80, 3) := by decide +kernel
theorem dX11_squat_32 : decode cX11_squat 32 = .ok (.iload_n 2, 1) := by decide +kernel
theorem dX11_squat_33 : decode cX11_squat 33 = .ok (.invokevirtual 201, 3) := by decide +kernel
theorem dX11_squat_36 : decode cX11_squat 36 = .ok (.ifCond .ne 6, 3) := by decide +kernel
theorem dX11_squat_39 : decode cX11_squat 39 = .ok (.bipush (-2), 2) := by decide +kernel
theorem dX11_squat_41 : decode cX11_squat 41 = .ok (.ireturn, 1) := by decide +kernel
theorem dX11_squat_42 : decode cX11_squat 42 = .ok (.aload_n 0, 1) := by decide +kernel
theorem dX11_squat_43 : decode cX11_squat 43 = .ok (.getfield 27, 3) := by decide +kernel
theorem dX11_squat_46 : decode cX11_squat 46 = .ok (.bipush 7, 2) := by decide +kernel
theorem dX11_squat_48 : decode cX11_squat 48 = .ok (.iconst 0, 1) := by decide +kernel
theorem dX11_squat_49 : decode cX11_squat 49 = .ok (.invokevirtual 235, 3) := by decide +kernel
theorem dX11_squat_52 : decode cX11_squat 52 = .ok (.ifCond .ne 6, 3) := by decide +kernel
theorem dX11_squat_55 : decode cX11_squat 55 = .ok (.bipush (-3), 2) := by decide +kernel
theorem dX11_squat_57 : decode cX11_squat 57 = .ok (.ireturn, 1) := by decide +kernel
theorem dX11_squat_58 : decode cX11_squat 58 = .ok (.aload_n 0, 1) := by decide +kernel
theorem dX11_squat_59 : decode cX11_squat 59 = .ok (.getfield 27, 3) := by decide +kernel
theorem dX11_squat_62 : decode cX11_squat 62 = .ok (.getfield 80, 3) := by decide +kernel
theorem dX11_squat_65 : decode cX11_squat 65 = .ok (.iload_n 2, 1) := by decide +kernel
theorem dX11_squat_66 : decode cX11_squat 66 = .ok (.iload_n 1, 1) := by decide +kernel
theorem dX11_squat_67 : decode cX11_squat 67 = .ok (.invokevirtual 265, 3) := by decide +kernel
theorem dX11_squat_70 : decode cX11_squat 70 = .ok (.iconst 1, 1) := by decide +kernel
theorem dX11_squat_71 : decode cX11_squat 71 = .ok (.ireturn, 1) := by decide +kernel
theorem mX11_squat (l : Launch) (hfl : l.stackTraces = false) {Y : Nat → ClassId} {D : va_G} {σ : Nat → Nat} {np b0 : Nat} {M : Mc} {N : Md} {p0 : Int32} {p1 : Int32} {r : Nat ⊕ (Int32 × Mc)} (hf : fX11_squat M p0 p1 = some r) : vx_Met l yX11_squat (.code yX11_squat cX11_squat 3 (some .int) :: lw_g) (rmX 7 2) (PR Y D σ np b0 [.ref (σ 0), .int p0, .int p1] M N) (QX (fun r : Int32 × Mc => QR Y D σ np b0 (some (.int r.1)) r.2 N) r) (XX Y D σ np b0 M N r) 2 (6 * 2) (xA b0) := by
  refine x_vmet (by decide) (Nat.le_of_ble_eq_true rfl) (fun p e s m args below meth c hE hr hT => ?_)
  unfold fX11_squat at hf
  refine x_pick [0, 1, 2] (L' := [(0, .ref (σ 0)), (1, .int p0), (2, .int p1)]) rfl ?_
  refine x_aload_n hE 0 dX11_squat_0 rfl rfl ?_
  refine x_iload_n hE 1 dX11_squat_1 rfl rfl ?_
  obtain ⟨y1, hc2, hy3⟩ := bnx_some hf
  refine x_callXV hE hT [.int p0] (rest := []) rfl yokX11_needPerson yvX11_needPerson lk_X11_138 rfl cl_11 (hE.kd kO_11) (by decide) ⟨Nat.le_of_ble_eq_true rfl, Nat.le_of_ble_eq_true rfl⟩ (by decide) rfl (Nat.le_of_ble_eq_true rfl) dX11_squat_2 (mX11_needPerson l hfl hc2) ⟨rfl, rfl⟩ (by decide) (by decide) (hy3.imp id (fun ⟨_, ha4, hf⟩ => ⟨_, none, M, N, ha4, rfl, ?_⟩))
  refine x_iload_n hE 2 dX11_squat_5 rfl rfl ?_
  obtain ⟨y5, hc6, hy7⟩ := bnx_some hf
  refine x_callXS hE hT [.int p1] (rest := []) rfl yokX11_needSection ysX11_needSection lk_X11_72 ⟨Nat.le_of_ble_eq_true rfl, Nat.le_of_ble_eq_true rfl⟩ (by decide) rfl (Nat.le_of_ble_eq_true rfl) dX11_squat_6 (mX11_needSection l hfl hc6) ⟨rfl, rfl⟩ (by decide) (by decide) (hy7.imp id (fun ⟨_, ha8, hf⟩ => ⟨_, none, M, N, ha8, rfl, ?_⟩))
  refine x_aload_n hE 0 dX11_squat_9 rfl rfl ?_
  refine x_getR hE cl_11 (hE.kd kO_11) (by decide) 2 (17) rfl (by decide) lk_X11_27 dX11_squat_10 ?_
  refine x_getR hE cl_10 (hE.kd (kO_10 hI_17)) (by decide) 2 (17 + 15) rfl (by decide) lk_X11_125 dX11_squat_13 ?_
  refine x_iload_n hE 1 dX11_squat_16 rfl rfl ?_
  obtain ⟨v10, hc9, hf⟩ := bnd_some hf
  refine x_callV1 hE [.int p0] (rest := []) (v := .int v10) (c1 := M) (d1 := N) rfl yokX3_isHere yvX3_isHere lk_X11_172 rfl cl_3 (hE.kd (kO_3 (hL_10_2 hI_17))) (by decide) rfl rfl ⟨Nat.le_of_ble_eq_true rfl, Nat.le_of_ble_eq_true rfl⟩ (by decide) rfl (Nat.le_of_ble_eq_true rfl) dX11_squat_17 (mX3_isHere l (hL_10_2 hI_17) hc9) ?_
  refine x_if_ne hE 25 dX11_squat_20 (by decide) hf (fun hf => ?_) (fun hf => ?_)
  · refine x_aload_n hE 0 dX11_squat_25 rfl rfl ?_
    refine x_getR hE cl_11 (hE.kd kO_11) (by decide) 2 (17) rfl (by decide) lk_X11_27 dX11_squat_26 ?_
    refine x_getR hE cl_10 (hE.kd (kO_10 hI_17)) (by decide) 1 (17 + 1) rfl (by decide) lk_X11_80 dX11_squat_29 ?_
    refine x_iload_n hE 2 dX11_squat_32 rfl rfl ?_
    obtain ⟨v12, hc11, hf⟩ := bnd_some hf
    refine x_callV1 hE [.int p1] (rest := []) (v := .int v12) (c1 := M) (d1 := N) rfl yokX4_isLot yvX4_isLot lk_X11_201 rfl cl_4 (hE.kd (kO_4 (hL_10_1 hI_17))) (by decide) rfl rfl ⟨Nat.le_of_ble_eq_true rfl, Nat.le_of_ble_eq_true rfl⟩ (by decide) rfl (Nat.le_of_ble_eq_true rfl) dX11_squat_33 (mX4_isLot l (hL_10_1 hI_17) hc11) ?_
    refine x_if_ne hE 42 dX11_squat_36 (by decide) hf (fun hf => ?_) (fun hf => ?_)
    · refine x_aload_n hE 0 dX11_squat_42 rfl rfl ?_
      refine x_getR hE cl_11 (hE.kd kO_11) (by decide) 2 (17) rfl (by decide) lk_X11_27 dX11_squat_43 ?_
      refine x_bipush hE (nI 7) dX11_squat_46 (by decide) ?_
      refine x_iconst hE (0 : Int32) dX11_squat_48 (by decide) ?_
      obtain ⟨⟨v14, M15⟩, hc13, hf⟩ := bn2_some hf
      refine x_callV1 hE [.int (nI 7), .int 0] (rest := []) (v := .int v14) (c1 := M15) (d1 := N) rfl yokX10_meaning yvX10_meaning lk_X11_235 rfl cl_10 (hE.kd (kO_10 hI_17)) (by decide) rfl rfl ⟨Nat.le_of_ble_eq_true rfl, Nat.le_of_ble_eq_true rfl⟩ (by decide) rfl (Nat.le_of_ble_eq_true rfl) dX11_squat_49 (mX10_meaning l hI_17 hc13) ?_
      refine x_if_ne hE 58 dX11_squat_52 (by decide) hf (fun hf => ?_) (fun hf => ?_)
      · refine x_aload_n hE 0 dX11_squat_58 rfl rfl ?_
        refine x_getR hE cl_11 (hE.kd kO_11) (by decide) 2 (17) rfl (by decide) lk_X11_27 dX11_squat_59 ?_
        refine x_getR hE cl_10 (hE.kd (kO_10 hI_17)) (by decide) 1 (17 + 1) rfl (by decide) lk_X11_80 dX11_squat_62 ?_
        refine x_iload_n hE 2 dX11_squat_65 rfl rfl ?_
        refine x_iload_n hE 1 dX11_squat_66 rfl rfl ?_
        obtain ⟨M17, hc16, hf⟩ := bnd_some hf
        refine x_callV0 hE [.int p1, .int p0] (rest := []) (c1 := M17) (d1 := N) rfl yokX4_giveSquat yvX4_giveSquat lk_X11_265 rfl cl_4 (hE.kd (kO_4 (hL_10_1 hI_17))) (by decide) rfl rfl ⟨Nat.le_of_ble_eq_true rfl, Nat.le_of_ble_eq_true rfl⟩ (by decide) rfl (Nat.le_of_ble_eq_true rfl) dX11_squat_67 (mX4_giveSquat l (hL_10_1 hI_17) hc16) ?_
        refine x_iconst hE (nI 1) dX11_squat_70 (by decide) ?_
        refine x_xin (by decide) (by decide) hf ?_
        exact x_ireturn hE (v := nI 1) hr rfl dX11_squat_71
      · refine x_bipush hE (-3) dX11_squat_55 (by decide) ?_
        refine x_xin (by decide) (by decide) hf ?_
        exact x_ireturn hE (v := (-3)) hr rfl dX11_squat_57
    · refine x_bipush hE (-2) dX11_squat_39 (by decide) ?_
      refine x_xin (by decide) (by decide) hf ?_
      exact x_ireturn hE (v := (-2)) hr rfl dX11_squat_41
  · refine x_iconst hE (-1) dX11_squat_23 (by decide) ?_
    refine x_xin (by decide) (by decide) hf ?_
    exact x_ireturn hE (v := (-1)) hr rfl dX11_squat_24
theorem yokX11_squat : YOK yX11_squat cX11_squat 3 2 (some .int) := ⟨mem_g 1270 (by decide +kernel) (by decide +kernel), mem_g 131 (by decide +kernel) (by decide +kernel), by decide +kernel, by decide +kernel, by decide +kernel⟩
theorem yvX11_squat : YV yX11_squat := ⟨mem_g 1268 (by decide +kernel) (by decide +kernel), mem_g 1269 (by decide +kernel) (by decide +kernel)⟩
theorem lk_X11_268 : Cond.methodLink RX11 268 yX4_hasRoomFor ∈ lw_g := mem_g 1282 (by decide +kernel) (by decide +kernel)
theorem lk_X11_271 : Cond.methodLink RX11 271 yX4_addStock ∈ lw_g := mem_g 1290 (by decide +kernel) (by decide +kernel)
theorem dX11_stock_0 : decode cX11_stock 0 = .ok (.aload_n 0, 1) := by decide +kernel
theorem dX11_stock_1 : decode cX11_stock 1 = .ok (.iload_n 1, 1) := by decide +kernel
theorem dX11_stock_2 : decode cX11_stock 2 = .ok (.invokevirtual 138, 3) := by decide +kernel
theorem dX11_stock_5 : decode cX11_stock 5 = .ok (.iload_n 2, 1) := by decide +kernel
theorem dX11_stock_6 : decode cX11_stock 6 = .ok (.invokestatic 72, 3) := by decide +kernel
theorem dX11_stock_9 : decode cX11_stock 9 = .ok (.iload_n 3, 1) := by decide +kernel
theorem dX11_stock_10 : decode cX11_stock 10 = .ok (.ifCond .lt 14, 3) := by decide +kernel
theorem dX11_stock_13 : decode cX11_stock 13 = .ok (.iload_n 3, 1) := by decide +kernel
theorem dX11_stock_14 : decode cX11_stock 14 = .ok (.sipush 1000, 3) := by decide +kernel
theorem dX11_stock_17 : decode cX11_stock 17 = .ok (.if_icmp .gt 7, 3) := by decide +kernel
theorem dX11_stock_20 : decode cX11_stock 20 = .ok (.iconst 1, 1) := by decide +kernel
theorem dX11_stock_21 : decode cX11_stock 21 = .ok (.goto 4, 3) := by decide +kernel
theorem dX11_stock_24 : decode cX11_stock 24 = .ok (.iconst 0, 1) := by decide +kernel
theorem dX11_stock_25 : decode cX11_stock 25 = .ok (.invokestatic 76, 3) := by decide +kernel
theorem dX11_stock_28 : decode cX11_stock 28 = .ok (.aload_n 0, 1) := by decide +kernel
theorem dX11_stock_29 : decode cX11_stock 29 = .ok (.getfield 27, 3) := by decide +kernel
theorem dX11_stock_32 : decode cX11_stock 32 = .ok (.getfield 80, 3) := by decide +kernel
theorem dX11_stock_35 : decode cX11_stock 35 = .ok (.iload_n 2, 1) := by decide +kernel
theorem dX11_stock_36 : decode cX11_stock 36 = .ok (.iload_n 1, 1) := by decide +kernel
theorem dX11_stock_37 : decode cX11_stock 37 = .ok (.invokevirtual 252, 3) := by decide +kernel
theorem dX11_stock_40 : decode cX11_stock 40 = .ok (.ifCond .ne 5, 3) := by decide +kernel
theorem dX11_stock_43 : decode cX11_stock 43 = .ok (.iconst (-1), 1) := by decide +kernel
theorem dX11_stock_44 : decode cX11_stock 44 = .ok (.ireturn, 1) := by decide +kernel
theorem dX11_stock_45 : decode cX11_stock 45 = .ok (.aload_n 0, 1) := by decide +kernel
theorem dX11_stock_46 : decode cX11_stock 46 = .ok (.getfield 27, 3) := by decide +kernel
theorem dX11_stock_49 : decode cX11_stock 49 = .ok (.getfield 125, 3) := by decide +kernel
theorem dX11_stock_52 : decode cX11_stock 52 = .ok (.iload_n 1, 1) := by decide +kernel
theorem dX11_stock_53 : decode cX11_stock 53 = .ok (.iconst 2, 1) := by decide +kernel
theorem dX11_stock_54 : decode cX11_stock 54 = .ok (.iload_n 3, 1) := by decide +kernel
theorem dX11_stock_55 : decode cX11_stock 55 = .ok (.imul, 1) := by decide +kernel
theorem dX11_stock_56 : decode cX11_stock 56 = .ok (.invokevirtual 207, 3) := by decide +kernel
theorem dX11_stock_59 : decode cX11_stock 59 = .ok (.ifCond .ne 6, 3) := by decide +kernel
theorem dX11_stock_62 : decode cX11_stock 62 = .ok (.bipush (-2), 2) := by decide +kernel
theorem dX11_stock_64 : decode cX11_stock 64 = .ok (.ireturn, 1) := by decide +kernel
theorem dX11_stock_65 : decode cX11_stock 65 = .ok (.aload_n 0, 1) := by decide +kernel
theorem dX11_stock_66 : decode cX11_stock 66 = .ok (.getfield 27, 3) := by decide +kernel
theorem dX11_stock_69 : decode cX11_stock 69 = .ok (.getfield 80, 3) := by decide +kernel
theorem dX11_stock_72 : decode cX11_stock 72 = .ok (.iload_n 2, 1) := by decide +kernel
theorem dX11_stock_73 : decode cX11_stock 73 = .ok (.iload_n 3, 1) := by decide +kernel
theorem dX11_stock_74 : decode cX11_stock 74 = .ok (.invokevirtual 268, 3) := by decide +kernel
theorem dX11_stock_77 : decode cX11_stock 77 = .ok (.ifCond .ne 6, 3) := by decide +kernel
theorem dX11_stock_80 : decode cX11_stock 80 = .ok (.bipush (-3), 2) := by decide +kernel
theorem dX11_stock_82 : decode cX11_stock 82 = .ok (.ireturn, 1) := by decide +kernel
theorem dX11_stock_83 : decode cX11_stock 83 = .ok (.aload_n 0, 1) := by decide +kernel
theorem dX11_stock_84 : decode cX11_stock 84 = .ok (.getfield 27, 3) := by decide +kernel
theorem dX11_stock_87 : decode cX11_stock 87 = .ok (.getfield 125, 3) := by decide +kernel
theorem dX11_stock_90 : decode cX11_stock 90 = .ok (.iload_n 1, 1) := by decide +kernel
theorem dX11_stock_91 : decode cX11_stock 91 = .ok (.iconst 2, 1) := by decide +kernel
theorem dX11_stock_92 : decode cX11_stock 92 = .ok (.iload_n 3, 1) := by decide +kernel
theorem dX11_stock_93 : decode cX11_stock 93 = .ok (.imul, 1) := by decide +kernel
theorem dX11_stock_94 : decode cX11_stock 94 = .ok (.invokevirtual 255, 3) := by decide +kernel
theorem dX11_stock_97 : decode cX11_stock 97 = .ok (.aload_n 0, 1) := by decide +kernel
theorem dX11_stock_98 : decode cX11_stock 98 = .ok (.getfield 27, 3) := by decide +kernel
theorem dX11_stock_101 : decode cX11_stock 101 = .ok (.getfield 80, 3) := by decide +kernel
theorem dX11_stock_104 : decode cX11_stock 104 = .ok (.iload_n 2, 1) := by decide +kernel
theorem dX11_stock_105 : decode cX11_stock 105 = .ok (.iload_n 3, 1) := by decide +kernel
theorem dX11_stock_106 : decode cX11_stock 106 = .ok (.invokevirtual 271, 3) := by decide +kernel
theorem dX11_stock_109 : decode cX11_stock 109 = .ok (.ireturn, 1) := by decide +kernel
theorem wX11_stock_J25 {p : Program} {l : Launch} {e : Env} {s : State} {m : MethodId} {args : Array Value} {below : List Frame} {meth : Method} {c : Code} {Y : Nat → ClassId} {D : va_G} {σ : Nat → Nat} {np b0 : Nat} {r : Nat ⊕ (Int32 × Mc)} {M : Mc} {N : Md} {X1 : Int32} {X2 : Int32} {X3 : Int32} {Z0 : Int32} (hE : EOK p s m args meth c cX11_stock 4 RX11 Y D σ np b0) (hr : meth.sig.returnType = (some .int)) (hT : ∀ x ∈ c.exceptionTable.toList, False) (hfl : l.stackTraces = false) (hf : fX11_stock_J25 M X1 X2 X3 Z0 = some r) : Xw p l e (rmX 7 3) s m args below meth c 4 Y D σ np b0 2 (6 * 2) (vx_MQ below (QX (fun r : Int32 × Mc => QR Y D σ np b0 (some (.int r.1)) r.2 N) r) (XX Y D σ np b0 M N r) args s 3 (6 * 3) (xA b0)) 25 [(0, .ref (σ 0)), (1, .int X1), (2, .int X2), (3, .int X3)] [.int Z0] M N := by
  unfold fX11_stock_J25 at hf
  obtain ⟨y9, hc10, hy11⟩ := bnx_some hf
  refine x_callXS hE hT [.int Z0] (rest := []) rfl yokX11_needThat ysX11_needThat lk_X11_76 ⟨Nat.le_of_ble_eq_true rfl, Nat.le_of_ble_eq_true rfl⟩ (by decide) rfl (Nat.le_of_ble_eq_true rfl) dX11_stock_25 (mX11_needThat l hfl hc10) ⟨rfl, rfl⟩ (by decide) (by decide) (hy11.imp id (fun ⟨_, ha12, hf⟩ => ⟨_, none, M, N, ha12, rfl, ?_⟩))
  refine x_aload_n hE 0 dX11_stock_28 rfl rfl ?_
  refine x_getR hE cl_11 (hE.kd kO_11) (by decide) 2 (17) rfl (by decide) lk_X11_27 dX11_stock_29 ?_
  refine x_getR hE cl_10 (hE.kd (kO_10 hI_17)) (by decide) 1 (17 + 1) rfl (by decide) lk_X11_80 dX11_stock_32 ?_
  refine x_iload_n hE 2 dX11_stock_35 rfl rfl ?_
  refine x_iload_n hE 1 dX11_stock_36 rfl rfl ?_
  obtain ⟨v14, hc13, hf⟩ := bnd_some hf
  refine x_callV1 hE [.int X2, .int X1] (rest := []) (v := .int v14) (c1 := M) (d1 := N) rfl yokX4_isPastureOf yvX4_isPastureOf lk_X11_252 rfl cl_4 (hE.kd (kO_4 (hL_10_1 hI_17))) (by decide) rfl rfl ⟨Nat.le_of_ble_eq_true rfl, Nat.le_of_ble_eq_true rfl⟩ (by decide) rfl (Nat.le_of_ble_eq_true rfl) dX11_stock_37 (mX4_isPastureOf l (hL_10_1 hI_17) hc13) ?_
  refine x_if_ne hE 45 dX11_stock_40 (by decide) hf (fun hf => ?_) (fun hf => ?_)
  · refine x_aload_n hE 0 dX11_stock_45 rfl rfl ?_
    refine x_getR hE cl_11 (hE.kd kO_11) (by decide) 2 (17) rfl (by decide) lk_X11_27 dX11_stock_46 ?_
    refine x_getR hE cl_10 (hE.kd (kO_10 hI_17)) (by decide) 2 (17 + 15) rfl (by decide) lk_X11_125 dX11_stock_49 ?_
    refine x_iload_n hE 1 dX11_stock_52 rfl rfl ?_
    refine x_iconst hE (nI 2) dX11_stock_53 (by decide) ?_
    refine x_iload_n hE 3 dX11_stock_54 rfl rfl ?_
    refine x_imul hE dX11_stock_55 ?_
    obtain ⟨v16, hc15, hf⟩ := bnd_some hf
    refine x_callV1 hE [.int X1, .int ((nI 2) * X3)] (rest := []) (v := .int v16) (c1 := M) (d1 := N) rfl yokX3_canPay yvX3_canPay lk_X11_207 rfl cl_3 (hE.kd (kO_3 (hL_10_2 hI_17))) (by decide) rfl rfl ⟨Nat.le_of_ble_eq_true rfl, Nat.le_of_ble_eq_true rfl⟩ (by decide) rfl (Nat.le_of_ble_eq_true rfl) dX11_stock_56 (mX3_canPay l (hL_10_2 hI_17) hc15) ?_
    refine x_if_ne hE 65 dX11_stock_59 (by decide) hf (fun hf => ?_) (fun hf => ?_)
    · refine x_aload_n hE 0 dX11_stock_65 rfl rfl ?_
      refine x_getR hE cl_11 (hE.kd kO_11) (by decide) 2 (17) rfl (by decide) lk_X11_27 dX11_stock_66 ?_
      refine x_getR hE cl_10 (hE.kd (kO_10 hI_17)) (by decide) 1 (17 + 1) rfl (by decide) lk_X11_80 dX11_stock_69 ?_
      refine x_iload_n hE 2 dX11_stock_72 rfl rfl ?_
      refine x_iload_n hE 3 dX11_stock_73 rfl rfl ?_
      obtain ⟨v18, hc17, hf⟩ := bnd_some hf
      refine x_callV1 hE [.int X2, .int X3] (rest := []) (v := .int v18) (c1 := M) (d1 := N) rfl yokX4_hasRoomFor yvX4_hasRoomFor lk_X11_268 rfl cl_4 (hE.kd (kO_4 (hL_10_1 hI_17))) (by decide) rfl rfl ⟨Nat.le_of_ble_eq_true rfl, Nat.le_of_ble_eq_true rfl⟩ (by decide) rfl (Nat.le_of_ble_eq_true rfl) dX11_stock_74 (mX4_hasRoomFor l (hL_10_1 hI_17) hc17) ?_
      refine x_if_ne hE 83 dX11_stock_77 (by decide) hf (fun hf => ?_) (fun hf => ?_)
      · refine x_aload_n hE 0 dX11_stock_83 rfl rfl ?_
        refine x_getR hE cl_11 (hE.kd kO_11) (by decide) 2 (17) rfl (by decide) lk_X11_27 dX11_stock_84 ?_
        refine x_getR hE cl_10 (hE.kd (kO_10 hI_17)) (by decide) 2 (17 + 15) rfl (by decide) lk_X11_125 dX11_stock_87 ?_
        refine x_iload_n hE 1 dX11_stock_90 rfl rfl ?_
        refine x_iconst hE (nI 2) dX11_stock_91 (by decide) ?_
        refine x_iload_n hE 3 dX11_stock_92 rfl rfl ?_
        refine x_imul hE dX11_stock_93 ?_
        obtain ⟨M20, hc19, hf⟩ := bnd_some hf
        refine x_callV0 hE [.int X1, .int ((nI 2) * X3)] (rest := []) (c1 := M20) (d1 := N) rfl yokX3_spend yvX3_spend lk_X11_255 rfl cl_3 (hE.kd (kO_3 (hL_10_2 hI_17))) (by decide) rfl rfl ⟨Nat.le_of_ble_eq_true rfl, Nat.le_of_ble_eq_true rfl⟩ (by decide) rfl (Nat.le_of_ble_eq_true rfl) dX11_stock_94 (mX3_spend l (hL_10_2 hI_17) hc19) ?_
        refine x_aload_n hE 0 dX11_stock_97 rfl rfl ?_
        refine x_getR hE cl_11 (hE.kd kO_11) (by decide) 2 (17) rfl (by decide) lk_X11_27 dX11_stock_98 ?_
        refine x_getR hE cl_10 (hE.kd (kO_10 hI_17)) (by decide) 1 (17 + 1) rfl (by decide) lk_X11_80 dX11_stock_101 ?_
        refine x_iload_n hE 2 dX11_stock_104 rfl rfl ?_
        refine x_iload_n hE 3 dX11_stock_105 rfl rfl ?_
        obtain ⟨⟨v22, M23⟩, hc21, hf⟩ := bn2_some hf
        refine x_callV1 hE [.int X2, .int X3] (rest := []) (v := .int v22) (c1 := M23) (d1 := N) rfl yokX4_addStock yvX4_addStock lk_X11_271 rfl cl_4 (hE.kd (kO_4 (hL_10_1 hI_17))) (by decide) rfl rfl ⟨Nat.le_of_ble_eq_true rfl, Nat.le_of_ble_eq_true rfl⟩ (by decide) rfl (Nat.le_of_ble_eq_true rfl) dX11_stock_106 (mX4_addStock l (hL_10_1 hI_17) hc21) ?_
        refine x_xin (by decide) (by decide) hf ?_
        exact x_ireturn hE (v := v22) hr rfl dX11_stock_109
      · refine x_bipush hE (-3) dX11_stock_80 (by decide) ?_
        refine x_xin (by decide) (by decide) hf ?_
        exact x_ireturn hE (v := (-3)) hr rfl dX11_stock_82
    · refine x_bipush hE (-2) dX11_stock_62 (by decide) ?_
      refine x_xin (by decide) (by decide) hf ?_
      exact x_ireturn hE (v := (-2)) hr rfl dX11_stock_64
  · refine x_iconst hE (-1) dX11_stock_43 (by decide) ?_
    refine x_xin (by decide) (by decide) hf ?_
    exact x_ireturn hE (v := (-1)) hr rfl dX11_stock_44
theorem wX11_stock_J24 {p : Program} {l : Launch} {e : Env} {s : State} {m : MethodId} {args : Array Value} {below : List Frame} {meth : Method} {c : Code} {Y : Nat → ClassId} {D : va_G} {σ : Nat → Nat} {np b0 : Nat} {r : Nat ⊕ (Int32 × Mc)} {M : Mc} {N : Md} {X1 : Int32} {X2 : Int32} {X3 : Int32} (hE : EOK p s m args meth c cX11_stock 4 RX11 Y D σ np b0) (hr : meth.sig.returnType = (some .int)) (hT : ∀ x ∈ c.exceptionTable.toList, False) (hfl : l.stackTraces = false) (hf : fX11_stock_J24 M X1 X2 X3 = some r) : Xw p l e (rmX 7 3) s m args below meth c 4 Y D σ np b0 2 (6 * 2) (vx_MQ below (QX (fun r : Int32 × Mc => QR Y D σ np b0 (some (.int r.1)) r.2 N) r) (XX Y D σ np b0 M N r) args s 3 (6 * 3) (xA b0)) 24 [(0, .ref (σ 0)), (1, .int X1), (2, .int X2), (3, .int X3)] [] M N := by
  unfold fX11_stock_J24 at hf
  refine x_iconst hE (0 : Int32) dX11_stock_24 (by decide) ?_
  exact wX11_stock_J25 hE hr hT hfl hf
theorem mX11_stock (l : Launch) (hfl : l.stackTraces = false) {Y : Nat → ClassId} {D : va_G} {σ : Nat → Nat} {np b0 : Nat} {M : Mc} {N : Md} {p0 : Int32} {p1 : Int32} {p2 : Int32} {r : Nat ⊕ (Int32 × Mc)} (hf : fX11_stock M p0 p1 p2 = some r) : vx_Met l yX11_stock (.code yX11_stock cX11_stock 4 (some .int) :: lw_g) (rmX 7 3) (PR Y D σ np b0 [.ref (σ 0), .int p0, .int p1, .int p2] M N) (QX (fun r : Int32 × Mc => QR Y D σ np b0 (some (.int r.1)) r.2 N) r) (XX Y D σ np b0 M N r) 3 (6 * 3) (xA b0) := by
  refine x_vmet (by decide) (Nat.le_of_ble_eq_true rfl) (fun p e s m args below meth c hE hr hT => ?_)
  unfold fX11_stock at hf
  refine x_pick [0, 1, 2, 3] (L' := [(0, .ref (σ 0)), (1, .int p0), (2, .int p1), (3, .int p2)]) rfl ?_
  refine x_aload_n hE 0 dX11_stock_0 rfl rfl ?_
  refine x_iload_n hE 1 dX11_stock_1 rfl rfl ?_
  obtain ⟨y1, hc2, hy3⟩ := bnx_some hf
  refine x_callXV hE hT [.int p0] (rest := []) rfl yokX11_needPerson yvX11_needPerson lk_X11_138 rfl cl_11 (hE.kd kO_11) (by decide) ⟨Nat.le_of_ble_eq_true rfl, Nat.le_of_ble_eq_true rfl⟩ (by decide) rfl (Nat.le_of_ble_eq_true rfl) dX11_stock_2 (mX11_needPerson l hfl hc2) ⟨rfl, rfl⟩ (by decide) (by decide) (hy3.imp id (fun ⟨_, ha4, hf⟩ => ⟨_, none, M, N, ha4, rfl, ?_⟩))
  refine x_iload_n hE 2 dX11_stock_5 rfl rfl ?_
  obtain ⟨y5, hc6, hy7⟩ := bnx_some hf
  refine x_callXS hE hT [.int p1] (rest := []) rfl yokX11_needSection ysX11_needSection lk_X11_72 ⟨Nat.le_of_ble_eq_true rfl, Nat.le_of_ble_eq_true rfl⟩ (by decide) rfl (Nat.le_of_ble_eq_true rfl) dX11_stock_6 (mX11_needSection l hfl hc6) ⟨rfl, rfl⟩ (by decide) (by decide) (hy7.imp id (fun ⟨_, ha8, hf⟩ => ⟨_, none, M, N, ha8, rfl, ?_⟩))
  refine x_iload_n hE 3 dX11_stock_9 rfl rfl ?_
  refine x_if_lt hE 24 dX11_stock_10 (by decide) hf (fun hf => ?_) (fun hf => ?_)
  · exact wX11_stock_J24 hE hr hT hfl hf
  · refine x_iload_n hE 3 dX11_stock_13 rfl rfl ?_
    refine x_sipush hE (nI 1000) dX11_stock_14 (by decide) ?_
    refine x_icmp_gt hE 24 dX11_stock_17 (by decide) hf (fun hf => ?_) (fun hf => ?_)
    · exact wX11_stock_J24 hE hr hT hfl hf
    · refine x_iconst hE (nI 1) dX11_stock_20 (by decide) ?_
      refine x_goto hE 25 dX11_stock_21 (by decide) ?_
      exact wX11_stock_J25 hE hr hT hfl hf
theorem yokX11_stock : YOK yX11_stock cX11_stock 4 3 (some .int) := ⟨mem_g 1281 (by decide +kernel) (by decide +kernel), mem_g 131 (by decide +kernel) (by decide +kernel), by decide +kernel, by decide +kernel, by decide +kernel⟩
theorem yvX11_stock : YV yX11_stock := ⟨mem_g 1279 (by decide +kernel) (by decide +kernel), mem_g 1280 (by decide +kernel) (by decide +kernel)⟩
theorem lk_X11_274 : Cond.methodLink RX11 274 yX4_isFenced ∈ lw_g := mem_g 1301 (by decide +kernel) (by decide +kernel)
theorem lk_X11_277 : Cond.methodLink RX11 277 yX3_tradeOf ∈ lw_g := mem_g 1305 (by decide +kernel) (by decide +kernel)
theorem lk_X11_280 : Cond.methodLink RX11 280 yX4_putFence ∈ lw_g := mem_g 1309 (by decide +kernel) (by decide +kernel)
theorem dX11_fence_0 : decode cX11_fence 0 = .ok (.aload_n 0, 1) := by decide +kernel
theorem dX11_fence_1 : decode cX11_fence 1 = .ok (.iload_n 1, 1) := by decide +kernel
theorem dX11_fence_2 : decode cX11_fence 2 = .ok (.invokevirtual 138, 3) := by decide +kernel
theorem dX11_fence_5 : decode cX11_fence 5 = .ok (.iload_n 2, 1) := by decide +kernel
theorem dX11_fence_6 : decode cX11_fence 6 = .ok (.invokestatic 72, 3) := by decide +kernel
theorem dX11_fence_9 : decode cX11_fence 9 = .ok (.aload_n 0, 1) := by decide +kernel
theorem dX11_fence_10 : decode cX11_fence 10 = .ok (.getfield 27, 3) := by decide +kernel
theorem dX11_fence_13 : decode cX11_fence 13 = .ok (.getfield 80, 3) := by decide +kernel
theorem dX11_fence_16 : decode cX11_fence 16 = .ok (.iload_n 2, 1) := by decide +kernel
theorem dX11_fence_17 : decode cX11_fence 17 = .ok (.iload_n 1, 1) := by decide +kernel
theorem dX11_fence_18 : decode cX11_fence 18 = .ok (.invokevirtual 252, 3) := by decide +kernel
theorem dX11_fence_21 : decode cX11_fence 21 = .ok (.ifCond .ne 5, 3) := by decide +kernel
theorem dX11_fence_24 : decode cX11_fence 24 = .ok (.iconst (-1), 1) := by decide +kernel
theorem dX11_fence_25 : decode cX11_fence 25 = .ok (.ireturn, 1) := by decide +kernel
theorem dX11_fence_26 : decode cX11_fence 26 = .ok (.aload_n 0, 1) := by decide +kernel
theorem dX11_fence_27 : decode cX11_fence 27 = .ok (.getfield 27, 3) := by decide +kernel
theorem dX11_fence_30 : decode cX11_fence 30 = .ok (.getfield 80, 3) := by decide +kernel
theorem dX11_fence_33 : decode cX11_fence 33 = .ok (.iload_n 2, 1) := by decide +kernel
theorem dX11_fence_34 : decode cX11_fence 34 = .ok (.invokevirtual 274, 3) := by decide +kernel
theorem dX11_fence_37 : decode cX11_fence 37 = .ok (.ifCond .eq 6, 3) := by decide +kernel
theorem dX11_fence_40 : decode cX11_fence 40 = .ok (.bipush (-2), 2) := by decide +kernel
theorem dX11_fence_42 : decode cX11_fence 42 = .ok (.ireturn, 1) := by decide +kernel
theorem dX11_fence_43 : decode cX11_fence 43 = .ok (.aload_n 0, 1) := by decide +kernel
theorem dX11_fence_44 : decode cX11_fence 44 = .ok (.getfield 27, 3) := by decide +kernel
theorem dX11_fence_47 : decode cX11_fence 47 = .ok (.getfield 125, 3) := by decide +kernel
theorem dX11_fence_50 : decode cX11_fence 50 = .ok (.iload_n 1, 1) := by decide +kernel
theorem dX11_fence_51 : decode cX11_fence 51 = .ok (.invokevirtual 277, 3) := by decide +kernel
theorem dX11_fence_54 : decode cX11_fence 54 = .ok (.iconst 2, 1) := by decide +kernel
theorem dX11_fence_55 : decode cX11_fence 55 = .ok (.if_icmp .ne 7, 3) := by decide +kernel
theorem dX11_fence_58 : decode cX11_fence 58 = .ok (.iconst 5, 1) := by decide +kernel
theorem dX11_fence_59 : decode cX11_fence 59 = .ok (.goto 5, 3) := by decide +kernel
theorem dX11_fence_62 : decode cX11_fence 62 = .ok (.bipush 15, 2) := by decide +kernel
theorem dX11_fence_64 : decode cX11_fence 64 = .ok (.istore_n 3, 1) := by decide +kernel
theorem dX11_fence_65 : decode cX11_fence 65 = .ok (.aload_n 0, 1) := by decide +kernel
theorem dX11_fence_66 : decode cX11_fence 66 = .ok (.getfield 27, 3) := by decide +kernel
theorem dX11_fence_69 : decode cX11_fence 69 = .ok (.getfield 125, 3) := by decide +kernel
theorem dX11_fence_72 : decode cX11_fence 72 = .ok (.iload_n 1, 1) := by decide +kernel
theorem dX11_fence_73 : decode cX11_fence 73 = .ok (.iload_n 3, 1) := by decide +kernel
theorem dX11_fence_74 : decode cX11_fence 74 = .ok (.invokevirtual 207, 3) := by decide +kernel
theorem dX11_fence_77 : decode cX11_fence 77 = .ok (.ifCond .ne 6, 3) := by decide +kernel
theorem dX11_fence_80 : decode cX11_fence 80 = .ok (.bipush (-3), 2) := by decide +kernel
theorem dX11_fence_82 : decode cX11_fence 82 = .ok (.ireturn, 1) := by decide +kernel
theorem dX11_fence_83 : decode cX11_fence 83 = .ok (.aload_n 0, 1) := by decide +kernel
theorem dX11_fence_84 : decode cX11_fence 84 = .ok (.getfield 27, 3) := by decide +kernel
theorem dX11_fence_87 : decode cX11_fence 87 = .ok (.getfield 125, 3) := by decide +kernel
theorem dX11_fence_90 : decode cX11_fence 90 = .ok (.iload_n 1, 1) := by decide +kernel
theorem dX11_fence_91 : decode cX11_fence 91 = .ok (.iload_n 3, 1) := by decide +kernel
theorem dX11_fence_92 : decode cX11_fence 92 = .ok (.invokevirtual 255, 3) := by decide +kernel
theorem dX11_fence_95 : decode cX11_fence 95 = .ok (.aload_n 0, 1) := by decide +kernel
theorem dX11_fence_96 : decode cX11_fence 96 = .ok (.getfield 27, 3) := by decide +kernel
theorem dX11_fence_99 : decode cX11_fence 99 = .ok (.getfield 80, 3) := by decide +kernel
theorem dX11_fence_102 : decode cX11_fence 102 = .ok (.iload_n 2, 1) := by decide +kernel
theorem dX11_fence_103 : decode cX11_fence 103 = .ok (.invokevirtual 280, 3) := by decide +kernel
theorem dX11_fence_106 : decode cX11_fence 106 = .ok (.iconst 1, 1) := by decide +kernel
theorem dX11_fence_107 : decode cX11_fence 107 = .ok (.ireturn, 1) := by decide +kernel
theorem wX11_fence_J64 {p : Program} {l : Launch} {e : Env} {s : State} {m : MethodId} {args : Array Value} {below : List Frame} {meth : Method} {c : Code} {Y : Nat → ClassId} {D : va_G} {σ : Nat → Nat} {np b0 : Nat} {r : Nat ⊕ (Int32 × Mc)} {M : Mc} {N : Md} {X1 : Int32} {X2 : Int32} {Z0 : Int32} (hE : EOK p s m args meth c cX11_fence 4 RX11 Y D σ np b0) (hr : meth.sig.returnType = (some .int)) (hT : ∀ x ∈ c.exceptionTable.toList, False) (hfl : l.stackTraces = false) (hf : fX11_fence_J64 M X1 X2 Z0 = some r) : Xw p l e (rmX 7 2) s m args below meth c 4 Y D σ np b0 2 (6 * 2) (vx_MQ below (QX (fun r : Int32 × Mc => QR Y D σ np b0 (some (.int r.1)) r.2 N) r) (XX Y D σ np b0 M N r) args s 2 (6 * 2) (xA b0)) 64 [(0, .ref (σ 0)), (1, .int X1), (2, .int X2)] [.int Z0] M N := by
  unfold fX11_fence_J64 at hf
  refine x_istore_n hE (L' := [(3, .int Z0), (0, .ref (σ 0)), (1, .int X1), (2, .int X2)]) dX11_fence_64 rfl (by decide) rfl ?_
  refine x_pick [1, 2, 3, 0] (L' := [(0, .ref (σ 0)), (1, .int X1), (2, .int X2), (3, .int Z0)]) rfl ?_
  refine x_aload_n hE 0 dX11_fence_65 rfl rfl ?_
  refine x_getR hE cl_11 (hE.kd kO_11) (by decide) 2 (17) rfl (by decide) lk_X11_27 dX11_fence_66 ?_
  refine x_getR hE cl_10 (hE.kd (kO_10 hI_17)) (by decide) 2 (17 + 15) rfl (by decide) lk_X11_125 dX11_fence_69 ?_
  refine x_iload_n hE 1 dX11_fence_72 rfl rfl ?_
  refine x_iload_n hE 3 dX11_fence_73 rfl rfl ?_
  obtain ⟨v16, hc15, hf⟩ := bnd_some hf
  refine x_callV1 hE [.int X1, .int Z0] (rest := []) (v := .int v16) (c1 := M) (d1 := N) rfl yokX3_canPay yvX3_canPay lk_X11_207 rfl cl_3 (hE.kd (kO_3 (hL_10_2 hI_17))) (by decide) rfl rfl ⟨Nat.le_of_ble_eq_true rfl, Nat.le_of_ble_eq_true rfl⟩ (by decide) rfl (Nat.le_of_ble_eq_true rfl) dX11_fence_74 (mX3_canPay l (hL_10_2 hI_17) hc15) ?_
  refine x_if_ne hE 83 dX11_fence_77 (by decide) hf (fun hf => ?_) (fun hf => ?_)
  · refine x_aload_n hE 0 dX11_fence_83 rfl rfl ?_
    refine x_getR hE cl_11 (hE.kd kO_11) (by decide) 2 (17) rfl (by decide) lk_X11_27 dX11_fence_84 ?_
    refine x_getR hE cl_10 (hE.kd (kO_10 hI_17)) (by decide) 2 (17 + 15) rfl (by decide) lk_X11_125 dX11_fence_87 ?_
    refine x_iload_n hE 1 dX11_fence_90 rfl rfl ?_
    refine x_iload_n hE 3 dX11_fence_91 rfl rfl ?_
    obtain ⟨M18, hc17, hf⟩ := bnd_some hf
    refine x_callV0 hE [.int X1, .int Z0] (rest := []) (c1 := M18) (d1 := N) rfl yokX3_spend yvX3_spend lk_X11_255 rfl cl_3 (hE.kd (kO_3 (hL_10_2 hI_17))) (by decide) rfl rfl ⟨Nat.le_of_ble_eq_true rfl, Nat.le_of_ble_eq_true rfl⟩ (by decide) rfl (Nat.le_of_ble_eq_true rfl) dX11_fence_92 (mX3_spend l (hL_10_2 hI_17) hc17) ?_
    refine x_aload_n hE 0 dX11_fence_95 rfl rfl ?_
    refine x_getR hE cl_11 (hE.kd kO_11) (by decide) 2 (17) rfl (by decide) lk_X11_27 dX11_fence_96 ?_
    refine x_getR hE cl_10 (hE.kd (kO_10 hI_17)) (by decide) 1 (17 + 1) rfl (by decide) lk_X11_80 dX11_fence_99 ?_
    refine x_iload_n hE 2 dX11_fence_102 rfl rfl ?_
    obtain ⟨M20, hc19, hf⟩ := bnd_some hf
    refine x_callV0 hE [.int X2] (rest := []) (c1 := M20) (d1 := N) rfl yokX4_putFence yvX4_putFence lk_X11_280 rfl cl_4 (hE.kd (kO_4 (hL_10_1 hI_17))) (by decide) rfl rfl ⟨Nat.le_of_ble_eq_true rfl, Nat.le_of_ble_eq_true rfl⟩ (by decide) rfl (Nat.le_of_ble_eq_true rfl) dX11_fence_103 (mX4_putFence l (hL_10_1 hI_17) hc19) ?_
    refine x_iconst hE (nI 1) dX11_fence_106 (by decide) ?_
    refine x_xin (by decide) (by decide) hf ?_
    exact x_ireturn hE (v := nI 1) hr rfl dX11_fence_107
  · refine x_bipush hE (-3) dX11_fence_80 (by decide) ?_
    refine x_xin (by decide) (by decide) hf ?_
    exact x_ireturn hE (v := (-3)) hr rfl dX11_fence_82
theorem mX11_fence (l : Launch) (hfl : l.stackTraces = false) {Y : Nat → ClassId} {D : va_G} {σ : Nat → Nat} {np b0 : Nat} {M : Mc} {N : Md} {p0 : Int32} {p1 : Int32} {r : Nat ⊕ (Int32 × Mc)} (hf : fX11_fence M p0 p1 = some r) : vx_Met l yX11_fence (.code yX11_fence cX11_fence 4 (some .int) :: lw_g) (rmX 7 2) (PR Y D σ np b0 [.ref (σ 0), .int p0, .int p1] M N) (QX (fun r : Int32 × Mc => QR Y D σ np b0 (some (.int r.1)) r.2 N) r) (XX Y D σ np b0 M N r) 2 (6 * 2) (xA b0) := by
  refine x_vmet (by decide) (Nat.le_of_ble_eq_true rfl) (fun p e s m args below meth c hE hr hT => ?_)
  unfold fX11_fence at hf
  refine x_pick [0, 1, 2] (L' := [(0, .ref (σ 0)), (1, .int p0), (2, .int p1)]) rfl ?_
  refine x_aload_n hE 0 dX11_fence_0 rfl rfl ?_
  refine x_iload_n hE 1 dX11_fence_1 rfl rfl ?_
  obtain ⟨y1, hc2, hy3⟩ := bnx_some hf
  refine x_callXV hE hT [.int p0] (rest := []) rfl yokX11_needPerson yvX11_needPerson lk_X11_138 rfl cl_11 (hE.kd kO_11) (by decide) ⟨Nat.le_of_ble_eq_true rfl, Nat.le_of_ble_eq_true rfl⟩ (by decide) rfl (Nat.le_of_ble_eq_true rfl) dX11_fence_2 (mX11_needPerson l hfl hc2) ⟨rfl, rfl⟩ (by decide) (by decide) (hy3.imp id (fun ⟨_, ha4, hf⟩ => ⟨_, none, M, N, ha4, rfl, ?_⟩))
  refine x_iload_n hE 2 dX11_fence_5 rfl rfl ?_
  obtain ⟨y5, hc6, hy7⟩ := bnx_some hf
  refine x_callXS hE hT [.int p1] (rest := []) rfl yokX11_needSection ysX11_needSection lk_X11_72 ⟨Nat.le_of_ble_eq_true rfl, Nat.le_of_ble_eq_true rfl⟩ (by decide) rfl (Nat.le_of_ble_eq_true rfl) dX11_fence_6 (mX11_needSection l hfl hc6) ⟨rfl, rfl⟩ (by decide) (by decide) (hy7.imp id (fun ⟨_, ha8, hf⟩ => ⟨_, none, M, N, ha8, rfl, ?_⟩))
  refine x_aload_n hE 0 dX11_fence_9 rfl rfl ?_
  refine x_getR hE cl_11 (hE.kd kO_11) (by decide) 2 (17) rfl (by decide) lk_X11_27 dX11_fence_10 ?_
  refine x_getR hE cl_10 (hE.kd (kO_10 hI_17)) (by decide) 1 (17 + 1) rfl (by decide) lk_X11_80 dX11_fence_13 ?_
  refine x_iload_n hE 2 dX11_fence_16 rfl rfl ?_
  refine x_iload_n hE 1 dX11_fence_17 rfl rfl ?_
  obtain ⟨v10, hc9, hf⟩ := bnd_some hf
  refine x_callV1 hE [.int p1, .int p0] (rest := []) (v := .int v10) (c1 := M) (d1 := N) rfl yokX4_isPastureOf yvX4_isPastureOf lk_X11_252 rfl cl_4 (hE.kd (kO_4 (hL_10_1 hI_17))) (by decide) rfl rfl ⟨Nat.le_of_ble_eq_true rfl, Nat.le_of_ble_eq_true rfl⟩ (by decide) rfl (Nat.le_of_ble_eq_true rfl) dX11_fence_18 (mX4_isPastureOf l (hL_10_1 hI_17) hc9) ?_
  refine x_if_ne hE 26 dX11_fence_21 (by decide) hf (fun hf => ?_) (fun hf => ?_)
  · refine x_aload_n hE 0 dX11_fence_26 rfl rfl ?_
    refine x_getR hE cl_11 (hE.kd kO_11) (by decide) 2 (17) rfl (by decide) lk_X11_27 dX11_fence_27 ?_
    refine x_getR hE cl_10 (hE.kd (kO_10 hI_17)) (by decide) 1 (17 + 1) rfl (by decide) lk_X11_80 dX11_fence_30 ?_
    refine x_iload_n hE 2 dX11_fence_33 rfl rfl ?_
    obtain ⟨v12, hc11, hf⟩ := bnd_some hf
    refine x_callV1 hE [.int p1] (rest := []) (v := .int v12) (c1 := M) (d1 := N) rfl yokX4_isFenced yvX4_isFenced lk_X11_274 rfl cl_4 (hE.kd (kO_4 (hL_10_1 hI_17))) (by decide) rfl rfl ⟨Nat.le_of_ble_eq_true rfl, Nat.le_of_ble_eq_true rfl⟩ (by decide) rfl (Nat.le_of_ble_eq_true rfl) dX11_fence_34 (mX4_isFenced l (hL_10_1 hI_17) hc11) ?_
    refine x_if_eq hE 43 dX11_fence_37 (by decide) hf (fun hf => ?_) (fun hf => ?_)
    · refine x_aload_n hE 0 dX11_fence_43 rfl rfl ?_
      refine x_getR hE cl_11 (hE.kd kO_11) (by decide) 2 (17) rfl (by decide) lk_X11_27 dX11_fence_44 ?_
      refine x_getR hE cl_10 (hE.kd (kO_10 hI_17)) (by decide) 2 (17 + 15) rfl (by decide) lk_X11_125 dX11_fence_47 ?_
      refine x_iload_n hE 1 dX11_fence_50 rfl rfl ?_
      obtain ⟨v14, hc13, hf⟩ := bnd_some hf
      refine x_callV1 hE [.int p0] (rest := []) (v := .int v14) (c1 := M) (d1 := N) rfl yokX3_tradeOf yvX3_tradeOf lk_X11_277 rfl cl_3 (hE.kd (kO_3 (hL_10_2 hI_17))) (by decide) rfl rfl ⟨Nat.le_of_ble_eq_true rfl, Nat.le_of_ble_eq_true rfl⟩ (by decide) rfl (Nat.le_of_ble_eq_true rfl) dX11_fence_51 (mX3_tradeOf l (hL_10_2 hI_17) hc13) ?_
      refine x_iconst hE (nI 2) dX11_fence_54 (by decide) ?_
      refine x_icmp_ne hE 62 dX11_fence_55 (by decide) hf (fun hf => ?_) (fun hf => ?_)
      · refine x_bipush hE (nI 15) dX11_fence_62 (by decide) ?_
        exact wX11_fence_J64 hE hr hT hfl hf
      · refine x_iconst hE (nI 5) dX11_fence_58 (by decide) ?_
        refine x_goto hE 64 dX11_fence_59 (by decide) ?_
        exact wX11_fence_J64 hE hr hT hfl hf
    · refine x_bipush hE (-2) dX11_fence_40 (by decide) ?_
      refine x_xin (by decide) (by decide) hf ?_
      exact x_ireturn hE (v := (-2)) hr rfl dX11_fence_42
  · refine x_iconst hE (-1) dX11_fence_24 (by decide) ?_
    refine x_xin (by decide) (by decide) hf ?_
    exact x_ireturn hE (v := (-1)) hr rfl dX11_fence_25
theorem yokX11_fence : YOK yX11_fence cX11_fence 4 2 (some .int) := ⟨mem_g 1300 (by decide +kernel) (by decide +kernel), mem_g 131 (by decide +kernel) (by decide +kernel), by decide +kernel, by decide +kernel, by decide +kernel⟩
theorem yvX11_fence : YV yX11_fence := ⟨mem_g 1298 (by decide +kernel) (by decide +kernel), mem_g 1299 (by decide +kernel) (by decide +kernel)⟩
theorem lk_X11_283 : Cond.fieldLink RX11 283 (TX11 8).1 (TX11 8).2.1 (TX11 8).2.2.1 ∈ lw_g := mem_g 567 (by decide +kernel) (by decide +kernel)
theorem lk_X11_55 : Cond.fieldLink RX11 55 (TX11 7).1 (TX11 7).2.1 (TX11 7).2.2.1 ∈ lw_g := mem_g 566 (by decide +kernel) (by decide +kernel)
theorem dX11_tapeNumber_0 : decode cX11_tapeNumber 0 = .ok (.bipush 24, 2) := by decide +kernel
theorem dX11_tapeNumber_2 : decode cX11_tapeNumber 2 = .ok (.istore_n 2, 1) := by decide +kernel
theorem dX11_tapeNumber_3 : decode cX11_tapeNumber 3 = .ok (.iload_n 2, 1) := by decide +kernel
theorem dX11_tapeNumber_4 : decode cX11_tapeNumber 4 = .ok (.ifCond .lt 51, 3) := by decide +kernel
theorem dX11_tapeNumber_7 : decode cX11_tapeNumber 7 = .ok (.aload_n 0, 1) := by decide +kernel
theorem dX11_tapeNumber_8 : decode cX11_tapeNumber 8 = .ok (.getfield 283, 3) := by decide +kernel
theorem dX11_tapeNumber_11 : decode cX11_tapeNumber 11 = .ok (.aload_n 0, 1) := by decide +kernel
theorem dX11_tapeNumber_12 : decode cX11_tapeNumber 12 = .ok (.getfield 55, 3) := by decide +kernel
theorem dX11_tapeNumber_15 : decode cX11_tapeNumber 15 = .ok (.arraylength, 1) := by decide +kernel
theorem dX11_tapeNumber_16 : decode cX11_tapeNumber 16 = .ok (.invokestatic 191, 3) := by decide +kernel
theorem dX11_tapeNumber_19 : decode cX11_tapeNumber 19 = .ok (.ifCond .ne 4, 3) := by decide +kernel
theorem dX11_tapeNumber_22 : decode cX11_tapeNumber 22 = .ok (.return_, 1) := by decide +kernel
theorem dX11_tapeNumber_23 : decode cX11_tapeNumber 23 = .ok (.aload_n 0, 1) := by decide +kernel
theorem dX11_tapeNumber_24 : decode cX11_tapeNumber 24 = .ok (.getfield 55, 3) := by decide +kernel
theorem dX11_tapeNumber_27 : decode cX11_tapeNumber 27 = .ok (.aload_n 0, 1) := by decide +kernel
theorem dX11_tapeNumber_28 : decode cX11_tapeNumber 28 = .ok (.getfield 283, 3) := by decide +kernel
theorem dX11_tapeNumber_31 : decode cX11_tapeNumber 31 = .ok (.iload_n 1, 1) := by decide +kernel
theorem dX11_tapeNumber_32 : decode cX11_tapeNumber 32 = .ok (.iload_n 2, 1) := by decide +kernel
theorem dX11_tapeNumber_33 : decode cX11_tapeNumber 33 = .ok (.iushr, 1) := by decide +kernel
theorem dX11_tapeNumber_34 : decode cX11_tapeNumber 34 = .ok (.sipush 255, 3) := by decide +kernel
theorem dX11_tapeNumber_37 : decode cX11_tapeNumber 37 = .ok (.iand, 1) := by decide +kernel
theorem dX11_tapeNumber_38 : decode cX11_tapeNumber 38 = .ok (.iastore, 1) := by decide +kernel
theorem dX11_tapeNumber_39 : decode cX11_tapeNumber 39 = .ok (.aload_n 0, 1) := by decide +kernel
theorem dX11_tapeNumber_40 : decode cX11_tapeNumber 40 = .ok (.dup, 1) := by decide +kernel
theorem dX11_tapeNumber_41 : decode cX11_tapeNumber 41 = .ok (.getfield 283, 3) := by decide +kernel
theorem dX11_tapeNumber_44 : decode cX11_tapeNumber 44 = .ok (.iconst 1, 1) := by decide +kernel
theorem dX11_tapeNumber_45 : decode cX11_tapeNumber 45 = .ok (.iadd, 1) := by decide +kernel
theorem dX11_tapeNumber_46 : decode cX11_tapeNumber 46 = .ok (.putfield 283, 3) := by decide +kernel
theorem dX11_tapeNumber_49 : decode cX11_tapeNumber 49 = .ok (.iinc 2 (-8), 3) := by decide +kernel
theorem dX11_tapeNumber_52 : decode cX11_tapeNumber 52 = .ok (.goto (-49), 3) := by decide +kernel
theorem dX11_tapeNumber_55 : decode cX11_tapeNumber 55 = .ok (.return_, 1) := by decide +kernel
theorem wX11_tapeNumber_L3 {p : Program} {l : Launch} {e : Env} {s : State} {m : MethodId} {args : Array Value} {below : List Frame} {meth : Method} {c : Code} {Y : Nat → ClassId} {D : va_G} {σ : Nat → Nat} {np b0 : Nat} {r : Mc} (hE : EOK p s m args meth c cX11_tapeNumber 3 RX11 Y D σ np b0) (hr : meth.sig.returnType = none) : ∀ (n : Nat) (M : Mc) (N : Md) (X1 : Int32) (X2 : Int32), fX11_tapeNumber_L3 n M X1 X2 = some r → Xw p l e (rmD 2) s m args below meth c 3 Y D σ np b0 0 0 (MQ below (QR Y D σ np b0 none r N) args s 0 0 (xA b0)) 3 [(0, .ref (σ 0)), (1, .int X1), (2, .int X2)] [] M N := by
  intro n
  induction n with
  | zero =>
    intro M N X1 X2 hf
    cases hf
  | succ n ih =>
    intro M N X1 X2 hf
    rw [fX11_tapeNumber_L3.eq_2] at hf
    refine x_iload_n hE 2 dX11_tapeNumber_3 rfl rfl ?_
    refine x_if_lt hE 55 dX11_tapeNumber_4 (by decide) hf (fun hf => ?_) (fun hf => ?_)
    · replace hf := Option.some.inj hf
      subst hf
      exact x_vreturn hE hr dX11_tapeNumber_55
    · refine x_aload_n hE 0 dX11_tapeNumber_7 rfl rfl ?_
      refine x_getI hE cl_11 (hE.kd kO_11) (by decide) 8 rfl (by decide) lk_X11_283 dX11_tapeNumber_8 ?_
      refine x_aload_n hE 0 dX11_tapeNumber_11 rfl rfl ?_
      refine x_getR hE cl_11 (hE.kd kO_11) (by decide) 7 (123) rfl (by decide) lk_X11_55 dX11_tapeNumber_12 ?_
      refine x_alen hE (nI 300) (hE.kd kA_123) (Or.inl rfl) rfl dX11_tapeNumber_15 ?_
      obtain ⟨v2, hc1, hf⟩ := bnd_some hf
      refine x_callS1 hE [.int (M 0 8), .int (nI 300)] (rest := []) (v := .int v2) (c1 := M) (d1 := N) rfl yokX11_inside ysX11_inside lk_X11_191 rfl rfl ⟨Nat.le_of_ble_eq_true rfl, Nat.le_of_ble_eq_true rfl⟩ ⟨Nat.zero_le _, Nat.zero_le _⟩ rfl (Nat.le_of_ble_eq_true rfl) dX11_tapeNumber_16 (mX11_inside l hc1) ?_
      refine x_if_ne hE 23 dX11_tapeNumber_19 (by decide) hf (fun hf => ?_) (fun hf => ?_)
      · refine x_aload_n hE 0 dX11_tapeNumber_23 rfl rfl ?_
        refine x_getR hE cl_11 (hE.kd kO_11) (by decide) 7 (123) rfl (by decide) lk_X11_55 dX11_tapeNumber_24 ?_
        refine x_aload_n hE 0 dX11_tapeNumber_27 rfl rfl ?_
        refine x_getI hE cl_11 (hE.kd kO_11) (by decide) 8 rfl (by decide) lk_X11_283 dX11_tapeNumber_28 ?_
        refine x_iload_n hE 1 dX11_tapeNumber_31 rfl rfl ?_
        refine x_iload_n hE 2 dX11_tapeNumber_32 rfl rfl ?_
        refine x_iushr hE dX11_tapeNumber_33 ?_
        refine x_sipush hE (nI 255) dX11_tapeNumber_34 (by decide) ?_
        refine x_iand hE dX11_tapeNumber_37 ?_
        refine x_iast hE (hE.kd kA_123) dX11_tapeNumber_38 hf (fun M3 hf => ?_)
        refine x_aload_n hE 0 dX11_tapeNumber_39 rfl rfl ?_
        refine x_dup hE dX11_tapeNumber_40 rfl ?_
        refine x_getI hE cl_11 (hE.kd kO_11) (by decide) 8 rfl (by decide) lk_X11_283 dX11_tapeNumber_41 ?_
        refine x_iconst hE (nI 1) dX11_tapeNumber_44 (by decide) ?_
        refine x_iadd hE dX11_tapeNumber_45 ?_
        refine x_putI hE cl_11 (hE.kd kO_11) (by decide) 8 rfl (by decide) lk_X11_283 rfl rfl rfl rfl dX11_tapeNumber_46 hf (fun M4 hf => ?_)
        refine x_iinc hE 2 (X2 + (-8)) (L' := [(2, .int (X2 + (-8))), (0, .ref (σ 0)), (1, .int X1)]) dX11_tapeNumber_49 rfl rfl (by decide) rfl ?_
        refine x_pick [1, 2, 0] (L' := [(0, .ref (σ 0)), (1, .int X1), (2, .int (X2 + (-8)))]) rfl ?_
        refine x_goto hE 3 dX11_tapeNumber_52 (by decide) ?_
        exact ih _ _ _ _ hf
      · replace hf := Option.some.inj hf
        subst hf
        exact x_vreturn hE hr dX11_tapeNumber_22
theorem mX11_tapeNumber (l : Launch) {Y : Nat → ClassId} {D : va_G} {σ : Nat → Nat} {np b0 : Nat} {M : Mc} {N : Md} {p0 : Int32} {r : Mc} (hf : fX11_tapeNumber M p0 = some r) : Met l yX11_tapeNumber (.code yX11_tapeNumber cX11_tapeNumber 3 none :: lw_g) (rmD 2) (PR Y D σ np b0 [.ref (σ 0), .int p0] M N) (QR Y D σ np b0 none r N) 0 0 (xA b0) := by
  refine x_met (by decide) (Nat.le_of_ble_eq_true rfl) (fun p e s m args below meth c hE hr => ?_)
  unfold fX11_tapeNumber at hf
  refine x_pick [0, 1] (L' := [(0, .ref (σ 0)), (1, .int p0)]) rfl ?_
  refine x_bipush hE (nI 24) dX11_tapeNumber_0 (by decide) ?_
  refine x_istore_n hE (L' := [(2, .int (nI 24)), (0, .ref (σ 0)), (1, .int p0)]) dX11_tapeNumber_2 rfl (by decide) rfl ?_
  refine x_pick [1, 2, 0] (L' := [(0, .ref (σ 0)), (1, .int p0), (2, .int (nI 24))]) rfl ?_
  exact wX11_tapeNumber_L3 hE hr  FU _ _ _ _ hf
theorem yokX11_tapeNumber : YOK yX11_tapeNumber cX11_tapeNumber 3 1 none := ⟨mem_g 621 (by decide +kernel) (by decide +kernel), mem_g 131 (by decide +kernel) (by decide +kernel), by decide +kernel, by decide +kernel, by decide +kernel⟩
theorem yvX11_tapeNumber : YV yX11_tapeNumber := ⟨mem_g 620 (by decide +kernel) (by decide +kernel), mem_g 0 (by decide +kernel) (by decide +kernel)⟩
theorem lk_X11_286 : Cond.methodLink RX11 286 yX11_tapeNumber ∈ lw_g := mem_g 618 (by decide +kernel) (by decide +kernel)
theorem dX11_feed_0 : decode cX11_feed 0 = .ok (.aload_n 0, 1) := by decide +kernel
theorem dX11_feed_1 : decode cX11_feed 1 = .ok (.getfield 283, 3) := by decide +kernel
theorem dX11_feed_4 : decode cX11_feed 4 = .ok (.sipush 280, 3) := by decide +kernel
theorem dX11_feed_7 : decode cX11_feed 7 = .ok (.if_icmp .le 5, 3) := by decide +kernel
theorem dX11_feed_10 : decode cX11_feed 10 = .ok (.iconst (-1), 1) := by decide +kernel
theorem dX11_feed_11 : decode cX11_feed 11 = .ok (.ireturn, 1) := by decide +kernel
theorem dX11_feed_12 : decode cX11_feed 12 = .ok (.aload_n 0, 1) := by decide +kernel
theorem dX11_feed_13 : decode cX11_feed 13 = .ok (.iload_n 1, 1) := by decide +kernel
theorem dX11_feed_14 : decode cX11_feed 14 = .ok (.invokevirtual 286, 3) := by decide +kernel
theorem dX11_feed_17 : decode cX11_feed 17 = .ok (.aload_n 0, 1) := by decide +kernel
theorem dX11_feed_18 : decode cX11_feed 18 = .ok (.iload_n 2, 1) := by decide +kernel
theorem dX11_feed_19 : decode cX11_feed 19 = .ok (.invokevirtual 286, 3) := by decide +kernel
theorem dX11_feed_22 : decode cX11_feed 22 = .ok (.aload_n 0, 1) := by decide +kernel
theorem dX11_feed_23 : decode cX11_feed 23 = .ok (.iload_n 3, 1) := by decide +kernel
theorem dX11_feed_24 : decode cX11_feed 24 = .ok (.invokevirtual 286, 3) := by decide +kernel
theorem dX11_feed_27 : decode cX11_feed 27 = .ok (.aload_n 0, 1) := by decide +kernel
theorem dX11_feed_28 : decode cX11_feed 28 = .ok (.iload 4, 2) := by decide +kernel
theorem dX11_feed_30 : decode cX11_feed 30 = .ok (.invokevirtual 286, 3) := by decide +kernel
theorem dX11_feed_33 : decode cX11_feed 33 = .ok (.aload_n 0, 1) := by decide +kernel
theorem dX11_feed_34 : decode cX11_feed 34 = .ok (.iload 5, 2) := by decide +kernel
theorem dX11_feed_36 : decode cX11_feed 36 = .ok (.invokevirtual 286, 3) := by decide +kernel
theorem dX11_feed_39 : decode cX11_feed 39 = .ok (.aload_n 0, 1) := by decide +kernel
theorem dX11_feed_40 : decode cX11_feed 40 = .ok (.getfield 283, 3) := by decide +kernel
theorem dX11_feed_43 : decode cX11_feed 43 = .ok (.ireturn, 1) := by decide +kernel
theorem mX11_feed (l : Launch) {Y : Nat → ClassId} {D : va_G} {σ : Nat → Nat} {np b0 : Nat} {M : Mc} {N : Md} {p0 : Int32} {p1 : Int32} {p2 : Int32} {p3 : Int32} {p4 : Int32} {r : Int32 × Mc} (hf : fX11_feed M p0 p1 p2 p3 p4 = some r) : Met l yX11_feed (.code yX11_feed cX11_feed 6 (some .int) :: lw_g) (rmD 3) (PR Y D σ np b0 [.ref (σ 0), .int p0, .int p1, .int p2, .int p3, .int p4] M N) (QR Y D σ np b0 (some (.int r.1)) r.2 N) 0 0 (xA b0) := by
  refine x_met (by decide) (Nat.le_of_ble_eq_true rfl) (fun p e s m args below meth c hE hr => ?_)
  unfold fX11_feed at hf
  refine x_pick [0, 1, 2, 3, 4, 5] (L' := [(0, .ref (σ 0)), (1, .int p0), (2, .int p1), (3, .int p2), (4, .int p3), (5, .int p4)]) rfl ?_
  refine x_aload_n hE 0 dX11_feed_0 rfl rfl ?_
  refine x_getI hE cl_11 (hE.kd kO_11) (by decide) 8 rfl (by decide) lk_X11_283 dX11_feed_1 ?_
  refine x_sipush hE (nI 280) dX11_feed_4 (by decide) ?_
  refine x_icmp_le hE 12 dX11_feed_7 (by decide) hf (fun hf => ?_) (fun hf => ?_)
  · refine x_aload_n hE 0 dX11_feed_12 rfl rfl ?_
    refine x_iload_n hE 1 dX11_feed_13 rfl rfl ?_
    obtain ⟨M2, hc1, hf⟩ := bnd_some hf
    refine x_callV0 hE [.int p0] (rest := []) (c1 := M2) (d1 := N) rfl yokX11_tapeNumber yvX11_tapeNumber lk_X11_286 rfl cl_11 (hE.kd kO_11) (by decide) rfl rfl ⟨Nat.le_of_ble_eq_true rfl, Nat.le_of_ble_eq_true rfl⟩ ⟨Nat.zero_le _, Nat.zero_le _⟩ rfl (Nat.le_of_ble_eq_true rfl) dX11_feed_14 (mX11_tapeNumber l hc1) ?_
    refine x_aload_n hE 0 dX11_feed_17 rfl rfl ?_
    refine x_iload_n hE 2 dX11_feed_18 rfl rfl ?_
    obtain ⟨M4, hc3, hf⟩ := bnd_some hf
    refine x_callV0 hE [.int p1] (rest := []) (c1 := M4) (d1 := N) rfl yokX11_tapeNumber yvX11_tapeNumber lk_X11_286 rfl cl_11 (hE.kd kO_11) (by decide) rfl rfl ⟨Nat.le_of_ble_eq_true rfl, Nat.le_of_ble_eq_true rfl⟩ ⟨Nat.zero_le _, Nat.zero_le _⟩ rfl (Nat.le_of_ble_eq_true rfl) dX11_feed_19 (mX11_tapeNumber l hc3) ?_
    refine x_aload_n hE 0 dX11_feed_22 rfl rfl ?_
    refine x_iload_n hE 3 dX11_feed_23 rfl rfl ?_
    obtain ⟨M6, hc5, hf⟩ := bnd_some hf
    refine x_callV0 hE [.int p2] (rest := []) (c1 := M6) (d1 := N) rfl yokX11_tapeNumber yvX11_tapeNumber lk_X11_286 rfl cl_11 (hE.kd kO_11) (by decide) rfl rfl ⟨Nat.le_of_ble_eq_true rfl, Nat.le_of_ble_eq_true rfl⟩ ⟨Nat.zero_le _, Nat.zero_le _⟩ rfl (Nat.le_of_ble_eq_true rfl) dX11_feed_24 (mX11_tapeNumber l hc5) ?_
    refine x_aload_n hE 0 dX11_feed_27 rfl rfl ?_
    refine x_iload hE 4 dX11_feed_28 rfl ?_
    obtain ⟨M8, hc7, hf⟩ := bnd_some hf
    refine x_callV0 hE [.int p3] (rest := []) (c1 := M8) (d1 := N) rfl yokX11_tapeNumber yvX11_tapeNumber lk_X11_286 rfl cl_11 (hE.kd kO_11) (by decide) rfl rfl ⟨Nat.le_of_ble_eq_true rfl, Nat.le_of_ble_eq_true rfl⟩ ⟨Nat.zero_le _, Nat.zero_le _⟩ rfl (Nat.le_of_ble_eq_true rfl) dX11_feed_30 (mX11_tapeNumber l hc7) ?_
    refine x_aload_n hE 0 dX11_feed_33 rfl rfl ?_
    refine x_iload hE 5 dX11_feed_34 rfl ?_
    obtain ⟨M10, hc9, hf⟩ := bnd_some hf
    refine x_callV0 hE [.int p4] (rest := []) (c1 := M10) (d1 := N) rfl yokX11_tapeNumber yvX11_tapeNumber lk_X11_286 rfl cl_11 (hE.kd kO_11) (by decide) rfl rfl ⟨Nat.le_of_ble_eq_true rfl, Nat.le_of_ble_eq_true rfl⟩ ⟨Nat.zero_le _, Nat.zero_le _⟩ rfl (Nat.le_of_ble_eq_true rfl) dX11_feed_36 (mX11_tapeNumber l hc9) ?_
    refine x_aload_n hE 0 dX11_feed_39 rfl rfl ?_
    refine x_getI hE cl_11 (hE.kd kO_11) (by decide) 8 rfl (by decide) lk_X11_283 dX11_feed_40 ?_
    replace hf := Option.some.inj hf
    subst hf
    exact x_ireturn hE (v := M10 0 8) hr rfl dX11_feed_43
  · refine x_iconst hE (-1) dX11_feed_10 (by decide) ?_
    replace hf := Option.some.inj hf
    subst hf
    exact x_ireturn hE (v := (-1)) hr rfl dX11_feed_11
theorem yokX11_feed : YOK yX11_feed cX11_feed 6 5 (some .int) := ⟨mem_g 617 (by decide +kernel) (by decide +kernel), mem_g 131 (by decide +kernel) (by decide +kernel), by decide +kernel, by decide +kernel, by decide +kernel⟩
theorem yvX11_feed : YV yX11_feed := ⟨mem_g 615 (by decide +kernel) (by decide +kernel), mem_g 616 (by decide +kernel) (by decide +kernel)⟩
theorem lk_X11_59 : Cond.fieldLink RX11 59 (TX11 9).1 (TX11 9).2.1 (TX11 9).2.2.1 ∈ lw_g := mem_g 568 (by decide +kernel) (by decide +kernel)
theorem dX11_fault_0 : decode cX11_fault 0 = .ok (.aload_n 0, 1) := by decide +kernel
theorem dX11_fault_1 : decode cX11_fault 1 = .ok (.getfield 59, 3) := by decide +kernel
theorem dX11_fault_4 : decode cX11_fault 4 = .ok (.ireturn, 1) := by decide +kernel
theorem mX11_fault (l : Launch) {Y : Nat → ClassId} {D : va_G} {σ : Nat → Nat} {np b0 : Nat} {M : Mc} {N : Md} {r : Int32} (hf : fX11_fault M = some r) : Met l yX11_fault (.code yX11_fault cX11_fault 1 (some .int) :: lw_g) (rmD 1) (PR Y D σ np b0 [.ref (σ 0)] M N) (QR Y D σ np b0 (some (.int r)) M N) 0 0 (xA b0) := by
  refine x_met (by decide) (Nat.le_of_ble_eq_true rfl) (fun p e s m args below meth c hE hr => ?_)
  unfold fX11_fault at hf
  refine x_pick [0] (L' := [(0, .ref (σ 0))]) rfl ?_
  refine x_aload_n hE 0 dX11_fault_0 rfl rfl ?_
  refine x_getI hE cl_11 (hE.kd kO_11) (by decide) 9 rfl (by decide) lk_X11_59 dX11_fault_1 ?_
  replace hf := Option.some.inj hf
  subst hf
  exact x_ireturn hE (v := M 0 9) hr rfl dX11_fault_4
theorem yokX11_fault : YOK yX11_fault cX11_fault 1 0 (some .int) := ⟨mem_g 628 (by decide +kernel) (by decide +kernel), mem_g 131 (by decide +kernel) (by decide +kernel), by decide +kernel, by decide +kernel, by decide +kernel⟩
theorem yvX11_fault : YV yX11_fault := ⟨mem_g 626 (by decide +kernel) (by decide +kernel), mem_g 627 (by decide +kernel) (by decide +kernel)⟩
theorem lk_X11_293 : Cond.fieldLink RX11 293 (TX2 1).1 (TX2 1).2.1 (TX2 1).2.2.1 ∈ lw_g := mem_g 364 (by decide +kernel) (by decide +kernel)
theorem dX11_needLaw_0 : decode cX11_needLaw 0 = .ok (.iload_n 1, 1) := by decide +kernel
theorem dX11_needLaw_1 : decode cX11_needLaw 1 = .ok (.aload_n 0, 1) := by decide +kernel
theorem dX11_needLaw_2 : decode cX11_needLaw 2 = .ok (.getfield 27, 3) := by decide +kernel
theorem dX11_needLaw_5 : decode cX11_needLaw 5 = .ok (.getfield 289, 3) := by decide +kernel
theorem dX11_needLaw_8 : decode cX11_needLaw 8 = .ok (.getfield 293, 3) := by decide +kernel
theorem dX11_needLaw_11 : decode cX11_needLaw 11 = .ok (.invokestatic 191, 3) := by decide +kernel
theorem dX11_needLaw_14 : decode cX11_needLaw 14 = .ok (.ifCond .ne 11, 3) := by decide +kernel
theorem dX11_needLaw_17 : decode cX11_needLaw 17 = .ok (.new 195, 3) := by decide +kernel
theorem dX11_needLaw_20 : decode cX11_needLaw 20 = .ok (.dup, 1) := by decide +kernel
theorem dX11_needLaw_21 : decode cX11_needLaw 21 = .ok (.invokespecial 197, 3) := by decide +kernel
theorem dX11_needLaw_24 : decode cX11_needLaw 24 = .ok (.athrow, 1) := by decide +kernel
theorem dX11_needLaw_25 : decode cX11_needLaw 25 = .ok (.return_, 1) := by decide +kernel
theorem mX11_needLaw (l : Launch) (hfl : l.stackTraces = false) {Y : Nat → ClassId} {D : va_G} {σ : Nat → Nat} {np b0 : Nat} {M : Mc} {N : Md} {p0 : Int32} {r : Nat ⊕ (Unit)} (hf : fX11_needLaw M p0 = some r) : vx_Met l yX11_needLaw (.code yX11_needLaw cX11_needLaw 2 none :: lw_g) (rmX 6 1) (PR Y D σ np b0 [.ref (σ 0), .int p0] M N) (QX (fun r : Unit => QR Y D σ np b0 none M N) r) (XX Y D σ np b0 M N r) 1 (6 * 1) (xA b0) := by
  refine x_vmet (by decide) (Nat.le_of_ble_eq_true rfl) (fun p e s m args below meth c hE hr hT => ?_)
  unfold fX11_needLaw at hf
  refine x_pick [0, 1] (L' := [(0, .ref (σ 0)), (1, .int p0)]) rfl ?_
  refine x_iload_n hE 1 dX11_needLaw_0 rfl rfl ?_
  refine x_aload_n hE 0 dX11_needLaw_1 rfl rfl ?_
  refine x_getR hE cl_11 (hE.kd kO_11) (by decide) 2 (17) rfl (by decide) lk_X11_27 dX11_needLaw_2 ?_
  refine x_getR hE cl_10 (hE.kd (kO_10 hI_17)) (by decide) 5 (17 + 37) rfl (by decide) lk_X11_289 dX11_needLaw_5 ?_
  refine x_getI hE cl_2 (hE.kd (kO_2 (hL_10_5 hI_17))) (by decide) 1 rfl (by decide) lk_X11_293 dX11_needLaw_8 ?_
  obtain ⟨v2, hc1, hf⟩ := bnd_some hf
  refine x_callS1 hE [.int p0, .int (M (17 + 37) 1)] (rest := []) (v := .int v2) (c1 := M) (d1 := N) rfl yokX11_inside ysX11_inside lk_X11_191 rfl rfl ⟨Nat.le_of_ble_eq_true rfl, Nat.le_of_ble_eq_true rfl⟩ (by decide) rfl (Nat.le_of_ble_eq_true rfl) dX11_needLaw_11 (mX11_inside l hc1) ?_
  refine x_if_ne hE 25 dX11_needLaw_14 (by decide) hf (fun hf => ?_) (fun hf => ?_)
  · refine x_xin (by decide) (by decide) hf ?_
    exact x_vreturn hE hr dX11_needLaw_25
  · exact x_throw hE hT hfl (ik := 195) (ic := 197) ["java/lang/RuntimeException", "java/lang/Exception"] (by decide +kernel) (by decide +kernel) ak_X11_197_1 ai_X11_197_1 at_X11_197_1 ag_X11_197_1 dX11_needLaw_17 dX11_needLaw_20 dX11_needLaw_21 dX11_needLaw_24 (by decide) (by decide) (Nat.le_of_ble_eq_true rfl) (by decide) (by decide) (by decide) (by decide) hf
theorem yokX11_needLaw : YOK yX11_needLaw cX11_needLaw 2 1 none := ⟨mem_g 1526 (by decide +kernel) (by decide +kernel), mem_g 131 (by decide +kernel) (by decide +kernel), by decide +kernel, by decide +kernel, by decide +kernel⟩
theorem yvX11_needLaw : YV yX11_needLaw := ⟨mem_g 1525 (by decide +kernel) (by decide +kernel), mem_g 35 (by decide +kernel) (by decide +kernel)⟩
theorem lk_X11_462 : Cond.methodLink RX11 462 yX3_farmsOf ∈ lw_g := mem_g 1535 (by decide +kernel) (by decide +kernel)
theorem dX11_mayVote_0 : decode cX11_mayVote 0 = .ok (.aload_n 0, 1) := by decide +kernel
theorem dX11_mayVote_1 : decode cX11_mayVote 1 = .ok (.getfield 27, 3) := by decide +kernel
theorem dX11_mayVote_4 : decode cX11_mayVote 4 = .ok (.getfield 125, 3) := by decide +kernel
theorem dX11_mayVote_7 : decode cX11_mayVote 7 = .ok (.iload_n 1, 1) := by decide +kernel
theorem dX11_mayVote_8 : decode cX11_mayVote 8 = .ok (.invokevirtual 172, 3) := by decide +kernel
theorem dX11_mayVote_11 : decode cX11_mayVote 11 = .ok (.ifCond .eq 32, 3) := by decide +kernel
theorem dX11_mayVote_14 : decode cX11_mayVote 14 = .ok (.aload_n 0, 1) := by decide +kernel
theorem dX11_mayVote_15 : decode cX11_mayVote 15 = .ok (.getfield 27, 3) := by decide +kernel
theorem dX11_mayVote_18 : decode cX11_mayVote 18 = .ok (.getfield 125, 3) := by decide +kernel
theorem dX11_mayVote_21 : decode cX11_mayVote 21 = .ok (.iload_n 1, 1) := by decide +kernel
theorem dX11_mayVote_22 : decode cX11_mayVote 22 = .ok (.invokevirtual 462, 3) := by decide +kernel
theorem dX11_mayVote_25 : decode cX11_mayVote 25 = .ok (.ifCond .gt 14, 3) := by decide +kernel
theorem dX11_mayVote_28 : decode cX11_mayVote 28 = .ok (.aload_n 0, 1) := by decide +kernel
theorem dX11_mayVote_29 : decode cX11_mayVote 29 = .ok (.getfield 37, 3) := by decide +kernel
theorem dX11_mayVote_32 : decode cX11_mayVote 32 = .ok (.iload_n 1, 1) := by decide +kernel
theorem dX11_mayVote_33 : decode cX11_mayVote 33 = .ok (.invokevirtual 175, 3) := by decide +kernel
theorem dX11_mayVote_36 : decode cX11_mayVote 36 = .ok (.ifCond .eq 7, 3) := by decide +kernel
theorem dX11_mayVote_39 : decode cX11_mayVote 39 = .ok (.iconst 1, 1) := by decide +kernel
theorem dX11_mayVote_40 : decode cX11_mayVote 40 = .ok (.goto 4, 3) := by decide +kernel
theorem dX11_mayVote_43 : decode cX11_mayVote 43 = .ok (.iconst 0, 1) := by decide +kernel
theorem dX11_mayVote_44 : decode cX11_mayVote 44 = .ok (.ireturn, 1) := by decide +kernel
theorem mX11_mayVote (l : Launch) {Y : Nat → ClassId} {D : va_G} {σ : Nat → Nat} {np b0 : Nat} {M : Mc} {N : Md} {p0 : Int32} {r : Int32} (hf : fX11_mayVote M p0 = some r) : Met l yX11_mayVote (.code yX11_mayVote cX11_mayVote 2 (some .boolean) :: lw_g) (rmD 3) (PR Y D σ np b0 [.ref (σ 0), .int p0] M N) (QR Y D σ np b0 (some (.int r)) M N) 0 0 (xA b0) := by
  refine x_met (by decide) (Nat.le_of_ble_eq_true rfl) (fun p e s m args below meth c hE hr => ?_)
  unfold fX11_mayVote at hf
  refine x_pick [0, 1] (L' := [(0, .ref (σ 0)), (1, .int p0)]) rfl ?_
  refine x_aload_n hE 0 dX11_mayVote_0 rfl rfl ?_
  refine x_getR hE cl_11 (hE.kd kO_11) (by decide) 2 (17) rfl (by decide) lk_X11_27 dX11_mayVote_1 ?_
  refine x_getR hE cl_10 (hE.kd (kO_10 hI_17)) (by decide) 2 (17 + 15) rfl (by decide) lk_X11_125 dX11_mayVote_4 ?_
  refine x_iload_n hE 1 dX11_mayVote_7 rfl rfl ?_
  obtain ⟨v2, hc1, hf⟩ := bnd_some hf
  refine x_callV1 hE [.int p0] (rest := []) (v := .int v2) (c1 := M) (d1 := N) rfl yokX3_isHere yvX3_isHere lk_X11_172 rfl cl_3 (hE.kd (kO_3 (hL_10_2 hI_17))) (by decide) rfl rfl ⟨Nat.le_of_ble_eq_true rfl, Nat.le_of_ble_eq_true rfl⟩ ⟨Nat.zero_le _, Nat.zero_le _⟩ rfl (Nat.le_of_ble_eq_true rfl) dX11_mayVote_8 (mX3_isHere l (hL_10_2 hI_17) hc1) ?_
  refine x_if_eq hE 43 dX11_mayVote_11 (by decide) hf (fun hf => ?_) (fun hf => ?_)
  · refine x_iconst hE (0 : Int32) dX11_mayVote_43 (by decide) ?_
    replace hf := Option.some.inj hf
    subst hf
    exact x_ireturn hE (v := 0) hr rfl dX11_mayVote_44
  · refine x_aload_n hE 0 dX11_mayVote_14 rfl rfl ?_
    refine x_getR hE cl_11 (hE.kd kO_11) (by decide) 2 (17) rfl (by decide) lk_X11_27 dX11_mayVote_15 ?_
    refine x_getR hE cl_10 (hE.kd (kO_10 hI_17)) (by decide) 2 (17 + 15) rfl (by decide) lk_X11_125 dX11_mayVote_18 ?_
    refine x_iload_n hE 1 dX11_mayVote_21 rfl rfl ?_
    obtain ⟨v4, hc3, hf⟩ := bnd_some hf
    refine x_callV1 hE [.int p0] (rest := []) (v := .int v4) (c1 := M) (d1 := N) rfl yokX3_farmsOf yvX3_farmsOf lk_X11_462 rfl cl_3 (hE.kd (kO_3 (hL_10_2 hI_17))) (by decide) rfl rfl ⟨Nat.le_of_ble_eq_true rfl, Nat.le_of_ble_eq_true rfl⟩ ⟨Nat.zero_le _, Nat.zero_le _⟩ rfl (Nat.le_of_ble_eq_true rfl) dX11_mayVote_22 (mX3_farmsOf l (hL_10_2 hI_17) hc3) ?_
    refine x_if_gt hE 39 dX11_mayVote_25 (by decide) hf (fun hf => ?_) (fun hf => ?_)
    · refine x_iconst hE (nI 1) dX11_mayVote_39 (by decide) ?_
      refine x_goto hE 44 dX11_mayVote_40 (by decide) ?_
      replace hf := Option.some.inj hf
      subst hf
      exact x_ireturn hE (v := nI 1) hr rfl dX11_mayVote_44
    · refine x_aload_n hE 0 dX11_mayVote_28 rfl rfl ?_
      refine x_getR hE cl_11 (hE.kd kO_11) (by decide) 4 (111) rfl (by decide) lk_X11_37 dX11_mayVote_29 ?_
      refine x_iload_n hE 1 dX11_mayVote_32 rfl rfl ?_
      obtain ⟨v6, hc5, hf⟩ := bnd_some hf
      refine x_callV1 hE [.int p0] (rest := []) (v := .int v6) (c1 := M) (d1 := N) rfl yokX9_has yvX9_has lk_X11_175 rfl cl_9 (hE.kd kO_9) (by decide) rfl rfl ⟨Nat.le_of_ble_eq_true rfl, Nat.le_of_ble_eq_true rfl⟩ ⟨Nat.zero_le _, Nat.zero_le _⟩ rfl (Nat.le_of_ble_eq_true rfl) dX11_mayVote_33 (mX9_has l hc5) ?_
      refine x_if_eq hE 43 dX11_mayVote_36 (by decide) hf (fun hf => ?_) (fun hf => ?_)
      · refine x_iconst hE (0 : Int32) dX11_mayVote_43 (by decide) ?_
        replace hf := Option.some.inj hf
        subst hf
        exact x_ireturn hE (v := 0) hr rfl dX11_mayVote_44
      · refine x_iconst hE (nI 1) dX11_mayVote_39 (by decide) ?_
        refine x_goto hE 44 dX11_mayVote_40 (by decide) ?_
        replace hf := Option.some.inj hf
        subst hf
        exact x_ireturn hE (v := nI 1) hr rfl dX11_mayVote_44
theorem yokX11_mayVote : YOK yX11_mayVote cX11_mayVote 2 1 (some .boolean) := ⟨mem_g 1534 (by decide +kernel) (by decide +kernel), mem_g 131 (by decide +kernel) (by decide +kernel), by decide +kernel, by decide +kernel, by decide +kernel⟩
theorem yvX11_mayVote : YV yX11_mayVote := ⟨mem_g 1533 (by decide +kernel) (by decide +kernel), mem_g 36 (by decide +kernel) (by decide +kernel)⟩
theorem lk_X11_310 : Cond.methodLink RX11 310 yX11_needLaw ∈ lw_g := mem_g 1523 (by decide +kernel) (by decide +kernel)
theorem lk_X11_313 : Cond.methodLink RX11 313 yX2_stateOf ∈ lw_g := mem_g 1527 (by decide +kernel) (by decide +kernel)
theorem lk_X11_316 : Cond.methodLink RX11 316 yX11_mayVote ∈ lw_g := mem_g 1531 (by decide +kernel) (by decide +kernel)
theorem lk_X11_319 : Cond.methodLink RX11 319 yX2_hasVoted ∈ lw_g := mem_g 1539 (by decide +kernel) (by decide +kernel)
theorem lk_X11_322 : Cond.methodLink RX11 322 yX2_hearVote ∈ lw_g := mem_g 1543 (by decide +kernel) (by decide +kernel)
theorem dX11_vote_0 : decode cX11_vote 0 = .ok (.aload_n 0, 1) := by decide +kernel
theorem dX11_vote_1 : decode cX11_vote 1 = .ok (.iload_n 1, 1) := by decide +kernel
theorem dX11_vote_2 : decode cX11_vote 2 = .ok (.invokevirtual 310, 3) := by decide +kernel
theorem dX11_vote_5 : decode cX11_vote 5 = .ok (.aload_n 0, 1) := by decide +kernel
theorem dX11_vote_6 : decode cX11_vote 6 = .ok (.iload_n 2, 1) := by decide +kernel
theorem dX11_vote_7 : decode cX11_vote 7 = .ok (.invokevirtual 138, 3) := by decide +kernel
theorem dX11_vote_10 : decode cX11_vote 10 = .ok (.aload_n 0, 1) := by decide +kernel
theorem dX11_vote_11 : decode cX11_vote 11 = .ok (.getfield 27, 3) := by decide +kernel
theorem dX11_vote_14 : decode cX11_vote 14 = .ok (.getfield 289, 3) := by decide +kernel
theorem dX11_vote_17 : decode cX11_vote 17 = .ok (.iload_n 1, 1) := by decide +kernel
theorem dX11_vote_18 : decode cX11_vote 18 = .ok (.invokevirtual 313, 3) := by decide +kernel
theorem dX11_vote_21 : decode cX11_vote 21 = .ok (.ifCond .eq 5, 3) := by decide +kernel
theorem dX11_vote_24 : decode cX11_vote 24 = .ok (.iconst (-1), 1) := by decide +kernel
theorem dX11_vote_25 : decode cX11_vote 25 = .ok (.ireturn, 1) := by decide +kernel
theorem dX11_vote_26 : decode cX11_vote 26 = .ok (.aload_n 0, 1) := by decide +kernel
theorem dX11_vote_27 : decode cX11_vote 27 = .ok (.iload_n 2, 1) := by decide +kernel
theorem dX11_vote_28 : decode cX11_vote 28 = .ok (.invokevirtual 316, 3) := by decide +kernel
theorem dX11_vote_31 : decode cX11_vote 31 = .ok (.ifCond .ne 6, 3) := by decide +kernel
theorem dX11_vote_34 : decode cX11_vote 34 = .ok (.bipush (-2), 2) := by decide +kernel
theorem dX11_vote_36 : decode cX11_vote 36 = .ok (.ireturn, 1) := by decide +kernel
theorem dX11_vote_37 : decode cX11_vote 37 = .ok (.aload_n 0, 1) := by decide +kernel
theorem dX11_vote_38 : decode cX11_vote 38 = .ok (.getfield 27, 3) := by decide +kernel
theorem dX11_vote_41 : decode cX11_vote 41 = .ok (.getfield 289, 3) := by decide +kernel
theorem dX11_vote_44 : decode cX11_vote 44 = .ok (.iload_n 1, 1) := by decide +kernel
theorem dX11_vote_45 : decode cX11_vote 45 = .ok (.iload_n 2, 1) := by decide +kernel
theorem dX11_vote_46 : decode cX11_vote 46 = .ok (.invokevirtual 319, 3) := by decide +kernel
theorem dX11_vote_49 : decode cX11_vote 49 = .ok (.ifCond .eq 6, 3) := by decide +kernel
theorem dX11_vote_52 : decode cX11_vote 52 = .ok (.bipush (-3), 2) := by decide +kernel
theorem dX11_vote_54 : decode cX11_vote 54 = .ok (.ireturn, 1) := by decide +kernel
theorem dX11_vote_55 : decode cX11_vote 55 = .ok (.aload_n 0, 1) := by decide +kernel
theorem dX11_vote_56 : decode cX11_vote 56 = .ok (.getfield 27, 3) := by decide +kernel
theorem dX11_vote_59 : decode cX11_vote 59 = .ok (.getfield 289, 3) := by decide +kernel
theorem dX11_vote_62 : decode cX11_vote 62 = .ok (.iload_n 1, 1) := by decide +kernel
theorem dX11_vote_63 : decode cX11_vote 63 = .ok (.iload_n 2, 1) := by decide +kernel
theorem dX11_vote_64 : decode cX11_vote 64 = .ok (.iload_n 3, 1) := by decide +kernel
theorem dX11_vote_65 : decode cX11_vote 65 = .ok (.invokevirtual 322, 3) := by decide +kernel
theorem dX11_vote_68 : decode cX11_vote 68 = .ok (.ireturn, 1) := by decide +kernel
theorem mX11_vote (l : Launch) (hfl : l.stackTraces = false) {Y : Nat → ClassId} {D : va_G} {σ : Nat → Nat} {np b0 : Nat} {M : Mc} {N : Md} {p0 : Int32} {p1 : Int32} {p2 : Int32} {r : Nat ⊕ (Int32 × Mc)} (hf : fX11_vote M p0 p1 p2 = some r) : vx_Met l yX11_vote (.code yX11_vote cX11_vote 4 (some .int) :: lw_g) (rmX 7 2) (PR Y D σ np b0 [.ref (σ 0), .int p0, .int p1, .int p2] M N) (QX (fun r : Int32 × Mc => QR Y D σ np b0 (some (.int r.1)) r.2 N) r) (XX Y D σ np b0 M N r) 2 (6 * 2) (xA b0) := by
  refine x_vmet (by decide) (Nat.le_of_ble_eq_true rfl) (fun p e s m args below meth c hE hr hT => ?_)
  unfold fX11_vote at hf
  refine x_pick [0, 1, 2, 3] (L' := [(0, .ref (σ 0)), (1, .int p0), (2, .int p1), (3, .int p2)]) rfl ?_
  refine x_aload_n hE 0 dX11_vote_0 rfl rfl ?_
  refine x_iload_n hE 1 dX11_vote_1 rfl rfl ?_
  obtain ⟨y1, hc2, hy3⟩ := bnx_some hf
  refine x_callXV hE hT [.int p0] (rest := []) rfl yokX11_needLaw yvX11_needLaw lk_X11_310 rfl cl_11 (hE.kd kO_11) (by decide) ⟨Nat.le_of_ble_eq_true rfl, Nat.le_of_ble_eq_true rfl⟩ (by decide) rfl (Nat.le_of_ble_eq_true rfl) dX11_vote_2 (mX11_needLaw l hfl hc2) ⟨rfl, rfl⟩ (by decide) (by decide) (hy3.imp id (fun ⟨_, ha4, hf⟩ => ⟨_, none, M, N, ha4, rfl, ?_⟩))
  refine x_aload_n hE 0 dX11_vote_5 rfl rfl ?_
  refine x_iload_n hE 2 dX11_vote_6 rfl rfl ?_
  obtain ⟨y5, hc6, hy7⟩ := bnx_some hf
  refine x_callXV hE hT [.int p1] (rest := []) rfl yokX11_needPerson yvX11_needPerson lk_X11_138 rfl cl_11 (hE.kd kO_11) (by decide) ⟨Nat.le_of_ble_eq_true rfl, Nat.le_of_ble_eq_true rfl⟩ (by decide) rfl (Nat.le_of_ble_eq_true rfl) dX11_vote_7 (mX11_needPerson l hfl hc6) ⟨rfl, rfl⟩ (by decide) (by decide) (hy7.imp id (fun ⟨_, ha8, hf⟩ => ⟨_, none, M, N, ha8, rfl, ?_⟩))
  refine x_aload_n hE 0 dX11_vote_10 rfl rfl ?_
  refine x_getR hE cl_11 (hE.kd kO_11) (by decide) 2 (17) rfl (by decide) lk_X11_27 dX11_vote_11 ?_
  refine x_getR hE cl_10 (hE.kd (kO_10 hI_17)) (by decide) 5 (17 + 37) rfl (by decide) lk_X11_289 dX11_vote_14 ?_
  refine x_iload_n hE 1 dX11_vote_17 rfl rfl ?_
  obtain ⟨v10, hc9, hf⟩ := bnd_some hf
  refine x_callV1 hE [.int p0] (rest := []) (v := .int v10) (c1 := M) (d1 := N) rfl yokX2_stateOf yvX2_stateOf lk_X11_313 rfl cl_2 (hE.kd (kO_2 (hL_10_5 hI_17))) (by decide) rfl rfl ⟨Nat.le_of_ble_eq_true rfl, Nat.le_of_ble_eq_true rfl⟩ (by decide) rfl (Nat.le_of_ble_eq_true rfl) dX11_vote_18 (mX2_stateOf l (hL_10_5 hI_17) hc9) ?_
  refine x_if_eq hE 26 dX11_vote_21 (by decide) hf (fun hf => ?_) (fun hf => ?_)
  · refine x_aload_n hE 0 dX11_vote_26 rfl rfl ?_
    refine x_iload_n hE 2 dX11_vote_27 rfl rfl ?_
    obtain ⟨v12, hc11, hf⟩ := bnd_some hf
    refine x_callV1 hE [.int p1] (rest := []) (v := .int v12) (c1 := M) (d1 := N) rfl yokX11_mayVote yvX11_mayVote lk_X11_316 rfl cl_11 (hE.kd kO_11) (by decide) rfl rfl ⟨Nat.le_of_ble_eq_true rfl, Nat.le_of_ble_eq_true rfl⟩ (by decide) rfl (Nat.le_of_ble_eq_true rfl) dX11_vote_28 (mX11_mayVote l hc11) ?_
    refine x_if_ne hE 37 dX11_vote_31 (by decide) hf (fun hf => ?_) (fun hf => ?_)
    · refine x_aload_n hE 0 dX11_vote_37 rfl rfl ?_
      refine x_getR hE cl_11 (hE.kd kO_11) (by decide) 2 (17) rfl (by decide) lk_X11_27 dX11_vote_38 ?_
      refine x_getR hE cl_10 (hE.kd (kO_10 hI_17)) (by decide) 5 (17 + 37) rfl (by decide) lk_X11_289 dX11_vote_41 ?_
      refine x_iload_n hE 1 dX11_vote_44 rfl rfl ?_
      refine x_iload_n hE 2 dX11_vote_45 rfl rfl ?_
      obtain ⟨v14, hc13, hf⟩ := bnd_some hf
      refine x_callV1 hE [.int p0, .int p1] (rest := []) (v := .int v14) (c1 := M) (d1 := N) rfl yokX2_hasVoted yvX2_hasVoted lk_X11_319 rfl cl_2 (hE.kd (kO_2 (hL_10_5 hI_17))) (by decide) rfl rfl ⟨Nat.le_of_ble_eq_true rfl, Nat.le_of_ble_eq_true rfl⟩ (by decide) rfl (Nat.le_of_ble_eq_true rfl) dX11_vote_46 (mX2_hasVoted l (hL_10_5 hI_17) hc13) ?_
      refine x_if_eq hE 55 dX11_vote_49 (by decide) hf (fun hf => ?_) (fun hf => ?_)
      · refine x_aload_n hE 0 dX11_vote_55 rfl rfl ?_
        refine x_getR hE cl_11 (hE.kd kO_11) (by decide) 2 (17) rfl (by decide) lk_X11_27 dX11_vote_56 ?_
        refine x_getR hE cl_10 (hE.kd (kO_10 hI_17)) (by decide) 5 (17 + 37) rfl (by decide) lk_X11_289 dX11_vote_59 ?_
        refine x_iload_n hE 1 dX11_vote_62 rfl rfl ?_
        refine x_iload_n hE 2 dX11_vote_63 rfl rfl ?_
        refine x_iload_n hE 3 dX11_vote_64 rfl rfl ?_
        obtain ⟨⟨v16, M17⟩, hc15, hf⟩ := bn2_some hf
        refine x_callV1 hE [.int p0, .int p1, .int p2] (rest := []) (v := .int v16) (c1 := M17) (d1 := N) rfl yokX2_hearVote yvX2_hearVote lk_X11_322 rfl cl_2 (hE.kd (kO_2 (hL_10_5 hI_17))) (by decide) rfl rfl ⟨Nat.le_of_ble_eq_true rfl, Nat.le_of_ble_eq_true rfl⟩ (by decide) rfl (Nat.le_of_ble_eq_true rfl) dX11_vote_65 (mX2_hearVote l (hL_10_5 hI_17) hc15) ?_
        refine x_xin (by decide) (by decide) hf ?_
        exact x_ireturn hE (v := v16) hr rfl dX11_vote_68
      · refine x_bipush hE (-3) dX11_vote_52 (by decide) ?_
        refine x_xin (by decide) (by decide) hf ?_
        exact x_ireturn hE (v := (-3)) hr rfl dX11_vote_54
    · refine x_bipush hE (-2) dX11_vote_34 (by decide) ?_
      refine x_xin (by decide) (by decide) hf ?_
      exact x_ireturn hE (v := (-2)) hr rfl dX11_vote_36
  · refine x_iconst hE (-1) dX11_vote_24 (by decide) ?_
    refine x_xin (by decide) (by decide) hf ?_
    exact x_ireturn hE (v := (-1)) hr rfl dX11_vote_25
theorem yokX11_vote : YOK yX11_vote cX11_vote 4 3 (some .int) := ⟨mem_g 1522 (by decide +kernel) (by decide +kernel), mem_g 131 (by decide +kernel) (by decide +kernel), by decide +kernel, by decide +kernel, by decide +kernel⟩
theorem yvX11_vote : YV yX11_vote := ⟨mem_g 1520 (by decide +kernel) (by decide +kernel), mem_g 1521 (by decide +kernel) (by decide +kernel)⟩
theorem lk_X11_326 : Cond.methodLink RX11 326 yX2_settle ∈ lw_g := mem_g 1554 (by decide +kernel) (by decide +kernel)
theorem dX11_close_0 : decode cX11_close 0 = .ok (.aload_n 0, 1) := by decide +kernel
theorem dX11_close_1 : decode cX11_close 1 = .ok (.iload_n 1, 1) := by decide +kernel
theorem dX11_close_2 : decode cX11_close 2 = .ok (.invokevirtual 310, 3) := by decide +kernel
theorem dX11_close_5 : decode cX11_close 5 = .ok (.aload_n 0, 1) := by decide +kernel
theorem dX11_close_6 : decode cX11_close 6 = .ok (.getfield 27, 3) := by decide +kernel
theorem dX11_close_9 : decode cX11_close 9 = .ok (.getfield 289, 3) := by decide +kernel
theorem dX11_close_12 : decode cX11_close 12 = .ok (.iload_n 1, 1) := by decide +kernel
theorem dX11_close_13 : decode cX11_close 13 = .ok (.invokevirtual 313, 3) := by decide +kernel
theorem dX11_close_16 : decode cX11_close 16 = .ok (.ifCond .eq 5, 3) := by decide +kernel
theorem dX11_close_19 : decode cX11_close 19 = .ok (.iconst (-1), 1) := by decide +kernel
theorem dX11_close_20 : decode cX11_close 20 = .ok (.ireturn, 1) := by decide +kernel
theorem dX11_close_21 : decode cX11_close 21 = .ok (.aload_n 0, 1) := by decide +kernel
theorem dX11_close_22 : decode cX11_close 22 = .ok (.getfield 27, 3) := by decide +kernel
theorem dX11_close_25 : decode cX11_close 25 = .ok (.getfield 289, 3) := by decide +kernel
theorem dX11_close_28 : decode cX11_close 28 = .ok (.iload_n 1, 1) := by decide +kernel
theorem dX11_close_29 : decode cX11_close 29 = .ok (.aload_n 0, 1) := by decide +kernel
theorem dX11_close_30 : decode cX11_close 30 = .ok (.getfield 27, 3) := by decide +kernel
theorem dX11_close_33 : decode cX11_close 33 = .ok (.iconst 5, 1) := by decide +kernel
theorem dX11_close_34 : decode cX11_close 34 = .ok (.iconst 0, 1) := by decide +kernel
theorem dX11_close_35 : decode cX11_close 35 = .ok (.invokevirtual 235, 3) := by decide +kernel
theorem dX11_close_38 : decode cX11_close 38 = .ok (.aload_n 0, 1) := by decide +kernel
theorem dX11_close_39 : decode cX11_close 39 = .ok (.getfield 27, 3) := by decide +kernel
theorem dX11_close_42 : decode cX11_close 42 = .ok (.getfield 232, 3) := by decide +kernel
theorem dX11_close_45 : decode cX11_close 45 = .ok (.invokevirtual 326, 3) := by decide +kernel
theorem dX11_close_48 : decode cX11_close 48 = .ok (.ireturn, 1) := by decide +kernel
theorem mX11_close (l : Launch) (hfl : l.stackTraces = false) {Y : Nat → ClassId} {D : va_G} {σ : Nat → Nat} {np b0 : Nat} {M : Mc} {N : Md} {p0 : Int32} {r : Nat ⊕ (Int32 × Mc)} (hf : fX11_close M p0 = some r) : vx_Met l yX11_close (.code yX11_close cX11_close 2 (some .int) :: lw_g) (rmX 7 1) (PR Y D σ np b0 [.ref (σ 0), .int p0] M N) (QX (fun r : Int32 × Mc => QR Y D σ np b0 (some (.int r.1)) r.2 N) r) (XX Y D σ np b0 M N r) 1 (6 * 1) (xA b0) := by
  refine x_vmet (by decide) (Nat.le_of_ble_eq_true rfl) (fun p e s m args below meth c hE hr hT => ?_)
  unfold fX11_close at hf
  refine x_pick [0, 1] (L' := [(0, .ref (σ 0)), (1, .int p0)]) rfl ?_
  refine x_aload_n hE 0 dX11_close_0 rfl rfl ?_
  refine x_iload_n hE 1 dX11_close_1 rfl rfl ?_
  obtain ⟨y1, hc2, hy3⟩ := bnx_some hf
  refine x_callXV hE hT [.int p0] (rest := []) rfl yokX11_needLaw yvX11_needLaw lk_X11_310 rfl cl_11 (hE.kd kO_11) (by decide) ⟨Nat.le_of_ble_eq_true rfl, Nat.le_of_ble_eq_true rfl⟩ (by decide) rfl (Nat.le_of_ble_eq_true rfl) dX11_close_2 (mX11_needLaw l hfl hc2) ⟨rfl, rfl⟩ (by decide) (by decide) (hy3.imp id (fun ⟨_, ha4, hf⟩ => ⟨_, none, M, N, ha4, rfl, ?_⟩))
  refine x_aload_n hE 0 dX11_close_5 rfl rfl ?_
  refine x_getR hE cl_11 (hE.kd kO_11) (by decide) 2 (17) rfl (by decide) lk_X11_27 dX11_close_6 ?_
  refine x_getR hE cl_10 (hE.kd (kO_10 hI_17)) (by decide) 5 (17 + 37) rfl (by decide) lk_X11_289 dX11_close_9 ?_
  refine x_iload_n hE 1 dX11_close_12 rfl rfl ?_
  obtain ⟨v6, hc5, hf⟩ := bnd_some hf
  refine x_callV1 hE [.int p0] (rest := []) (v := .int v6) (c1 := M) (d1 := N) rfl yokX2_stateOf yvX2_stateOf lk_X11_313 rfl cl_2 (hE.kd (kO_2 (hL_10_5 hI_17))) (by decide) rfl rfl ⟨Nat.le_of_ble_eq_true rfl, Nat.le_of_ble_eq_true rfl⟩ (by decide) rfl (Nat.le_of_ble_eq_true rfl) dX11_close_13 (mX2_stateOf l (hL_10_5 hI_17) hc5) ?_
  refine x_if_eq hE 21 dX11_close_16 (by decide) hf (fun hf => ?_) (fun hf => ?_)
  · refine x_aload_n hE 0 dX11_close_21 rfl rfl ?_
    refine x_getR hE cl_11 (hE.kd kO_11) (by decide) 2 (17) rfl (by decide) lk_X11_27 dX11_close_22 ?_
    refine x_getR hE cl_10 (hE.kd (kO_10 hI_17)) (by decide) 5 (17 + 37) rfl (by decide) lk_X11_289 dX11_close_25 ?_
    refine x_iload_n hE 1 dX11_close_28 rfl rfl ?_
    refine x_aload_n hE 0 dX11_close_29 rfl rfl ?_
    refine x_getR hE cl_11 (hE.kd kO_11) (by decide) 2 (17) rfl (by decide) lk_X11_27 dX11_close_30 ?_
    refine x_iconst hE (nI 5) dX11_close_33 (by decide) ?_
    refine x_iconst hE (0 : Int32) dX11_close_34 (by decide) ?_
    obtain ⟨⟨v8, M9⟩, hc7, hf⟩ := bn2_some hf
    refine x_callV1 hE [.int (nI 5), .int 0] (rest := [.int p0, .ref (σ (17 + 37))]) (v := .int v8) (c1 := M9) (d1 := N) rfl yokX10_meaning yvX10_meaning lk_X11_235 rfl cl_10 (hE.kd (kO_10 hI_17)) (by decide) rfl rfl ⟨Nat.le_of_ble_eq_true rfl, Nat.le_of_ble_eq_true rfl⟩ (by decide) rfl (Nat.le_of_ble_eq_true rfl) dX11_close_35 (mX10_meaning l hI_17 hc7) ?_
    refine x_aload_n hE 0 dX11_close_38 rfl rfl ?_
    refine x_getR hE cl_11 (hE.kd kO_11) (by decide) 2 (17) rfl (by decide) lk_X11_27 dX11_close_39 ?_
    refine x_getI hE cl_10 (hE.kd (kO_10 hI_17)) (by decide) 6 rfl (by decide) lk_X11_232 dX11_close_42 ?_
    obtain ⟨⟨v11, M12⟩, hc10, hf⟩ := bn2_some hf
    refine x_callV1 hE [.int p0, .int v8, .int (M9 (17) 6)] (rest := []) (v := .int v11) (c1 := M12) (d1 := N) rfl yokX2_settle yvX2_settle lk_X11_326 rfl cl_2 (hE.kd (kO_2 (hL_10_5 hI_17))) (by decide) rfl rfl ⟨Nat.le_of_ble_eq_true rfl, Nat.le_of_ble_eq_true rfl⟩ (by decide) rfl (Nat.le_of_ble_eq_true rfl) dX11_close_45 (mX2_settle l (hL_10_5 hI_17) hc10) ?_
    refine x_xin (by decide) (by decide) hf ?_
    exact x_ireturn hE (v := v11) hr rfl dX11_close_48
  · refine x_iconst hE (-1) dX11_close_19 (by decide) ?_
    refine x_xin (by decide) (by decide) hf ?_
    exact x_ireturn hE (v := (-1)) hr rfl dX11_close_20
theorem yokX11_close : YOK yX11_close cX11_close 2 1 (some .int) := ⟨mem_g 1553 (by decide +kernel) (by decide +kernel), mem_g 131 (by decide +kernel) (by decide +kernel), by decide +kernel, by decide +kernel, by decide +kernel⟩
theorem yvX11_close : YV yX11_close := ⟨mem_g 1551 (by decide +kernel) (by decide +kernel), mem_g 1552 (by decide +kernel) (by decide +kernel)⟩
theorem lk_X11_329 : Cond.methodLink RX11 329 yX2_isReadAtHome ∈ lw_g := mem_g 1565 (by decide +kernel) (by decide +kernel)
theorem lk_X11_332 : Cond.methodLink RX11 332 yX2_isAnswered ∈ lw_g := mem_g 1569 (by decide +kernel) (by decide +kernel)
theorem lk_X11_335 : Cond.methodLink RX11 335 yX2_answer ∈ lw_g := mem_g 1573 (by decide +kernel) (by decide +kernel)
theorem dX11_assent_0 : decode cX11_assent 0 = .ok (.aload_n 0, 1) := by decide +kernel
theorem dX11_assent_1 : decode cX11_assent 1 = .ok (.iload_n 1, 1) := by decide +kernel
theorem dX11_assent_2 : decode cX11_assent 2 = .ok (.invokevirtual 310, 3) := by decide +kernel
theorem dX11_assent_5 : decode cX11_assent 5 = .ok (.aload_n 0, 1) := by decide +kernel
theorem dX11_assent_6 : decode cX11_assent 6 = .ok (.getfield 27, 3) := by decide +kernel
theorem dX11_assent_9 : decode cX11_assent 9 = .ok (.getfield 289, 3) := by decide +kernel
theorem dX11_assent_12 : decode cX11_assent 12 = .ok (.iload_n 1, 1) := by decide +kernel
theorem dX11_assent_13 : decode cX11_assent 13 = .ok (.invokevirtual 313, 3) := by decide +kernel
theorem dX11_assent_16 : decode cX11_assent 16 = .ok (.iconst 2, 1) := by decide +kernel
theorem dX11_assent_17 : decode cX11_assent 17 = .ok (.if_icmp .eq 5, 3) := by decide +kernel
theorem dX11_assent_20 : decode cX11_assent 20 = .ok (.iconst (-1), 1) := by decide +kernel
theorem dX11_assent_21 : decode cX11_assent 21 = .ok (.ireturn, 1) := by decide +kernel
theorem dX11_assent_22 : decode cX11_assent 22 = .ok (.aload_n 0, 1) := by decide +kernel
theorem dX11_assent_23 : decode cX11_assent 23 = .ok (.getfield 27, 3) := by decide +kernel
theorem dX11_assent_26 : decode cX11_assent 26 = .ok (.getfield 289, 3) := by decide +kernel
theorem dX11_assent_29 : decode cX11_assent 29 = .ok (.iload_n 1, 1) := by decide +kernel
theorem dX11_assent_30 : decode cX11_assent 30 = .ok (.aload_n 0, 1) := by decide +kernel
theorem dX11_assent_31 : decode cX11_assent 31 = .ok (.getfield 27, 3) := by decide +kernel
theorem dX11_assent_34 : decode cX11_assent 34 = .ok (.getfield 232, 3) := by decide +kernel
theorem dX11_assent_37 : decode cX11_assent 37 = .ok (.invokevirtual 329, 3) := by decide +kernel
theorem dX11_assent_40 : decode cX11_assent 40 = .ok (.ifCond .ne 6, 3) := by decide +kernel
theorem dX11_assent_43 : decode cX11_assent 43 = .ok (.bipush (-2), 2) := by decide +kernel
theorem dX11_assent_45 : decode cX11_assent 45 = .ok (.ireturn, 1) := by decide +kernel
theorem dX11_assent_46 : decode cX11_assent 46 = .ok (.aload_n 0, 1) := by decide +kernel
theorem dX11_assent_47 : decode cX11_assent 47 = .ok (.getfield 27, 3) := by decide +kernel
theorem dX11_assent_50 : decode cX11_assent 50 = .ok (.getfield 289, 3) := by decide +kernel
theorem dX11_assent_53 : decode cX11_assent 53 = .ok (.iload_n 1, 1) := by decide +kernel
theorem dX11_assent_54 : decode cX11_assent 54 = .ok (.invokevirtual 332, 3) := by decide +kernel
theorem dX11_assent_57 : decode cX11_assent 57 = .ok (.ifCond .eq 6, 3) := by decide +kernel
theorem dX11_assent_60 : decode cX11_assent 60 = .ok (.bipush (-3), 2) := by decide +kernel
theorem dX11_assent_62 : decode cX11_assent 62 = .ok (.ireturn, 1) := by decide +kernel
theorem dX11_assent_63 : decode cX11_assent 63 = .ok (.aload_n 0, 1) := by decide +kernel
theorem dX11_assent_64 : decode cX11_assent 64 = .ok (.getfield 27, 3) := by decide +kernel
theorem dX11_assent_67 : decode cX11_assent 67 = .ok (.getfield 289, 3) := by decide +kernel
theorem dX11_assent_70 : decode cX11_assent 70 = .ok (.iload_n 1, 1) := by decide +kernel
theorem dX11_assent_71 : decode cX11_assent 71 = .ok (.iload_n 2, 1) := by decide +kernel
theorem dX11_assent_72 : decode cX11_assent 72 = .ok (.aload_n 0, 1) := by decide +kernel
theorem dX11_assent_73 : decode cX11_assent 73 = .ok (.getfield 27, 3) := by decide +kernel
theorem dX11_assent_76 : decode cX11_assent 76 = .ok (.getfield 232, 3) := by decide +kernel
theorem dX11_assent_79 : decode cX11_assent 79 = .ok (.bipush 34, 2) := by decide +kernel
theorem dX11_assent_81 : decode cX11_assent 81 = .ok (.iadd, 1) := by decide +kernel
theorem dX11_assent_82 : decode cX11_assent 82 = .ok (.invokevirtual 335, 3) := by decide +kernel
theorem dX11_assent_85 : decode cX11_assent 85 = .ok (.ireturn, 1) := by decide +kernel
theorem mX11_assent (l : Launch) (hfl : l.stackTraces = false) {Y : Nat → ClassId} {D : va_G} {σ : Nat → Nat} {np b0 : Nat} {M : Mc} {N : Md} {p0 : Int32} {p1 : Int32} {r : Nat ⊕ (Int32 × Mc)} (hf : fX11_assent M p0 p1 = some r) : vx_Met l yX11_assent (.code yX11_assent cX11_assent 3 (some .int) :: lw_g) (rmX 7 1) (PR Y D σ np b0 [.ref (σ 0), .int p0, .int p1] M N) (QX (fun r : Int32 × Mc => QR Y D σ np b0 (some (.int r.1)) r.2 N) r) (XX Y D σ np b0 M N r) 1 (6 * 1) (xA b0) := by
  refine x_vmet (by decide) (Nat.le_of_ble_eq_true rfl) (fun p e s m args below meth c hE hr hT => ?_)
  unfold fX11_assent at hf
  refine x_pick [0, 1, 2] (L' := [(0, .ref (σ 0)), (1, .int p0), (2, .int p1)]) rfl ?_
  refine x_aload_n hE 0 dX11_assent_0 rfl rfl ?_
  refine x_iload_n hE 1 dX11_assent_1 rfl rfl ?_
  obtain ⟨y1, hc2, hy3⟩ := bnx_some hf
  refine x_callXV hE hT [.int p0] (rest := []) rfl yokX11_needLaw yvX11_needLaw lk_X11_310 rfl cl_11 (hE.kd kO_11) (by decide) ⟨Nat.le_of_ble_eq_true rfl, Nat.le_of_ble_eq_true rfl⟩ (by decide) rfl (Nat.le_of_ble_eq_true rfl) dX11_assent_2 (mX11_needLaw l hfl hc2) ⟨rfl, rfl⟩ (by decide) (by decide) (hy3.imp id (fun ⟨_, ha4, hf⟩ => ⟨_, none, M, N, ha4, rfl, ?_⟩))
  refine x_aload_n hE 0 dX11_assent_5 rfl rfl ?_
  refine x_getR hE cl_11 (hE.kd kO_11) (by decide) 2 (17) rfl (by decide) lk_X11_27 dX11_assent_6 ?_
  refine x_getR hE cl_10 (hE.kd (kO_10 hI_17)) (by decide) 5 (17 + 37) rfl (by decide) lk_X11_289 dX11_assent_9 ?_
  refine x_iload_n hE 1 dX11_assent_12 rfl rfl ?_
  obtain ⟨v6, hc5, hf⟩ := bnd_some hf
  refine x_callV1 hE [.int p0] (rest := []) (v := .int v6) (c1 := M) (d1 := N) rfl yokX2_stateOf yvX2_stateOf lk_X11_313 rfl cl_2 (hE.kd (kO_2 (hL_10_5 hI_17))) (by decide) rfl rfl ⟨Nat.le_of_ble_eq_true rfl, Nat.le_of_ble_eq_true rfl⟩ (by decide) rfl (Nat.le_of_ble_eq_true rfl) dX11_assent_13 (mX2_stateOf l (hL_10_5 hI_17) hc5) ?_
  refine x_iconst hE (nI 2) dX11_assent_16 (by decide) ?_
  refine x_icmp_eq hE 22 dX11_assent_17 (by decide) hf (fun hf => ?_) (fun hf => ?_)
  · refine x_aload_n hE 0 dX11_assent_22 rfl rfl ?_
    refine x_getR hE cl_11 (hE.kd kO_11) (by decide) 2 (17) rfl (by decide) lk_X11_27 dX11_assent_23 ?_
    refine x_getR hE cl_10 (hE.kd (kO_10 hI_17)) (by decide) 5 (17 + 37) rfl (by decide) lk_X11_289 dX11_assent_26 ?_
    refine x_iload_n hE 1 dX11_assent_29 rfl rfl ?_
    refine x_aload_n hE 0 dX11_assent_30 rfl rfl ?_
    refine x_getR hE cl_11 (hE.kd kO_11) (by decide) 2 (17) rfl (by decide) lk_X11_27 dX11_assent_31 ?_
    refine x_getI hE cl_10 (hE.kd (kO_10 hI_17)) (by decide) 6 rfl (by decide) lk_X11_232 dX11_assent_34 ?_
    obtain ⟨v8, hc7, hf⟩ := bnd_some hf
    refine x_callV1 hE [.int p0, .int (M (17) 6)] (rest := []) (v := .int v8) (c1 := M) (d1 := N) rfl yokX2_isReadAtHome yvX2_isReadAtHome lk_X11_329 rfl cl_2 (hE.kd (kO_2 (hL_10_5 hI_17))) (by decide) rfl rfl ⟨Nat.le_of_ble_eq_true rfl, Nat.le_of_ble_eq_true rfl⟩ (by decide) rfl (Nat.le_of_ble_eq_true rfl) dX11_assent_37 (mX2_isReadAtHome l (hL_10_5 hI_17) hc7) ?_
    refine x_if_ne hE 46 dX11_assent_40 (by decide) hf (fun hf => ?_) (fun hf => ?_)
    · refine x_aload_n hE 0 dX11_assent_46 rfl rfl ?_
      refine x_getR hE cl_11 (hE.kd kO_11) (by decide) 2 (17) rfl (by decide) lk_X11_27 dX11_assent_47 ?_
      refine x_getR hE cl_10 (hE.kd (kO_10 hI_17)) (by decide) 5 (17 + 37) rfl (by decide) lk_X11_289 dX11_assent_50 ?_
      refine x_iload_n hE 1 dX11_assent_53 rfl rfl ?_
      obtain ⟨v10, hc9, hf⟩ := bnd_some hf
      refine x_callV1 hE [.int p0] (rest := []) (v := .int v10) (c1 := M) (d1 := N) rfl yokX2_isAnswered yvX2_isAnswered lk_X11_332 rfl cl_2 (hE.kd (kO_2 (hL_10_5 hI_17))) (by decide) rfl rfl ⟨Nat.le_of_ble_eq_true rfl, Nat.le_of_ble_eq_true rfl⟩ (by decide) rfl (Nat.le_of_ble_eq_true rfl) dX11_assent_54 (mX2_isAnswered l (hL_10_5 hI_17) hc9) ?_
      refine x_if_eq hE 63 dX11_assent_57 (by decide) hf (fun hf => ?_) (fun hf => ?_)
      · refine x_aload_n hE 0 dX11_assent_63 rfl rfl ?_
        refine x_getR hE cl_11 (hE.kd kO_11) (by decide) 2 (17) rfl (by decide) lk_X11_27 dX11_assent_64 ?_
        refine x_getR hE cl_10 (hE.kd (kO_10 hI_17)) (by decide) 5 (17 + 37) rfl (by decide) lk_X11_289 dX11_assent_67 ?_
        refine x_iload_n hE 1 dX11_assent_70 rfl rfl ?_
        refine x_iload_n hE 2 dX11_assent_71 rfl rfl ?_
        refine x_aload_n hE 0 dX11_assent_72 rfl rfl ?_
        refine x_getR hE cl_11 (hE.kd kO_11) (by decide) 2 (17) rfl (by decide) lk_X11_27 dX11_assent_73 ?_
        refine x_getI hE cl_10 (hE.kd (kO_10 hI_17)) (by decide) 6 rfl (by decide) lk_X11_232 dX11_assent_76 ?_
        refine x_bipush hE (nI 34) dX11_assent_79 (by decide) ?_
        refine x_iadd hE dX11_assent_81 ?_
        obtain ⟨⟨v12, M13⟩, hc11, hf⟩ := bn2_some hf
        refine x_callV1 hE [.int p0, .int p1, .int ((M (17) 6) + (nI 34))] (rest := []) (v := .int v12) (c1 := M13) (d1 := N) rfl yokX2_answer yvX2_answer lk_X11_335 rfl cl_2 (hE.kd (kO_2 (hL_10_5 hI_17))) (by decide) rfl rfl ⟨Nat.le_of_ble_eq_true rfl, Nat.le_of_ble_eq_true rfl⟩ (by decide) rfl (Nat.le_of_ble_eq_true rfl) dX11_assent_82 (mX2_answer l (hL_10_5 hI_17) hc11) ?_
        refine x_xin (by decide) (by decide) hf ?_
        exact x_ireturn hE (v := v12) hr rfl dX11_assent_85
      · refine x_bipush hE (-3) dX11_assent_60 (by decide) ?_
        refine x_xin (by decide) (by decide) hf ?_
        exact x_ireturn hE (v := (-3)) hr rfl dX11_assent_62
    · refine x_bipush hE (-2) dX11_assent_43 (by decide) ?_
      refine x_xin (by decide) (by decide) hf ?_
      exact x_ireturn hE (v := (-2)) hr rfl dX11_assent_45
  · refine x_iconst hE (-1) dX11_assent_20 (by decide) ?_
    refine x_xin (by decide) (by decide) hf ?_
    exact x_ireturn hE (v := (-1)) hr rfl dX11_assent_21
theorem yokX11_assent : YOK yX11_assent cX11_assent 3 2 (some .int) := ⟨mem_g 1564 (by decide +kernel) (by decide +kernel), mem_g 131 (by decide +kernel) (by decide +kernel), by decide +kernel, by decide +kernel, by decide +kernel⟩
theorem yvX11_assent : YV yX11_assent := ⟨mem_g 1562 (by decide +kernel) (by decide +kernel), mem_g 1563 (by decide +kernel) (by decide +kernel)⟩
theorem dX11_force_0 : decode cX11_force 0 = .ok (.aload_n 0, 1) := by decide +kernel
theorem dX11_force_1 : decode cX11_force 1 = .ok (.iload_n 1, 1) := by decide +kernel
theorem dX11_force_2 : decode cX11_force 2 = .ok (.invokevirtual 310, 3) := by decide +kernel
theorem dX11_force_5 : decode cX11_force 5 = .ok (.aload_n 0, 1) := by decide +kernel
theorem dX11_force_6 : decode cX11_force 6 = .ok (.getfield 27, 3) := by decide +kernel
theorem dX11_force_9 : decode cX11_force 9 = .ok (.getfield 289, 3) := by decide +kernel
theorem dX11_force_12 : decode cX11_force 12 = .ok (.iload_n 1, 1) := by decide +kernel
theorem dX11_force_13 : decode cX11_force 13 = .ok (.invokevirtual 313, 3) := by decide +kernel
theorem dX11_force_16 : decode cX11_force 16 = .ok (.ireturn, 1) := by decide +kernel
theorem mX11_force (l : Launch) (hfl : l.stackTraces = false) {Y : Nat → ClassId} {D : va_G} {σ : Nat → Nat} {np b0 : Nat} {M : Mc} {N : Md} {p0 : Int32} {r : Nat ⊕ (Int32)} (hf : fX11_force M p0 = some r) : vx_Met l yX11_force (.code yX11_force cX11_force 2 (some .int) :: lw_g) (rmX 7 1) (PR Y D σ np b0 [.ref (σ 0), .int p0] M N) (QX (fun r : Int32 => QR Y D σ np b0 (some (.int r)) M N) r) (XX Y D σ np b0 M N r) 1 (6 * 1) (xA b0) := by
  refine x_vmet (by decide) (Nat.le_of_ble_eq_true rfl) (fun p e s m args below meth c hE hr hT => ?_)
  unfold fX11_force at hf
  refine x_pick [0, 1] (L' := [(0, .ref (σ 0)), (1, .int p0)]) rfl ?_
  refine x_aload_n hE 0 dX11_force_0 rfl rfl ?_
  refine x_iload_n hE 1 dX11_force_1 rfl rfl ?_
  obtain ⟨y1, hc2, hy3⟩ := bnx_some hf
  refine x_callXV hE hT [.int p0] (rest := []) rfl yokX11_needLaw yvX11_needLaw lk_X11_310 rfl cl_11 (hE.kd kO_11) (by decide) ⟨Nat.le_of_ble_eq_true rfl, Nat.le_of_ble_eq_true rfl⟩ (by decide) rfl (Nat.le_of_ble_eq_true rfl) dX11_force_2 (mX11_needLaw l hfl hc2) ⟨rfl, rfl⟩ (by decide) (by decide) (hy3.imp id (fun ⟨_, ha4, hf⟩ => ⟨_, none, M, N, ha4, rfl, ?_⟩))
  refine x_aload_n hE 0 dX11_force_5 rfl rfl ?_
  refine x_getR hE cl_11 (hE.kd kO_11) (by decide) 2 (17) rfl (by decide) lk_X11_27 dX11_force_6 ?_
  refine x_getR hE cl_10 (hE.kd (kO_10 hI_17)) (by decide) 5 (17 + 37) rfl (by decide) lk_X11_289 dX11_force_9 ?_
  refine x_iload_n hE 1 dX11_force_12 rfl rfl ?_
  obtain ⟨v6, hc5, hf⟩ := bnd_some hf
  refine x_callV1 hE [.int p0] (rest := []) (v := .int v6) (c1 := M) (d1 := N) rfl yokX2_stateOf yvX2_stateOf lk_X11_313 rfl cl_2 (hE.kd (kO_2 (hL_10_5 hI_17))) (by decide) rfl rfl ⟨Nat.le_of_ble_eq_true rfl, Nat.le_of_ble_eq_true rfl⟩ (by decide) rfl (Nat.le_of_ble_eq_true rfl) dX11_force_13 (mX2_stateOf l (hL_10_5 hI_17) hc5) ?_
  refine x_xin (by decide) (by decide) hf ?_
  exact x_ireturn hE (v := v6) hr rfl dX11_force_16
theorem yokX11_force : YOK yX11_force cX11_force 2 1 (some .int) := ⟨mem_g 1583 (by decide +kernel) (by decide +kernel), mem_g 131 (by decide +kernel) (by decide +kernel), by decide +kernel, by decide +kernel, by decide +kernel⟩
theorem yvX11_force : YV yX11_force := ⟨mem_g 1581 (by decide +kernel) (by decide +kernel), mem_g 1582 (by decide +kernel) (by decide +kernel)⟩
theorem lk_X11_339 : Cond.methodLink RX11 339 yX4_soilOf ∈ lw_g := mem_g 1591 (by decide +kernel) (by decide +kernel)
theorem dX11_means_0 : decode cX11_means 0 = .ok (.iload_n 2, 1) := by decide +kernel
theorem dX11_means_1 : decode cX11_means 1 = .ok (.iconst (-1), 1) := by decide +kernel
theorem dX11_means_2 : decode cX11_means 2 = .ok (.if_icmp .eq 7, 3) := by decide +kernel
theorem dX11_means_5 : decode cX11_means 5 = .ok (.iload_n 2, 1) := by decide +kernel
theorem dX11_means_6 : decode cX11_means 6 = .ok (.invokestatic 72, 3) := by decide +kernel
theorem dX11_means_9 : decode cX11_means 9 = .ok (.iload_n 1, 1) := by decide +kernel
theorem dX11_means_10 : decode cX11_means 10 = .ok (.bipush 8, 2) := by decide +kernel
theorem dX11_means_12 : decode cX11_means 12 = .ok (.invokestatic 191, 3) := by decide +kernel
theorem dX11_means_15 : decode cX11_means 15 = .ok (.invokestatic 76, 3) := by decide +kernel
theorem dX11_means_18 : decode cX11_means 18 = .ok (.aload_n 0, 1) := by decide +kernel
theorem dX11_means_19 : decode cX11_means 19 = .ok (.getfield 27, 3) := by decide +kernel
theorem dX11_means_22 : decode cX11_means 22 = .ok (.iload_n 1, 1) := by decide +kernel
theorem dX11_means_23 : decode cX11_means 23 = .ok (.iload_n 2, 1) := by decide +kernel
theorem dX11_means_24 : decode cX11_means 24 = .ok (.iconst (-1), 1) := by decide +kernel
theorem dX11_means_25 : decode cX11_means 25 = .ok (.if_icmp .ne 7, 3) := by decide +kernel
theorem dX11_means_28 : decode cX11_means 28 = .ok (.iconst 0, 1) := by decide +kernel
theorem dX11_means_29 : decode cX11_means 29 = .ok (.goto 14, 3) := by decide +kernel
theorem dX11_means_32 : decode cX11_means 32 = .ok (.aload_n 0, 1) := by decide +kernel
theorem dX11_means_33 : decode cX11_means 33 = .ok (.getfield 27, 3) := by decide +kernel
theorem dX11_means_36 : decode cX11_means 36 = .ok (.getfield 80, 3) := by decide +kernel
theorem dX11_means_39 : decode cX11_means 39 = .ok (.iload_n 2, 1) := by decide +kernel
theorem dX11_means_40 : decode cX11_means 40 = .ok (.invokevirtual 339, 3) := by decide +kernel
theorem dX11_means_43 : decode cX11_means 43 = .ok (.invokevirtual 235, 3) := by decide +kernel
theorem dX11_means_46 : decode cX11_means 46 = .ok (.ireturn, 1) := by decide +kernel
theorem wX11_means_J43 {p : Program} {l : Launch} {e : Env} {s : State} {m : MethodId} {args : Array Value} {below : List Frame} {meth : Method} {c : Code} {Y : Nat → ClassId} {D : va_G} {σ : Nat → Nat} {np b0 : Nat} {r : Nat ⊕ (Int32 × Mc)} {M : Mc} {N : Md} {Z0 : Int32} {Z1 : Int32} (hE : EOK p s m args meth c cX11_means 3 RX11 Y D σ np b0) (hr : meth.sig.returnType = (some .int)) (hT : ∀ x ∈ c.exceptionTable.toList, False) (hfl : l.stackTraces = false) (hf : fX11_means_J43 M Z0 Z1 = some r) : Xw p l e (rmX 7 2) s m args below meth c 3 Y D σ np b0 2 (6 * 2) (vx_MQ below (QX (fun r : Int32 × Mc => QR Y D σ np b0 (some (.int r.1)) r.2 N) r) (XX Y D σ np b0 M N r) args s 2 (6 * 2) (xA b0)) 43 [] [.int Z0, .int Z1, .ref (σ (17))] M N := by
  unfold fX11_means_J43 at hf
  obtain ⟨⟨v14, M15⟩, hc13, hf⟩ := bn2_some hf
  refine x_callV1 hE [.int Z1, .int Z0] (rest := []) (v := .int v14) (c1 := M15) (d1 := N) rfl yokX10_meaning yvX10_meaning lk_X11_235 rfl cl_10 (hE.kd (kO_10 hI_17)) (by decide) rfl rfl ⟨Nat.le_of_ble_eq_true rfl, Nat.le_of_ble_eq_true rfl⟩ (by decide) rfl (Nat.le_of_ble_eq_true rfl) dX11_means_43 (mX10_meaning l hI_17 hc13) ?_
  refine x_xin (by decide) (by decide) hf ?_
  exact x_ireturn hE (v := v14) hr rfl dX11_means_46
theorem wX11_means_J9 {p : Program} {l : Launch} {e : Env} {s : State} {m : MethodId} {args : Array Value} {below : List Frame} {meth : Method} {c : Code} {Y : Nat → ClassId} {D : va_G} {σ : Nat → Nat} {np b0 : Nat} {r : Nat ⊕ (Int32 × Mc)} {M : Mc} {N : Md} {X1 : Int32} {X2 : Int32} (hE : EOK p s m args meth c cX11_means 3 RX11 Y D σ np b0) (hr : meth.sig.returnType = (some .int)) (hT : ∀ x ∈ c.exceptionTable.toList, False) (hfl : l.stackTraces = false) (hf : fX11_means_J9 M X1 X2 = some r) : Xw p l e (rmX 7 2) s m args below meth c 3 Y D σ np b0 1 (6 * 1) (vx_MQ below (QX (fun r : Int32 × Mc => QR Y D σ np b0 (some (.int r.1)) r.2 N) r) (XX Y D σ np b0 M N r) args s 2 (6 * 2) (xA b0)) 9 [(0, .ref (σ 0)), (1, .int X1), (2, .int X2)] [] M N := by
  unfold fX11_means_J9 at hf
  refine x_iload_n hE 1 dX11_means_9 rfl rfl ?_
  refine x_bipush hE (nI 8) dX11_means_10 (by decide) ?_
  obtain ⟨v6, hc5, hf⟩ := bnd_some hf
  refine x_callS1 hE [.int X1, .int (nI 8)] (rest := []) (v := .int v6) (c1 := M) (d1 := N) rfl yokX11_inside ysX11_inside lk_X11_191 rfl rfl ⟨Nat.le_of_ble_eq_true rfl, Nat.le_of_ble_eq_true rfl⟩ (by decide) rfl (Nat.le_of_ble_eq_true rfl) dX11_means_12 (mX11_inside l hc5) ?_
  obtain ⟨y7, hc8, hy9⟩ := bnx_some hf
  refine x_callXS hE hT [.int v6] (rest := []) rfl yokX11_needThat ysX11_needThat lk_X11_76 ⟨Nat.le_of_ble_eq_true rfl, Nat.le_of_ble_eq_true rfl⟩ (by decide) rfl (Nat.le_of_ble_eq_true rfl) dX11_means_15 (mX11_needThat l hfl hc8) ⟨rfl, rfl⟩ (by decide) (by decide) (hy9.imp id (fun ⟨_, ha10, hf⟩ => ⟨_, none, M, N, ha10, rfl, ?_⟩))
  refine x_aload_n hE 0 dX11_means_18 rfl rfl ?_
  refine x_getR hE cl_11 (hE.kd kO_11) (by decide) 2 (17) rfl (by decide) lk_X11_27 dX11_means_19 ?_
  refine x_iload_n hE 1 dX11_means_22 rfl rfl ?_
  refine x_iload_n hE 2 dX11_means_23 rfl rfl ?_
  refine x_iconst hE (-1) dX11_means_24 (by decide) ?_
  refine x_icmp_ne hE 32 dX11_means_25 (by decide) hf (fun hf => ?_) (fun hf => ?_)
  · refine x_aload_n hE 0 dX11_means_32 rfl rfl ?_
    refine x_getR hE cl_11 (hE.kd kO_11) (by decide) 2 (17) rfl (by decide) lk_X11_27 dX11_means_33 ?_
    refine x_getR hE cl_10 (hE.kd (kO_10 hI_17)) (by decide) 1 (17 + 1) rfl (by decide) lk_X11_80 dX11_means_36 ?_
    refine x_iload_n hE 2 dX11_means_39 rfl rfl ?_
    obtain ⟨v12, hc11, hf⟩ := bnd_some hf
    refine x_callV1 hE [.int X2] (rest := [.int X1, .ref (σ (17))]) (v := .int v12) (c1 := M) (d1 := N) rfl yokX4_soilOf yvX4_soilOf lk_X11_339 rfl cl_4 (hE.kd (kO_4 (hL_10_1 hI_17))) (by decide) rfl rfl ⟨Nat.le_of_ble_eq_true rfl, Nat.le_of_ble_eq_true rfl⟩ (by decide) rfl (Nat.le_of_ble_eq_true rfl) dX11_means_40 (mX4_soilOf l (hL_10_1 hI_17) hc11) ?_
    refine x_pick [] (L' := []) rfl ?_
    exact wX11_means_J43 hE hr hT hfl hf
  · refine x_iconst hE (0 : Int32) dX11_means_28 (by decide) ?_
    refine x_goto hE 43 dX11_means_29 (by decide) ?_
    refine x_pick [] (L' := []) rfl ?_
    exact wX11_means_J43 hE hr hT hfl hf
theorem mX11_means (l : Launch) (hfl : l.stackTraces = false) {Y : Nat → ClassId} {D : va_G} {σ : Nat → Nat} {np b0 : Nat} {M : Mc} {N : Md} {p0 : Int32} {p1 : Int32} {r : Nat ⊕ (Int32 × Mc)} (hf : fX11_means M p0 p1 = some r) : vx_Met l yX11_means (.code yX11_means cX11_means 3 (some .int) :: lw_g) (rmX 7 2) (PR Y D σ np b0 [.ref (σ 0), .int p0, .int p1] M N) (QX (fun r : Int32 × Mc => QR Y D σ np b0 (some (.int r.1)) r.2 N) r) (XX Y D σ np b0 M N r) 2 (6 * 2) (xA b0) := by
  refine x_vmet (by decide) (Nat.le_of_ble_eq_true rfl) (fun p e s m args below meth c hE hr hT => ?_)
  unfold fX11_means at hf
  refine x_pick [0, 1, 2] (L' := [(0, .ref (σ 0)), (1, .int p0), (2, .int p1)]) rfl ?_
  refine x_iload_n hE 2 dX11_means_0 rfl rfl ?_
  refine x_iconst hE (-1) dX11_means_1 (by decide) ?_
  refine x_icmp_eq hE 9 dX11_means_2 (by decide) hf (fun hf => ?_) (fun hf => ?_)
  · refine x_wid (k := 1) (n := 6 * 1) (by decide) (by decide) ?_
    exact wX11_means_J9 hE hr hT hfl hf
  · refine x_iload_n hE 2 dX11_means_5 rfl rfl ?_
    obtain ⟨y1, hc2, hy3⟩ := bnx_some hf
    refine x_callXS hE hT [.int p1] (rest := []) rfl yokX11_needSection ysX11_needSection lk_X11_72 ⟨Nat.le_of_ble_eq_true rfl, Nat.le_of_ble_eq_true rfl⟩ (by decide) rfl (Nat.le_of_ble_eq_true rfl) dX11_means_6 (mX11_needSection l hfl hc2) ⟨rfl, rfl⟩ (by decide) (by decide) (hy3.imp id (fun ⟨_, ha4, hf⟩ => ⟨_, none, M, N, ha4, rfl, ?_⟩))
    exact wX11_means_J9 hE hr hT hfl hf
theorem yokX11_means : YOK yX11_means cX11_means 3 2 (some .int) := ⟨mem_g 1590 (by decide +kernel) (by decide +kernel), mem_g 131 (by decide +kernel) (by decide +kernel), by decide +kernel, by decide +kernel, by decide +kernel⟩
theorem yvX11_means : YV yX11_means := ⟨mem_g 1588 (by decide +kernel) (by decide +kernel), mem_g 1589 (by decide +kernel) (by decide +kernel)⟩
theorem lk_X11_342 : Cond.fieldLink RX11 342 (TX2 2).1 (TX2 2).2.1 (TX2 2).2.2.1 ∈ lw_g := mem_g 368 (by decide +kernel) (by decide +kernel)
theorem lk_X11_345 : Cond.methodLink RX11 345 yX2_teller ∈ lw_g := mem_g 1599 (by decide +kernel) (by decide +kernel)
theorem dX11_why_0 : decode cX11_why 0 = .ok (.iload_n 1, 1) := by decide +kernel
theorem dX11_why_1 : decode cX11_why 1 = .ok (.bipush 8, 2) := by decide +kernel
theorem dX11_why_3 : decode cX11_why 3 = .ok (.invokestatic 191, 3) := by decide +kernel
theorem dX11_why_6 : decode cX11_why 6 = .ok (.invokestatic 76, 3) := by decide +kernel
theorem dX11_why_9 : decode cX11_why 9 = .ok (.aload_n 0, 1) := by decide +kernel
theorem dX11_why_10 : decode cX11_why 10 = .ok (.getfield 27, 3) := by decide +kernel
theorem dX11_why_13 : decode cX11_why 13 = .ok (.getfield 289, 3) := by decide +kernel
theorem dX11_why_16 : decode cX11_why 16 = .ok (.aload_n 0, 1) := by decide +kernel
theorem dX11_why_17 : decode cX11_why 17 = .ok (.getfield 27, 3) := by decide +kernel
theorem dX11_why_20 : decode cX11_why 20 = .ok (.getfield 289, 3) := by decide +kernel
theorem dX11_why_23 : decode cX11_why 23 = .ok (.getfield 342, 3) := by decide +kernel
theorem dX11_why_26 : decode cX11_why 26 = .ok (.iload_n 1, 1) := by decide +kernel
theorem dX11_why_27 : decode cX11_why 27 = .ok (.invokevirtual 345, 3) := by decide +kernel
theorem dX11_why_30 : decode cX11_why 30 = .ok (.ireturn, 1) := by decide +kernel
theorem mX11_why (l : Launch) (hfl : l.stackTraces = false) {Y : Nat → ClassId} {D : va_G} {σ : Nat → Nat} {np b0 : Nat} {M : Mc} {N : Md} {p0 : Int32} {r : Nat ⊕ (Int32)} (hf : fX11_why M p0 = some r) : vx_Met l yX11_why (.code yX11_why cX11_why 2 (some .int) :: lw_g) (rmX 7 1) (PR Y D σ np b0 [.ref (σ 0), .int p0] M N) (QX (fun r : Int32 => QR Y D σ np b0 (some (.int r)) M N) r) (XX Y D σ np b0 M N r) 1 (6 * 1) (xA b0) := by
  refine x_vmet (by decide) (Nat.le_of_ble_eq_true rfl) (fun p e s m args below meth c hE hr hT => ?_)
  unfold fX11_why at hf
  refine x_pick [0, 1] (L' := [(0, .ref (σ 0)), (1, .int p0)]) rfl ?_
  refine x_iload_n hE 1 dX11_why_0 rfl rfl ?_
  refine x_bipush hE (nI 8) dX11_why_1 (by decide) ?_
  obtain ⟨v2, hc1, hf⟩ := bnd_some hf
  refine x_callS1 hE [.int p0, .int (nI 8)] (rest := []) (v := .int v2) (c1 := M) (d1 := N) rfl yokX11_inside ysX11_inside lk_X11_191 rfl rfl ⟨Nat.le_of_ble_eq_true rfl, Nat.le_of_ble_eq_true rfl⟩ (by decide) rfl (Nat.le_of_ble_eq_true rfl) dX11_why_3 (mX11_inside l hc1) ?_
  obtain ⟨y3, hc4, hy5⟩ := bnx_some hf
  refine x_callXS hE hT [.int v2] (rest := []) rfl yokX11_needThat ysX11_needThat lk_X11_76 ⟨Nat.le_of_ble_eq_true rfl, Nat.le_of_ble_eq_true rfl⟩ (by decide) rfl (Nat.le_of_ble_eq_true rfl) dX11_why_6 (mX11_needThat l hfl hc4) ⟨rfl, rfl⟩ (by decide) (by decide) (hy5.imp id (fun ⟨_, ha6, hf⟩ => ⟨_, none, M, N, ha6, rfl, ?_⟩))
  refine x_aload_n hE 0 dX11_why_9 rfl rfl ?_
  refine x_getR hE cl_11 (hE.kd kO_11) (by decide) 2 (17) rfl (by decide) lk_X11_27 dX11_why_10 ?_
  refine x_getR hE cl_10 (hE.kd (kO_10 hI_17)) (by decide) 5 (17 + 37) rfl (by decide) lk_X11_289 dX11_why_13 ?_
  refine x_aload_n hE 0 dX11_why_16 rfl rfl ?_
  refine x_getR hE cl_11 (hE.kd kO_11) (by decide) 2 (17) rfl (by decide) lk_X11_27 dX11_why_17 ?_
  refine x_getR hE cl_10 (hE.kd (kO_10 hI_17)) (by decide) 5 (17 + 37) rfl (by decide) lk_X11_289 dX11_why_20 ?_
  refine x_getI hE cl_2 (hE.kd (kO_2 (hL_10_5 hI_17))) (by decide) 2 rfl (by decide) lk_X11_342 dX11_why_23 ?_
  refine x_iload_n hE 1 dX11_why_26 rfl rfl ?_
  obtain ⟨v8, hc7, hf⟩ := bnd_some hf
  refine x_callV1 hE [.int (M (17 + 37) 2), .int p0] (rest := []) (v := .int v8) (c1 := M) (d1 := N) rfl yokX2_teller yvX2_teller lk_X11_345 rfl cl_2 (hE.kd (kO_2 (hL_10_5 hI_17))) (by decide) rfl rfl ⟨Nat.le_of_ble_eq_true rfl, Nat.le_of_ble_eq_true rfl⟩ (by decide) rfl (Nat.le_of_ble_eq_true rfl) dX11_why_27 (mX2_teller l (hL_10_5 hI_17) hc7) ?_
  refine x_xin (by decide) (by decide) hf ?_
  exact x_ireturn hE (v := v8) hr rfl dX11_why_30
theorem yokX11_why : YOK yX11_why cX11_why 2 1 (some .int) := ⟨mem_g 1598 (by decide +kernel) (by decide +kernel), mem_g 131 (by decide +kernel) (by decide +kernel), by decide +kernel, by decide +kernel, by decide +kernel⟩
theorem yvX11_why : YV yX11_why := ⟨mem_g 1596 (by decide +kernel) (by decide +kernel), mem_g 1597 (by decide +kernel) (by decide +kernel)⟩
theorem dX11_quoted_0 : decode cX11_quoted 0 = .ok (.aload_n 0, 1) := by decide +kernel
theorem dX11_quoted_1 : decode cX11_quoted 1 = .ok (.invokevirtual 220, 3) := by decide +kernel
theorem dX11_quoted_4 : decode cX11_quoted 4 = .ok (.ireturn, 1) := by decide +kernel
theorem mX11_quoted (l : Launch) {Y : Nat → ClassId} {D : va_G} {σ : Nat → Nat} {np b0 : Nat} {M : Mc} {N : Md} {r : Int32 × Mc} (hf : fX11_quoted M = some r) : Met l yX11_quoted (.code yX11_quoted cX11_quoted 1 (some .int) :: lw_g) (rmD 5) (PR Y D σ np b0 [.ref (σ 0)] M N) (QR Y D σ np b0 (some (.int r.1)) r.2 N) 0 0 (xA b0) := by
  refine x_met (by decide) (Nat.le_of_ble_eq_true rfl) (fun p e s m args below meth c hE hr => ?_)
  unfold fX11_quoted at hf
  refine x_pick [0] (L' := [(0, .ref (σ 0))]) rfl ?_
  refine x_aload_n hE 0 dX11_quoted_0 rfl rfl ?_
  obtain ⟨⟨v2, M3⟩, hc1, hf⟩ := bn2_some hf
  refine x_callV1 hE [] (rest := []) (v := .int v2) (c1 := M3) (d1 := N) rfl yokX11_priceAtHome yvX11_priceAtHome lk_X11_220 rfl cl_11 (hE.kd kO_11) (by decide) rfl rfl ⟨Nat.le_of_ble_eq_true rfl, Nat.le_of_ble_eq_true rfl⟩ ⟨Nat.zero_le _, Nat.zero_le _⟩ rfl (Nat.le_of_ble_eq_true rfl) dX11_quoted_1 (mX11_priceAtHome l hc1) ?_
  replace hf := Option.some.inj hf
  subst hf
  exact x_ireturn hE (v := v2) hr rfl dX11_quoted_4
theorem yokX11_quoted : YOK yX11_quoted cX11_quoted 1 0 (some .int) := ⟨mem_g 632 (by decide +kernel) (by decide +kernel), mem_g 131 (by decide +kernel) (by decide +kernel), by decide +kernel, by decide +kernel, by decide +kernel⟩
theorem yvX11_quoted : YV yX11_quoted := ⟨mem_g 630 (by decide +kernel) (by decide +kernel), mem_g 631 (by decide +kernel) (by decide +kernel)⟩
theorem lk_X11_356 : Cond.fieldLink RX11 356 (TX11 12).1 (TX11 12).2.1 (TX11 12).2.2.1 ∈ lw_g := mem_g 571 (by decide +kernel) (by decide +kernel)
theorem dX11_passagesAtHome_0 : decode cX11_passagesAtHome 0 = .ok (.aload_n 0, 1) := by decide +kernel
theorem dX11_passagesAtHome_1 : decode cX11_passagesAtHome 1 = .ok (.getfield 27, 3) := by decide +kernel
theorem dX11_passagesAtHome_4 : decode cX11_passagesAtHome 4 = .ok (.getfield 232, 3) := by decide +kernel
theorem dX11_passagesAtHome_7 : decode cX11_passagesAtHome 7 = .ok (.bipush 34, 2) := by decide +kernel
theorem dX11_passagesAtHome_9 : decode cX11_passagesAtHome 9 = .ok (.isub, 1) := by decide +kernel
theorem dX11_passagesAtHome_10 : decode cX11_passagesAtHome 10 = .ok (.istore_n 1, 1) := by decide +kernel
theorem dX11_passagesAtHome_11 : decode cX11_passagesAtHome 11 = .ok (.iload_n 1, 1) := by decide +kernel
theorem dX11_passagesAtHome_12 : decode cX11_passagesAtHome 12 = .ok (.ifCond .ge 7, 3) := by decide +kernel
theorem dX11_passagesAtHome_15 : decode cX11_passagesAtHome 15 = .ok (.iconst 0, 1) := by decide +kernel
theorem dX11_passagesAtHome_16 : decode cX11_passagesAtHome 16 = .ok (.goto 12, 3) := by decide +kernel
theorem dX11_passagesAtHome_19 : decode cX11_passagesAtHome 19 = .ok (.aload_n 0, 1) := by decide +kernel
theorem dX11_passagesAtHome_20 : decode cX11_passagesAtHome 20 = .ok (.getfield 10, 3) := by decide +kernel
theorem dX11_passagesAtHome_23 : decode cX11_passagesAtHome 23 = .ok (.iload_n 1, 1) := by decide +kernel
theorem dX11_passagesAtHome_24 : decode cX11_passagesAtHome 24 = .ok (.iconst 5, 1) := by decide +kernel
theorem dX11_passagesAtHome_25 : decode cX11_passagesAtHome 25 = .ok (.invokevirtual 391, 3) := by decide +kernel
theorem dX11_passagesAtHome_28 : decode cX11_passagesAtHome 28 = .ok (.istore_n 2, 1) := by decide +kernel
theorem dX11_passagesAtHome_29 : decode cX11_passagesAtHome 29 = .ok (.iload_n 2, 1) := by decide +kernel
theorem dX11_passagesAtHome_30 : decode cX11_passagesAtHome 30 = .ok (.aload_n 0, 1) := by decide +kernel
theorem dX11_passagesAtHome_31 : decode cX11_passagesAtHome 31 = .ok (.getfield 223, 3) := by decide +kernel
theorem dX11_passagesAtHome_34 : decode cX11_passagesAtHome 34 = .ok (.iadd, 1) := by decide +kernel
theorem dX11_passagesAtHome_35 : decode cX11_passagesAtHome 35 = .ok (.aload_n 0, 1) := by decide +kernel
theorem dX11_passagesAtHome_36 : decode cX11_passagesAtHome 36 = .ok (.getfield 356, 3) := by decide +kernel
theorem dX11_passagesAtHome_39 : decode cX11_passagesAtHome 39 = .ok (.isub, 1) := by decide +kernel
theorem dX11_passagesAtHome_40 : decode cX11_passagesAtHome 40 = .ok (.ireturn, 1) := by decide +kernel
theorem wX11_passagesAtHome_J28 {p : Program} {l : Launch} {e : Env} {s : State} {m : MethodId} {args : Array Value} {below : List Frame} {meth : Method} {c : Code} {Y : Nat → ClassId} {D : va_G} {σ : Nat → Nat} {np b0 : Nat} {r : Int32} {M : Mc} {N : Md} {Z0 : Int32} (hE : EOK p s m args meth c cX11_passagesAtHome 3 RX11 Y D σ np b0) (hr : meth.sig.returnType = (some .int)) (hf : fX11_passagesAtHome_J28 M Z0 = some r) : Xw p l e (rmD 3) s m args below meth c 3 Y D σ np b0 0 0 (MQ below (QR Y D σ np b0 (some (.int r)) M N) args s 0 0 (xA b0)) 28 [(0, .ref (σ 0))] [.int Z0] M N := by
  unfold fX11_passagesAtHome_J28 at hf
  refine x_istore_n hE (L' := [(2, .int Z0), (0, .ref (σ 0))]) dX11_passagesAtHome_28 rfl (by decide) rfl ?_
  refine x_pick [1, 0] (L' := [(0, .ref (σ 0)), (2, .int Z0)]) rfl ?_
  refine x_iload_n hE 1 dX11_passagesAtHome_29 rfl rfl ?_
  refine x_aload_n hE 0 dX11_passagesAtHome_30 rfl rfl ?_
  refine x_getI hE cl_11 (hE.kd kO_11) (by decide) 11 rfl (by decide) lk_X11_223 dX11_passagesAtHome_31 ?_
  refine x_iadd hE dX11_passagesAtHome_34 ?_
  refine x_aload_n hE 0 dX11_passagesAtHome_35 rfl rfl ?_
  refine x_getI hE cl_11 (hE.kd kO_11) (by decide) 12 rfl (by decide) lk_X11_356 dX11_passagesAtHome_36 ?_
  refine x_isub hE dX11_passagesAtHome_39 ?_
  replace hf := Option.some.inj hf
  subst hf
  exact x_ireturn hE (v := (Z0 + (M 0 11)) - (M 0 12)) hr rfl dX11_passagesAtHome_40
theorem mX11_passagesAtHome (l : Launch) {Y : Nat → ClassId} {D : va_G} {σ : Nat → Nat} {np b0 : Nat} {M : Mc} {N : Md} {r : Int32} (hf : fX11_passagesAtHome M = some r) : Met l yX11_passagesAtHome (.code yX11_passagesAtHome cX11_passagesAtHome 3 (some .int) :: lw_g) (rmD 3) (PR Y D σ np b0 [.ref (σ 0)] M N) (QR Y D σ np b0 (some (.int r)) M N) 0 0 (xA b0) := by
  refine x_met (by decide) (Nat.le_of_ble_eq_true rfl) (fun p e s m args below meth c hE hr => ?_)
  unfold fX11_passagesAtHome at hf
  refine x_pick [0] (L' := [(0, .ref (σ 0))]) rfl ?_
  refine x_aload_n hE 0 dX11_passagesAtHome_0 rfl rfl ?_
  refine x_getR hE cl_11 (hE.kd kO_11) (by decide) 2 (17) rfl (by decide) lk_X11_27 dX11_passagesAtHome_1 ?_
  refine x_getI hE cl_10 (hE.kd (kO_10 hI_17)) (by decide) 6 rfl (by decide) lk_X11_232 dX11_passagesAtHome_4 ?_
  refine x_bipush hE (nI 34) dX11_passagesAtHome_7 (by decide) ?_
  refine x_isub hE dX11_passagesAtHome_9 ?_
  refine x_ltI hf (fun v1 hf => ?_)
  refine x_istore_n hE (L' := [(1, .int v1), (0, .ref (σ 0))]) dX11_passagesAtHome_10 rfl (by decide) rfl ?_
  refine x_pick [1, 0] (L' := [(0, .ref (σ 0)), (1, .int v1)]) rfl ?_
  refine x_iload_n hE 1 dX11_passagesAtHome_11 rfl rfl ?_
  refine x_if_ge hE 19 dX11_passagesAtHome_12 (by decide) hf (fun hf => ?_) (fun hf => ?_)
  · refine x_aload_n hE 0 dX11_passagesAtHome_19 rfl rfl ?_
    refine x_getR hE cl_11 (hE.kd kO_11) (by decide) 0 (1) rfl (by decide) lk_X11_10 dX11_passagesAtHome_20 ?_
    refine x_iload_n hE 1 dX11_passagesAtHome_23 rfl rfl ?_
    refine x_iconst hE (nI 5) dX11_passagesAtHome_24 (by decide) ?_
    obtain ⟨v3, hc2, hf⟩ := bnd_some hf
    refine x_callV1 hE [.int v1, .int (nI 5)] (rest := []) (v := .int v3) (c1 := M) (d1 := N) rfl yokX0_rowOf yvX0_rowOf lk_X11_391 rfl cl_0 (hE.kd kO_0) (by decide) rfl rfl ⟨Nat.le_of_ble_eq_true rfl, Nat.le_of_ble_eq_true rfl⟩ ⟨Nat.zero_le _, Nat.zero_le _⟩ rfl (Nat.le_of_ble_eq_true rfl) dX11_passagesAtHome_25 (mX0_rowOf l hc2) ?_
    refine x_pick [0] (L' := [(0, .ref (σ 0))]) rfl ?_
    exact wX11_passagesAtHome_J28 hE hr  hf
  · refine x_iconst hE (0 : Int32) dX11_passagesAtHome_15 (by decide) ?_
    refine x_goto hE 28 dX11_passagesAtHome_16 (by decide) ?_
    refine x_pick [0] (L' := [(0, .ref (σ 0))]) rfl ?_
    exact wX11_passagesAtHome_J28 hE hr  hf
theorem yokX11_passagesAtHome : YOK yX11_passagesAtHome cX11_passagesAtHome 3 0 (some .int) := ⟨mem_g 678 (by decide +kernel) (by decide +kernel), mem_g 131 (by decide +kernel) (by decide +kernel), by decide +kernel, by decide +kernel, by decide +kernel⟩
theorem yvX11_passagesAtHome : YV yX11_passagesAtHome := ⟨mem_g 677 (by decide +kernel) (by decide +kernel), mem_g 2 (by decide +kernel) (by decide +kernel)⟩
theorem lk_X11_348 : Cond.fieldLink RX11 348 (TX11 10).1 (TX11 10).2.1 (TX11 10).2.2.1 ∈ lw_g := mem_g 569 (by decide +kernel) (by decide +kernel)
theorem lk_X11_351 : Cond.constantLong RX11 351 (10 : Int64) ∈ lw_g := mem_g 674 (by decide +kernel) (by decide +kernel)
theorem lk_X11_353 : Cond.methodLink RX11 353 yX11_passagesAtHome ∈ lw_g := mem_g 675 (by decide +kernel) (by decide +kernel)
theorem lk_X11_359 : Cond.methodLink RX11 359 yX3_sailOrders ∈ lw_g := mem_g 679 (by decide +kernel) (by decide +kernel)
theorem dX11_ship_0 : decode cX11_ship 0 = .ok (.iload_n 1, 1) := by decide +kernel
theorem dX11_ship_1 : decode cX11_ship 1 = .ok (.ifCond .lt 16, 3) := by decide +kernel
theorem dX11_ship_4 : decode cX11_ship 4 = .ok (.iload_n 2, 1) := by decide +kernel
theorem dX11_ship_5 : decode cX11_ship 5 = .ok (.ifCond .lt 12, 3) := by decide +kernel
theorem dX11_ship_8 : decode cX11_ship 8 = .ok (.iload_n 3, 1) := by decide +kernel
theorem dX11_ship_9 : decode cX11_ship 9 = .ok (.ifCond .lt 8, 3) := by decide +kernel
theorem dX11_ship_12 : decode cX11_ship 12 = .ok (.iload 4, 2) := by decide +kernel
theorem dX11_ship_14 : decode cX11_ship 14 = .ok (.ifCond .ge 5, 3) := by decide +kernel
theorem dX11_ship_17 : decode cX11_ship 17 = .ok (.iconst (-1), 1) := by decide +kernel
theorem dX11_ship_18 : decode cX11_ship 18 = .ok (.ireturn, 1) := by decide +kernel
theorem dX11_ship_19 : decode cX11_ship 19 = .ok (.aload_n 0, 1) := by decide +kernel
theorem dX11_ship_20 : decode cX11_ship 20 = .ok (.getfield 348, 3) := by decide +kernel
theorem dX11_ship_23 : decode cX11_ship 23 = .ok (.bipush 20, 2) := by decide +kernel
theorem dX11_ship_25 : decode cX11_ship 25 = .ok (.if_icmp .lt 6, 3) := by decide +kernel
theorem dX11_ship_28 : decode cX11_ship 28 = .ok (.bipush (-2), 2) := by decide +kernel
theorem dX11_ship_30 : decode cX11_ship 30 = .ok (.ireturn, 1) := by decide +kernel
theorem dX11_ship_31 : decode cX11_ship 31 = .ok (.iload_n 1, 1) := by decide +kernel
theorem dX11_ship_32 : decode cX11_ship 32 = .ok (.i2l, 1) := by decide +kernel
theorem dX11_ship_33 : decode cX11_ship 33 = .ok (.iload_n 2, 1) := by decide +kernel
theorem dX11_ship_34 : decode cX11_ship 34 = .ok (.i2l, 1) := by decide +kernel
theorem dX11_ship_35 : decode cX11_ship 35 = .ok (.ladd, 1) := by decide +kernel
theorem dX11_ship_36 : decode cX11_ship 36 = .ok (.iload_n 3, 1) := by decide +kernel
theorem dX11_ship_37 : decode cX11_ship 37 = .ok (.i2l, 1) := by decide +kernel
theorem dX11_ship_38 : decode cX11_ship 38 = .ok (.ladd, 1) := by decide +kernel
theorem dX11_ship_39 : decode cX11_ship 39 = .ok (.iload 4, 2) := by decide +kernel
theorem dX11_ship_41 : decode cX11_ship 41 = .ok (.i2l, 1) := by decide +kernel
theorem dX11_ship_42 : decode cX11_ship 42 = .ok (.ladd, 1) := by decide +kernel
theorem dX11_ship_43 : decode cX11_ship 43 = .ok (.lstore 5, 2) := by decide +kernel
theorem dX11_ship_45 : decode cX11_ship 45 = .ok (.lload 5, 2) := by decide +kernel
theorem dX11_ship_47 : decode cX11_ship 47 = .ok (.bipush 100, 2) := by decide +kernel
theorem dX11_ship_49 : decode cX11_ship 49 = .ok (.aload_n 0, 1) := by decide +kernel
theorem dX11_ship_50 : decode cX11_ship 50 = .ok (.getfield 27, 3) := by decide +kernel
theorem dX11_ship_53 : decode cX11_ship 53 = .ok (.getfield 125, 3) := by decide +kernel
theorem dX11_ship_56 : decode cX11_ship 56 = .ok (.getfield 129, 3) := by decide +kernel
theorem dX11_ship_59 : decode cX11_ship 59 = .ok (.isub, 1) := by decide +kernel
theorem dX11_ship_60 : decode cX11_ship 60 = .ok (.i2l, 1) := by decide +kernel
theorem dX11_ship_61 : decode cX11_ship 61 = .ok (.lcmp, 1) := by decide +kernel
theorem dX11_ship_62 : decode cX11_ship 62 = .ok (.ifCond .le 6, 3) := by decide +kernel
theorem dX11_ship_65 : decode cX11_ship 65 = .ok (.bipush (-3), 2) := by decide +kernel
theorem dX11_ship_67 : decode cX11_ship 67 = .ok (.ireturn, 1) := by decide +kernel
theorem dX11_ship_68 : decode cX11_ship 68 = .ok (.ldc2_w 351, 3) := by decide +kernel
theorem dX11_ship_71 : decode cX11_ship 71 = .ok (.lload 5, 2) := by decide +kernel
theorem dX11_ship_73 : decode cX11_ship 73 = .ok (.lmul, 1) := by decide +kernel
theorem dX11_ship_74 : decode cX11_ship 74 = .ok (.lstore 7, 2) := by decide +kernel
theorem dX11_ship_76 : decode cX11_ship 76 = .ok (.lload 7, 2) := by decide +kernel
theorem dX11_ship_78 : decode cX11_ship 78 = .ok (.aload_n 0, 1) := by decide +kernel
theorem dX11_ship_79 : decode cX11_ship 79 = .ok (.invokevirtual 353, 3) := by decide +kernel
theorem dX11_ship_82 : decode cX11_ship 82 = .ok (.i2l, 1) := by decide +kernel
theorem dX11_ship_83 : decode cX11_ship 83 = .ok (.lcmp, 1) := by decide +kernel
theorem dX11_ship_84 : decode cX11_ship 84 = .ok (.ifCond .le 6, 3) := by decide +kernel
theorem dX11_ship_87 : decode cX11_ship 87 = .ok (.bipush (-4), 2) := by decide +kernel
theorem dX11_ship_89 : decode cX11_ship 89 = .ok (.ireturn, 1) := by decide +kernel
theorem dX11_ship_90 : decode cX11_ship 90 = .ok (.aload_n 0, 1) := by decide +kernel
theorem dX11_ship_91 : decode cX11_ship 91 = .ok (.dup, 1) := by decide +kernel
theorem dX11_ship_92 : decode cX11_ship 92 = .ok (.getfield 356, 3) := by decide +kernel
theorem dX11_ship_95 : decode cX11_ship 95 = .ok (.lload 7, 2) := by decide +kernel
theorem dX11_ship_97 : decode cX11_ship 97 = .ok (.l2i, 1) := by decide +kernel
theorem dX11_ship_98 : decode cX11_ship 98 = .ok (.iadd, 1) := by decide +kernel
theorem dX11_ship_99 : decode cX11_ship 99 = .ok (.putfield 356, 3) := by decide +kernel
theorem dX11_ship_102 : decode cX11_ship 102 = .ok (.aload_n 0, 1) := by decide +kernel
theorem dX11_ship_103 : decode cX11_ship 103 = .ok (.getfield 27, 3) := by decide +kernel
theorem dX11_ship_106 : decode cX11_ship 106 = .ok (.getfield 232, 3) := by decide +kernel
theorem dX11_ship_109 : decode cX11_ship 109 = .ok (.bipush 34, 2) := by decide +kernel
theorem dX11_ship_111 : decode cX11_ship 111 = .ok (.iadd, 1) := by decide +kernel
theorem dX11_ship_112 : decode cX11_ship 112 = .ok (.istore 9, 2) := by decide +kernel
theorem dX11_ship_114 : decode cX11_ship 114 = .ok (.aload_n 0, 1) := by decide +kernel
theorem dX11_ship_115 : decode cX11_ship 115 = .ok (.getfield 27, 3) := by decide +kernel
theorem dX11_ship_118 : decode cX11_ship 118 = .ok (.getfield 125, 3) := by decide +kernel
theorem dX11_ship_121 : decode cX11_ship 121 = .ok (.iload 9, 2) := by decide +kernel
theorem dX11_ship_123 : decode cX11_ship 123 = .ok (.invokevirtual 359, 3) := by decide +kernel
theorem dX11_ship_126 : decode cX11_ship 126 = .ok (.aload_n 0, 1) := by decide +kernel
theorem dX11_ship_127 : decode cX11_ship 127 = .ok (.getfield 27, 3) := by decide +kernel
theorem dX11_ship_130 : decode cX11_ship 130 = .ok (.getfield 125, 3) := by decide +kernel
theorem dX11_ship_133 : decode cX11_ship 133 = .ok (.iload_n 1, 1) := by decide +kernel
theorem dX11_ship_134 : decode cX11_ship 134 = .ok (.iconst 0, 1) := by decide +kernel
theorem dX11_ship_135 : decode cX11_ship 135 = .ok (.iconst 5, 1) := by decide +kernel
theorem dX11_ship_136 : decode cX11_ship 136 = .ok (.iload 9, 2) := by decide +kernel
theorem dX11_ship_138 : decode cX11_ship 138 = .ok (.invokevirtual 134, 3) := by decide +kernel
theorem dX11_ship_141 : decode cX11_ship 141 = .ok (.aload_n 0, 1) := by decide +kernel
theorem dX11_ship_142 : decode cX11_ship 142 = .ok (.getfield 27, 3) := by decide +kernel
theorem dX11_ship_145 : decode cX11_ship 145 = .ok (.getfield 125, 3) := by decide +kernel
theorem dX11_ship_148 : decode cX11_ship 148 = .ok (.iload_n 2, 1) := by decide +kernel
theorem dX11_ship_149 : decode cX11_ship 149 = .ok (.iconst 1, 1) := by decide +kernel
theorem dX11_ship_150 : decode cX11_ship 150 = .ok (.iconst 5, 1) := by decide +kernel
theorem dX11_ship_151 : decode cX11_ship 151 = .ok (.iload 9, 2) := by decide +kernel
theorem dX11_ship_153 : decode cX11_ship 153 = .ok (.invokevirtual 134, 3) := by decide +kernel
theorem dX11_ship_156 : decode cX11_ship 156 = .ok (.aload_n 0, 1) := by decide +kernel
theorem dX11_ship_157 : decode cX11_ship 157 = .ok (.getfield 27, 3) := by decide +kernel
theorem dX11_ship_160 : decode cX11_ship 160 = .ok (.getfield 125, 3) := by decide +kernel
theorem dX11_ship_163 : decode cX11_ship 163 = .ok (.iload_n 3, 1) := by decide +kernel
theorem dX11_ship_164 : decode cX11_ship 164 = .ok (.iconst 2, 1) := by decide +kernel
theorem dX11_ship_165 : decode cX11_ship 165 = .ok (.iconst 5, 1) := by decide +kernel
theorem dX11_ship_166 : decode cX11_ship 166 = .ok (.iload 9, 2) := by decide +kernel
theorem dX11_ship_168 : decode cX11_ship 168 = .ok (.invokevirtual 134, 3) := by decide +kernel
theorem dX11_ship_171 : decode cX11_ship 171 = .ok (.aload_n 0, 1) := by decide +kernel
theorem dX11_ship_172 : decode cX11_ship 172 = .ok (.getfield 27, 3) := by decide +kernel
theorem dX11_ship_175 : decode cX11_ship 175 = .ok (.getfield 125, 3) := by decide +kernel
theorem dX11_ship_178 : decode cX11_ship 178 = .ok (.iload 4, 2) := by decide +kernel
theorem dX11_ship_180 : decode cX11_ship 180 = .ok (.iconst 3, 1) := by decide +kernel
theorem dX11_ship_181 : decode cX11_ship 181 = .ok (.iconst 5, 1) := by decide +kernel
theorem dX11_ship_182 : decode cX11_ship 182 = .ok (.iload 9, 2) := by decide +kernel
theorem dX11_ship_184 : decode cX11_ship 184 = .ok (.invokevirtual 134, 3) := by decide +kernel
theorem dX11_ship_187 : decode cX11_ship 187 = .ok (.aload_n 0, 1) := by decide +kernel
theorem dX11_ship_188 : decode cX11_ship 188 = .ok (.dup, 1) := by decide +kernel
theorem dX11_ship_189 : decode cX11_ship 189 = .ok (.getfield 348, 3) := by decide +kernel
theorem dX11_ship_192 : decode cX11_ship 192 = .ok (.dup_x1, 1) := by decide +kernel
theorem dX11_ship_193 : decode cX11_ship 193 = .ok (.iconst 1, 1) := by decide +kernel
theorem dX11_ship_194 : decode cX11_ship 194 = .ok (.iadd, 1) := by decide +kernel
theorem dX11_ship_195 : decode cX11_ship 195 = .ok (.putfield 348, 3) := by decide +kernel
theorem dX11_ship_198 : decode cX11_ship 198 = .ok (.ireturn, 1) := by decide +kernel
theorem mX11_ship (l : Launch) {Y : Nat → ClassId} {D : va_G} {σ : Nat → Nat} {np b0 : Nat} {M : Mc} {N : Md} {p0 : Int32} {p1 : Int32} {p2 : Int32} {p3 : Int32} {r : Int32 × Mc} (hf : fX11_ship M p0 p1 p2 p3 = some r) : Met l yX11_ship (.code yX11_ship cX11_ship 10 (some .int) :: lw_g) (rmD 4) (PR Y D σ np b0 [.ref (σ 0), .int p0, .int p1, .int p2, .int p3] M N) (QR Y D σ np b0 (some (.int r.1)) r.2 N) 0 0 (xA b0) := by
  refine x_met (by decide) (Nat.le_of_ble_eq_true rfl) (fun p e s m args below meth c hE hr => ?_)
  unfold fX11_ship at hf
  refine x_pick [0, 1, 2, 3, 4] (L' := [(0, .ref (σ 0)), (1, .int p0), (2, .int p1), (3, .int p2), (4, .int p3)]) rfl ?_
  refine x_iload_n hE 1 dX11_ship_0 rfl rfl ?_
  refine x_if_lt hE 17 dX11_ship_1 (by decide) hf (fun hf => ?_) (fun hf => ?_)
  · refine x_iconst hE (-1) dX11_ship_17 (by decide) ?_
    replace hf := Option.some.inj hf
    subst hf
    exact x_ireturn hE (v := (-1)) hr rfl dX11_ship_18
  · refine x_iload_n hE 2 dX11_ship_4 rfl rfl ?_
    refine x_if_lt hE 17 dX11_ship_5 (by decide) hf (fun hf => ?_) (fun hf => ?_)
    · refine x_iconst hE (-1) dX11_ship_17 (by decide) ?_
      replace hf := Option.some.inj hf
      subst hf
      exact x_ireturn hE (v := (-1)) hr rfl dX11_ship_18
    · refine x_iload_n hE 3 dX11_ship_8 rfl rfl ?_
      refine x_if_lt hE 17 dX11_ship_9 (by decide) hf (fun hf => ?_) (fun hf => ?_)
      · refine x_iconst hE (-1) dX11_ship_17 (by decide) ?_
        replace hf := Option.some.inj hf
        subst hf
        exact x_ireturn hE (v := (-1)) hr rfl dX11_ship_18
      · refine x_iload hE 4 dX11_ship_12 rfl ?_
        refine x_if_ge hE 19 dX11_ship_14 (by decide) hf (fun hf => ?_) (fun hf => ?_)
        · refine x_aload_n hE 0 dX11_ship_19 rfl rfl ?_
          refine x_getI hE cl_11 (hE.kd kO_11) (by decide) 10 rfl (by decide) lk_X11_348 dX11_ship_20 ?_
          refine x_bipush hE (nI 20) dX11_ship_23 (by decide) ?_
          refine x_icmp_lt hE 31 dX11_ship_25 (by decide) hf (fun hf => ?_) (fun hf => ?_)
          · refine x_iload_n hE 1 dX11_ship_31 rfl rfl ?_
            refine x_i2l hE dX11_ship_32 ?_
            refine x_iload_n hE 2 dX11_ship_33 rfl rfl ?_
            refine x_i2l hE dX11_ship_34 ?_
            refine x_ladd hE dX11_ship_35 ?_
            refine x_iload_n hE 3 dX11_ship_36 rfl rfl ?_
            refine x_i2l hE dX11_ship_37 ?_
            refine x_ladd hE dX11_ship_38 ?_
            refine x_iload hE 4 dX11_ship_39 rfl ?_
            refine x_i2l hE dX11_ship_41 ?_
            refine x_ladd hE dX11_ship_42 ?_
            refine x_ltL hf (fun v1 hf => ?_)
            refine x_lstore hE (L' := [(5, .long v1), (0, .ref (σ 0)), (1, .int p0), (2, .int p1), (3, .int p2), (4, .int p3)]) dX11_ship_43 (by decide) rfl ?_
            refine x_pick [1, 2, 3, 4, 5, 0] (L' := [(0, .ref (σ 0)), (1, .int p0), (2, .int p1), (3, .int p2), (4, .int p3), (5, .long v1)]) rfl ?_
            refine x_lload hE 5 dX11_ship_45 rfl ?_
            refine x_bipush hE (nI 100) dX11_ship_47 (by decide) ?_
            refine x_aload_n hE 0 dX11_ship_49 rfl rfl ?_
            refine x_getR hE cl_11 (hE.kd kO_11) (by decide) 2 (17) rfl (by decide) lk_X11_27 dX11_ship_50 ?_
            refine x_getR hE cl_10 (hE.kd (kO_10 hI_17)) (by decide) 2 (17 + 15) rfl (by decide) lk_X11_125 dX11_ship_53 ?_
            refine x_getI hE cl_3 (hE.kd (kO_3 (hL_10_2 hI_17))) (by decide) 0 rfl (by decide) lk_X11_129 dX11_ship_56 ?_
            refine x_isub hE dX11_ship_59 ?_
            refine x_i2l hE dX11_ship_60 ?_
            refine x_lcmp hE dX11_ship_61 ?_
            refine x_if_le hE 68 dX11_ship_62 (by decide) hf (fun hf => ?_) (fun hf => ?_)
            · refine x_ldc2 hE (10 : Int64) lk_X11_351 dX11_ship_68 ?_
              refine x_lload hE 5 dX11_ship_71 rfl ?_
              refine x_lmul hE dX11_ship_73 ?_
              refine x_ltL hf (fun v2 hf => ?_)
              refine x_lstore hE (L' := [(7, .long v2), (0, .ref (σ 0)), (1, .int p0), (2, .int p1), (3, .int p2), (4, .int p3), (5, .long v1)]) dX11_ship_74 (by decide) rfl ?_
              refine x_pick [1, 2, 3, 4, 5, 6, 0] (L' := [(0, .ref (σ 0)), (1, .int p0), (2, .int p1), (3, .int p2), (4, .int p3), (5, .long v1), (7, .long v2)]) rfl ?_
              refine x_lload hE 6 dX11_ship_76 rfl ?_
              refine x_aload_n hE 0 dX11_ship_78 rfl rfl ?_
              obtain ⟨v4, hc3, hf⟩ := bnd_some hf
              refine x_callV1 hE [] (rest := [.long v2]) (v := .int v4) (c1 := M) (d1 := N) rfl yokX11_passagesAtHome yvX11_passagesAtHome lk_X11_353 rfl cl_11 (hE.kd kO_11) (by decide) rfl rfl ⟨Nat.le_of_ble_eq_true rfl, Nat.le_of_ble_eq_true rfl⟩ ⟨Nat.zero_le _, Nat.zero_le _⟩ rfl (Nat.le_of_ble_eq_true rfl) dX11_ship_79 (mX11_passagesAtHome l hc3) ?_
              refine x_i2l hE dX11_ship_82 ?_
              refine x_lcmp hE dX11_ship_83 ?_
              refine x_if_le hE 90 dX11_ship_84 (by decide) hf (fun hf => ?_) (fun hf => ?_)
              · refine x_aload_n hE 0 dX11_ship_90 rfl rfl ?_
                refine x_dup hE dX11_ship_91 rfl ?_
                refine x_getI hE cl_11 (hE.kd kO_11) (by decide) 12 rfl (by decide) lk_X11_356 dX11_ship_92 ?_
                refine x_lload hE 6 dX11_ship_95 rfl ?_
                refine x_l2i hE dX11_ship_97 ?_
                refine x_iadd hE dX11_ship_98 ?_
                refine x_putI hE cl_11 (hE.kd kO_11) (by decide) 12 rfl (by decide) lk_X11_356 rfl rfl rfl rfl dX11_ship_99 hf (fun M5 hf => ?_)
                refine x_aload_n hE 0 dX11_ship_102 rfl rfl ?_
                refine x_getR hE cl_11 (hE.kd kO_11) (by decide) 2 (17) rfl (by decide) lk_X11_27 dX11_ship_103 ?_
                refine x_getI hE cl_10 (hE.kd (kO_10 hI_17)) (by decide) 6 rfl (by decide) lk_X11_232 dX11_ship_106 ?_
                refine x_bipush hE (nI 34) dX11_ship_109 (by decide) ?_
                refine x_iadd hE dX11_ship_111 ?_
                refine x_ltI hf (fun v6 hf => ?_)
                refine x_istore hE (L' := [(9, .int v6), (0, .ref (σ 0)), (1, .int p0), (2, .int p1), (3, .int p2), (4, .int p3), (5, .long v1), (7, .long v2)]) dX11_ship_112 (by decide) rfl ?_
                refine x_pick [1, 2, 3, 4, 5, 6, 7, 0] (L' := [(0, .ref (σ 0)), (1, .int p0), (2, .int p1), (3, .int p2), (4, .int p3), (5, .long v1), (7, .long v2), (9, .int v6)]) rfl ?_
                refine x_aload_n hE 0 dX11_ship_114 rfl rfl ?_
                refine x_getR hE cl_11 (hE.kd kO_11) (by decide) 2 (17) rfl (by decide) lk_X11_27 dX11_ship_115 ?_
                refine x_getR hE cl_10 (hE.kd (kO_10 hI_17)) (by decide) 2 (17 + 15) rfl (by decide) lk_X11_125 dX11_ship_118 ?_
                refine x_iload hE 7 dX11_ship_121 rfl ?_
                obtain ⟨M8, hc7, hf⟩ := bnd_some hf
                refine x_callV0 hE [.int v6] (rest := []) (c1 := M8) (d1 := N) rfl yokX3_sailOrders yvX3_sailOrders lk_X11_359 rfl cl_3 (hE.kd (kO_3 (hL_10_2 hI_17))) (by decide) rfl rfl ⟨Nat.le_of_ble_eq_true rfl, Nat.le_of_ble_eq_true rfl⟩ ⟨Nat.zero_le _, Nat.zero_le _⟩ rfl (Nat.le_of_ble_eq_true rfl) dX11_ship_123 (mX3_sailOrders l (hL_10_2 hI_17) hc7) ?_
                refine x_aload_n hE 0 dX11_ship_126 rfl rfl ?_
                refine x_getR hE cl_11 (hE.kd kO_11) (by decide) 2 (17) rfl (by decide) lk_X11_27 dX11_ship_127 ?_
                refine x_getR hE cl_10 (hE.kd (kO_10 hI_17)) (by decide) 2 (17 + 15) rfl (by decide) lk_X11_125 dX11_ship_130 ?_
                refine x_iload_n hE 1 dX11_ship_133 rfl rfl ?_
                refine x_iconst hE (0 : Int32) dX11_ship_134 (by decide) ?_
                refine x_iconst hE (nI 5) dX11_ship_135 (by decide) ?_
                refine x_iload hE 7 dX11_ship_136 rfl ?_
                obtain ⟨M10, hc9, hf⟩ := bnd_some hf
                refine x_callV0 hE [.int p0, .int 0, .int (nI 5), .int v6] (rest := []) (c1 := M10) (d1 := N) rfl yokX3_add yvX3_add lk_X11_134 rfl cl_3 (hE.kd (kO_3 (hL_10_2 hI_17))) (by decide) rfl rfl ⟨Nat.le_of_ble_eq_true rfl, Nat.le_of_ble_eq_true rfl⟩ ⟨Nat.zero_le _, Nat.zero_le _⟩ rfl (Nat.le_of_ble_eq_true rfl) dX11_ship_138 (mX3_add l (hL_10_2 hI_17) hc9) ?_
                refine x_aload_n hE 0 dX11_ship_141 rfl rfl ?_
                refine x_getR hE cl_11 (hE.kd kO_11) (by decide) 2 (17) rfl (by decide) lk_X11_27 dX11_ship_142 ?_
                refine x_getR hE cl_10 (hE.kd (kO_10 hI_17)) (by decide) 2 (17 + 15) rfl (by decide) lk_X11_125 dX11_ship_145 ?_
                refine x_iload_n hE 2 dX11_ship_148 rfl rfl ?_
                refine x_iconst hE (nI 1) dX11_ship_149 (by decide) ?_
                refine x_iconst hE (nI 5) dX11_ship_150 (by decide) ?_
                refine x_iload hE 7 dX11_ship_151 rfl ?_
                obtain ⟨M12, hc11, hf⟩ := bnd_some hf
                refine x_callV0 hE [.int p1, .int (nI 1), .int (nI 5), .int v6] (rest := []) (c1 := M12) (d1 := N) rfl yokX3_add yvX3_add lk_X11_134 rfl cl_3 (hE.kd (kO_3 (hL_10_2 hI_17))) (by decide) rfl rfl ⟨Nat.le_of_ble_eq_true rfl, Nat.le_of_ble_eq_true rfl⟩ ⟨Nat.zero_le _, Nat.zero_le _⟩ rfl (Nat.le_of_ble_eq_true rfl) dX11_ship_153 (mX3_add l (hL_10_2 hI_17) hc11) ?_
                refine x_aload_n hE 0 dX11_ship_156 rfl rfl ?_
                refine x_getR hE cl_11 (hE.kd kO_11) (by decide) 2 (17) rfl (by decide) lk_X11_27 dX11_ship_157 ?_
                refine x_getR hE cl_10 (hE.kd (kO_10 hI_17)) (by decide) 2 (17 + 15) rfl (by decide) lk_X11_125 dX11_ship_160 ?_
                refine x_iload_n hE 3 dX11_ship_163 rfl rfl ?_
                refine x_iconst hE (nI 2) dX11_ship_164 (by decide) ?_
                refine x_iconst hE (nI 5) dX11_ship_165 (by decide) ?_
                refine x_iload hE 7 dX11_ship_166 rfl ?_
                obtain ⟨M14, hc13, hf⟩ := bnd_some hf
                refine x_callV0 hE [.int p2, .int (nI 2), .int (nI 5), .int v6] (rest := []) (c1 := M14) (d1 := N) rfl yokX3_add yvX3_add lk_X11_134 rfl cl_3 (hE.kd (kO_3 (hL_10_2 hI_17))) (by decide) rfl rfl ⟨Nat.le_of_ble_eq_true rfl, Nat.le_of_ble_eq_true rfl⟩ ⟨Nat.zero_le _, Nat.zero_le _⟩ rfl (Nat.le_of_ble_eq_true rfl) dX11_ship_168 (mX3_add l (hL_10_2 hI_17) hc13) ?_
                refine x_aload_n hE 0 dX11_ship_171 rfl rfl ?_
                refine x_getR hE cl_11 (hE.kd kO_11) (by decide) 2 (17) rfl (by decide) lk_X11_27 dX11_ship_172 ?_
                refine x_getR hE cl_10 (hE.kd (kO_10 hI_17)) (by decide) 2 (17 + 15) rfl (by decide) lk_X11_125 dX11_ship_175 ?_
                refine x_iload hE 4 dX11_ship_178 rfl ?_
                refine x_iconst hE (nI 3) dX11_ship_180 (by decide) ?_
                refine x_iconst hE (nI 5) dX11_ship_181 (by decide) ?_
                refine x_iload hE 7 dX11_ship_182 rfl ?_
                obtain ⟨M16, hc15, hf⟩ := bnd_some hf
                refine x_callV0 hE [.int p3, .int (nI 3), .int (nI 5), .int v6] (rest := []) (c1 := M16) (d1 := N) rfl yokX3_add yvX3_add lk_X11_134 rfl cl_3 (hE.kd (kO_3 (hL_10_2 hI_17))) (by decide) rfl rfl ⟨Nat.le_of_ble_eq_true rfl, Nat.le_of_ble_eq_true rfl⟩ ⟨Nat.zero_le _, Nat.zero_le _⟩ rfl (Nat.le_of_ble_eq_true rfl) dX11_ship_184 (mX3_add l (hL_10_2 hI_17) hc15) ?_
                refine x_aload_n hE 0 dX11_ship_187 rfl rfl ?_
                refine x_dup hE dX11_ship_188 rfl ?_
                refine x_getI hE cl_11 (hE.kd kO_11) (by decide) 10 rfl (by decide) lk_X11_348 dX11_ship_189 ?_
                refine x_dup_x1 hE dX11_ship_192 rfl rfl ?_
                refine x_iconst hE (nI 1) dX11_ship_193 (by decide) ?_
                refine x_iadd hE dX11_ship_194 ?_
                refine x_putI hE cl_11 (hE.kd kO_11) (by decide) 10 rfl (by decide) lk_X11_348 rfl rfl rfl rfl dX11_ship_195 hf (fun M17 hf => ?_)
                replace hf := Option.some.inj hf
                subst hf
                exact x_ireturn hE (v := M16 0 10) hr rfl dX11_ship_198
              · refine x_bipush hE (-4) dX11_ship_87 (by decide) ?_
                replace hf := Option.some.inj hf
                subst hf
                exact x_ireturn hE (v := (-4)) hr rfl dX11_ship_89
            · refine x_bipush hE (-3) dX11_ship_65 (by decide) ?_
              replace hf := Option.some.inj hf
              subst hf
              exact x_ireturn hE (v := (-3)) hr rfl dX11_ship_67
          · refine x_bipush hE (-2) dX11_ship_28 (by decide) ?_
            replace hf := Option.some.inj hf
            subst hf
            exact x_ireturn hE (v := (-2)) hr rfl dX11_ship_30
        · refine x_iconst hE (-1) dX11_ship_17 (by decide) ?_
          replace hf := Option.some.inj hf
          subst hf
          exact x_ireturn hE (v := (-1)) hr rfl dX11_ship_18
theorem yokX11_ship : YOK yX11_ship cX11_ship 10 4 (some .int) := ⟨mem_g 673 (by decide +kernel) (by decide +kernel), mem_g 131 (by decide +kernel) (by decide +kernel), by decide +kernel, by decide +kernel, by decide +kernel⟩
theorem yvX11_ship : YV yX11_ship := ⟨mem_g 671 (by decide +kernel) (by decide +kernel), mem_g 672 (by decide +kernel) (by decide +kernel)⟩
theorem dX11_passages_0 : decode cX11_passages 0 = .ok (.aload_n 0, 1) := by decide +kernel
theorem dX11_passages_1 : decode cX11_passages 1 = .ok (.invokevirtual 353, 3) := by decide +kernel
theorem dX11_passages_4 : decode cX11_passages 4 = .ok (.ireturn, 1) := by decide +kernel
theorem mX11_passages (l : Launch) {Y : Nat → ClassId} {D : va_G} {σ : Nat → Nat} {np b0 : Nat} {M : Mc} {N : Md} {r : Int32} (hf : fX11_passages M = some r) : Met l yX11_passages (.code yX11_passages cX11_passages 1 (some .int) :: lw_g) (rmD 4) (PR Y D σ np b0 [.ref (σ 0)] M N) (QR Y D σ np b0 (some (.int r)) M N) 0 0 (xA b0) := by
  refine x_met (by decide) (Nat.le_of_ble_eq_true rfl) (fun p e s m args below meth c hE hr => ?_)
  unfold fX11_passages at hf
  refine x_pick [0] (L' := [(0, .ref (σ 0))]) rfl ?_
  refine x_aload_n hE 0 dX11_passages_0 rfl rfl ?_
  obtain ⟨v2, hc1, hf⟩ := bnd_some hf
  refine x_callV1 hE [] (rest := []) (v := .int v2) (c1 := M) (d1 := N) rfl yokX11_passagesAtHome yvX11_passagesAtHome lk_X11_353 rfl cl_11 (hE.kd kO_11) (by decide) rfl rfl ⟨Nat.le_of_ble_eq_true rfl, Nat.le_of_ble_eq_true rfl⟩ ⟨Nat.zero_le _, Nat.zero_le _⟩ rfl (Nat.le_of_ble_eq_true rfl) dX11_passages_1 (mX11_passagesAtHome l hc1) ?_
  replace hf := Option.some.inj hf
  subst hf
  exact x_ireturn hE (v := v2) hr rfl dX11_passages_4
theorem yokX11_passages : YOK yX11_passages cX11_passages 1 0 (some .int) := ⟨mem_g 691 (by decide +kernel) (by decide +kernel), mem_g 131 (by decide +kernel) (by decide +kernel), by decide +kernel, by decide +kernel, by decide +kernel⟩
theorem yvX11_passages : YV yX11_passages := ⟨mem_g 689 (by decide +kernel) (by decide +kernel), mem_g 690 (by decide +kernel) (by decide +kernel)⟩
theorem lk_X11_362 : Cond.constant RX11 362 (nI 100000) ∈ lw_g := mem_g 1607 (by decide +kernel) (by decide +kernel)
theorem lk_X11_363 : Cond.fieldLink RX11 363 (TX10 4).1 (TX10 4).2.1 (TX10 4).2.2.1 ∈ lw_g := mem_g 413 (by decide +kernel) (by decide +kernel)
theorem lk_X11_367 : Cond.fieldLink RX11 367 (TX1 1).1 (TX1 1).2.1 (TX1 1).2.2.1 ∈ lw_g := mem_g 338 (by decide +kernel) (by decide +kernel)
theorem dX11_fund_0 : decode cX11_fund 0 = .ok (.iload_n 1, 1) := by decide +kernel
theorem dX11_fund_1 : decode cX11_fund 1 = .ok (.ifCond .lt 14, 3) := by decide +kernel
theorem dX11_fund_4 : decode cX11_fund 4 = .ok (.iload_n 1, 1) := by decide +kernel
theorem dX11_fund_5 : decode cX11_fund 5 = .ok (.ldc_w 362, 3) := by decide +kernel
theorem dX11_fund_8 : decode cX11_fund 8 = .ok (.if_icmp .gt 7, 3) := by decide +kernel
theorem dX11_fund_11 : decode cX11_fund 11 = .ok (.iconst 1, 1) := by decide +kernel
theorem dX11_fund_12 : decode cX11_fund 12 = .ok (.goto 4, 3) := by decide +kernel
theorem dX11_fund_15 : decode cX11_fund 15 = .ok (.iconst 0, 1) := by decide +kernel
theorem dX11_fund_16 : decode cX11_fund 16 = .ok (.invokestatic 76, 3) := by decide +kernel
theorem dX11_fund_19 : decode cX11_fund 19 = .ok (.aload_n 0, 1) := by decide +kernel
theorem dX11_fund_20 : decode cX11_fund 20 = .ok (.getfield 27, 3) := by decide +kernel
theorem dX11_fund_23 : decode cX11_fund 23 = .ok (.getfield 363, 3) := by decide +kernel
theorem dX11_fund_26 : decode cX11_fund 26 = .ok (.dup, 1) := by decide +kernel
theorem dX11_fund_27 : decode cX11_fund 27 = .ok (.getfield 367, 3) := by decide +kernel
theorem dX11_fund_30 : decode cX11_fund 30 = .ok (.iload_n 1, 1) := by decide +kernel
theorem dX11_fund_31 : decode cX11_fund 31 = .ok (.iadd, 1) := by decide +kernel
theorem dX11_fund_32 : decode cX11_fund 32 = .ok (.putfield 367, 3) := by decide +kernel
theorem dX11_fund_35 : decode cX11_fund 35 = .ok (.aload_n 0, 1) := by decide +kernel
theorem dX11_fund_36 : decode cX11_fund 36 = .ok (.getfield 27, 3) := by decide +kernel
theorem dX11_fund_39 : decode cX11_fund 39 = .ok (.getfield 363, 3) := by decide +kernel
theorem dX11_fund_42 : decode cX11_fund 42 = .ok (.getfield 367, 3) := by decide +kernel
theorem dX11_fund_45 : decode cX11_fund 45 = .ok (.ireturn, 1) := by decide +kernel
theorem wX11_fund_J16 {p : Program} {l : Launch} {e : Env} {s : State} {m : MethodId} {args : Array Value} {below : List Frame} {meth : Method} {c : Code} {Y : Nat → ClassId} {D : va_G} {σ : Nat → Nat} {np b0 : Nat} {r : Nat ⊕ (Int32 × Mc)} {M : Mc} {N : Md} {X1 : Int32} {Z0 : Int32} (hE : EOK p s m args meth c cX11_fund 2 RX11 Y D σ np b0) (hr : meth.sig.returnType = (some .int)) (hT : ∀ x ∈ c.exceptionTable.toList, False) (hfl : l.stackTraces = false) (hf : fX11_fund_J16 M X1 Z0 = some r) : Xw p l e (rmX 7 1) s m args below meth c 2 Y D σ np b0 0 (6 * 0) (vx_MQ below (QX (fun r : Int32 × Mc => QR Y D σ np b0 (some (.int r.1)) r.2 N) r) (XX Y D σ np b0 M N r) args s 1 (6 * 1) (xA b0)) 16 [(0, .ref (σ 0)), (1, .int X1)] [.int Z0] M N := by
  unfold fX11_fund_J16 at hf
  obtain ⟨y1, hc2, hy3⟩ := bnx_some hf
  refine x_callXS hE hT [.int Z0] (rest := []) rfl yokX11_needThat ysX11_needThat lk_X11_76 ⟨Nat.le_of_ble_eq_true rfl, Nat.le_of_ble_eq_true rfl⟩ (by decide) rfl (Nat.le_of_ble_eq_true rfl) dX11_fund_16 (mX11_needThat l hfl hc2) ⟨rfl, rfl⟩ (by decide) (by decide) (hy3.imp id (fun ⟨_, ha4, hf⟩ => ⟨_, none, M, N, ha4, rfl, ?_⟩))
  refine x_aload_n hE 0 dX11_fund_19 rfl rfl ?_
  refine x_getR hE cl_11 (hE.kd kO_11) (by decide) 2 (17) rfl (by decide) lk_X11_27 dX11_fund_20 ?_
  refine x_getR hE cl_10 (hE.kd (kO_10 hI_17)) (by decide) 4 (17 + 32) rfl (by decide) lk_X11_363 dX11_fund_23 ?_
  refine x_dup hE dX11_fund_26 rfl ?_
  refine x_getI hE cl_1 (hE.kd (kO_1 (hL_10_4 hI_17))) (by decide) 1 rfl (by decide) lk_X11_367 dX11_fund_27 ?_
  refine x_iload_n hE 1 dX11_fund_30 rfl rfl ?_
  refine x_iadd hE dX11_fund_31 ?_
  refine x_putI hE cl_1 (hE.kd (kO_1 (hL_10_4 hI_17))) (by decide) 1 rfl (by decide) lk_X11_367 rfl rfl rfl rfl dX11_fund_32 hf (fun M5 hf => ?_)
  refine x_aload_n hE 0 dX11_fund_35 rfl rfl ?_
  refine x_getR hE cl_11 (hE.kd kO_11) (by decide) 2 (17) rfl (by decide) lk_X11_27 dX11_fund_36 ?_
  refine x_getR hE cl_10 (hE.kd (kO_10 hI_17)) (by decide) 4 (17 + 32) rfl (by decide) lk_X11_363 dX11_fund_39 ?_
  refine x_getI hE cl_1 (hE.kd (kO_1 (hL_10_4 hI_17))) (by decide) 1 rfl (by decide) lk_X11_367 dX11_fund_42 ?_
  refine x_xin (by decide) (by decide) hf ?_
  exact x_ireturn hE (v := M5 (17 + 32) 1) hr rfl dX11_fund_45
theorem wX11_fund_J15 {p : Program} {l : Launch} {e : Env} {s : State} {m : MethodId} {args : Array Value} {below : List Frame} {meth : Method} {c : Code} {Y : Nat → ClassId} {D : va_G} {σ : Nat → Nat} {np b0 : Nat} {r : Nat ⊕ (Int32 × Mc)} {M : Mc} {N : Md} {X1 : Int32} (hE : EOK p s m args meth c cX11_fund 2 RX11 Y D σ np b0) (hr : meth.sig.returnType = (some .int)) (hT : ∀ x ∈ c.exceptionTable.toList, False) (hfl : l.stackTraces = false) (hf : fX11_fund_J15 M X1 = some r) : Xw p l e (rmX 7 1) s m args below meth c 2 Y D σ np b0 0 (6 * 0) (vx_MQ below (QX (fun r : Int32 × Mc => QR Y D σ np b0 (some (.int r.1)) r.2 N) r) (XX Y D σ np b0 M N r) args s 1 (6 * 1) (xA b0)) 15 [(0, .ref (σ 0)), (1, .int X1)] [] M N := by
  unfold fX11_fund_J15 at hf
  refine x_iconst hE (0 : Int32) dX11_fund_15 (by decide) ?_
  exact wX11_fund_J16 hE hr hT hfl hf
theorem mX11_fund (l : Launch) (hfl : l.stackTraces = false) {Y : Nat → ClassId} {D : va_G} {σ : Nat → Nat} {np b0 : Nat} {M : Mc} {N : Md} {p0 : Int32} {r : Nat ⊕ (Int32 × Mc)} (hf : fX11_fund M p0 = some r) : vx_Met l yX11_fund (.code yX11_fund cX11_fund 2 (some .int) :: lw_g) (rmX 7 1) (PR Y D σ np b0 [.ref (σ 0), .int p0] M N) (QX (fun r : Int32 × Mc => QR Y D σ np b0 (some (.int r.1)) r.2 N) r) (XX Y D σ np b0 M N r) 1 (6 * 1) (xA b0) := by
  refine x_vmet (by decide) (Nat.le_of_ble_eq_true rfl) (fun p e s m args below meth c hE hr hT => ?_)
  unfold fX11_fund at hf
  refine x_pick [0, 1] (L' := [(0, .ref (σ 0)), (1, .int p0)]) rfl ?_
  refine x_iload_n hE 1 dX11_fund_0 rfl rfl ?_
  refine x_if_lt hE 15 dX11_fund_1 (by decide) hf (fun hf => ?_) (fun hf => ?_)
  · exact wX11_fund_J15 hE hr hT hfl hf
  · refine x_iload_n hE 1 dX11_fund_4 rfl rfl ?_
    refine x_ldc_w hE (nI 100000) lk_X11_362 dX11_fund_5 ?_
    refine x_icmp_gt hE 15 dX11_fund_8 (by decide) hf (fun hf => ?_) (fun hf => ?_)
    · exact wX11_fund_J15 hE hr hT hfl hf
    · refine x_iconst hE (nI 1) dX11_fund_11 (by decide) ?_
      refine x_goto hE 16 dX11_fund_12 (by decide) ?_
      exact wX11_fund_J16 hE hr hT hfl hf
theorem yokX11_fund : YOK yX11_fund cX11_fund 2 1 (some .int) := ⟨mem_g 1606 (by decide +kernel) (by decide +kernel), mem_g 131 (by decide +kernel) (by decide +kernel), by decide +kernel, by decide +kernel, by decide +kernel⟩
theorem yvX11_fund : YV yX11_fund := ⟨mem_g 1604 (by decide +kernel) (by decide +kernel), mem_g 1605 (by decide +kernel) (by decide +kernel)⟩
theorem lk_X11_372 : Cond.methodLink RX11 372 yX1_add ∈ lw_g := mem_g 1615 (by decide +kernel) (by decide +kernel)
theorem dX11_bill_0 : decode cX11_bill 0 = .ok (.iload_n 1, 1) := by decide +kernel
theorem dX11_bill_1 : decode cX11_bill 1 = .ok (.iconst 1, 1) := by decide +kernel
theorem dX11_bill_2 : decode cX11_bill 2 = .ok (.if_icmp .lt 14, 3) := by decide +kernel
theorem dX11_bill_5 : decode cX11_bill 5 = .ok (.iload_n 1, 1) := by decide +kernel
theorem dX11_bill_6 : decode cX11_bill 6 = .ok (.sipush 10000, 3) := by decide +kernel
theorem dX11_bill_9 : decode cX11_bill 9 = .ok (.if_icmp .gt 7, 3) := by decide +kernel
theorem dX11_bill_12 : decode cX11_bill 12 = .ok (.iconst 1, 1) := by decide +kernel
theorem dX11_bill_13 : decode cX11_bill 13 = .ok (.goto 4, 3) := by decide +kernel
theorem dX11_bill_16 : decode cX11_bill 16 = .ok (.iconst 0, 1) := by decide +kernel
theorem dX11_bill_17 : decode cX11_bill 17 = .ok (.invokestatic 76, 3) := by decide +kernel
theorem dX11_bill_20 : decode cX11_bill 20 = .ok (.aload_n 0, 1) := by decide +kernel
theorem dX11_bill_21 : decode cX11_bill 21 = .ok (.getfield 27, 3) := by decide +kernel
theorem dX11_bill_24 : decode cX11_bill 24 = .ok (.getfield 363, 3) := by decide +kernel
theorem dX11_bill_27 : decode cX11_bill 27 = .ok (.iload_n 1, 1) := by decide +kernel
theorem dX11_bill_28 : decode cX11_bill 28 = .ok (.aload_n 0, 1) := by decide +kernel
theorem dX11_bill_29 : decode cX11_bill 29 = .ok (.getfield 27, 3) := by decide +kernel
theorem dX11_bill_32 : decode cX11_bill 32 = .ok (.getfield 232, 3) := by decide +kernel
theorem dX11_bill_35 : decode cX11_bill 35 = .ok (.bipush 34, 2) := by decide +kernel
theorem dX11_bill_37 : decode cX11_bill 37 = .ok (.iadd, 1) := by decide +kernel
theorem dX11_bill_38 : decode cX11_bill 38 = .ok (.invokevirtual 372, 3) := by decide +kernel
theorem dX11_bill_41 : decode cX11_bill 41 = .ok (.istore_n 2, 1) := by decide +kernel
theorem dX11_bill_42 : decode cX11_bill 42 = .ok (.iload_n 2, 1) := by decide +kernel
theorem dX11_bill_43 : decode cX11_bill 43 = .ok (.iconst (-1), 1) := by decide +kernel
theorem dX11_bill_44 : decode cX11_bill 44 = .ok (.if_icmp .eq 16, 3) := by decide +kernel
theorem dX11_bill_47 : decode cX11_bill 47 = .ok (.aload_n 0, 1) := by decide +kernel
theorem dX11_bill_48 : decode cX11_bill 48 = .ok (.getfield 27, 3) := by decide +kernel
theorem dX11_bill_51 : decode cX11_bill 51 = .ok (.dup, 1) := by decide +kernel
theorem dX11_bill_52 : decode cX11_bill 52 = .ok (.getfield 259, 3) := by decide +kernel
theorem dX11_bill_55 : decode cX11_bill 55 = .ok (.iload_n 1, 1) := by decide +kernel
theorem dX11_bill_56 : decode cX11_bill 56 = .ok (.iadd, 1) := by decide +kernel
theorem dX11_bill_57 : decode cX11_bill 57 = .ok (.putfield 259, 3) := by decide +kernel
theorem dX11_bill_60 : decode cX11_bill 60 = .ok (.iload_n 2, 1) := by decide +kernel
theorem dX11_bill_61 : decode cX11_bill 61 = .ok (.ireturn, 1) := by decide +kernel
theorem wX11_bill_J17 {p : Program} {l : Launch} {e : Env} {s : State} {m : MethodId} {args : Array Value} {below : List Frame} {meth : Method} {c : Code} {Y : Nat → ClassId} {D : va_G} {σ : Nat → Nat} {np b0 : Nat} {r : Nat ⊕ (Int32 × Mc)} {M : Mc} {N : Md} {X1 : Int32} {Z0 : Int32} (hE : EOK p s m args meth c cX11_bill 3 RX11 Y D σ np b0) (hr : meth.sig.returnType = (some .int)) (hT : ∀ x ∈ c.exceptionTable.toList, False) (hfl : l.stackTraces = false) (hf : fX11_bill_J17 M X1 Z0 = some r) : Xw p l e (rmX 7 1) s m args below meth c 3 Y D σ np b0 0 (6 * 0) (vx_MQ below (QX (fun r : Int32 × Mc => QR Y D σ np b0 (some (.int r.1)) r.2 N) r) (XX Y D σ np b0 M N r) args s 1 (6 * 1) (xA b0)) 17 [(0, .ref (σ 0)), (1, .int X1)] [.int Z0] M N := by
  unfold fX11_bill_J17 at hf
  obtain ⟨y1, hc2, hy3⟩ := bnx_some hf
  refine x_callXS hE hT [.int Z0] (rest := []) rfl yokX11_needThat ysX11_needThat lk_X11_76 ⟨Nat.le_of_ble_eq_true rfl, Nat.le_of_ble_eq_true rfl⟩ (by decide) rfl (Nat.le_of_ble_eq_true rfl) dX11_bill_17 (mX11_needThat l hfl hc2) ⟨rfl, rfl⟩ (by decide) (by decide) (hy3.imp id (fun ⟨_, ha4, hf⟩ => ⟨_, none, M, N, ha4, rfl, ?_⟩))
  refine x_aload_n hE 0 dX11_bill_20 rfl rfl ?_
  refine x_getR hE cl_11 (hE.kd kO_11) (by decide) 2 (17) rfl (by decide) lk_X11_27 dX11_bill_21 ?_
  refine x_getR hE cl_10 (hE.kd (kO_10 hI_17)) (by decide) 4 (17 + 32) rfl (by decide) lk_X11_363 dX11_bill_24 ?_
  refine x_iload_n hE 1 dX11_bill_27 rfl rfl ?_
  refine x_aload_n hE 0 dX11_bill_28 rfl rfl ?_
  refine x_getR hE cl_11 (hE.kd kO_11) (by decide) 2 (17) rfl (by decide) lk_X11_27 dX11_bill_29 ?_
  refine x_getI hE cl_10 (hE.kd (kO_10 hI_17)) (by decide) 6 rfl (by decide) lk_X11_232 dX11_bill_32 ?_
  refine x_bipush hE (nI 34) dX11_bill_35 (by decide) ?_
  refine x_iadd hE dX11_bill_37 ?_
  obtain ⟨⟨v6, M7⟩, hc5, hf⟩ := bn2_some hf
  refine x_callV1 hE [.int X1, .int ((M (17) 6) + (nI 34))] (rest := []) (v := .int v6) (c1 := M7) (d1 := N) rfl yokX1_add yvX1_add lk_X11_372 rfl cl_1 (hE.kd (kO_1 (hL_10_4 hI_17))) (by decide) rfl rfl ⟨Nat.le_of_ble_eq_true rfl, Nat.le_of_ble_eq_true rfl⟩ (by decide) rfl (Nat.le_of_ble_eq_true rfl) dX11_bill_38 (mX1_add l (hL_10_4 hI_17) hc5) ?_
  refine x_istore_n hE (L' := [(2, .int v6), (0, .ref (σ 0)), (1, .int X1)]) dX11_bill_41 rfl (by decide) rfl ?_
  refine x_pick [1, 2, 0] (L' := [(0, .ref (σ 0)), (1, .int X1), (2, .int v6)]) rfl ?_
  refine x_iload_n hE 2 dX11_bill_42 rfl rfl ?_
  refine x_iconst hE (-1) dX11_bill_43 (by decide) ?_
  refine x_icmp_eq hE 60 dX11_bill_44 (by decide) hf (fun hf => ?_) (fun hf => ?_)
  · refine x_iload_n hE 2 dX11_bill_60 rfl rfl ?_
    refine x_xin (by decide) (by decide) hf ?_
    exact x_ireturn hE (v := v6) hr rfl dX11_bill_61
  · refine x_aload_n hE 0 dX11_bill_47 rfl rfl ?_
    refine x_getR hE cl_11 (hE.kd kO_11) (by decide) 2 (17) rfl (by decide) lk_X11_27 dX11_bill_48 ?_
    refine x_dup hE dX11_bill_51 rfl ?_
    refine x_getI hE cl_10 (hE.kd (kO_10 hI_17)) (by decide) 8 rfl (by decide) lk_X11_259 dX11_bill_52 ?_
    refine x_iload_n hE 1 dX11_bill_55 rfl rfl ?_
    refine x_iadd hE dX11_bill_56 ?_
    refine x_putI hE cl_10 (hE.kd (kO_10 hI_17)) (by decide) 8 rfl (by decide) lk_X11_259 rfl rfl rfl rfl dX11_bill_57 hf (fun M8 hf => ?_)
    refine x_iload_n hE 2 dX11_bill_60 rfl rfl ?_
    refine x_xin (by decide) (by decide) hf ?_
    exact x_ireturn hE (v := v6) hr rfl dX11_bill_61
theorem wX11_bill_J16 {p : Program} {l : Launch} {e : Env} {s : State} {m : MethodId} {args : Array Value} {below : List Frame} {meth : Method} {c : Code} {Y : Nat → ClassId} {D : va_G} {σ : Nat → Nat} {np b0 : Nat} {r : Nat ⊕ (Int32 × Mc)} {M : Mc} {N : Md} {X1 : Int32} (hE : EOK p s m args meth c cX11_bill 3 RX11 Y D σ np b0) (hr : meth.sig.returnType = (some .int)) (hT : ∀ x ∈ c.exceptionTable.toList, False) (hfl : l.stackTraces = false) (hf : fX11_bill_J16 M X1 = some r) : Xw p l e (rmX 7 1) s m args below meth c 3 Y D σ np b0 0 (6 * 0) (vx_MQ below (QX (fun r : Int32 × Mc => QR Y D σ np b0 (some (.int r.1)) r.2 N) r) (XX Y D σ np b0 M N r) args s 1 (6 * 1) (xA b0)) 16 [(0, .ref (σ 0)), (1, .int X1)] [] M N := by
  unfold fX11_bill_J16 at hf
  refine x_iconst hE (0 : Int32) dX11_bill_16 (by decide) ?_
  exact wX11_bill_J17 hE hr hT hfl hf
theorem mX11_bill (l : Launch) (hfl : l.stackTraces = false) {Y : Nat → ClassId} {D : va_G} {σ : Nat → Nat} {np b0 : Nat} {M : Mc} {N : Md} {p0 : Int32} {r : Nat ⊕ (Int32 × Mc)} (hf : fX11_bill M p0 = some r) : vx_Met l yX11_bill (.code yX11_bill cX11_bill 3 (some .int) :: lw_g) (rmX 7 1) (PR Y D σ np b0 [.ref (σ 0), .int p0] M N) (QX (fun r : Int32 × Mc => QR Y D σ np b0 (some (.int r.1)) r.2 N) r) (XX Y D σ np b0 M N r) 1 (6 * 1) (xA b0) := by
  refine x_vmet (by decide) (Nat.le_of_ble_eq_true rfl) (fun p e s m args below meth c hE hr hT => ?_)
  unfold fX11_bill at hf
  refine x_pick [0, 1] (L' := [(0, .ref (σ 0)), (1, .int p0)]) rfl ?_
  refine x_iload_n hE 1 dX11_bill_0 rfl rfl ?_
  refine x_iconst hE (nI 1) dX11_bill_1 (by decide) ?_
  refine x_icmp_lt hE 16 dX11_bill_2 (by decide) hf (fun hf => ?_) (fun hf => ?_)
  · exact wX11_bill_J16 hE hr hT hfl hf
  · refine x_iload_n hE 1 dX11_bill_5 rfl rfl ?_
    refine x_sipush hE (nI 10000) dX11_bill_6 (by decide) ?_
    refine x_icmp_gt hE 16 dX11_bill_9 (by decide) hf (fun hf => ?_) (fun hf => ?_)
    · exact wX11_bill_J16 hE hr hT hfl hf
    · refine x_iconst hE (nI 1) dX11_bill_12 (by decide) ?_
      refine x_goto hE 17 dX11_bill_13 (by decide) ?_
      exact wX11_bill_J17 hE hr hT hfl hf
theorem yokX11_bill : YOK yX11_bill cX11_bill 3 1 (some .int) := ⟨mem_g 1614 (by decide +kernel) (by decide +kernel), mem_g 131 (by decide +kernel) (by decide +kernel), by decide +kernel, by decide +kernel, by decide +kernel⟩
theorem yvX11_bill : YV yX11_bill := ⟨mem_g 1612 (by decide +kernel) (by decide +kernel), mem_g 1613 (by decide +kernel) (by decide +kernel)⟩
theorem lk_X11_448 : Cond.fieldLink RX11 448 (TX1 0).1 (TX1 0).2.1 (TX1 0).2.2.1 ∈ lw_g := mem_g 336 (by decide +kernel) (by decide +kernel)
theorem dX11_needBill_0 : decode cX11_needBill 0 = .ok (.iload_n 1, 1) := by decide +kernel
theorem dX11_needBill_1 : decode cX11_needBill 1 = .ok (.aload_n 0, 1) := by decide +kernel
theorem dX11_needBill_2 : decode cX11_needBill 2 = .ok (.getfield 27, 3) := by decide +kernel
theorem dX11_needBill_5 : decode cX11_needBill 5 = .ok (.getfield 363, 3) := by decide +kernel
theorem dX11_needBill_8 : decode cX11_needBill 8 = .ok (.getfield 448, 3) := by decide +kernel
theorem dX11_needBill_11 : decode cX11_needBill 11 = .ok (.invokestatic 191, 3) := by decide +kernel
theorem dX11_needBill_14 : decode cX11_needBill 14 = .ok (.ifCond .ne 11, 3) := by decide +kernel
theorem dX11_needBill_17 : decode cX11_needBill 17 = .ok (.new 195, 3) := by decide +kernel
theorem dX11_needBill_20 : decode cX11_needBill 20 = .ok (.dup, 1) := by decide +kernel
theorem dX11_needBill_21 : decode cX11_needBill 21 = .ok (.invokespecial 197, 3) := by decide +kernel
theorem dX11_needBill_24 : decode cX11_needBill 24 = .ok (.athrow, 1) := by decide +kernel
theorem dX11_needBill_25 : decode cX11_needBill 25 = .ok (.return_, 1) := by decide +kernel
theorem mX11_needBill (l : Launch) (hfl : l.stackTraces = false) {Y : Nat → ClassId} {D : va_G} {σ : Nat → Nat} {np b0 : Nat} {M : Mc} {N : Md} {p0 : Int32} {r : Nat ⊕ (Unit)} (hf : fX11_needBill M p0 = some r) : vx_Met l yX11_needBill (.code yX11_needBill cX11_needBill 2 none :: lw_g) (rmX 6 1) (PR Y D σ np b0 [.ref (σ 0), .int p0] M N) (QX (fun r : Unit => QR Y D σ np b0 none M N) r) (XX Y D σ np b0 M N r) 1 (6 * 1) (xA b0) := by
  refine x_vmet (by decide) (Nat.le_of_ble_eq_true rfl) (fun p e s m args below meth c hE hr hT => ?_)
  unfold fX11_needBill at hf
  refine x_pick [0, 1] (L' := [(0, .ref (σ 0)), (1, .int p0)]) rfl ?_
  refine x_iload_n hE 1 dX11_needBill_0 rfl rfl ?_
  refine x_aload_n hE 0 dX11_needBill_1 rfl rfl ?_
  refine x_getR hE cl_11 (hE.kd kO_11) (by decide) 2 (17) rfl (by decide) lk_X11_27 dX11_needBill_2 ?_
  refine x_getR hE cl_10 (hE.kd (kO_10 hI_17)) (by decide) 4 (17 + 32) rfl (by decide) lk_X11_363 dX11_needBill_5 ?_
  refine x_getI hE cl_1 (hE.kd (kO_1 (hL_10_4 hI_17))) (by decide) 0 rfl (by decide) lk_X11_448 dX11_needBill_8 ?_
  obtain ⟨v2, hc1, hf⟩ := bnd_some hf
  refine x_callS1 hE [.int p0, .int (M (17 + 32) 0)] (rest := []) (v := .int v2) (c1 := M) (d1 := N) rfl yokX11_inside ysX11_inside lk_X11_191 rfl rfl ⟨Nat.le_of_ble_eq_true rfl, Nat.le_of_ble_eq_true rfl⟩ (by decide) rfl (Nat.le_of_ble_eq_true rfl) dX11_needBill_11 (mX11_inside l hc1) ?_
  refine x_if_ne hE 25 dX11_needBill_14 (by decide) hf (fun hf => ?_) (fun hf => ?_)
  · refine x_xin (by decide) (by decide) hf ?_
    exact x_vreturn hE hr dX11_needBill_25
  · exact x_throw hE hT hfl (ik := 195) (ic := 197) ["java/lang/RuntimeException", "java/lang/Exception"] (by decide +kernel) (by decide +kernel) ak_X11_197_1 ai_X11_197_1 at_X11_197_1 ag_X11_197_1 dX11_needBill_17 dX11_needBill_20 dX11_needBill_21 dX11_needBill_24 (by decide) (by decide) (Nat.le_of_ble_eq_true rfl) (by decide) (by decide) (by decide) (by decide) hf
theorem yokX11_needBill : YOK yX11_needBill cX11_needBill 2 1 none := ⟨mem_g 1630 (by decide +kernel) (by decide +kernel), mem_g 131 (by decide +kernel) (by decide +kernel), by decide +kernel, by decide +kernel, by decide +kernel⟩
theorem yvX11_needBill : YV yX11_needBill := ⟨mem_g 1629 (by decide +kernel) (by decide +kernel), mem_g 37 (by decide +kernel) (by decide +kernel)⟩
theorem lk_X11_374 : Cond.methodLink RX11 374 yX11_needBill ∈ lw_g := mem_g 1627 (by decide +kernel) (by decide +kernel)
theorem lk_X11_377 : Cond.methodLink RX11 377 yX1_handOn ∈ lw_g := mem_g 1631 (by decide +kernel) (by decide +kernel)
theorem dX11_pass_0 : decode cX11_pass 0 = .ok (.aload_n 0, 1) := by decide +kernel
theorem dX11_pass_1 : decode cX11_pass 1 = .ok (.iload_n 1, 1) := by decide +kernel
theorem dX11_pass_2 : decode cX11_pass 2 = .ok (.invokevirtual 374, 3) := by decide +kernel
theorem dX11_pass_5 : decode cX11_pass 5 = .ok (.aload_n 0, 1) := by decide +kernel
theorem dX11_pass_6 : decode cX11_pass 6 = .ok (.getfield 27, 3) := by decide +kernel
theorem dX11_pass_9 : decode cX11_pass 9 = .ok (.getfield 363, 3) := by decide +kernel
theorem dX11_pass_12 : decode cX11_pass 12 = .ok (.iload_n 1, 1) := by decide +kernel
theorem dX11_pass_13 : decode cX11_pass 13 = .ok (.invokevirtual 377, 3) := by decide +kernel
theorem dX11_pass_16 : decode cX11_pass 16 = .ok (.ireturn, 1) := by decide +kernel
theorem mX11_pass (l : Launch) (hfl : l.stackTraces = false) {Y : Nat → ClassId} {D : va_G} {σ : Nat → Nat} {np b0 : Nat} {M : Mc} {N : Md} {p0 : Int32} {r : Nat ⊕ (Int32 × Mc)} (hf : fX11_pass M p0 = some r) : vx_Met l yX11_pass (.code yX11_pass cX11_pass 2 (some .int) :: lw_g) (rmX 7 1) (PR Y D σ np b0 [.ref (σ 0), .int p0] M N) (QX (fun r : Int32 × Mc => QR Y D σ np b0 (some (.int r.1)) r.2 N) r) (XX Y D σ np b0 M N r) 1 (6 * 1) (xA b0) := by
  refine x_vmet (by decide) (Nat.le_of_ble_eq_true rfl) (fun p e s m args below meth c hE hr hT => ?_)
  unfold fX11_pass at hf
  refine x_pick [0, 1] (L' := [(0, .ref (σ 0)), (1, .int p0)]) rfl ?_
  refine x_aload_n hE 0 dX11_pass_0 rfl rfl ?_
  refine x_iload_n hE 1 dX11_pass_1 rfl rfl ?_
  obtain ⟨y1, hc2, hy3⟩ := bnx_some hf
  refine x_callXV hE hT [.int p0] (rest := []) rfl yokX11_needBill yvX11_needBill lk_X11_374 rfl cl_11 (hE.kd kO_11) (by decide) ⟨Nat.le_of_ble_eq_true rfl, Nat.le_of_ble_eq_true rfl⟩ (by decide) rfl (Nat.le_of_ble_eq_true rfl) dX11_pass_2 (mX11_needBill l hfl hc2) ⟨rfl, rfl⟩ (by decide) (by decide) (hy3.imp id (fun ⟨_, ha4, hf⟩ => ⟨_, none, M, N, ha4, rfl, ?_⟩))
  refine x_aload_n hE 0 dX11_pass_5 rfl rfl ?_
  refine x_getR hE cl_11 (hE.kd kO_11) (by decide) 2 (17) rfl (by decide) lk_X11_27 dX11_pass_6 ?_
  refine x_getR hE cl_10 (hE.kd (kO_10 hI_17)) (by decide) 4 (17 + 32) rfl (by decide) lk_X11_363 dX11_pass_9 ?_
  refine x_iload_n hE 1 dX11_pass_12 rfl rfl ?_
  obtain ⟨⟨v6, M7⟩, hc5, hf⟩ := bn2_some hf
  refine x_callV1 hE [.int p0] (rest := []) (v := .int v6) (c1 := M7) (d1 := N) rfl yokX1_handOn yvX1_handOn lk_X11_377 rfl cl_1 (hE.kd (kO_1 (hL_10_4 hI_17))) (by decide) rfl rfl ⟨Nat.le_of_ble_eq_true rfl, Nat.le_of_ble_eq_true rfl⟩ (by decide) rfl (Nat.le_of_ble_eq_true rfl) dX11_pass_13 (mX1_handOn l (hL_10_4 hI_17) hc5) ?_
  refine x_xin (by decide) (by decide) hf ?_
  exact x_ireturn hE (v := v6) hr rfl dX11_pass_16
theorem yokX11_pass : YOK yX11_pass cX11_pass 2 1 (some .int) := ⟨mem_g 1626 (by decide +kernel) (by decide +kernel), mem_g 131 (by decide +kernel) (by decide +kernel), by decide +kernel, by decide +kernel, by decide +kernel⟩
theorem yvX11_pass : YV yX11_pass := ⟨mem_g 1624 (by decide +kernel) (by decide +kernel), mem_g 1625 (by decide +kernel) (by decide +kernel)⟩
theorem lk_X11_380 : Cond.methodLink RX11 380 yX1_stateOf ∈ lw_g := mem_g 1642 (by decide +kernel) (by decide +kernel)
theorem dX11_billed_0 : decode cX11_billed 0 = .ok (.aload_n 0, 1) := by decide +kernel
theorem dX11_billed_1 : decode cX11_billed 1 = .ok (.iload_n 1, 1) := by decide +kernel
theorem dX11_billed_2 : decode cX11_billed 2 = .ok (.invokevirtual 374, 3) := by decide +kernel
theorem dX11_billed_5 : decode cX11_billed 5 = .ok (.aload_n 0, 1) := by decide +kernel
theorem dX11_billed_6 : decode cX11_billed 6 = .ok (.getfield 27, 3) := by decide +kernel
theorem dX11_billed_9 : decode cX11_billed 9 = .ok (.getfield 363, 3) := by decide +kernel
theorem dX11_billed_12 : decode cX11_billed 12 = .ok (.iload_n 1, 1) := by decide +kernel
theorem dX11_billed_13 : decode cX11_billed 13 = .ok (.invokevirtual 380, 3) := by decide +kernel
theorem dX11_billed_16 : decode cX11_billed 16 = .ok (.ireturn, 1) := by decide +kernel
theorem mX11_billed (l : Launch) (hfl : l.stackTraces = false) {Y : Nat → ClassId} {D : va_G} {σ : Nat → Nat} {np b0 : Nat} {M : Mc} {N : Md} {p0 : Int32} {r : Nat ⊕ (Int32)} (hf : fX11_billed M p0 = some r) : vx_Met l yX11_billed (.code yX11_billed cX11_billed 2 (some .int) :: lw_g) (rmX 7 1) (PR Y D σ np b0 [.ref (σ 0), .int p0] M N) (QX (fun r : Int32 => QR Y D σ np b0 (some (.int r)) M N) r) (XX Y D σ np b0 M N r) 1 (6 * 1) (xA b0) := by
  refine x_vmet (by decide) (Nat.le_of_ble_eq_true rfl) (fun p e s m args below meth c hE hr hT => ?_)
  unfold fX11_billed at hf
  refine x_pick [0, 1] (L' := [(0, .ref (σ 0)), (1, .int p0)]) rfl ?_
  refine x_aload_n hE 0 dX11_billed_0 rfl rfl ?_
  refine x_iload_n hE 1 dX11_billed_1 rfl rfl ?_
  obtain ⟨y1, hc2, hy3⟩ := bnx_some hf
  refine x_callXV hE hT [.int p0] (rest := []) rfl yokX11_needBill yvX11_needBill lk_X11_374 rfl cl_11 (hE.kd kO_11) (by decide) ⟨Nat.le_of_ble_eq_true rfl, Nat.le_of_ble_eq_true rfl⟩ (by decide) rfl (Nat.le_of_ble_eq_true rfl) dX11_billed_2 (mX11_needBill l hfl hc2) ⟨rfl, rfl⟩ (by decide) (by decide) (hy3.imp id (fun ⟨_, ha4, hf⟩ => ⟨_, none, M, N, ha4, rfl, ?_⟩))
  refine x_aload_n hE 0 dX11_billed_5 rfl rfl ?_
  refine x_getR hE cl_11 (hE.kd kO_11) (by decide) 2 (17) rfl (by decide) lk_X11_27 dX11_billed_6 ?_
  refine x_getR hE cl_10 (hE.kd (kO_10 hI_17)) (by decide) 4 (17 + 32) rfl (by decide) lk_X11_363 dX11_billed_9 ?_
  refine x_iload_n hE 1 dX11_billed_12 rfl rfl ?_
  obtain ⟨v6, hc5, hf⟩ := bnd_some hf
  refine x_callV1 hE [.int p0] (rest := []) (v := .int v6) (c1 := M) (d1 := N) rfl yokX1_stateOf yvX1_stateOf lk_X11_380 rfl cl_1 (hE.kd (kO_1 (hL_10_4 hI_17))) (by decide) rfl rfl ⟨Nat.le_of_ble_eq_true rfl, Nat.le_of_ble_eq_true rfl⟩ (by decide) rfl (Nat.le_of_ble_eq_true rfl) dX11_billed_13 (mX1_stateOf l (hL_10_4 hI_17) hc5) ?_
  refine x_xin (by decide) (by decide) hf ?_
  exact x_ireturn hE (v := v6) hr rfl dX11_billed_16
theorem yokX11_billed : YOK yX11_billed cX11_billed 2 1 (some .int) := ⟨mem_g 1641 (by decide +kernel) (by decide +kernel), mem_g 131 (by decide +kernel) (by decide +kernel), by decide +kernel, by decide +kernel, by decide +kernel⟩
theorem yvX11_billed : YV yX11_billed := ⟨mem_g 1639 (by decide +kernel) (by decide +kernel), mem_g 1640 (by decide +kernel) (by decide +kernel)⟩
theorem ak_X11_461_3 : Cond.classLink RX11 459 (xE 3) ∈ lw_g := mem_g 1658 (by decide +kernel) (by decide +kernel)
theorem ai_X11_461_3 : Cond.initialized (xE 3) ∈ lw_g := mem_g 156 (by decide +kernel) (by decide +kernel)
theorem at_X11_461_3 : ∀ w ∈ vx_at0 RX11 461 (xE 3) ["java/lang/RuntimeException", "java/lang/Exception"], w ∈ lw_g ∨ w ∈ lw_nw := at_of (by decide +kernel)
theorem ag_X11_461_3 : ∀ w ∈ Cond.classLink RX11 459 (xE 3) :: Cond.initialized (xE 3) :: vx_at0 RX11 461 (xE 3) ["java/lang/RuntimeException", "java/lang/Exception"], vx_ot w = true := List.all_eq_true.mp (by decide +kernel)
theorem dX11_needWeeks_0 : decode cX11_needWeeks 0 = .ok (.aload_n 0, 1) := by decide +kernel
theorem dX11_needWeeks_1 : decode cX11_needWeeks 1 = .ok (.getfield 27, 3) := by decide +kernel
theorem dX11_needWeeks_4 : decode cX11_needWeeks 4 = .ok (.getfield 232, 3) := by decide +kernel
theorem dX11_needWeeks_7 : decode cX11_needWeeks 7 = .ok (.iload_n 1, 1) := by decide +kernel
theorem dX11_needWeeks_8 : decode cX11_needWeeks 8 = .ok (.iadd, 1) := by decide +kernel
theorem dX11_needWeeks_9 : decode cX11_needWeeks 9 = .ok (.sipush 1000, 3) := by decide +kernel
theorem dX11_needWeeks_12 : decode cX11_needWeeks 12 = .ok (.if_icmp .le 11, 3) := by decide +kernel
theorem dX11_needWeeks_15 : decode cX11_needWeeks 15 = .ok (.new 459, 3) := by decide +kernel
theorem dX11_needWeeks_18 : decode cX11_needWeeks 18 = .ok (.dup, 1) := by decide +kernel
theorem dX11_needWeeks_19 : decode cX11_needWeeks 19 = .ok (.invokespecial 461, 3) := by decide +kernel
theorem dX11_needWeeks_22 : decode cX11_needWeeks 22 = .ok (.athrow, 1) := by decide +kernel
theorem dX11_needWeeks_23 : decode cX11_needWeeks 23 = .ok (.return_, 1) := by decide +kernel
theorem mX11_needWeeks (l : Launch) (hfl : l.stackTraces = false) {Y : Nat → ClassId} {D : va_G} {σ : Nat → Nat} {np b0 : Nat} {M : Mc} {N : Md} {p0 : Int32} {r : Nat ⊕ (Unit)} (hf : fX11_needWeeks M p0 = some r) : vx_Met l yX11_needWeeks (.code yX11_needWeeks cX11_needWeeks 2 none :: lw_g) (rmX 6 1) (PR Y D σ np b0 [.ref (σ 0), .int p0] M N) (QX (fun r : Unit => QR Y D σ np b0 none M N) r) (XX Y D σ np b0 M N r) 1 (6 * 1) (xA b0) := by
  refine x_vmet (by decide) (Nat.le_of_ble_eq_true rfl) (fun p e s m args below meth c hE hr hT => ?_)
  unfold fX11_needWeeks at hf
  refine x_pick [0, 1] (L' := [(0, .ref (σ 0)), (1, .int p0)]) rfl ?_
  refine x_aload_n hE 0 dX11_needWeeks_0 rfl rfl ?_
  refine x_getR hE cl_11 (hE.kd kO_11) (by decide) 2 (17) rfl (by decide) lk_X11_27 dX11_needWeeks_1 ?_
  refine x_getI hE cl_10 (hE.kd (kO_10 hI_17)) (by decide) 6 rfl (by decide) lk_X11_232 dX11_needWeeks_4 ?_
  refine x_iload_n hE 1 dX11_needWeeks_7 rfl rfl ?_
  refine x_iadd hE dX11_needWeeks_8 ?_
  refine x_sipush hE (nI 1000) dX11_needWeeks_9 (by decide) ?_
  refine x_icmp_le hE 23 dX11_needWeeks_12 (by decide) hf (fun hf => ?_) (fun hf => ?_)
  · refine x_xin (by decide) (by decide) hf ?_
    exact x_vreturn hE hr dX11_needWeeks_23
  · exact x_throw hE hT hfl (ik := 459) (ic := 461) ["java/lang/RuntimeException", "java/lang/Exception"] (by decide +kernel) (by decide +kernel) ak_X11_461_3 ai_X11_461_3 at_X11_461_3 ag_X11_461_3 dX11_needWeeks_15 dX11_needWeeks_18 dX11_needWeeks_19 dX11_needWeeks_22 (by decide) (by decide) (Nat.le_of_ble_eq_true rfl) (by decide) (by decide) (by decide) (by decide) hf
theorem yokX11_needWeeks : YOK yX11_needWeeks cX11_needWeeks 2 1 none := ⟨mem_g 1657 (by decide +kernel) (by decide +kernel), mem_g 131 (by decide +kernel) (by decide +kernel), by decide +kernel, by decide +kernel, by decide +kernel⟩
theorem yvX11_needWeeks : YV yX11_needWeeks := ⟨mem_g 1656 (by decide +kernel) (by decide +kernel), mem_g 38 (by decide +kernel) (by decide +kernel)⟩
theorem lk_X11_381 : Cond.methodLink RX11 381 yX11_needWeeks ∈ lw_g := mem_g 1654 (by decide +kernel) (by decide +kernel)
theorem lk_X11_384 : Cond.methodLink RX11 384 yX10_goOn ∈ lw_g := mem_g 1673 (by decide +kernel) (by decide +kernel)
theorem lk_X11_387 : Cond.methodLink RX11 387 yX0_write ∈ lw_g := mem_g 1841 (by decide +kernel) (by decide +kernel)
theorem dX11_week_0 : decode cX11_week 0 = .ok (.iload_n 1, 1) := by decide +kernel
theorem dX11_week_1 : decode cX11_week 1 = .ok (.ifCond .lt 13, 3) := by decide +kernel
theorem dX11_week_4 : decode cX11_week 4 = .ok (.iload_n 1, 1) := by decide +kernel
theorem dX11_week_5 : decode cX11_week 5 = .ok (.bipush 104, 2) := by decide +kernel
theorem dX11_week_7 : decode cX11_week 7 = .ok (.if_icmp .gt 7, 3) := by decide +kernel
theorem dX11_week_10 : decode cX11_week 10 = .ok (.iconst 1, 1) := by decide +kernel
theorem dX11_week_11 : decode cX11_week 11 = .ok (.goto 4, 3) := by decide +kernel
theorem dX11_week_14 : decode cX11_week 14 = .ok (.iconst 0, 1) := by decide +kernel
theorem dX11_week_15 : decode cX11_week 15 = .ok (.invokestatic 76, 3) := by decide +kernel
theorem dX11_week_18 : decode cX11_week 18 = .ok (.aload_n 0, 1) := by decide +kernel
theorem dX11_week_19 : decode cX11_week 19 = .ok (.iload_n 1, 1) := by decide +kernel
theorem dX11_week_20 : decode cX11_week 20 = .ok (.invokevirtual 381, 3) := by decide +kernel
theorem dX11_week_23 : decode cX11_week 23 = .ok (.iconst 0, 1) := by decide +kernel
theorem dX11_week_24 : decode cX11_week 24 = .ok (.istore_n 2, 1) := by decide +kernel
theorem dX11_week_25 : decode cX11_week 25 = .ok (.iload_n 2, 1) := by decide +kernel
theorem dX11_week_26 : decode cX11_week 26 = .ok (.iload_n 1, 1) := by decide +kernel
theorem dX11_week_27 : decode cX11_week 27 = .ok (.if_icmp .ge 27, 3) := by decide +kernel
theorem dX11_week_30 : decode cX11_week 30 = .ok (.aload_n 0, 1) := by decide +kernel
theorem dX11_week_31 : decode cX11_week 31 = .ok (.getfield 27, 3) := by decide +kernel
theorem dX11_week_34 : decode cX11_week 34 = .ok (.invokevirtual 384, 3) := by decide +kernel
theorem dX11_week_37 : decode cX11_week 37 = .ok (.aload_n 0, 1) := by decide +kernel
theorem dX11_week_38 : decode cX11_week 38 = .ok (.getfield 10, 3) := by decide +kernel
theorem dX11_week_41 : decode cX11_week 41 = .ok (.aload_n 0, 1) := by decide +kernel
theorem dX11_week_42 : decode cX11_week 42 = .ok (.getfield 27, 3) := by decide +kernel
theorem dX11_week_45 : decode cX11_week 45 = .ok (.invokevirtual 387, 3) := by decide +kernel
theorem dX11_week_48 : decode cX11_week 48 = .ok (.iinc 2 1, 3) := by decide +kernel
theorem dX11_week_51 : decode cX11_week 51 = .ok (.goto (-26), 3) := by decide +kernel
theorem dX11_week_54 : decode cX11_week 54 = .ok (.aload_n 0, 1) := by decide +kernel
theorem dX11_week_55 : decode cX11_week 55 = .ok (.getfield 27, 3) := by decide +kernel
theorem dX11_week_58 : decode cX11_week 58 = .ok (.getfield 232, 3) := by decide +kernel
theorem dX11_week_61 : decode cX11_week 61 = .ok (.ireturn, 1) := by decide +kernel
theorem wX11_week_L25 {p : Program} {l : Launch} {e : Env} {s : State} {m : MethodId} {args : Array Value} {below : List Frame} {meth : Method} {c : Code} {Y : Nat → ClassId} {D : va_G} {σ : Nat → Nat} {np b0 : Nat} {r : Nat ⊕ (Int32 × Mc)} {M0 : Mc} {N0 : Md} (hE : EOK p s m args meth c cX11_week 3 RX11 Y D σ np b0) (hr : meth.sig.returnType = (some .int)) (hT : ∀ x ∈ c.exceptionTable.toList, False) (hfl : l.stackTraces = false) : ∀ (n : Nat) (M : Mc) (N : Md) (X1 : Int32) (X2 : Int32), fX11_week_L25 n M X1 X2 = some r → Xw p l e (rmX 7 2) s m args below meth c 3 Y D σ np b0 2 (6 * 2) (vx_MQ below (QX (fun r : Int32 × Mc => QR Y D σ np b0 (some (.int r.1)) r.2 N) r) (XX Y D σ np b0 M0 N0 r) args s 2 (6 * 2) (xA b0)) 25 [(0, .ref (σ 0)), (1, .int X1), (2, .int X2)] [] M N := by
  intro n
  induction n with
  | zero =>
    intro M N X1 X2 hf
    cases hf
  | succ n ih =>
    intro M N X1 X2 hf
    rw [fX11_week_L25.eq_2] at hf
    refine x_iload_n hE 2 dX11_week_25 rfl rfl ?_
    refine x_iload_n hE 1 dX11_week_26 rfl rfl ?_
    refine x_icmp_ge hE 54 dX11_week_27 (by decide) hf (fun hf => ?_) (fun hf => ?_)
    · refine x_aload_n hE 0 dX11_week_54 rfl rfl ?_
      refine x_getR hE cl_11 (hE.kd kO_11) (by decide) 2 (17) rfl (by decide) lk_X11_27 dX11_week_55 ?_
      refine x_getI hE cl_10 (hE.kd (kO_10 hI_17)) (by decide) 6 rfl (by decide) lk_X11_232 dX11_week_58 ?_
      refine x_xin (by decide) (by decide) hf ?_
      exact x_ireturn hE (v := M (17) 6) hr rfl dX11_week_61
    · refine x_aload_n hE 0 dX11_week_30 rfl rfl ?_
      refine x_getR hE cl_11 (hE.kd kO_11) (by decide) 2 (17) rfl (by decide) lk_X11_27 dX11_week_31 ?_
      obtain ⟨M10, hc9, hf⟩ := bnd_some hf
      refine x_callV0 hE [] (rest := []) (c1 := M10) (d1 := N) rfl yokX10_goOn yvX10_goOn lk_X11_384 rfl cl_10 (hE.kd (kO_10 hI_17)) (by decide) rfl rfl ⟨Nat.le_of_ble_eq_true rfl, Nat.le_of_ble_eq_true rfl⟩ (by decide) rfl (Nat.le_of_ble_eq_true rfl) dX11_week_34 (mX10_goOn l hI_17 hc9) ?_
      refine x_aload_n hE 0 dX11_week_37 rfl rfl ?_
      refine x_getR hE cl_11 (hE.kd kO_11) (by decide) 0 (1) rfl (by decide) lk_X11_10 dX11_week_38 ?_
      refine x_aload_n hE 0 dX11_week_41 rfl rfl ?_
      refine x_getR hE cl_11 (hE.kd kO_11) (by decide) 2 (17) rfl (by decide) lk_X11_27 dX11_week_42 ?_
      obtain ⟨M12, hc11, hf⟩ := bnd_some hf
      refine x_callV0 hE [.ref (σ (17))] (rest := []) (c1 := M12) (d1 := N) rfl yokX0_write yvX0_write lk_X11_387 rfl cl_0 (hE.kd kO_0) (by decide) rfl rfl ⟨Nat.le_of_ble_eq_true rfl, Nat.le_of_ble_eq_true rfl⟩ (by decide) rfl (Nat.le_of_ble_eq_true rfl) dX11_week_45 (mX0_write l hI_17 hc11) ?_
      refine x_iinc hE 2 (X2 + nI 1) (L' := [(2, .int (X2 + nI 1)), (0, .ref (σ 0)), (1, .int X1)]) dX11_week_48 rfl rfl (by decide) rfl ?_
      refine x_pick [1, 2, 0] (L' := [(0, .ref (σ 0)), (1, .int X1), (2, .int (X2 + nI 1))]) rfl ?_
      refine x_goto hE 25 dX11_week_51 (by decide) ?_
      exact ih _ _ _ _ hf
theorem wX11_week_J15 {p : Program} {l : Launch} {e : Env} {s : State} {m : MethodId} {args : Array Value} {below : List Frame} {meth : Method} {c : Code} {Y : Nat → ClassId} {D : va_G} {σ : Nat → Nat} {np b0 : Nat} {r : Nat ⊕ (Int32 × Mc)} {M : Mc} {N : Md} {X1 : Int32} {Z0 : Int32} (hE : EOK p s m args meth c cX11_week 3 RX11 Y D σ np b0) (hr : meth.sig.returnType = (some .int)) (hT : ∀ x ∈ c.exceptionTable.toList, False) (hfl : l.stackTraces = false) (hf : fX11_week_J15 M X1 Z0 = some r) : Xw p l e (rmX 7 2) s m args below meth c 3 Y D σ np b0 0 (6 * 0) (vx_MQ below (QX (fun r : Int32 × Mc => QR Y D σ np b0 (some (.int r.1)) r.2 N) r) (XX Y D σ np b0 M N r) args s 2 (6 * 2) (xA b0)) 15 [(0, .ref (σ 0)), (1, .int X1)] [.int Z0] M N := by
  unfold fX11_week_J15 at hf
  obtain ⟨y1, hc2, hy3⟩ := bnx_some hf
  refine x_callXS hE hT [.int Z0] (rest := []) rfl yokX11_needThat ysX11_needThat lk_X11_76 ⟨Nat.le_of_ble_eq_true rfl, Nat.le_of_ble_eq_true rfl⟩ (by decide) rfl (Nat.le_of_ble_eq_true rfl) dX11_week_15 (mX11_needThat l hfl hc2) ⟨rfl, rfl⟩ (by decide) (by decide) (hy3.imp id (fun ⟨_, ha4, hf⟩ => ⟨_, none, M, N, ha4, rfl, ?_⟩))
  refine x_aload_n hE 0 dX11_week_18 rfl rfl ?_
  refine x_iload_n hE 1 dX11_week_19 rfl rfl ?_
  obtain ⟨y5, hc6, hy7⟩ := bnx_some hf
  refine x_callXV hE hT [.int X1] (rest := []) rfl yokX11_needWeeks yvX11_needWeeks lk_X11_381 rfl cl_11 (hE.kd kO_11) (by decide) ⟨Nat.le_of_ble_eq_true rfl, Nat.le_of_ble_eq_true rfl⟩ (by decide) rfl (Nat.le_of_ble_eq_true rfl) dX11_week_20 (mX11_needWeeks l hfl hc6) ⟨rfl, rfl⟩ (by decide) (by decide) (hy7.imp id (fun ⟨_, ha8, hf⟩ => ⟨_, none, M, N, ha8, rfl, ?_⟩))
  refine x_iconst hE (0 : Int32) dX11_week_23 (by decide) ?_
  refine x_istore_n hE (L' := [(2, .int 0), (0, .ref (σ 0)), (1, .int X1)]) dX11_week_24 rfl (by decide) rfl ?_
  refine x_pick [1, 2, 0] (L' := [(0, .ref (σ 0)), (1, .int X1), (2, .int 0)]) rfl ?_
  exact wX11_week_L25 hE hr hT hfl FU _ _ _ _ hf
theorem wX11_week_J14 {p : Program} {l : Launch} {e : Env} {s : State} {m : MethodId} {args : Array Value} {below : List Frame} {meth : Method} {c : Code} {Y : Nat → ClassId} {D : va_G} {σ : Nat → Nat} {np b0 : Nat} {r : Nat ⊕ (Int32 × Mc)} {M : Mc} {N : Md} {X1 : Int32} (hE : EOK p s m args meth c cX11_week 3 RX11 Y D σ np b0) (hr : meth.sig.returnType = (some .int)) (hT : ∀ x ∈ c.exceptionTable.toList, False) (hfl : l.stackTraces = false) (hf : fX11_week_J14 M X1 = some r) : Xw p l e (rmX 7 2) s m args below meth c 3 Y D σ np b0 0 (6 * 0) (vx_MQ below (QX (fun r : Int32 × Mc => QR Y D σ np b0 (some (.int r.1)) r.2 N) r) (XX Y D σ np b0 M N r) args s 2 (6 * 2) (xA b0)) 14 [(0, .ref (σ 0)), (1, .int X1)] [] M N := by
  unfold fX11_week_J14 at hf
  refine x_iconst hE (0 : Int32) dX11_week_14 (by decide) ?_
  exact wX11_week_J15 hE hr hT hfl hf
theorem mX11_week (l : Launch) (hfl : l.stackTraces = false) {Y : Nat → ClassId} {D : va_G} {σ : Nat → Nat} {np b0 : Nat} {M : Mc} {N : Md} {p0 : Int32} {r : Nat ⊕ (Int32 × Mc)} (hf : fX11_week M p0 = some r) : vx_Met l yX11_week (.code yX11_week cX11_week 3 (some .int) :: lw_g) (rmX 7 2) (PR Y D σ np b0 [.ref (σ 0), .int p0] M N) (QX (fun r : Int32 × Mc => QR Y D σ np b0 (some (.int r.1)) r.2 N) r) (XX Y D σ np b0 M N r) 2 (6 * 2) (xA b0) := by
  refine x_vmet (by decide) (Nat.le_of_ble_eq_true rfl) (fun p e s m args below meth c hE hr hT => ?_)
  unfold fX11_week at hf
  refine x_pick [0, 1] (L' := [(0, .ref (σ 0)), (1, .int p0)]) rfl ?_
  refine x_iload_n hE 1 dX11_week_0 rfl rfl ?_
  refine x_if_lt hE 14 dX11_week_1 (by decide) hf (fun hf => ?_) (fun hf => ?_)
  · exact wX11_week_J14 hE hr hT hfl hf
  · refine x_iload_n hE 1 dX11_week_4 rfl rfl ?_
    refine x_bipush hE (nI 104) dX11_week_5 (by decide) ?_
    refine x_icmp_gt hE 14 dX11_week_7 (by decide) hf (fun hf => ?_) (fun hf => ?_)
    · exact wX11_week_J14 hE hr hT hfl hf
    · refine x_iconst hE (nI 1) dX11_week_10 (by decide) ?_
      refine x_goto hE 15 dX11_week_11 (by decide) ?_
      exact wX11_week_J15 hE hr hT hfl hf
theorem yokX11_week : YOK yX11_week cX11_week 3 1 (some .int) := ⟨mem_g 1653 (by decide +kernel) (by decide +kernel), mem_g 131 (by decide +kernel) (by decide +kernel), by decide +kernel, by decide +kernel, by decide +kernel⟩
theorem yvX11_week : YV yX11_week := ⟨mem_g 1651 (by decide +kernel) (by decide +kernel), mem_g 1652 (by decide +kernel) (by decide +kernel)⟩
theorem lk_X11_390 : Cond.constant RX11 390 (-2000000000) ∈ lw_g := mem_g 1852 (by decide +kernel) (by decide +kernel)
theorem dX11_as_0 : decode cX11_as 0 = .ok (.iload_n 2, 1) := by decide +kernel
theorem dX11_as_1 : decode cX11_as 1 = .ok (.ifCond .eq 8, 3) := by decide +kernel
theorem dX11_as_4 : decode cX11_as 4 = .ok (.iload_n 2, 1) := by decide +kernel
theorem dX11_as_5 : decode cX11_as 5 = .ok (.iconst 1, 1) := by decide +kernel
theorem dX11_as_6 : decode cX11_as 6 = .ok (.if_icmp .ne 16, 3) := by decide +kernel
theorem dX11_as_9 : decode cX11_as 9 = .ok (.iload_n 3, 1) := by decide +kernel
theorem dX11_as_10 : decode cX11_as 10 = .ok (.ifCond .lt 12, 3) := by decide +kernel
theorem dX11_as_13 : decode cX11_as 13 = .ok (.iload_n 3, 1) := by decide +kernel
theorem dX11_as_14 : decode cX11_as 14 = .ok (.iconst 5, 1) := by decide +kernel
theorem dX11_as_15 : decode cX11_as 15 = .ok (.if_icmp .gt 7, 3) := by decide +kernel
theorem dX11_as_18 : decode cX11_as 18 = .ok (.iconst 1, 1) := by decide +kernel
theorem dX11_as_19 : decode cX11_as 19 = .ok (.goto 4, 3) := by decide +kernel
theorem dX11_as_22 : decode cX11_as 22 = .ok (.iconst 0, 1) := by decide +kernel
theorem dX11_as_23 : decode cX11_as 23 = .ok (.invokestatic 76, 3) := by decide +kernel
theorem dX11_as_26 : decode cX11_as 26 = .ok (.iload_n 2, 1) := by decide +kernel
theorem dX11_as_27 : decode cX11_as 27 = .ok (.ifCond .ne 15, 3) := by decide +kernel
theorem dX11_as_30 : decode cX11_as 30 = .ok (.aload_n 0, 1) := by decide +kernel
theorem dX11_as_31 : decode cX11_as 31 = .ok (.getfield 27, 3) := by decide +kernel
theorem dX11_as_34 : decode cX11_as 34 = .ok (.getfield 232, 3) := by decide +kernel
theorem dX11_as_37 : decode cX11_as 37 = .ok (.iconst 1, 1) := by decide +kernel
theorem dX11_as_38 : decode cX11_as 38 = .ok (.isub, 1) := by decide +kernel
theorem dX11_as_39 : decode cX11_as 39 = .ok (.goto 13, 3) := by decide +kernel
theorem dX11_as_42 : decode cX11_as 42 = .ok (.aload_n 0, 1) := by decide +kernel
theorem dX11_as_43 : decode cX11_as 43 = .ok (.getfield 27, 3) := by decide +kernel
theorem dX11_as_46 : decode cX11_as 46 = .ok (.getfield 232, 3) := by decide +kernel
theorem dX11_as_49 : decode cX11_as 49 = .ok (.bipush 34, 2) := by decide +kernel
theorem dX11_as_51 : decode cX11_as 51 = .ok (.isub, 1) := by decide +kernel
theorem dX11_as_52 : decode cX11_as 52 = .ok (.istore 4, 2) := by decide +kernel
theorem dX11_as_54 : decode cX11_as 54 = .ok (.iload_n 1, 1) := by decide +kernel
theorem dX11_as_55 : decode cX11_as 55 = .ok (.ifCond .lt 9, 3) := by decide +kernel
theorem dX11_as_58 : decode cX11_as 58 = .ok (.iload_n 1, 1) := by decide +kernel
theorem dX11_as_59 : decode cX11_as 59 = .ok (.iload 4, 2) := by decide +kernel
theorem dX11_as_61 : decode cX11_as 61 = .ok (.if_icmp .le 7, 3) := by decide +kernel
theorem dX11_as_64 : decode cX11_as 64 = .ok (.ldc_w 390, 3) := by decide +kernel
theorem dX11_as_67 : decode cX11_as 67 = .ok (.ireturn, 1) := by decide +kernel
theorem dX11_as_68 : decode cX11_as 68 = .ok (.aload_n 0, 1) := by decide +kernel
theorem dX11_as_69 : decode cX11_as 69 = .ok (.getfield 10, 3) := by decide +kernel
theorem dX11_as_72 : decode cX11_as 72 = .ok (.iload_n 1, 1) := by decide +kernel
theorem dX11_as_73 : decode cX11_as 73 = .ok (.iload_n 3, 1) := by decide +kernel
theorem dX11_as_74 : decode cX11_as 74 = .ok (.invokevirtual 391, 3) := by decide +kernel
theorem dX11_as_77 : decode cX11_as 77 = .ok (.ireturn, 1) := by decide +kernel
theorem wX11_as_J52 {p : Program} {l : Launch} {e : Env} {s : State} {m : MethodId} {args : Array Value} {below : List Frame} {meth : Method} {c : Code} {Y : Nat → ClassId} {D : va_G} {σ : Nat → Nat} {np b0 : Nat} {r : Nat ⊕ (Int32)} {M : Mc} {N : Md} {X1 : Int32} {X3 : Int32} {Z0 : Int32} (hE : EOK p s m args meth c cX11_as 5 RX11 Y D σ np b0) (hr : meth.sig.returnType = (some .int)) (hT : ∀ x ∈ c.exceptionTable.toList, False) (hfl : l.stackTraces = false) (hf : fX11_as_J52 M X1 X3 Z0 = some r) : Xw p l e (rmX 7 1) s m args below meth c 5 Y D σ np b0 1 (6 * 1) (vx_MQ below (QX (fun r : Int32 => QR Y D σ np b0 (some (.int r)) M N) r) (XX Y D σ np b0 M N r) args s 1 (6 * 1) (xA b0)) 52 [(0, .ref (σ 0)), (1, .int X1), (3, .int X3)] [.int Z0] M N := by
  unfold fX11_as_J52 at hf
  refine x_istore hE (L' := [(4, .int Z0), (0, .ref (σ 0)), (1, .int X1), (3, .int X3)]) dX11_as_52 (by decide) rfl ?_
  refine x_pick [1, 2, 3, 0] (L' := [(0, .ref (σ 0)), (1, .int X1), (3, .int X3), (4, .int Z0)]) rfl ?_
  refine x_iload_n hE 1 dX11_as_54 rfl rfl ?_
  refine x_if_lt hE 64 dX11_as_55 (by decide) hf (fun hf => ?_) (fun hf => ?_)
  · refine x_ldc_w hE (-2000000000) lk_X11_390 dX11_as_64 ?_
    refine x_xin (by decide) (by decide) hf ?_
    exact x_ireturn hE (v := (-2000000000)) hr rfl dX11_as_67
  · refine x_iload_n hE 1 dX11_as_58 rfl rfl ?_
    refine x_iload hE 3 dX11_as_59 rfl ?_
    refine x_icmp_le hE 68 dX11_as_61 (by decide) hf (fun hf => ?_) (fun hf => ?_)
    · refine x_aload_n hE 0 dX11_as_68 rfl rfl ?_
      refine x_getR hE cl_11 (hE.kd kO_11) (by decide) 0 (1) rfl (by decide) lk_X11_10 dX11_as_69 ?_
      refine x_iload_n hE 1 dX11_as_72 rfl rfl ?_
      refine x_iload_n hE 2 dX11_as_73 rfl rfl ?_
      obtain ⟨v6, hc5, hf⟩ := bnd_some hf
      refine x_callV1 hE [.int X1, .int X3] (rest := []) (v := .int v6) (c1 := M) (d1 := N) rfl yokX0_rowOf yvX0_rowOf lk_X11_391 rfl cl_0 (hE.kd kO_0) (by decide) rfl rfl ⟨Nat.le_of_ble_eq_true rfl, Nat.le_of_ble_eq_true rfl⟩ (by decide) rfl (Nat.le_of_ble_eq_true rfl) dX11_as_74 (mX0_rowOf l hc5) ?_
      refine x_xin (by decide) (by decide) hf ?_
      exact x_ireturn hE (v := v6) hr rfl dX11_as_77
    · refine x_ldc_w hE (-2000000000) lk_X11_390 dX11_as_64 ?_
      refine x_xin (by decide) (by decide) hf ?_
      exact x_ireturn hE (v := (-2000000000)) hr rfl dX11_as_67
theorem wX11_as_J23 {p : Program} {l : Launch} {e : Env} {s : State} {m : MethodId} {args : Array Value} {below : List Frame} {meth : Method} {c : Code} {Y : Nat → ClassId} {D : va_G} {σ : Nat → Nat} {np b0 : Nat} {r : Nat ⊕ (Int32)} {M : Mc} {N : Md} {X1 : Int32} {X2 : Int32} {X3 : Int32} {Z0 : Int32} (hE : EOK p s m args meth c cX11_as 5 RX11 Y D σ np b0) (hr : meth.sig.returnType = (some .int)) (hT : ∀ x ∈ c.exceptionTable.toList, False) (hfl : l.stackTraces = false) (hf : fX11_as_J23 M X1 X2 X3 Z0 = some r) : Xw p l e (rmX 7 1) s m args below meth c 5 Y D σ np b0 0 (6 * 0) (vx_MQ below (QX (fun r : Int32 => QR Y D σ np b0 (some (.int r)) M N) r) (XX Y D σ np b0 M N r) args s 1 (6 * 1) (xA b0)) 23 [(0, .ref (σ 0)), (1, .int X1), (2, .int X2), (3, .int X3)] [.int Z0] M N := by
  unfold fX11_as_J23 at hf
  obtain ⟨y1, hc2, hy3⟩ := bnx_some hf
  refine x_callXS hE hT [.int Z0] (rest := []) rfl yokX11_needThat ysX11_needThat lk_X11_76 ⟨Nat.le_of_ble_eq_true rfl, Nat.le_of_ble_eq_true rfl⟩ (by decide) rfl (Nat.le_of_ble_eq_true rfl) dX11_as_23 (mX11_needThat l hfl hc2) ⟨rfl, rfl⟩ (by decide) (by decide) (hy3.imp id (fun ⟨_, ha4, hf⟩ => ⟨_, none, M, N, ha4, rfl, ?_⟩))
  refine x_iload_n hE 2 dX11_as_26 rfl rfl ?_
  refine x_if_ne hE 42 dX11_as_27 (by decide) hf (fun hf => ?_) (fun hf => ?_)
  · refine x_aload_n hE 0 dX11_as_42 rfl rfl ?_
    refine x_getR hE cl_11 (hE.kd kO_11) (by decide) 2 (17) rfl (by decide) lk_X11_27 dX11_as_43 ?_
    refine x_getI hE cl_10 (hE.kd (kO_10 hI_17)) (by decide) 6 rfl (by decide) lk_X11_232 dX11_as_46 ?_
    refine x_bipush hE (nI 34) dX11_as_49 (by decide) ?_
    refine x_isub hE dX11_as_51 ?_
    refine x_pick [0, 1, 3] (L' := [(0, .ref (σ 0)), (1, .int X1), (3, .int X3)]) rfl ?_
    exact wX11_as_J52 hE hr hT hfl hf
  · refine x_aload_n hE 0 dX11_as_30 rfl rfl ?_
    refine x_getR hE cl_11 (hE.kd kO_11) (by decide) 2 (17) rfl (by decide) lk_X11_27 dX11_as_31 ?_
    refine x_getI hE cl_10 (hE.kd (kO_10 hI_17)) (by decide) 6 rfl (by decide) lk_X11_232 dX11_as_34 ?_
    refine x_iconst hE (nI 1) dX11_as_37 (by decide) ?_
    refine x_isub hE dX11_as_38 ?_
    refine x_goto hE 52 dX11_as_39 (by decide) ?_
    refine x_pick [0, 1, 3] (L' := [(0, .ref (σ 0)), (1, .int X1), (3, .int X3)]) rfl ?_
    exact wX11_as_J52 hE hr hT hfl hf
theorem wX11_as_J22 {p : Program} {l : Launch} {e : Env} {s : State} {m : MethodId} {args : Array Value} {below : List Frame} {meth : Method} {c : Code} {Y : Nat → ClassId} {D : va_G} {σ : Nat → Nat} {np b0 : Nat} {r : Nat ⊕ (Int32)} {M : Mc} {N : Md} {X1 : Int32} {X2 : Int32} {X3 : Int32} (hE : EOK p s m args meth c cX11_as 5 RX11 Y D σ np b0) (hr : meth.sig.returnType = (some .int)) (hT : ∀ x ∈ c.exceptionTable.toList, False) (hfl : l.stackTraces = false) (hf : fX11_as_J22 M X1 X2 X3 = some r) : Xw p l e (rmX 7 1) s m args below meth c 5 Y D σ np b0 0 (6 * 0) (vx_MQ below (QX (fun r : Int32 => QR Y D σ np b0 (some (.int r)) M N) r) (XX Y D σ np b0 M N r) args s 1 (6 * 1) (xA b0)) 22 [(0, .ref (σ 0)), (1, .int X1), (2, .int X2), (3, .int X3)] [] M N := by
  unfold fX11_as_J22 at hf
  refine x_iconst hE (0 : Int32) dX11_as_22 (by decide) ?_
  exact wX11_as_J23 hE hr hT hfl hf
theorem wX11_as_J9 {p : Program} {l : Launch} {e : Env} {s : State} {m : MethodId} {args : Array Value} {below : List Frame} {meth : Method} {c : Code} {Y : Nat → ClassId} {D : va_G} {σ : Nat → Nat} {np b0 : Nat} {r : Nat ⊕ (Int32)} {M : Mc} {N : Md} {X1 : Int32} {X2 : Int32} {X3 : Int32} (hE : EOK p s m args meth c cX11_as 5 RX11 Y D σ np b0) (hr : meth.sig.returnType = (some .int)) (hT : ∀ x ∈ c.exceptionTable.toList, False) (hfl : l.stackTraces = false) (hf : fX11_as_J9 M X1 X2 X3 = some r) : Xw p l e (rmX 7 1) s m args below meth c 5 Y D σ np b0 0 (6 * 0) (vx_MQ below (QX (fun r : Int32 => QR Y D σ np b0 (some (.int r)) M N) r) (XX Y D σ np b0 M N r) args s 1 (6 * 1) (xA b0)) 9 [(0, .ref (σ 0)), (1, .int X1), (2, .int X2), (3, .int X3)] [] M N := by
  unfold fX11_as_J9 at hf
  refine x_iload_n hE 3 dX11_as_9 rfl rfl ?_
  refine x_if_lt hE 22 dX11_as_10 (by decide) hf (fun hf => ?_) (fun hf => ?_)
  · exact wX11_as_J22 hE hr hT hfl hf
  · refine x_iload_n hE 3 dX11_as_13 rfl rfl ?_
    refine x_iconst hE (nI 5) dX11_as_14 (by decide) ?_
    refine x_icmp_gt hE 22 dX11_as_15 (by decide) hf (fun hf => ?_) (fun hf => ?_)
    · exact wX11_as_J22 hE hr hT hfl hf
    · refine x_iconst hE (nI 1) dX11_as_18 (by decide) ?_
      refine x_goto hE 23 dX11_as_19 (by decide) ?_
      exact wX11_as_J23 hE hr hT hfl hf
theorem mX11_as (l : Launch) (hfl : l.stackTraces = false) {Y : Nat → ClassId} {D : va_G} {σ : Nat → Nat} {np b0 : Nat} {M : Mc} {N : Md} {p0 : Int32} {p1 : Int32} {p2 : Int32} {r : Nat ⊕ (Int32)} (hf : fX11_as M p0 p1 p2 = some r) : vx_Met l yX11_as (.code yX11_as cX11_as 5 (some .int) :: lw_g) (rmX 7 1) (PR Y D σ np b0 [.ref (σ 0), .int p0, .int p1, .int p2] M N) (QX (fun r : Int32 => QR Y D σ np b0 (some (.int r)) M N) r) (XX Y D σ np b0 M N r) 1 (6 * 1) (xA b0) := by
  refine x_vmet (by decide) (Nat.le_of_ble_eq_true rfl) (fun p e s m args below meth c hE hr hT => ?_)
  unfold fX11_as at hf
  refine x_pick [0, 1, 2, 3] (L' := [(0, .ref (σ 0)), (1, .int p0), (2, .int p1), (3, .int p2)]) rfl ?_
  refine x_iload_n hE 2 dX11_as_0 rfl rfl ?_
  refine x_if_eq hE 9 dX11_as_1 (by decide) hf (fun hf => ?_) (fun hf => ?_)
  · exact wX11_as_J9 hE hr hT hfl hf
  · refine x_iload_n hE 2 dX11_as_4 rfl rfl ?_
    refine x_iconst hE (nI 1) dX11_as_5 (by decide) ?_
    refine x_icmp_ne hE 22 dX11_as_6 (by decide) hf (fun hf => ?_) (fun hf => ?_)
    · exact wX11_as_J22 hE hr hT hfl hf
    · exact wX11_as_J9 hE hr hT hfl hf
theorem yokX11_as : YOK yX11_as cX11_as 5 3 (some .int) := ⟨mem_g 1851 (by decide +kernel) (by decide +kernel), mem_g 131 (by decide +kernel) (by decide +kernel), by decide +kernel, by decide +kernel, by decide +kernel⟩
theorem yvX11_as : YV yX11_as := ⟨mem_g 1849 (by decide +kernel) (by decide +kernel), mem_g 1850 (by decide +kernel) (by decide +kernel)⟩
theorem lk_X11_394 : Cond.fieldLink RX11 394 (TX10 10).1 (TX10 10).2.1 (TX10 10).2.2.1 ∈ lw_g := mem_g 429 (by decide +kernel) (by decide +kernel)
theorem lk_X11_397 : Cond.fieldLink RX11 397 (TX10 11).1 (TX10 11).2.1 (TX10 11).2.2.1 ∈ lw_g := mem_g 431 (by decide +kernel) (by decide +kernel)
theorem lk_X11_400 : Cond.fieldLink RX11 400 (TX4 9).1 (TX4 9).2.1 (TX4 9).2.2.1 ∈ lw_g := mem_g 213 (by decide +kernel) (by decide +kernel)
theorem lk_X11_403 : Cond.fieldLink RX11 403 (TX3 2).1 (TX3 2).2.1 (TX3 2).2.2.1 ∈ lw_g := mem_g 261 (by decide +kernel) (by decide +kernel)
theorem lk_X11_406 : Cond.fieldLink RX11 406 (TX10 7).1 (TX10 7).2.1 (TX10 7).2.2.1 ∈ lw_g := mem_g 422 (by decide +kernel) (by decide +kernel)
theorem lk_X11_409 : Cond.methodLink RX11 409 yX3_allHired ∈ lw_g := mem_g 1860 (by decide +kernel) (by decide +kernel)
theorem lk_X11_412 : Cond.fieldLink RX11 412 (TX3 1).1 (TX3 1).2.1 (TX3 1).2.2.1 ∈ lw_g := mem_g 258 (by decide +kernel) (by decide +kernel)
theorem dX11_tried_0 : decode cX11_tried 0 = .ok (.iload_n 1, 1) := by decide +kernel
theorem dX11_tried_1 : decode cX11_tried 1 = .ok (.ifCond .lt 25, 3) := by decide +kernel
theorem dX11_tried_4 : decode cX11_tried 4 = .ok (.iload_n 1, 1) := by decide +kernel
theorem dX11_tried_5 : decode cX11_tried 5 = .ok (.sipush 1000, 3) := by decide +kernel
theorem dX11_tried_8 : decode cX11_tried 8 = .ok (.if_icmp .gt 18, 3) := by decide +kernel
theorem dX11_tried_11 : decode cX11_tried 11 = .ok (.iload_n 2, 1) := by decide +kernel
theorem dX11_tried_12 : decode cX11_tried 12 = .ok (.iconst (-1), 1) := by decide +kernel
theorem dX11_tried_13 : decode cX11_tried 13 = .ok (.if_icmp .lt 13, 3) := by decide +kernel
theorem dX11_tried_16 : decode cX11_tried 16 = .ok (.iload_n 2, 1) := by decide +kernel
theorem dX11_tried_17 : decode cX11_tried 17 = .ok (.bipush 100, 2) := by decide +kernel
theorem dX11_tried_19 : decode cX11_tried 19 = .ok (.if_icmp .gt 7, 3) := by decide +kernel
theorem dX11_tried_22 : decode cX11_tried 22 = .ok (.iconst 1, 1) := by decide +kernel
theorem dX11_tried_23 : decode cX11_tried 23 = .ok (.goto 4, 3) := by decide +kernel
theorem dX11_tried_26 : decode cX11_tried 26 = .ok (.iconst 0, 1) := by decide +kernel
theorem dX11_tried_27 : decode cX11_tried 27 = .ok (.invokestatic 76, 3) := by decide +kernel
theorem dX11_tried_30 : decode cX11_tried 30 = .ok (.iload_n 3, 1) := by decide +kernel
theorem dX11_tried_31 : decode cX11_tried 31 = .ok (.iconst 1, 1) := by decide +kernel
theorem dX11_tried_32 : decode cX11_tried 32 = .ok (.if_icmp .lt 24, 3) := by decide +kernel
theorem dX11_tried_35 : decode cX11_tried 35 = .ok (.iload_n 3, 1) := by decide +kernel
theorem dX11_tried_36 : decode cX11_tried 36 = .ok (.bipush 104, 2) := by decide +kernel
theorem dX11_tried_38 : decode cX11_tried 38 = .ok (.if_icmp .gt 18, 3) := by decide +kernel
theorem dX11_tried_41 : decode cX11_tried 41 = .ok (.iload 4, 2) := by decide +kernel
theorem dX11_tried_43 : decode cX11_tried 43 = .ok (.ifCond .lt 13, 3) := by decide +kernel
theorem dX11_tried_46 : decode cX11_tried 46 = .ok (.iload 4, 2) := by decide +kernel
theorem dX11_tried_48 : decode cX11_tried 48 = .ok (.iconst 5, 1) := by decide +kernel
theorem dX11_tried_49 : decode cX11_tried 49 = .ok (.if_icmp .gt 7, 3) := by decide +kernel
theorem dX11_tried_52 : decode cX11_tried 52 = .ok (.iconst 1, 1) := by decide +kernel
theorem dX11_tried_53 : decode cX11_tried 53 = .ok (.goto 4, 3) := by decide +kernel
theorem dX11_tried_56 : decode cX11_tried 56 = .ok (.iconst 0, 1) := by decide +kernel
theorem dX11_tried_57 : decode cX11_tried 57 = .ok (.invokestatic 76, 3) := by decide +kernel
theorem dX11_tried_60 : decode cX11_tried 60 = .ok (.aload_n 0, 1) := by decide +kernel
theorem dX11_tried_61 : decode cX11_tried 61 = .ok (.iload_n 3, 1) := by decide +kernel
theorem dX11_tried_62 : decode cX11_tried 62 = .ok (.invokevirtual 381, 3) := by decide +kernel
theorem dX11_tried_65 : decode cX11_tried 65 = .ok (.aload_n 0, 1) := by decide +kernel
theorem dX11_tried_66 : decode cX11_tried 66 = .ok (.getfield 31, 3) := by decide +kernel
theorem dX11_tried_69 : decode cX11_tried 69 = .ok (.aload_n 0, 1) := by decide +kernel
theorem dX11_tried_70 : decode cX11_tried 70 = .ok (.getfield 27, 3) := by decide +kernel
theorem dX11_tried_73 : decode cX11_tried 73 = .ok (.invokevirtual 165, 3) := by decide +kernel
theorem dX11_tried_76 : decode cX11_tried 76 = .ok (.aload_n 0, 1) := by decide +kernel
theorem dX11_tried_77 : decode cX11_tried 77 = .ok (.getfield 31, 3) := by decide +kernel
theorem dX11_tried_80 : decode cX11_tried 80 = .ok (.iload_n 1, 1) := by decide +kernel
theorem dX11_tried_81 : decode cX11_tried 81 = .ok (.putfield 394, 3) := by decide +kernel
theorem dX11_tried_84 : decode cX11_tried 84 = .ok (.aload_n 0, 1) := by decide +kernel
theorem dX11_tried_85 : decode cX11_tried 85 = .ok (.getfield 31, 3) := by decide +kernel
theorem dX11_tried_88 : decode cX11_tried 88 = .ok (.iload_n 2, 1) := by decide +kernel
theorem dX11_tried_89 : decode cX11_tried 89 = .ok (.putfield 397, 3) := by decide +kernel
theorem dX11_tried_92 : decode cX11_tried 92 = .ok (.iconst 0, 1) := by decide +kernel
theorem dX11_tried_93 : decode cX11_tried 93 = .ok (.istore 5, 2) := by decide +kernel
theorem dX11_tried_95 : decode cX11_tried 95 = .ok (.iload 5, 2) := by decide +kernel
theorem dX11_tried_97 : decode cX11_tried 97 = .ok (.iload_n 3, 1) := by decide +kernel
theorem dX11_tried_98 : decode cX11_tried 98 = .ok (.if_icmp .ge 16, 3) := by decide +kernel
theorem dX11_tried_101 : decode cX11_tried 101 = .ok (.aload_n 0, 1) := by decide +kernel
theorem dX11_tried_102 : decode cX11_tried 102 = .ok (.getfield 31, 3) := by decide +kernel
theorem dX11_tried_105 : decode cX11_tried 105 = .ok (.invokevirtual 384, 3) := by decide +kernel
theorem dX11_tried_108 : decode cX11_tried 108 = .ok (.iinc 5 1, 3) := by decide +kernel
theorem dX11_tried_111 : decode cX11_tried 111 = .ok (.goto (-16), 3) := by decide +kernel
theorem dX11_tried_114 : decode cX11_tried 114 = .ok (.iload 4, 2) := by decide +kernel
theorem dX11_tried_116 : decode cX11_tried 116 = .ok (.tableswitch 85 0 4 #[36, 47, 58, 66, 74], 36) := by decide +kernel
theorem dX11_tried_152 : decode cX11_tried 152 = .ok (.aload_n 0, 1) := by decide +kernel
theorem dX11_tried_153 : decode cX11_tried 153 = .ok (.getfield 31, 3) := by decide +kernel
theorem dX11_tried_156 : decode cX11_tried 156 = .ok (.getfield 80, 3) := by decide +kernel
theorem dX11_tried_159 : decode cX11_tried 159 = .ok (.getfield 400, 3) := by decide +kernel
theorem dX11_tried_162 : decode cX11_tried 162 = .ok (.ireturn, 1) := by decide +kernel
theorem dX11_tried_163 : decode cX11_tried 163 = .ok (.aload_n 0, 1) := by decide +kernel
theorem dX11_tried_164 : decode cX11_tried 164 = .ok (.getfield 31, 3) := by decide +kernel
theorem dX11_tried_167 : decode cX11_tried 167 = .ok (.getfield 125, 3) := by decide +kernel
theorem dX11_tried_170 : decode cX11_tried 170 = .ok (.getfield 403, 3) := by decide +kernel
theorem dX11_tried_173 : decode cX11_tried 173 = .ok (.ireturn, 1) := by decide +kernel
theorem dX11_tried_174 : decode cX11_tried 174 = .ok (.aload_n 0, 1) := by decide +kernel
theorem dX11_tried_175 : decode cX11_tried 175 = .ok (.getfield 31, 3) := by decide +kernel
theorem dX11_tried_178 : decode cX11_tried 178 = .ok (.getfield 259, 3) := by decide +kernel
theorem dX11_tried_181 : decode cX11_tried 181 = .ok (.ireturn, 1) := by decide +kernel
theorem dX11_tried_182 : decode cX11_tried 182 = .ok (.aload_n 0, 1) := by decide +kernel
theorem dX11_tried_183 : decode cX11_tried 183 = .ok (.getfield 31, 3) := by decide +kernel
theorem dX11_tried_186 : decode cX11_tried 186 = .ok (.getfield 406, 3) := by decide +kernel
theorem dX11_tried_189 : decode cX11_tried 189 = .ok (.ireturn, 1) := by decide +kernel
theorem dX11_tried_190 : decode cX11_tried 190 = .ok (.aload_n 0, 1) := by decide +kernel
theorem dX11_tried_191 : decode cX11_tried 191 = .ok (.getfield 31, 3) := by decide +kernel
theorem dX11_tried_194 : decode cX11_tried 194 = .ok (.getfield 125, 3) := by decide +kernel
theorem dX11_tried_197 : decode cX11_tried 197 = .ok (.invokevirtual 409, 3) := by decide +kernel
theorem dX11_tried_200 : decode cX11_tried 200 = .ok (.ireturn, 1) := by decide +kernel
theorem dX11_tried_201 : decode cX11_tried 201 = .ok (.aload_n 0, 1) := by decide +kernel
theorem dX11_tried_202 : decode cX11_tried 202 = .ok (.getfield 31, 3) := by decide +kernel
theorem dX11_tried_205 : decode cX11_tried 205 = .ok (.getfield 125, 3) := by decide +kernel
theorem dX11_tried_208 : decode cX11_tried 208 = .ok (.getfield 412, 3) := by decide +kernel
theorem dX11_tried_211 : decode cX11_tried 211 = .ok (.ireturn, 1) := by decide +kernel
theorem wX11_tried_L95 {p : Program} {l : Launch} {e : Env} {s : State} {m : MethodId} {args : Array Value} {below : List Frame} {meth : Method} {c : Code} {Y : Nat → ClassId} {D : va_G} {σ : Nat → Nat} {np b0 : Nat} {r : Nat ⊕ (Int32 × Mc)} {M0 : Mc} {N0 : Md} (hE : EOK p s m args meth c cX11_tried 6 RX11 Y D σ np b0) (hr : meth.sig.returnType = (some .int)) (hT : ∀ x ∈ c.exceptionTable.toList, False) (hfl : l.stackTraces = false) : ∀ (n : Nat) (M : Mc) (N : Md) (X3 : Int32) (X4 : Int32) (X5 : Int32), fX11_tried_L95 n M X3 X4 X5 = some r → Xw p l e (rmX 7 3) s m args below meth c 6 Y D σ np b0 3 (6 * 3) (vx_MQ below (QX (fun r : Int32 × Mc => QR Y D σ np b0 (some (.int r.1)) r.2 N) r) (XX Y D σ np b0 M0 N0 r) args s 3 (6 * 3) (xA b0)) 95 [(0, .ref (σ 0)), (3, .int X3), (4, .int X4), (5, .int X5)] [] M N := by
  intro n
  induction n with
  | zero =>
    intro M N X3 X4 X5 hf
    cases hf
  | succ n ih =>
    intro M N X3 X4 X5 hf
    rw [fX11_tried_L95.eq_2] at hf
    refine x_iload hE 3 dX11_tried_95 rfl ?_
    refine x_iload_n hE 1 dX11_tried_97 rfl rfl ?_
    refine x_icmp_ge hE 114 dX11_tried_98 (by decide) hf (fun hf => ?_) (fun hf => ?_)
    · refine x_iload hE 2 dX11_tried_114 rfl ?_
      refine x_swi (0) hf (fun hsw hf => ?_) (fun hsw0 hf => ?_)
      · refine x_tabI hE 152 dX11_tried_116 hsw (by decide) (by decide) rfl (by decide) ?_
        refine x_aload_n hE 0 dX11_tried_152 rfl rfl ?_
        refine x_getR hE cl_11 (hE.kd kO_11) (by decide) 3 (64) rfl (by decide) lk_X11_31 dX11_tried_153 ?_
        refine x_getR hE cl_10 (hE.kd (kO_10 hI_64)) (by decide) 1 (64 + 1) rfl (by decide) lk_X11_80 dX11_tried_156 ?_
        refine x_getI hE cl_4 (hE.kd (kO_4 (hL_10_1 hI_64))) (by decide) 9 rfl (by decide) lk_X11_400 dX11_tried_159 ?_
        refine x_xin (by decide) (by decide) hf ?_
        exact x_ireturn hE (v := M (64 + 1) 9) hr rfl dX11_tried_162
      refine x_swi (nI 1) hf (fun hsw hf => ?_) (fun hsw1 hf => ?_)
      · refine x_tabI hE 163 dX11_tried_116 hsw (by decide) (by decide) rfl (by decide) ?_
        refine x_aload_n hE 0 dX11_tried_163 rfl rfl ?_
        refine x_getR hE cl_11 (hE.kd kO_11) (by decide) 3 (64) rfl (by decide) lk_X11_31 dX11_tried_164 ?_
        refine x_getR hE cl_10 (hE.kd (kO_10 hI_64)) (by decide) 2 (64 + 15) rfl (by decide) lk_X11_125 dX11_tried_167 ?_
        refine x_getI hE cl_3 (hE.kd (kO_3 (hL_10_2 hI_64))) (by decide) 2 rfl (by decide) lk_X11_403 dX11_tried_170 ?_
        refine x_xin (by decide) (by decide) hf ?_
        exact x_ireturn hE (v := M (64 + 15) 2) hr rfl dX11_tried_173
      refine x_swi (nI 2) hf (fun hsw hf => ?_) (fun hsw2 hf => ?_)
      · refine x_tabI hE 174 dX11_tried_116 hsw (by decide) (by decide) rfl (by decide) ?_
        refine x_aload_n hE 0 dX11_tried_174 rfl rfl ?_
        refine x_getR hE cl_11 (hE.kd kO_11) (by decide) 3 (64) rfl (by decide) lk_X11_31 dX11_tried_175 ?_
        refine x_getI hE cl_10 (hE.kd (kO_10 hI_64)) (by decide) 8 rfl (by decide) lk_X11_259 dX11_tried_178 ?_
        refine x_xin (by decide) (by decide) hf ?_
        exact x_ireturn hE (v := M (64) 8) hr rfl dX11_tried_181
      refine x_swi (nI 3) hf (fun hsw hf => ?_) (fun hsw3 hf => ?_)
      · refine x_tabI hE 182 dX11_tried_116 hsw (by decide) (by decide) rfl (by decide) ?_
        refine x_aload_n hE 0 dX11_tried_182 rfl rfl ?_
        refine x_getR hE cl_11 (hE.kd kO_11) (by decide) 3 (64) rfl (by decide) lk_X11_31 dX11_tried_183 ?_
        refine x_getI hE cl_10 (hE.kd (kO_10 hI_64)) (by decide) 7 rfl (by decide) lk_X11_406 dX11_tried_186 ?_
        refine x_xin (by decide) (by decide) hf ?_
        exact x_ireturn hE (v := M (64) 7) hr rfl dX11_tried_189
      refine x_swi (nI 4) hf (fun hsw hf => ?_) (fun hsw4 hf => ?_)
      · refine x_tabI hE 190 dX11_tried_116 hsw (by decide) (by decide) rfl (by decide) ?_
        refine x_aload_n hE 0 dX11_tried_190 rfl rfl ?_
        refine x_getR hE cl_11 (hE.kd kO_11) (by decide) 3 (64) rfl (by decide) lk_X11_31 dX11_tried_191 ?_
        refine x_getR hE cl_10 (hE.kd (kO_10 hI_64)) (by decide) 2 (64 + 15) rfl (by decide) lk_X11_125 dX11_tried_194 ?_
        obtain ⟨v18, hc17, hf⟩ := bnd_some hf
        refine x_callV1 hE [] (rest := []) (v := .int v18) (c1 := M) (d1 := N) rfl yokX3_allHired yvX3_allHired lk_X11_409 rfl cl_3 (hE.kd (kO_3 (hL_10_2 hI_64))) (by decide) rfl rfl ⟨Nat.le_of_ble_eq_true rfl, Nat.le_of_ble_eq_true rfl⟩ (by decide) rfl (Nat.le_of_ble_eq_true rfl) dX11_tried_197 (mX3_allHired l (hL_10_2 hI_64) hc17) ?_
        refine x_xin (by decide) (by decide) hf ?_
        exact x_ireturn hE (v := v18) hr rfl dX11_tried_200
      refine x_tabO hE 201 dX11_tried_116 (x_out 5 rfl (fun k hk => match k, hk with | 0, _ => x_ne hsw0 (by decide) | 1, _ => x_ne hsw1 (by decide) | 2, _ => x_ne hsw2 (by decide) | 3, _ => x_ne hsw3 (by decide) | 4, _ => x_ne hsw4 (by decide) | k + 5, hk => absurd hk (by omega))) (by decide) ?_
      refine x_aload_n hE 0 dX11_tried_201 rfl rfl ?_
      refine x_getR hE cl_11 (hE.kd kO_11) (by decide) 3 (64) rfl (by decide) lk_X11_31 dX11_tried_202 ?_
      refine x_getR hE cl_10 (hE.kd (kO_10 hI_64)) (by decide) 2 (64 + 15) rfl (by decide) lk_X11_125 dX11_tried_205 ?_
      refine x_getI hE cl_3 (hE.kd (kO_3 (hL_10_2 hI_64))) (by decide) 1 rfl (by decide) lk_X11_412 dX11_tried_208 ?_
      refine x_xin (by decide) (by decide) hf ?_
      exact x_ireturn hE (v := M (64 + 15) 1) hr rfl dX11_tried_211
    · refine x_aload_n hE 0 dX11_tried_101 rfl rfl ?_
      refine x_getR hE cl_11 (hE.kd kO_11) (by decide) 3 (64) rfl (by decide) lk_X11_31 dX11_tried_102 ?_
      obtain ⟨M20, hc19, hf⟩ := bnd_some hf
      refine x_callV0 hE [] (rest := []) (c1 := M20) (d1 := N) rfl yokX10_goOn yvX10_goOn lk_X11_384 rfl cl_10 (hE.kd (kO_10 hI_64)) (by decide) rfl rfl ⟨Nat.le_of_ble_eq_true rfl, Nat.le_of_ble_eq_true rfl⟩ (by decide) rfl (Nat.le_of_ble_eq_true rfl) dX11_tried_105 (mX10_goOn l hI_64 hc19) ?_
      refine x_iinc hE 3 (X5 + nI 1) (L' := [(5, .int (X5 + nI 1)), (0, .ref (σ 0)), (3, .int X3), (4, .int X4)]) dX11_tried_108 rfl rfl (by decide) rfl ?_
      refine x_pick [1, 2, 3, 0] (L' := [(0, .ref (σ 0)), (3, .int X3), (4, .int X4), (5, .int (X5 + nI 1))]) rfl ?_
      refine x_goto hE 95 dX11_tried_111 (by decide) ?_
      exact ih _ _ _ _ _ hf
theorem wX11_tried_J57 {p : Program} {l : Launch} {e : Env} {s : State} {m : MethodId} {args : Array Value} {below : List Frame} {meth : Method} {c : Code} {Y : Nat → ClassId} {D : va_G} {σ : Nat → Nat} {np b0 : Nat} {r : Nat ⊕ (Int32 × Mc)} {M : Mc} {N : Md} {X1 : Int32} {X2 : Int32} {X3 : Int32} {X4 : Int32} {Z0 : Int32} (hE : EOK p s m args meth c cX11_tried 6 RX11 Y D σ np b0) (hr : meth.sig.returnType = (some .int)) (hT : ∀ x ∈ c.exceptionTable.toList, False) (hfl : l.stackTraces = false) (hf : fX11_tried_J57 M X1 X2 X3 X4 Z0 = some r) : Xw p l e (rmX 7 3) s m args below meth c 6 Y D σ np b0 1 (6 * 1) (vx_MQ below (QX (fun r : Int32 × Mc => QR Y D σ np b0 (some (.int r.1)) r.2 N) r) (XX Y D σ np b0 M N r) args s 3 (6 * 3) (xA b0)) 57 [(0, .ref (σ 0)), (1, .int X1), (2, .int X2), (3, .int X3), (4, .int X4)] [.int Z0] M N := by
  unfold fX11_tried_J57 at hf
  obtain ⟨y5, hc6, hy7⟩ := bnx_some hf
  refine x_callXS hE hT [.int Z0] (rest := []) rfl yokX11_needThat ysX11_needThat lk_X11_76 ⟨Nat.le_of_ble_eq_true rfl, Nat.le_of_ble_eq_true rfl⟩ (by decide) rfl (Nat.le_of_ble_eq_true rfl) dX11_tried_57 (mX11_needThat l hfl hc6) ⟨rfl, rfl⟩ (by decide) (by decide) (hy7.imp id (fun ⟨_, ha8, hf⟩ => ⟨_, none, M, N, ha8, rfl, ?_⟩))
  refine x_aload_n hE 0 dX11_tried_60 rfl rfl ?_
  refine x_iload_n hE 3 dX11_tried_61 rfl rfl ?_
  obtain ⟨y9, hc10, hy11⟩ := bnx_some hf
  refine x_callXV hE hT [.int X3] (rest := []) rfl yokX11_needWeeks yvX11_needWeeks lk_X11_381 rfl cl_11 (hE.kd kO_11) (by decide) ⟨Nat.le_of_ble_eq_true rfl, Nat.le_of_ble_eq_true rfl⟩ (by decide) rfl (Nat.le_of_ble_eq_true rfl) dX11_tried_62 (mX11_needWeeks l hfl hc10) ⟨rfl, rfl⟩ (by decide) (by decide) (hy11.imp id (fun ⟨_, ha12, hf⟩ => ⟨_, none, M, N, ha12, rfl, ?_⟩))
  refine x_aload_n hE 0 dX11_tried_65 rfl rfl ?_
  refine x_getR hE cl_11 (hE.kd kO_11) (by decide) 3 (64) rfl (by decide) lk_X11_31 dX11_tried_66 ?_
  refine x_aload_n hE 0 dX11_tried_69 rfl rfl ?_
  refine x_getR hE cl_11 (hE.kd kO_11) (by decide) 2 (17) rfl (by decide) lk_X11_27 dX11_tried_70 ?_
  obtain ⟨M14, hc13, hf⟩ := bnd_some hf
  refine x_callV0 hE [.ref (σ (17))] (rest := []) (c1 := M14) (d1 := N) rfl yokX10_copyFrom yvX10_copyFrom lk_X11_165 rfl cl_10 (hE.kd (kO_10 hI_64)) (by decide) rfl rfl ⟨Nat.le_of_ble_eq_true rfl, Nat.le_of_ble_eq_true rfl⟩ (by decide) rfl (Nat.le_of_ble_eq_true rfl) dX11_tried_73 (mX10_copyFrom l hI_64 hI_17 hc13) ?_
  refine x_aload_n hE 0 dX11_tried_76 rfl rfl ?_
  refine x_getR hE cl_11 (hE.kd kO_11) (by decide) 3 (64) rfl (by decide) lk_X11_31 dX11_tried_77 ?_
  refine x_iload_n hE 1 dX11_tried_80 rfl rfl ?_
  refine x_putI hE cl_10 (hE.kd (kO_10 hI_64)) (by decide) 10 rfl (by decide) lk_X11_394 rfl rfl rfl rfl dX11_tried_81 hf (fun M15 hf => ?_)
  refine x_aload_n hE 0 dX11_tried_84 rfl rfl ?_
  refine x_getR hE cl_11 (hE.kd kO_11) (by decide) 3 (64) rfl (by decide) lk_X11_31 dX11_tried_85 ?_
  refine x_iload_n hE 2 dX11_tried_88 rfl rfl ?_
  refine x_putI hE cl_10 (hE.kd (kO_10 hI_64)) (by decide) 11 rfl (by decide) lk_X11_397 rfl rfl rfl rfl dX11_tried_89 hf (fun M16 hf => ?_)
  refine x_iconst hE (0 : Int32) dX11_tried_92 (by decide) ?_
  refine x_istore hE (L' := [(5, .int 0), (0, .ref (σ 0)), (1, .int X1), (2, .int X2), (3, .int X3), (4, .int X4)]) dX11_tried_93 (by decide) rfl ?_
  refine x_pick [1, 2, 3, 4, 5, 0] (L' := [(0, .ref (σ 0)), (1, .int X1), (2, .int X2), (3, .int X3), (4, .int X4), (5, .int 0)]) rfl ?_
  refine x_pick [0, 3, 4, 5] (L' := [(0, .ref (σ 0)), (3, .int X3), (4, .int X4), (5, .int 0)]) rfl ?_
  exact wX11_tried_L95 hE hr hT hfl FU _ _ _ _ _ hf
theorem wX11_tried_J56 {p : Program} {l : Launch} {e : Env} {s : State} {m : MethodId} {args : Array Value} {below : List Frame} {meth : Method} {c : Code} {Y : Nat → ClassId} {D : va_G} {σ : Nat → Nat} {np b0 : Nat} {r : Nat ⊕ (Int32 × Mc)} {M : Mc} {N : Md} {X1 : Int32} {X2 : Int32} {X3 : Int32} {X4 : Int32} (hE : EOK p s m args meth c cX11_tried 6 RX11 Y D σ np b0) (hr : meth.sig.returnType = (some .int)) (hT : ∀ x ∈ c.exceptionTable.toList, False) (hfl : l.stackTraces = false) (hf : fX11_tried_J56 M X1 X2 X3 X4 = some r) : Xw p l e (rmX 7 3) s m args below meth c 6 Y D σ np b0 1 (6 * 1) (vx_MQ below (QX (fun r : Int32 × Mc => QR Y D σ np b0 (some (.int r.1)) r.2 N) r) (XX Y D σ np b0 M N r) args s 3 (6 * 3) (xA b0)) 56 [(0, .ref (σ 0)), (1, .int X1), (2, .int X2), (3, .int X3), (4, .int X4)] [] M N := by
  unfold fX11_tried_J56 at hf
  refine x_iconst hE (0 : Int32) dX11_tried_56 (by decide) ?_
  exact wX11_tried_J57 hE hr hT hfl hf
theorem wX11_tried_J27 {p : Program} {l : Launch} {e : Env} {s : State} {m : MethodId} {args : Array Value} {below : List Frame} {meth : Method} {c : Code} {Y : Nat → ClassId} {D : va_G} {σ : Nat → Nat} {np b0 : Nat} {r : Nat ⊕ (Int32 × Mc)} {M : Mc} {N : Md} {X1 : Int32} {X2 : Int32} {X3 : Int32} {X4 : Int32} {Z0 : Int32} (hE : EOK p s m args meth c cX11_tried 6 RX11 Y D σ np b0) (hr : meth.sig.returnType = (some .int)) (hT : ∀ x ∈ c.exceptionTable.toList, False) (hfl : l.stackTraces = false) (hf : fX11_tried_J27 M X1 X2 X3 X4 Z0 = some r) : Xw p l e (rmX 7 3) s m args below meth c 6 Y D σ np b0 0 (6 * 0) (vx_MQ below (QX (fun r : Int32 × Mc => QR Y D σ np b0 (some (.int r.1)) r.2 N) r) (XX Y D σ np b0 M N r) args s 3 (6 * 3) (xA b0)) 27 [(0, .ref (σ 0)), (1, .int X1), (2, .int X2), (3, .int X3), (4, .int X4)] [.int Z0] M N := by
  unfold fX11_tried_J27 at hf
  obtain ⟨y1, hc2, hy3⟩ := bnx_some hf
  refine x_callXS hE hT [.int Z0] (rest := []) rfl yokX11_needThat ysX11_needThat lk_X11_76 ⟨Nat.le_of_ble_eq_true rfl, Nat.le_of_ble_eq_true rfl⟩ (by decide) rfl (Nat.le_of_ble_eq_true rfl) dX11_tried_27 (mX11_needThat l hfl hc2) ⟨rfl, rfl⟩ (by decide) (by decide) (hy3.imp id (fun ⟨_, ha4, hf⟩ => ⟨_, none, M, N, ha4, rfl, ?_⟩))
  refine x_iload_n hE 3 dX11_tried_30 rfl rfl ?_
  refine x_iconst hE (nI 1) dX11_tried_31 (by decide) ?_
  refine x_icmp_lt hE 56 dX11_tried_32 (by decide) hf (fun hf => ?_) (fun hf => ?_)
  · exact wX11_tried_J56 hE hr hT hfl hf
  · refine x_iload_n hE 3 dX11_tried_35 rfl rfl ?_
    refine x_bipush hE (nI 104) dX11_tried_36 (by decide) ?_
    refine x_icmp_gt hE 56 dX11_tried_38 (by decide) hf (fun hf => ?_) (fun hf => ?_)
    · exact wX11_tried_J56 hE hr hT hfl hf
    · refine x_iload hE 4 dX11_tried_41 rfl ?_
      refine x_if_lt hE 56 dX11_tried_43 (by decide) hf (fun hf => ?_) (fun hf => ?_)
      · exact wX11_tried_J56 hE hr hT hfl hf
      · refine x_iload hE 4 dX11_tried_46 rfl ?_
        refine x_iconst hE (nI 5) dX11_tried_48 (by decide) ?_
        refine x_icmp_gt hE 56 dX11_tried_49 (by decide) hf (fun hf => ?_) (fun hf => ?_)
        · exact wX11_tried_J56 hE hr hT hfl hf
        · refine x_iconst hE (nI 1) dX11_tried_52 (by decide) ?_
          refine x_goto hE 57 dX11_tried_53 (by decide) ?_
          exact wX11_tried_J57 hE hr hT hfl hf
theorem wX11_tried_J26 {p : Program} {l : Launch} {e : Env} {s : State} {m : MethodId} {args : Array Value} {below : List Frame} {meth : Method} {c : Code} {Y : Nat → ClassId} {D : va_G} {σ : Nat → Nat} {np b0 : Nat} {r : Nat ⊕ (Int32 × Mc)} {M : Mc} {N : Md} {X1 : Int32} {X2 : Int32} {X3 : Int32} {X4 : Int32} (hE : EOK p s m args meth c cX11_tried 6 RX11 Y D σ np b0) (hr : meth.sig.returnType = (some .int)) (hT : ∀ x ∈ c.exceptionTable.toList, False) (hfl : l.stackTraces = false) (hf : fX11_tried_J26 M X1 X2 X3 X4 = some r) : Xw p l e (rmX 7 3) s m args below meth c 6 Y D σ np b0 0 (6 * 0) (vx_MQ below (QX (fun r : Int32 × Mc => QR Y D σ np b0 (some (.int r.1)) r.2 N) r) (XX Y D σ np b0 M N r) args s 3 (6 * 3) (xA b0)) 26 [(0, .ref (σ 0)), (1, .int X1), (2, .int X2), (3, .int X3), (4, .int X4)] [] M N := by
  unfold fX11_tried_J26 at hf
  refine x_iconst hE (0 : Int32) dX11_tried_26 (by decide) ?_
  exact wX11_tried_J27 hE hr hT hfl hf
theorem mX11_tried (l : Launch) (hfl : l.stackTraces = false) {Y : Nat → ClassId} {D : va_G} {σ : Nat → Nat} {np b0 : Nat} {M : Mc} {N : Md} {p0 : Int32} {p1 : Int32} {p2 : Int32} {p3 : Int32} {r : Nat ⊕ (Int32 × Mc)} (hf : fX11_tried M p0 p1 p2 p3 = some r) : vx_Met l yX11_tried (.code yX11_tried cX11_tried 6 (some .int) :: lw_g) (rmX 7 3) (PR Y D σ np b0 [.ref (σ 0), .int p0, .int p1, .int p2, .int p3] M N) (QX (fun r : Int32 × Mc => QR Y D σ np b0 (some (.int r.1)) r.2 N) r) (XX Y D σ np b0 M N r) 3 (6 * 3) (xA b0) := by
  refine x_vmet (by decide) (Nat.le_of_ble_eq_true rfl) (fun p e s m args below meth c hE hr hT => ?_)
  unfold fX11_tried at hf
  refine x_pick [0, 1, 2, 3, 4] (L' := [(0, .ref (σ 0)), (1, .int p0), (2, .int p1), (3, .int p2), (4, .int p3)]) rfl ?_
  refine x_iload_n hE 1 dX11_tried_0 rfl rfl ?_
  refine x_if_lt hE 26 dX11_tried_1 (by decide) hf (fun hf => ?_) (fun hf => ?_)
  · exact wX11_tried_J26 hE hr hT hfl hf
  · refine x_iload_n hE 1 dX11_tried_4 rfl rfl ?_
    refine x_sipush hE (nI 1000) dX11_tried_5 (by decide) ?_
    refine x_icmp_gt hE 26 dX11_tried_8 (by decide) hf (fun hf => ?_) (fun hf => ?_)
    · exact wX11_tried_J26 hE hr hT hfl hf
    · refine x_iload_n hE 2 dX11_tried_11 rfl rfl ?_
      refine x_iconst hE (-1) dX11_tried_12 (by decide) ?_
      refine x_icmp_lt hE 26 dX11_tried_13 (by decide) hf (fun hf => ?_) (fun hf => ?_)
      · exact wX11_tried_J26 hE hr hT hfl hf
      · refine x_iload_n hE 2 dX11_tried_16 rfl rfl ?_
        refine x_bipush hE (nI 100) dX11_tried_17 (by decide) ?_
        refine x_icmp_gt hE 26 dX11_tried_19 (by decide) hf (fun hf => ?_) (fun hf => ?_)
        · exact wX11_tried_J26 hE hr hT hfl hf
        · refine x_iconst hE (nI 1) dX11_tried_22 (by decide) ?_
          refine x_goto hE 27 dX11_tried_23 (by decide) ?_
          exact wX11_tried_J27 hE hr hT hfl hf
theorem yokX11_tried : YOK yX11_tried cX11_tried 6 4 (some .int) := ⟨mem_g 1859 (by decide +kernel) (by decide +kernel), mem_g 131 (by decide +kernel) (by decide +kernel), by decide +kernel, by decide +kernel, by decide +kernel⟩
theorem yvX11_tried : YV yX11_tried := ⟨mem_g 1857 (by decide +kernel) (by decide +kernel), mem_g 1858 (by decide +kernel) (by decide +kernel)⟩
theorem dX11_isPrice_0 : decode cX11_isPrice 0 = .ok (.iload_n 0, 1) := by decide +kernel
theorem dX11_isPrice_1 : decode cX11_isPrice 1 = .ok (.iconst 1, 1) := by decide +kernel
theorem dX11_isPrice_2 : decode cX11_isPrice 2 = .ok (.if_icmp .lt 14, 3) := by decide +kernel
theorem dX11_isPrice_5 : decode cX11_isPrice 5 = .ok (.iload_n 0, 1) := by decide +kernel
theorem dX11_isPrice_6 : decode cX11_isPrice 6 = .ok (.sipush 1000, 3) := by decide +kernel
theorem dX11_isPrice_9 : decode cX11_isPrice 9 = .ok (.if_icmp .gt 7, 3) := by decide +kernel
theorem dX11_isPrice_12 : decode cX11_isPrice 12 = .ok (.iconst 1, 1) := by decide +kernel
theorem dX11_isPrice_13 : decode cX11_isPrice 13 = .ok (.goto 4, 3) := by decide +kernel
theorem dX11_isPrice_16 : decode cX11_isPrice 16 = .ok (.iconst 0, 1) := by decide +kernel
theorem dX11_isPrice_17 : decode cX11_isPrice 17 = .ok (.ireturn, 1) := by decide +kernel
theorem mX11_isPrice (l : Launch) {Y : Nat → ClassId} {D : va_G} {σ : Nat → Nat} {np b0 : Nat} {M : Mc} {N : Md} {p0 : Int32} {r : Int32} (hf : fX11_isPrice p0 = some r) : Met l yX11_isPrice (.code yX11_isPrice cX11_isPrice 1 (some .boolean) :: lw_g) (rmD 1) (PR Y D σ np b0 [.int p0] M N) (QR Y D σ np b0 (some (.int r)) M N) 0 0 (xA b0) := by
  refine x_met (by decide) (Nat.le_of_ble_eq_true rfl) (fun p e s m args below meth c hE hr => ?_)
  unfold fX11_isPrice at hf
  refine x_pick [0] (L' := [(0, .int p0)]) rfl ?_
  refine x_iload_n hE 0 dX11_isPrice_0 rfl rfl ?_
  refine x_iconst hE (nI 1) dX11_isPrice_1 (by decide) ?_
  refine x_icmp_lt hE 16 dX11_isPrice_2 (by decide) hf (fun hf => ?_) (fun hf => ?_)
  · refine x_iconst hE (0 : Int32) dX11_isPrice_16 (by decide) ?_
    replace hf := Option.some.inj hf
    subst hf
    exact x_ireturn hE (v := 0) hr rfl dX11_isPrice_17
  · refine x_iload_n hE 0 dX11_isPrice_5 rfl rfl ?_
    refine x_sipush hE (nI 1000) dX11_isPrice_6 (by decide) ?_
    refine x_icmp_gt hE 16 dX11_isPrice_9 (by decide) hf (fun hf => ?_) (fun hf => ?_)
    · refine x_iconst hE (0 : Int32) dX11_isPrice_16 (by decide) ?_
      replace hf := Option.some.inj hf
      subst hf
      exact x_ireturn hE (v := 0) hr rfl dX11_isPrice_17
    · refine x_iconst hE (nI 1) dX11_isPrice_12 (by decide) ?_
      refine x_goto hE 17 dX11_isPrice_13 (by decide) ?_
      replace hf := Option.some.inj hf
      subst hf
      exact x_ireturn hE (v := nI 1) hr rfl dX11_isPrice_17
theorem yokX11_isPrice : YOK yX11_isPrice cX11_isPrice 1 1 (some .boolean) := ⟨mem_g 1873 (by decide +kernel) (by decide +kernel), mem_g 131 (by decide +kernel) (by decide +kernel), by decide +kernel, by decide +kernel, by decide +kernel⟩
theorem ysX11_isPrice : Cond.static yX11_isPrice ∈ lw_g := mem_g 1872 (by decide +kernel) (by decide +kernel)
theorem dX11_putThree_0 : decode cX11_putThree 0 = .ok (.aload_n 0, 1) := by decide +kernel
theorem dX11_putThree_1 : decode cX11_putThree 1 = .ok (.arraylength, 1) := by decide +kernel
theorem dX11_putThree_2 : decode cX11_putThree 2 = .ok (.iconst 3, 1) := by decide +kernel
theorem dX11_putThree_3 : decode cX11_putThree 3 = .ok (.if_icmp .ge 4, 3) := by decide +kernel
theorem dX11_putThree_6 : decode cX11_putThree 6 = .ok (.return_, 1) := by decide +kernel
theorem dX11_putThree_7 : decode cX11_putThree 7 = .ok (.aload_n 0, 1) := by decide +kernel
theorem dX11_putThree_8 : decode cX11_putThree 8 = .ok (.iconst 0, 1) := by decide +kernel
theorem dX11_putThree_9 : decode cX11_putThree 9 = .ok (.iload_n 1, 1) := by decide +kernel
theorem dX11_putThree_10 : decode cX11_putThree 10 = .ok (.iastore, 1) := by decide +kernel
theorem dX11_putThree_11 : decode cX11_putThree 11 = .ok (.aload_n 0, 1) := by decide +kernel
theorem dX11_putThree_12 : decode cX11_putThree 12 = .ok (.iconst 1, 1) := by decide +kernel
theorem dX11_putThree_13 : decode cX11_putThree 13 = .ok (.iload_n 2, 1) := by decide +kernel
theorem dX11_putThree_14 : decode cX11_putThree 14 = .ok (.iastore, 1) := by decide +kernel
theorem dX11_putThree_15 : decode cX11_putThree 15 = .ok (.aload_n 0, 1) := by decide +kernel
theorem dX11_putThree_16 : decode cX11_putThree 16 = .ok (.iconst 2, 1) := by decide +kernel
theorem dX11_putThree_17 : decode cX11_putThree 17 = .ok (.iload_n 3, 1) := by decide +kernel
theorem dX11_putThree_18 : decode cX11_putThree 18 = .ok (.iastore, 1) := by decide +kernel
theorem dX11_putThree_19 : decode cX11_putThree 19 = .ok (.return_, 1) := by decide +kernel
theorem mX11_putThree (l : Launch) {Y : Nat → ClassId} {D : va_G} {σ : Nat → Nat} {np b0 : Nat} {M : Mc} {N : Md} {k0 : Nat} {p0 : Int32} {p1 : Int32} {p2 : Int32} {r : Mc} (hk0 : k0 < 146 ∧ kd k0 = (100, 3, [])) (hf : fX11_putThree M k0 p0 p1 p2 = some r) : Met l yX11_putThree (.code yX11_putThree cX11_putThree 4 none :: lw_g) (rmD 1) (PR Y D σ np b0 [.ref (σ k0), .int p0, .int p1, .int p2] M N) (QR Y D σ np b0 none r N) 0 0 (xA b0) := by
  refine x_met (by decide) (Nat.le_of_ble_eq_true rfl) (fun p e s m args below meth c hE hr => ?_)
  unfold fX11_putThree at hf
  refine x_pick [0, 1, 2, 3] (L' := [(0, .ref (σ k0)), (1, .int p0), (2, .int p1), (3, .int p2)]) rfl ?_
  refine x_aload_n hE 0 dX11_putThree_0 rfl rfl ?_
  refine x_alen hE (nI 3) (hE.kd hk0) (Or.inl rfl) rfl dX11_putThree_1 ?_
  refine x_iconst hE (nI 3) dX11_putThree_2 (by decide) ?_
  refine x_icmp_ge hE 7 dX11_putThree_3 (by decide) hf (fun hf => ?_) (fun hf => ?_)
  · refine x_aload_n hE 0 dX11_putThree_7 rfl rfl ?_
    refine x_iconst hE (0 : Int32) dX11_putThree_8 (by decide) ?_
    refine x_iload_n hE 1 dX11_putThree_9 rfl rfl ?_
    refine x_iast hE (hE.kd hk0) dX11_putThree_10 hf (fun M1 hf => ?_)
    refine x_aload_n hE 0 dX11_putThree_11 rfl rfl ?_
    refine x_iconst hE (nI 1) dX11_putThree_12 (by decide) ?_
    refine x_iload_n hE 2 dX11_putThree_13 rfl rfl ?_
    refine x_iast hE (hE.kd hk0) dX11_putThree_14 hf (fun M2 hf => ?_)
    refine x_aload_n hE 0 dX11_putThree_15 rfl rfl ?_
    refine x_iconst hE (nI 2) dX11_putThree_16 (by decide) ?_
    refine x_iload_n hE 3 dX11_putThree_17 rfl rfl ?_
    refine x_iast hE (hE.kd hk0) dX11_putThree_18 hf (fun M3 hf => ?_)
    replace hf := Option.some.inj hf
    subst hf
    exact x_vreturn hE hr dX11_putThree_19
  · replace hf := Option.some.inj hf
    subst hf
    exact x_vreturn hE hr dX11_putThree_6
theorem yokX11_putThree : YOK yX11_putThree cX11_putThree 4 4 none := ⟨mem_g 1876 (by decide +kernel) (by decide +kernel), mem_g 131 (by decide +kernel) (by decide +kernel), by decide +kernel, by decide +kernel, by decide +kernel⟩
theorem ysX11_putThree : Cond.static yX11_putThree ∈ lw_g := mem_g 1875 (by decide +kernel) (by decide +kernel)
theorem lk_X11_415 : Cond.methodLink RX11 415 yX11_isPrice ∈ lw_g := mem_g 1871 (by decide +kernel) (by decide +kernel)
theorem lk_X11_63 : Cond.fieldLink RX11 63 (TX11 13).1 (TX11 13).2.1 (TX11 13).2.2.1 ∈ lw_g := mem_g 572 (by decide +kernel) (by decide +kernel)
theorem lk_X11_418 : Cond.methodLink RX11 418 yX11_putThree ∈ lw_g := mem_g 1874 (by decide +kernel) (by decide +kernel)
theorem lk_X11_422 : Cond.fieldLink RX11 422 (TX11 14).1 (TX11 14).2.1 (TX11 14).2.2.1 ∈ lw_g := mem_g 573 (by decide +kernel) (by decide +kernel)
theorem dX11_prices_0 : decode cX11_prices 0 = .ok (.iload_n 1, 1) := by decide +kernel
theorem dX11_prices_1 : decode cX11_prices 1 = .ok (.invokestatic 415, 3) := by decide +kernel
theorem dX11_prices_4 : decode cX11_prices 4 = .ok (.ifCond .eq 21, 3) := by decide +kernel
theorem dX11_prices_7 : decode cX11_prices 7 = .ok (.iload_n 2, 1) := by decide +kernel
theorem dX11_prices_8 : decode cX11_prices 8 = .ok (.invokestatic 415, 3) := by decide +kernel
theorem dX11_prices_11 : decode cX11_prices 11 = .ok (.ifCond .eq 14, 3) := by decide +kernel
theorem dX11_prices_14 : decode cX11_prices 14 = .ok (.iload_n 3, 1) := by decide +kernel
theorem dX11_prices_15 : decode cX11_prices 15 = .ok (.invokestatic 415, 3) := by decide +kernel
theorem dX11_prices_18 : decode cX11_prices 18 = .ok (.ifCond .eq 7, 3) := by decide +kernel
theorem dX11_prices_21 : decode cX11_prices 21 = .ok (.iconst 1, 1) := by decide +kernel
theorem dX11_prices_22 : decode cX11_prices 22 = .ok (.goto 4, 3) := by decide +kernel
theorem dX11_prices_25 : decode cX11_prices 25 = .ok (.iconst 0, 1) := by decide +kernel
theorem dX11_prices_26 : decode cX11_prices 26 = .ok (.invokestatic 76, 3) := by decide +kernel
theorem dX11_prices_29 : decode cX11_prices 29 = .ok (.aload_n 0, 1) := by decide +kernel
theorem dX11_prices_30 : decode cX11_prices 30 = .ok (.getfield 63, 3) := by decide +kernel
theorem dX11_prices_33 : decode cX11_prices 33 = .ok (.iload_n 1, 1) := by decide +kernel
theorem dX11_prices_34 : decode cX11_prices 34 = .ok (.iload_n 2, 1) := by decide +kernel
theorem dX11_prices_35 : decode cX11_prices 35 = .ok (.iload_n 3, 1) := by decide +kernel
theorem dX11_prices_36 : decode cX11_prices 36 = .ok (.invokestatic 418, 3) := by decide +kernel
theorem dX11_prices_39 : decode cX11_prices 39 = .ok (.aload_n 0, 1) := by decide +kernel
theorem dX11_prices_40 : decode cX11_prices 40 = .ok (.iconst 1, 1) := by decide +kernel
theorem dX11_prices_41 : decode cX11_prices 41 = .ok (.putfield 422, 3) := by decide +kernel
theorem dX11_prices_44 : decode cX11_prices 44 = .ok (.return_, 1) := by decide +kernel
theorem wX11_prices_J26 {p : Program} {l : Launch} {e : Env} {s : State} {m : MethodId} {args : Array Value} {below : List Frame} {meth : Method} {c : Code} {Y : Nat → ClassId} {D : va_G} {σ : Nat → Nat} {np b0 : Nat} {r : Nat ⊕ (Mc)} {M : Mc} {N : Md} {X1 : Int32} {X2 : Int32} {X3 : Int32} {Z0 : Int32} (hE : EOK p s m args meth c cX11_prices 4 RX11 Y D σ np b0) (hr : meth.sig.returnType = none) (hT : ∀ x ∈ c.exceptionTable.toList, False) (hfl : l.stackTraces = false) (hf : fX11_prices_J26 M X1 X2 X3 Z0 = some r) : Xw p l e (rmX 7 1) s m args below meth c 4 Y D σ np b0 0 (6 * 0) (vx_MQ below (QX (fun r : Mc => QR Y D σ np b0 none r N) r) (XX Y D σ np b0 M N r) args s 1 (6 * 1) (xA b0)) 26 [(0, .ref (σ 0)), (1, .int X1), (2, .int X2), (3, .int X3)] [.int Z0] M N := by
  unfold fX11_prices_J26 at hf
  obtain ⟨y7, hc8, hy9⟩ := bnx_some hf
  refine x_callXS hE hT [.int Z0] (rest := []) rfl yokX11_needThat ysX11_needThat lk_X11_76 ⟨Nat.le_of_ble_eq_true rfl, Nat.le_of_ble_eq_true rfl⟩ (by decide) rfl (Nat.le_of_ble_eq_true rfl) dX11_prices_26 (mX11_needThat l hfl hc8) ⟨rfl, rfl⟩ (by decide) (by decide) (hy9.imp id (fun ⟨_, ha10, hf⟩ => ⟨_, none, M, N, ha10, rfl, ?_⟩))
  refine x_aload_n hE 0 dX11_prices_29 rfl rfl ?_
  refine x_getR hE cl_11 (hE.kd kO_11) (by decide) 13 (124) rfl (by decide) lk_X11_63 dX11_prices_30 ?_
  refine x_iload_n hE 1 dX11_prices_33 rfl rfl ?_
  refine x_iload_n hE 2 dX11_prices_34 rfl rfl ?_
  refine x_iload_n hE 3 dX11_prices_35 rfl rfl ?_
  obtain ⟨M12, hc11, hf⟩ := bnd_some hf
  refine x_callS0 hE [.ref (σ (124)), .int X1, .int X2, .int X3] (rest := []) (c1 := M12) (d1 := N) rfl yokX11_putThree ysX11_putThree lk_X11_418 rfl rfl ⟨Nat.le_of_ble_eq_true rfl, Nat.le_of_ble_eq_true rfl⟩ (by decide) rfl (Nat.le_of_ble_eq_true rfl) dX11_prices_36 (mX11_putThree l kA_124 hc11) ?_
  refine x_aload_n hE 0 dX11_prices_39 rfl rfl ?_
  refine x_iconst hE (nI 1) dX11_prices_40 (by decide) ?_
  refine x_putI hE cl_11 (hE.kd kO_11) (by decide) 14 rfl (by decide) lk_X11_422 rfl rfl rfl rfl dX11_prices_41 hf (fun M13 hf => ?_)
  refine x_xin (by decide) (by decide) hf ?_
  exact x_vreturn hE hr dX11_prices_44
theorem wX11_prices_J25 {p : Program} {l : Launch} {e : Env} {s : State} {m : MethodId} {args : Array Value} {below : List Frame} {meth : Method} {c : Code} {Y : Nat → ClassId} {D : va_G} {σ : Nat → Nat} {np b0 : Nat} {r : Nat ⊕ (Mc)} {M : Mc} {N : Md} {X1 : Int32} {X2 : Int32} {X3 : Int32} (hE : EOK p s m args meth c cX11_prices 4 RX11 Y D σ np b0) (hr : meth.sig.returnType = none) (hT : ∀ x ∈ c.exceptionTable.toList, False) (hfl : l.stackTraces = false) (hf : fX11_prices_J25 M X1 X2 X3 = some r) : Xw p l e (rmX 7 1) s m args below meth c 4 Y D σ np b0 0 (6 * 0) (vx_MQ below (QX (fun r : Mc => QR Y D σ np b0 none r N) r) (XX Y D σ np b0 M N r) args s 1 (6 * 1) (xA b0)) 25 [(0, .ref (σ 0)), (1, .int X1), (2, .int X2), (3, .int X3)] [] M N := by
  unfold fX11_prices_J25 at hf
  refine x_iconst hE (0 : Int32) dX11_prices_25 (by decide) ?_
  exact wX11_prices_J26 hE hr hT hfl hf
theorem mX11_prices (l : Launch) (hfl : l.stackTraces = false) {Y : Nat → ClassId} {D : va_G} {σ : Nat → Nat} {np b0 : Nat} {M : Mc} {N : Md} {p0 : Int32} {p1 : Int32} {p2 : Int32} {r : Nat ⊕ (Mc)} (hf : fX11_prices M p0 p1 p2 = some r) : vx_Met l yX11_prices (.code yX11_prices cX11_prices 4 none :: lw_g) (rmX 7 1) (PR Y D σ np b0 [.ref (σ 0), .int p0, .int p1, .int p2] M N) (QX (fun r : Mc => QR Y D σ np b0 none r N) r) (XX Y D σ np b0 M N r) 1 (6 * 1) (xA b0) := by
  refine x_vmet (by decide) (Nat.le_of_ble_eq_true rfl) (fun p e s m args below meth c hE hr hT => ?_)
  unfold fX11_prices at hf
  refine x_pick [0, 1, 2, 3] (L' := [(0, .ref (σ 0)), (1, .int p0), (2, .int p1), (3, .int p2)]) rfl ?_
  refine x_iload_n hE 1 dX11_prices_0 rfl rfl ?_
  obtain ⟨v2, hc1, hf⟩ := bnd_some hf
  refine x_callS1 hE [.int p0] (rest := []) (v := .int v2) (c1 := M) (d1 := N) rfl yokX11_isPrice ysX11_isPrice lk_X11_415 rfl rfl ⟨Nat.le_of_ble_eq_true rfl, Nat.le_of_ble_eq_true rfl⟩ (by decide) rfl (Nat.le_of_ble_eq_true rfl) dX11_prices_1 (mX11_isPrice l hc1) ?_
  refine x_if_eq hE 25 dX11_prices_4 (by decide) hf (fun hf => ?_) (fun hf => ?_)
  · exact wX11_prices_J25 hE hr hT hfl hf
  · refine x_iload_n hE 2 dX11_prices_7 rfl rfl ?_
    obtain ⟨v4, hc3, hf⟩ := bnd_some hf
    refine x_callS1 hE [.int p1] (rest := []) (v := .int v4) (c1 := M) (d1 := N) rfl yokX11_isPrice ysX11_isPrice lk_X11_415 rfl rfl ⟨Nat.le_of_ble_eq_true rfl, Nat.le_of_ble_eq_true rfl⟩ (by decide) rfl (Nat.le_of_ble_eq_true rfl) dX11_prices_8 (mX11_isPrice l hc3) ?_
    refine x_if_eq hE 25 dX11_prices_11 (by decide) hf (fun hf => ?_) (fun hf => ?_)
    · exact wX11_prices_J25 hE hr hT hfl hf
    · refine x_iload_n hE 3 dX11_prices_14 rfl rfl ?_
      obtain ⟨v6, hc5, hf⟩ := bnd_some hf
      refine x_callS1 hE [.int p2] (rest := []) (v := .int v6) (c1 := M) (d1 := N) rfl yokX11_isPrice ysX11_isPrice lk_X11_415 rfl rfl ⟨Nat.le_of_ble_eq_true rfl, Nat.le_of_ble_eq_true rfl⟩ (by decide) rfl (Nat.le_of_ble_eq_true rfl) dX11_prices_15 (mX11_isPrice l hc5) ?_
      refine x_if_eq hE 25 dX11_prices_18 (by decide) hf (fun hf => ?_) (fun hf => ?_)
      · exact wX11_prices_J25 hE hr hT hfl hf
      · refine x_iconst hE (nI 1) dX11_prices_21 (by decide) ?_
        refine x_goto hE 26 dX11_prices_22 (by decide) ?_
        exact wX11_prices_J26 hE hr hT hfl hf
theorem yokX11_prices : YOK yX11_prices cX11_prices 4 3 none := ⟨mem_g 1870 (by decide +kernel) (by decide +kernel), mem_g 131 (by decide +kernel) (by decide +kernel), by decide +kernel, by decide +kernel, by decide +kernel⟩
theorem yvX11_prices : YV yX11_prices := ⟨mem_g 1868 (by decide +kernel) (by decide +kernel), mem_g 1869 (by decide +kernel) (by decide +kernel)⟩
theorem dX11_isRain_0 : decode cX11_isRain 0 = .ok (.iload_n 0, 1) := by decide +kernel
theorem dX11_isRain_1 : decode cX11_isRain 1 = .ok (.ifCond .lt 14, 3) := by decide +kernel
theorem dX11_isRain_4 : decode cX11_isRain 4 = .ok (.iload_n 0, 1) := by decide +kernel
theorem dX11_isRain_5 : decode cX11_isRain 5 = .ok (.sipush 500, 3) := by decide +kernel
theorem dX11_isRain_8 : decode cX11_isRain 8 = .ok (.if_icmp .gt 7, 3) := by decide +kernel
theorem dX11_isRain_11 : decode cX11_isRain 11 = .ok (.iconst 1, 1) := by decide +kernel
theorem dX11_isRain_12 : decode cX11_isRain 12 = .ok (.goto 4, 3) := by decide +kernel
theorem dX11_isRain_15 : decode cX11_isRain 15 = .ok (.iconst 0, 1) := by decide +kernel
theorem dX11_isRain_16 : decode cX11_isRain 16 = .ok (.ireturn, 1) := by decide +kernel
theorem mX11_isRain (l : Launch) {Y : Nat → ClassId} {D : va_G} {σ : Nat → Nat} {np b0 : Nat} {M : Mc} {N : Md} {p0 : Int32} {r : Int32} (hf : fX11_isRain p0 = some r) : Met l yX11_isRain (.code yX11_isRain cX11_isRain 1 (some .boolean) :: lw_g) (rmD 1) (PR Y D σ np b0 [.int p0] M N) (QR Y D σ np b0 (some (.int r)) M N) 0 0 (xA b0) := by
  refine x_met (by decide) (Nat.le_of_ble_eq_true rfl) (fun p e s m args below meth c hE hr => ?_)
  unfold fX11_isRain at hf
  refine x_pick [0] (L' := [(0, .int p0)]) rfl ?_
  refine x_iload_n hE 0 dX11_isRain_0 rfl rfl ?_
  refine x_if_lt hE 15 dX11_isRain_1 (by decide) hf (fun hf => ?_) (fun hf => ?_)
  · refine x_iconst hE (0 : Int32) dX11_isRain_15 (by decide) ?_
    replace hf := Option.some.inj hf
    subst hf
    exact x_ireturn hE (v := 0) hr rfl dX11_isRain_16
  · refine x_iload_n hE 0 dX11_isRain_4 rfl rfl ?_
    refine x_sipush hE (nI 500) dX11_isRain_5 (by decide) ?_
    refine x_icmp_gt hE 15 dX11_isRain_8 (by decide) hf (fun hf => ?_) (fun hf => ?_)
    · refine x_iconst hE (0 : Int32) dX11_isRain_15 (by decide) ?_
      replace hf := Option.some.inj hf
      subst hf
      exact x_ireturn hE (v := 0) hr rfl dX11_isRain_16
    · refine x_iconst hE (nI 1) dX11_isRain_11 (by decide) ?_
      refine x_goto hE 16 dX11_isRain_12 (by decide) ?_
      replace hf := Option.some.inj hf
      subst hf
      exact x_ireturn hE (v := nI 1) hr rfl dX11_isRain_16
theorem yokX11_isRain : YOK yX11_isRain cX11_isRain 1 1 (some .boolean) := ⟨mem_g 1886 (by decide +kernel) (by decide +kernel), mem_g 131 (by decide +kernel) (by decide +kernel), by decide +kernel, by decide +kernel, by decide +kernel⟩
theorem ysX11_isRain : Cond.static yX11_isRain ∈ lw_g := mem_g 1885 (by decide +kernel) (by decide +kernel)
theorem lk_X11_426 : Cond.methodLink RX11 426 yX11_isRain ∈ lw_g := mem_g 1884 (by decide +kernel) (by decide +kernel)
theorem lk_X11_66 : Cond.fieldLink RX11 66 (TX11 15).1 (TX11 15).2.1 (TX11 15).2.2.1 ∈ lw_g := mem_g 574 (by decide +kernel) (by decide +kernel)
theorem lk_X11_429 : Cond.fieldLink RX11 429 (TX11 16).1 (TX11 16).2.1 (TX11 16).2.2.1 ∈ lw_g := mem_g 575 (by decide +kernel) (by decide +kernel)
theorem dX11_worst_0 : decode cX11_worst 0 = .ok (.iload_n 1, 1) := by decide +kernel
theorem dX11_worst_1 : decode cX11_worst 1 = .ok (.iconst 1, 1) := by decide +kernel
theorem dX11_worst_2 : decode cX11_worst 2 = .ok (.if_icmp .lt 34, 3) := by decide +kernel
theorem dX11_worst_5 : decode cX11_worst 5 = .ok (.iload_n 1, 1) := by decide +kernel
theorem dX11_worst_6 : decode cX11_worst 6 = .ok (.iconst 3, 1) := by decide +kernel
theorem dX11_worst_7 : decode cX11_worst 7 = .ok (.if_icmp .gt 29, 3) := by decide +kernel
theorem dX11_worst_10 : decode cX11_worst 10 = .ok (.iload_n 2, 1) := by decide +kernel
theorem dX11_worst_11 : decode cX11_worst 11 = .ok (.invokestatic 426, 3) := by decide +kernel
theorem dX11_worst_14 : decode cX11_worst 14 = .ok (.ifCond .eq 22, 3) := by decide +kernel
theorem dX11_worst_17 : decode cX11_worst 17 = .ok (.iload_n 3, 1) := by decide +kernel
theorem dX11_worst_18 : decode cX11_worst 18 = .ok (.invokestatic 426, 3) := by decide +kernel
theorem dX11_worst_21 : decode cX11_worst 21 = .ok (.ifCond .eq 15, 3) := by decide +kernel
theorem dX11_worst_24 : decode cX11_worst 24 = .ok (.iload 4, 2) := by decide +kernel
theorem dX11_worst_26 : decode cX11_worst 26 = .ok (.invokestatic 426, 3) := by decide +kernel
theorem dX11_worst_29 : decode cX11_worst 29 = .ok (.ifCond .eq 7, 3) := by decide +kernel
theorem dX11_worst_32 : decode cX11_worst 32 = .ok (.iconst 1, 1) := by decide +kernel
theorem dX11_worst_33 : decode cX11_worst 33 = .ok (.goto 4, 3) := by decide +kernel
theorem dX11_worst_36 : decode cX11_worst 36 = .ok (.iconst 0, 1) := by decide +kernel
theorem dX11_worst_37 : decode cX11_worst 37 = .ok (.invokestatic 76, 3) := by decide +kernel
theorem dX11_worst_40 : decode cX11_worst 40 = .ok (.aload_n 0, 1) := by decide +kernel
theorem dX11_worst_41 : decode cX11_worst 41 = .ok (.getfield 66, 3) := by decide +kernel
theorem dX11_worst_44 : decode cX11_worst 44 = .ok (.iload_n 2, 1) := by decide +kernel
theorem dX11_worst_45 : decode cX11_worst 45 = .ok (.iload_n 3, 1) := by decide +kernel
theorem dX11_worst_46 : decode cX11_worst 46 = .ok (.iload 4, 2) := by decide +kernel
theorem dX11_worst_48 : decode cX11_worst 48 = .ok (.invokestatic 418, 3) := by decide +kernel
theorem dX11_worst_51 : decode cX11_worst 51 = .ok (.aload_n 0, 1) := by decide +kernel
theorem dX11_worst_52 : decode cX11_worst 52 = .ok (.iload_n 1, 1) := by decide +kernel
theorem dX11_worst_53 : decode cX11_worst 53 = .ok (.putfield 429, 3) := by decide +kernel
theorem dX11_worst_56 : decode cX11_worst 56 = .ok (.return_, 1) := by decide +kernel
theorem wX11_worst_J37 {p : Program} {l : Launch} {e : Env} {s : State} {m : MethodId} {args : Array Value} {below : List Frame} {meth : Method} {c : Code} {Y : Nat → ClassId} {D : va_G} {σ : Nat → Nat} {np b0 : Nat} {r : Nat ⊕ (Mc)} {M : Mc} {N : Md} {X1 : Int32} {X2 : Int32} {X3 : Int32} {X4 : Int32} {Z0 : Int32} (hE : EOK p s m args meth c cX11_worst 5 RX11 Y D σ np b0) (hr : meth.sig.returnType = none) (hT : ∀ x ∈ c.exceptionTable.toList, False) (hfl : l.stackTraces = false) (hf : fX11_worst_J37 M X1 X2 X3 X4 Z0 = some r) : Xw p l e (rmX 7 1) s m args below meth c 5 Y D σ np b0 0 (6 * 0) (vx_MQ below (QX (fun r : Mc => QR Y D σ np b0 none r N) r) (XX Y D σ np b0 M N r) args s 1 (6 * 1) (xA b0)) 37 [(0, .ref (σ 0)), (1, .int X1), (2, .int X2), (3, .int X3), (4, .int X4)] [.int Z0] M N := by
  unfold fX11_worst_J37 at hf
  obtain ⟨y7, hc8, hy9⟩ := bnx_some hf
  refine x_callXS hE hT [.int Z0] (rest := []) rfl yokX11_needThat ysX11_needThat lk_X11_76 ⟨Nat.le_of_ble_eq_true rfl, Nat.le_of_ble_eq_true rfl⟩ (by decide) rfl (Nat.le_of_ble_eq_true rfl) dX11_worst_37 (mX11_needThat l hfl hc8) ⟨rfl, rfl⟩ (by decide) (by decide) (hy9.imp id (fun ⟨_, ha10, hf⟩ => ⟨_, none, M, N, ha10, rfl, ?_⟩))
  refine x_aload_n hE 0 dX11_worst_40 rfl rfl ?_
  refine x_getR hE cl_11 (hE.kd kO_11) (by decide) 15 (125) rfl (by decide) lk_X11_66 dX11_worst_41 ?_
  refine x_iload_n hE 2 dX11_worst_44 rfl rfl ?_
  refine x_iload_n hE 3 dX11_worst_45 rfl rfl ?_
  refine x_iload hE 4 dX11_worst_46 rfl ?_
  obtain ⟨M12, hc11, hf⟩ := bnd_some hf
  refine x_callS0 hE [.ref (σ (125)), .int X2, .int X3, .int X4] (rest := []) (c1 := M12) (d1 := N) rfl yokX11_putThree ysX11_putThree lk_X11_418 rfl rfl ⟨Nat.le_of_ble_eq_true rfl, Nat.le_of_ble_eq_true rfl⟩ (by decide) rfl (Nat.le_of_ble_eq_true rfl) dX11_worst_48 (mX11_putThree l kA_125 hc11) ?_
  refine x_aload_n hE 0 dX11_worst_51 rfl rfl ?_
  refine x_iload_n hE 1 dX11_worst_52 rfl rfl ?_
  refine x_putI hE cl_11 (hE.kd kO_11) (by decide) 16 rfl (by decide) lk_X11_429 rfl rfl rfl rfl dX11_worst_53 hf (fun M13 hf => ?_)
  refine x_xin (by decide) (by decide) hf ?_
  exact x_vreturn hE hr dX11_worst_56
theorem wX11_worst_J36 {p : Program} {l : Launch} {e : Env} {s : State} {m : MethodId} {args : Array Value} {below : List Frame} {meth : Method} {c : Code} {Y : Nat → ClassId} {D : va_G} {σ : Nat → Nat} {np b0 : Nat} {r : Nat ⊕ (Mc)} {M : Mc} {N : Md} {X1 : Int32} {X2 : Int32} {X3 : Int32} {X4 : Int32} (hE : EOK p s m args meth c cX11_worst 5 RX11 Y D σ np b0) (hr : meth.sig.returnType = none) (hT : ∀ x ∈ c.exceptionTable.toList, False) (hfl : l.stackTraces = false) (hf : fX11_worst_J36 M X1 X2 X3 X4 = some r) : Xw p l e (rmX 7 1) s m args below meth c 5 Y D σ np b0 0 (6 * 0) (vx_MQ below (QX (fun r : Mc => QR Y D σ np b0 none r N) r) (XX Y D σ np b0 M N r) args s 1 (6 * 1) (xA b0)) 36 [(0, .ref (σ 0)), (1, .int X1), (2, .int X2), (3, .int X3), (4, .int X4)] [] M N := by
  unfold fX11_worst_J36 at hf
  refine x_iconst hE (0 : Int32) dX11_worst_36 (by decide) ?_
  exact wX11_worst_J37 hE hr hT hfl hf
theorem mX11_worst (l : Launch) (hfl : l.stackTraces = false) {Y : Nat → ClassId} {D : va_G} {σ : Nat → Nat} {np b0 : Nat} {M : Mc} {N : Md} {p0 : Int32} {p1 : Int32} {p2 : Int32} {p3 : Int32} {r : Nat ⊕ (Mc)} (hf : fX11_worst M p0 p1 p2 p3 = some r) : vx_Met l yX11_worst (.code yX11_worst cX11_worst 5 none :: lw_g) (rmX 7 1) (PR Y D σ np b0 [.ref (σ 0), .int p0, .int p1, .int p2, .int p3] M N) (QX (fun r : Mc => QR Y D σ np b0 none r N) r) (XX Y D σ np b0 M N r) 1 (6 * 1) (xA b0) := by
  refine x_vmet (by decide) (Nat.le_of_ble_eq_true rfl) (fun p e s m args below meth c hE hr hT => ?_)
  unfold fX11_worst at hf
  refine x_pick [0, 1, 2, 3, 4] (L' := [(0, .ref (σ 0)), (1, .int p0), (2, .int p1), (3, .int p2), (4, .int p3)]) rfl ?_
  refine x_iload_n hE 1 dX11_worst_0 rfl rfl ?_
  refine x_iconst hE (nI 1) dX11_worst_1 (by decide) ?_
  refine x_icmp_lt hE 36 dX11_worst_2 (by decide) hf (fun hf => ?_) (fun hf => ?_)
  · exact wX11_worst_J36 hE hr hT hfl hf
  · refine x_iload_n hE 1 dX11_worst_5 rfl rfl ?_
    refine x_iconst hE (nI 3) dX11_worst_6 (by decide) ?_
    refine x_icmp_gt hE 36 dX11_worst_7 (by decide) hf (fun hf => ?_) (fun hf => ?_)
    · exact wX11_worst_J36 hE hr hT hfl hf
    · refine x_iload_n hE 2 dX11_worst_10 rfl rfl ?_
      obtain ⟨v2, hc1, hf⟩ := bnd_some hf
      refine x_callS1 hE [.int p1] (rest := []) (v := .int v2) (c1 := M) (d1 := N) rfl yokX11_isRain ysX11_isRain lk_X11_426 rfl rfl ⟨Nat.le_of_ble_eq_true rfl, Nat.le_of_ble_eq_true rfl⟩ (by decide) rfl (Nat.le_of_ble_eq_true rfl) dX11_worst_11 (mX11_isRain l hc1) ?_
      refine x_if_eq hE 36 dX11_worst_14 (by decide) hf (fun hf => ?_) (fun hf => ?_)
      · exact wX11_worst_J36 hE hr hT hfl hf
      · refine x_iload_n hE 3 dX11_worst_17 rfl rfl ?_
        obtain ⟨v4, hc3, hf⟩ := bnd_some hf
        refine x_callS1 hE [.int p2] (rest := []) (v := .int v4) (c1 := M) (d1 := N) rfl yokX11_isRain ysX11_isRain lk_X11_426 rfl rfl ⟨Nat.le_of_ble_eq_true rfl, Nat.le_of_ble_eq_true rfl⟩ (by decide) rfl (Nat.le_of_ble_eq_true rfl) dX11_worst_18 (mX11_isRain l hc3) ?_
        refine x_if_eq hE 36 dX11_worst_21 (by decide) hf (fun hf => ?_) (fun hf => ?_)
        · exact wX11_worst_J36 hE hr hT hfl hf
        · refine x_iload hE 4 dX11_worst_24 rfl ?_
          obtain ⟨v6, hc5, hf⟩ := bnd_some hf
          refine x_callS1 hE [.int p3] (rest := []) (v := .int v6) (c1 := M) (d1 := N) rfl yokX11_isRain ysX11_isRain lk_X11_426 rfl rfl ⟨Nat.le_of_ble_eq_true rfl, Nat.le_of_ble_eq_true rfl⟩ (by decide) rfl (Nat.le_of_ble_eq_true rfl) dX11_worst_26 (mX11_isRain l hc5) ?_
          refine x_if_eq hE 36 dX11_worst_29 (by decide) hf (fun hf => ?_) (fun hf => ?_)
          · exact wX11_worst_J36 hE hr hT hfl hf
          · refine x_iconst hE (nI 1) dX11_worst_32 (by decide) ?_
            refine x_goto hE 37 dX11_worst_33 (by decide) ?_
            exact wX11_worst_J37 hE hr hT hfl hf
theorem yokX11_worst : YOK yX11_worst cX11_worst 5 4 none := ⟨mem_g 1883 (by decide +kernel) (by decide +kernel), mem_g 131 (by decide +kernel) (by decide +kernel), by decide +kernel, by decide +kernel, by decide +kernel⟩
theorem yvX11_worst : YV yX11_worst := ⟨mem_g 1881 (by decide +kernel) (by decide +kernel), mem_g 1882 (by decide +kernel) (by decide +kernel)⟩
theorem dX11_planPriceOf_0 : decode cX11_planPriceOf 0 = .ok (.iload_n 1, 1) := by decide +kernel
theorem dX11_planPriceOf_1 : decode cX11_planPriceOf 1 = .ok (.aload_n 0, 1) := by decide +kernel
theorem dX11_planPriceOf_2 : decode cX11_planPriceOf 2 = .ok (.getfield 63, 3) := by decide +kernel
theorem dX11_planPriceOf_5 : decode cX11_planPriceOf 5 = .ok (.arraylength, 1) := by decide +kernel
theorem dX11_planPriceOf_6 : decode cX11_planPriceOf 6 = .ok (.invokestatic 191, 3) := by decide +kernel
theorem dX11_planPriceOf_9 : decode cX11_planPriceOf 9 = .ok (.ifCond .eq 12, 3) := by decide +kernel
theorem dX11_planPriceOf_12 : decode cX11_planPriceOf 12 = .ok (.aload_n 0, 1) := by decide +kernel
theorem dX11_planPriceOf_13 : decode cX11_planPriceOf 13 = .ok (.getfield 63, 3) := by decide +kernel
theorem dX11_planPriceOf_16 : decode cX11_planPriceOf 16 = .ok (.iload_n 1, 1) := by decide +kernel
theorem dX11_planPriceOf_17 : decode cX11_planPriceOf 17 = .ok (.iaload, 1) := by decide +kernel
theorem dX11_planPriceOf_18 : decode cX11_planPriceOf 18 = .ok (.goto 4, 3) := by decide +kernel
theorem dX11_planPriceOf_21 : decode cX11_planPriceOf 21 = .ok (.iconst 0, 1) := by decide +kernel
theorem dX11_planPriceOf_22 : decode cX11_planPriceOf 22 = .ok (.ireturn, 1) := by decide +kernel
theorem mX11_planPriceOf (l : Launch) {Y : Nat → ClassId} {D : va_G} {σ : Nat → Nat} {np b0 : Nat} {M : Mc} {N : Md} {p0 : Int32} {r : Int32} (hf : fX11_planPriceOf M p0 = some r) : Met l yX11_planPriceOf (.code yX11_planPriceOf cX11_planPriceOf 2 (some .int) :: lw_g) (rmD 2) (PR Y D σ np b0 [.ref (σ 0), .int p0] M N) (QR Y D σ np b0 (some (.int r)) M N) 0 0 (xA b0) := by
  refine x_met (by decide) (Nat.le_of_ble_eq_true rfl) (fun p e s m args below meth c hE hr => ?_)
  unfold fX11_planPriceOf at hf
  refine x_pick [0, 1] (L' := [(0, .ref (σ 0)), (1, .int p0)]) rfl ?_
  refine x_iload_n hE 1 dX11_planPriceOf_0 rfl rfl ?_
  refine x_aload_n hE 0 dX11_planPriceOf_1 rfl rfl ?_
  refine x_getR hE cl_11 (hE.kd kO_11) (by decide) 13 (124) rfl (by decide) lk_X11_63 dX11_planPriceOf_2 ?_
  refine x_alen hE (nI 3) (hE.kd kA_124) (Or.inl rfl) rfl dX11_planPriceOf_5 ?_
  obtain ⟨v2, hc1, hf⟩ := bnd_some hf
  refine x_callS1 hE [.int p0, .int (nI 3)] (rest := []) (v := .int v2) (c1 := M) (d1 := N) rfl yokX11_inside ysX11_inside lk_X11_191 rfl rfl ⟨Nat.le_of_ble_eq_true rfl, Nat.le_of_ble_eq_true rfl⟩ ⟨Nat.zero_le _, Nat.zero_le _⟩ rfl (Nat.le_of_ble_eq_true rfl) dX11_planPriceOf_6 (mX11_inside l hc1) ?_
  refine x_if_eq hE 21 dX11_planPriceOf_9 (by decide) hf (fun hf => ?_) (fun hf => ?_)
  · refine x_iconst hE (0 : Int32) dX11_planPriceOf_21 (by decide) ?_
    replace hf := Option.some.inj hf
    subst hf
    exact x_ireturn hE (v := 0) hr rfl dX11_planPriceOf_22
  · refine x_aload_n hE 0 dX11_planPriceOf_12 rfl rfl ?_
    refine x_getR hE cl_11 (hE.kd kO_11) (by decide) 13 (124) rfl (by decide) lk_X11_63 dX11_planPriceOf_13 ?_
    refine x_iload_n hE 1 dX11_planPriceOf_16 rfl rfl ?_
    refine x_iald hE (hE.kd kA_124) dX11_planPriceOf_17 hf (fun hf => ?_)
    refine x_goto hE 22 dX11_planPriceOf_18 (by decide) ?_
    replace hf := Option.some.inj hf
    subst hf
    exact x_ireturn hE (v := M (124) p0.toNatClampNeg) hr rfl dX11_planPriceOf_22
theorem yokX11_planPriceOf : YOK yX11_planPriceOf cX11_planPriceOf 2 1 (some .int) := ⟨mem_g 1901 (by decide +kernel) (by decide +kernel), mem_g 131 (by decide +kernel) (by decide +kernel), by decide +kernel, by decide +kernel, by decide +kernel⟩
theorem yvX11_planPriceOf : YV yX11_planPriceOf := ⟨mem_g 1900 (by decide +kernel) (by decide +kernel), mem_g 54 (by decide +kernel) (by decide +kernel)⟩
theorem lk_X11_471 : Cond.fieldLink RX11 471 (TX10 12).1 (TX10 12).2.1 (TX10 12).2.2.1 ∈ lw_g := mem_g 433 (by decide +kernel) (by decide +kernel)
theorem lk_X11_69 : Cond.fieldLink RX11 69 (TX11 17).1 (TX11 17).2.1 (TX11 17).2.2.1 ∈ lw_g := mem_g 576 (by decide +kernel) (by decide +kernel)
theorem lk_X11_477 : Cond.methodLink RX11 477 Lib.Math.max.name ∈ lw_g := mem_g 1902 (by decide +kernel) (by decide +kernel)
theorem lk_X11_482 : Cond.methodLink RX11 482 Lib.Math.min.name ∈ lw_g := mem_g 1903 (by decide +kernel) (by decide +kernel)
theorem lk_X11_474 : Cond.methodLink RX11 474 yX11_planPriceOf ∈ lw_g := mem_g 1898 (by decide +kernel) (by decide +kernel)
theorem dX11_tryRow_0 : decode cX11_tryRow 0 = .ok (.iload_n 1, 1) := by decide +kernel
theorem dX11_tryRow_1 : decode cX11_tryRow 1 = .ok (.iconst 2, 1) := by decide +kernel
theorem dX11_tryRow_2 : decode cX11_tryRow 2 = .ok (.if_icmp .ne 9, 3) := by decide +kernel
theorem dX11_tryRow_5 : decode cX11_tryRow 5 = .ok (.iload_n 2, 1) := by decide +kernel
theorem dX11_tryRow_6 : decode cX11_tryRow 6 = .ok (.iconst 3, 1) := by decide +kernel
theorem dX11_tryRow_7 : decode cX11_tryRow 7 = .ok (.idiv, 1) := by decide +kernel
theorem dX11_tryRow_8 : decode cX11_tryRow 8 = .ok (.goto 4, 3) := by decide +kernel
theorem dX11_tryRow_11 : decode cX11_tryRow 11 = .ok (.iload_n 2, 1) := by decide +kernel
theorem dX11_tryRow_12 : decode cX11_tryRow 12 = .ok (.istore_n 3, 1) := by decide +kernel
theorem dX11_tryRow_13 : decode cX11_tryRow 13 = .ok (.iload_n 2, 1) := by decide +kernel
theorem dX11_tryRow_14 : decode cX11_tryRow 14 = .ok (.iconst 3, 1) := by decide +kernel
theorem dX11_tryRow_15 : decode cX11_tryRow 15 = .ok (.irem, 1) := by decide +kernel
theorem dX11_tryRow_16 : decode cX11_tryRow 16 = .ok (.istore 4, 2) := by decide +kernel
theorem dX11_tryRow_18 : decode cX11_tryRow 18 = .ok (.iconst 0, 1) := by decide +kernel
theorem dX11_tryRow_19 : decode cX11_tryRow 19 = .ok (.istore 5, 2) := by decide +kernel
theorem dX11_tryRow_21 : decode cX11_tryRow 21 = .ok (.bipush 96, 2) := by decide +kernel
theorem dX11_tryRow_23 : decode cX11_tryRow 23 = .ok (.istore 6, 2) := by decide +kernel
theorem dX11_tryRow_25 : decode cX11_tryRow 25 = .ok (.iconst 0, 1) := by decide +kernel
theorem dX11_tryRow_26 : decode cX11_tryRow 26 = .ok (.istore 7, 2) := by decide +kernel
theorem dX11_tryRow_28 : decode cX11_tryRow 28 = .ok (.iload 7, 2) := by decide +kernel
theorem dX11_tryRow_30 : decode cX11_tryRow 30 = .ok (.aload_n 0, 1) := by decide +kernel
theorem dX11_tryRow_31 : decode cX11_tryRow 31 = .ok (.getfield 429, 3) := by decide +kernel
theorem dX11_tryRow_34 : decode cX11_tryRow 34 = .ok (.if_icmp .ge 123, 3) := by decide +kernel
theorem dX11_tryRow_37 : decode cX11_tryRow 37 = .ok (.iload 7, 2) := by decide +kernel
theorem dX11_tryRow_39 : decode cX11_tryRow 39 = .ok (.iconst 3, 1) := by decide +kernel
theorem dX11_tryRow_40 : decode cX11_tryRow 40 = .ok (.if_icmp .ge 117, 3) := by decide +kernel
theorem dX11_tryRow_43 : decode cX11_tryRow 43 = .ok (.aload_n 0, 1) := by decide +kernel
theorem dX11_tryRow_44 : decode cX11_tryRow 44 = .ok (.getfield 31, 3) := by decide +kernel
theorem dX11_tryRow_47 : decode cX11_tryRow 47 = .ok (.aload_n 0, 1) := by decide +kernel
theorem dX11_tryRow_48 : decode cX11_tryRow 48 = .ok (.getfield 27, 3) := by decide +kernel
theorem dX11_tryRow_51 : decode cX11_tryRow 51 = .ok (.invokevirtual 165, 3) := by decide +kernel
theorem dX11_tryRow_54 : decode cX11_tryRow 54 = .ok (.aload_n 0, 1) := by decide +kernel
theorem dX11_tryRow_55 : decode cX11_tryRow 55 = .ok (.getfield 31, 3) := by decide +kernel
theorem dX11_tryRow_58 : decode cX11_tryRow 58 = .ok (.aload_n 0, 1) := by decide +kernel
theorem dX11_tryRow_59 : decode cX11_tryRow 59 = .ok (.getfield 66, 3) := by decide +kernel
theorem dX11_tryRow_62 : decode cX11_tryRow 62 = .ok (.iload 7, 2) := by decide +kernel
theorem dX11_tryRow_64 : decode cX11_tryRow 64 = .ok (.iaload, 1) := by decide +kernel
theorem dX11_tryRow_65 : decode cX11_tryRow 65 = .ok (.putfield 471, 3) := by decide +kernel
theorem dX11_tryRow_68 : decode cX11_tryRow 68 = .ok (.iconst 0, 1) := by decide +kernel
theorem dX11_tryRow_69 : decode cX11_tryRow 69 = .ok (.istore 8, 2) := by decide +kernel
theorem dX11_tryRow_71 : decode cX11_tryRow 71 = .ok (.iload 8, 2) := by decide +kernel
theorem dX11_tryRow_73 : decode cX11_tryRow 73 = .ok (.iload_n 1, 1) := by decide +kernel
theorem dX11_tryRow_74 : decode cX11_tryRow 74 = .ok (.bipush 13, 2) := by decide +kernel
theorem dX11_tryRow_76 : decode cX11_tryRow 76 = .ok (.imul, 1) := by decide +kernel
theorem dX11_tryRow_77 : decode cX11_tryRow 77 = .ok (.if_icmp .ge 40, 3) := by decide +kernel
theorem dX11_tryRow_80 : decode cX11_tryRow 80 = .ok (.aload_n 0, 1) := by decide +kernel
theorem dX11_tryRow_81 : decode cX11_tryRow 81 = .ok (.getfield 31, 3) := by decide +kernel
theorem dX11_tryRow_84 : decode cX11_tryRow 84 = .ok (.aload_n 0, 1) := by decide +kernel
theorem dX11_tryRow_85 : decode cX11_tryRow 85 = .ok (.iload 8, 2) := by decide +kernel
theorem dX11_tryRow_87 : decode cX11_tryRow 87 = .ok (.bipush 13, 2) := by decide +kernel
theorem dX11_tryRow_89 : decode cX11_tryRow 89 = .ok (.if_icmp .ge 7, 3) := by decide +kernel
theorem dX11_tryRow_92 : decode cX11_tryRow 92 = .ok (.iload_n 3, 1) := by decide +kernel
theorem dX11_tryRow_93 : decode cX11_tryRow 93 = .ok (.goto 5, 3) := by decide +kernel
theorem dX11_tryRow_96 : decode cX11_tryRow 96 = .ok (.iload 4, 2) := by decide +kernel
theorem dX11_tryRow_98 : decode cX11_tryRow 98 = .ok (.invokevirtual 474, 3) := by decide +kernel
theorem dX11_tryRow_101 : decode cX11_tryRow 101 = .ok (.putfield 394, 3) := by decide +kernel
theorem dX11_tryRow_104 : decode cX11_tryRow 104 = .ok (.aload_n 0, 1) := by decide +kernel
theorem dX11_tryRow_105 : decode cX11_tryRow 105 = .ok (.getfield 31, 3) := by decide +kernel
theorem dX11_tryRow_108 : decode cX11_tryRow 108 = .ok (.invokevirtual 384, 3) := by decide +kernel
theorem dX11_tryRow_111 : decode cX11_tryRow 111 = .ok (.iinc 8 1, 3) := by decide +kernel
theorem dX11_tryRow_114 : decode cX11_tryRow 114 = .ok (.goto (-43), 3) := by decide +kernel
theorem dX11_tryRow_117 : decode cX11_tryRow 117 = .ok (.iload 5, 2) := by decide +kernel
theorem dX11_tryRow_119 : decode cX11_tryRow 119 = .ok (.aload_n 0, 1) := by decide +kernel
theorem dX11_tryRow_120 : decode cX11_tryRow 120 = .ok (.getfield 31, 3) := by decide +kernel
theorem dX11_tryRow_123 : decode cX11_tryRow 123 = .ok (.getfield 125, 3) := by decide +kernel
theorem dX11_tryRow_126 : decode cX11_tryRow 126 = .ok (.getfield 403, 3) := by decide +kernel
theorem dX11_tryRow_129 : decode cX11_tryRow 129 = .ok (.invokestatic 477, 3) := by decide +kernel
theorem dX11_tryRow_132 : decode cX11_tryRow 132 = .ok (.istore 5, 2) := by decide +kernel
theorem dX11_tryRow_134 : decode cX11_tryRow 134 = .ok (.iload 6, 2) := by decide +kernel
theorem dX11_tryRow_136 : decode cX11_tryRow 136 = .ok (.aload_n 0, 1) := by decide +kernel
theorem dX11_tryRow_137 : decode cX11_tryRow 137 = .ok (.getfield 31, 3) := by decide +kernel
theorem dX11_tryRow_140 : decode cX11_tryRow 140 = .ok (.getfield 80, 3) := by decide +kernel
theorem dX11_tryRow_143 : decode cX11_tryRow 143 = .ok (.getfield 400, 3) := by decide +kernel
theorem dX11_tryRow_146 : decode cX11_tryRow 146 = .ok (.invokestatic 482, 3) := by decide +kernel
theorem dX11_tryRow_149 : decode cX11_tryRow 149 = .ok (.istore 6, 2) := by decide +kernel
theorem dX11_tryRow_151 : decode cX11_tryRow 151 = .ok (.iinc 7 1, 3) := by decide +kernel
theorem dX11_tryRow_154 : decode cX11_tryRow 154 = .ok (.goto (-126), 3) := by decide +kernel
theorem dX11_tryRow_157 : decode cX11_tryRow 157 = .ok (.iload 5, 2) := by decide +kernel
theorem dX11_tryRow_159 : decode cX11_tryRow 159 = .ok (.aload_n 0, 1) := by decide +kernel
theorem dX11_tryRow_160 : decode cX11_tryRow 160 = .ok (.getfield 69, 3) := by decide +kernel
theorem dX11_tryRow_163 : decode cX11_tryRow 163 = .ok (.iconst 2, 1) := by decide +kernel
theorem dX11_tryRow_164 : decode cX11_tryRow 164 = .ok (.iaload, 1) := by decide +kernel
theorem dX11_tryRow_165 : decode cX11_tryRow 165 = .ok (.if_icmp .lt 25, 3) := by decide +kernel
theorem dX11_tryRow_168 : decode cX11_tryRow 168 = .ok (.iload 5, 2) := by decide +kernel
theorem dX11_tryRow_170 : decode cX11_tryRow 170 = .ok (.aload_n 0, 1) := by decide +kernel
theorem dX11_tryRow_171 : decode cX11_tryRow 171 = .ok (.getfield 69, 3) := by decide +kernel
theorem dX11_tryRow_174 : decode cX11_tryRow 174 = .ok (.iconst 2, 1) := by decide +kernel
theorem dX11_tryRow_175 : decode cX11_tryRow 175 = .ok (.iaload, 1) := by decide +kernel
theorem dX11_tryRow_176 : decode cX11_tryRow 176 = .ok (.if_icmp .ne 18, 3) := by decide +kernel
theorem dX11_tryRow_179 : decode cX11_tryRow 179 = .ok (.iload 6, 2) := by decide +kernel
theorem dX11_tryRow_181 : decode cX11_tryRow 181 = .ok (.aload_n 0, 1) := by decide +kernel
theorem dX11_tryRow_182 : decode cX11_tryRow 182 = .ok (.getfield 69, 3) := by decide +kernel
theorem dX11_tryRow_185 : decode cX11_tryRow 185 = .ok (.iconst 3, 1) := by decide +kernel
theorem dX11_tryRow_186 : decode cX11_tryRow 186 = .ok (.iaload, 1) := by decide +kernel
theorem dX11_tryRow_187 : decode cX11_tryRow 187 = .ok (.if_icmp .le 7, 3) := by decide +kernel
theorem dX11_tryRow_190 : decode cX11_tryRow 190 = .ok (.iconst 1, 1) := by decide +kernel
theorem dX11_tryRow_191 : decode cX11_tryRow 191 = .ok (.goto 4, 3) := by decide +kernel
theorem dX11_tryRow_194 : decode cX11_tryRow 194 = .ok (.iconst 0, 1) := by decide +kernel
theorem dX11_tryRow_195 : decode cX11_tryRow 195 = .ok (.istore 7, 2) := by decide +kernel
theorem dX11_tryRow_197 : decode cX11_tryRow 197 = .ok (.iload_n 2, 1) := by decide +kernel
theorem dX11_tryRow_198 : decode cX11_tryRow 198 = .ok (.ifCond .le 9, 3) := by decide +kernel
theorem dX11_tryRow_201 : decode cX11_tryRow 201 = .ok (.iload 7, 2) := by decide +kernel
theorem dX11_tryRow_203 : decode cX11_tryRow 203 = .ok (.ifCond .ne 4, 3) := by decide +kernel
theorem dX11_tryRow_206 : decode cX11_tryRow 206 = .ok (.return_, 1) := by decide +kernel
theorem dX11_tryRow_207 : decode cX11_tryRow 207 = .ok (.aload_n 0, 1) := by decide +kernel
theorem dX11_tryRow_208 : decode cX11_tryRow 208 = .ok (.getfield 69, 3) := by decide +kernel
theorem dX11_tryRow_211 : decode cX11_tryRow 211 = .ok (.iconst 0, 1) := by decide +kernel
theorem dX11_tryRow_212 : decode cX11_tryRow 212 = .ok (.iload_n 3, 1) := by decide +kernel
theorem dX11_tryRow_213 : decode cX11_tryRow 213 = .ok (.iastore, 1) := by decide +kernel
theorem dX11_tryRow_214 : decode cX11_tryRow 214 = .ok (.aload_n 0, 1) := by decide +kernel
theorem dX11_tryRow_215 : decode cX11_tryRow 215 = .ok (.getfield 69, 3) := by decide +kernel
theorem dX11_tryRow_218 : decode cX11_tryRow 218 = .ok (.iconst 1, 1) := by decide +kernel
theorem dX11_tryRow_219 : decode cX11_tryRow 219 = .ok (.iload_n 1, 1) := by decide +kernel
theorem dX11_tryRow_220 : decode cX11_tryRow 220 = .ok (.iconst 2, 1) := by decide +kernel
theorem dX11_tryRow_221 : decode cX11_tryRow 221 = .ok (.if_icmp .ne 8, 3) := by decide +kernel
theorem dX11_tryRow_224 : decode cX11_tryRow 224 = .ok (.iload 4, 2) := by decide +kernel
theorem dX11_tryRow_226 : decode cX11_tryRow 226 = .ok (.goto 4, 3) := by decide +kernel
theorem dX11_tryRow_229 : decode cX11_tryRow 229 = .ok (.iconst (-1), 1) := by decide +kernel
theorem dX11_tryRow_230 : decode cX11_tryRow 230 = .ok (.iastore, 1) := by decide +kernel
theorem dX11_tryRow_231 : decode cX11_tryRow 231 = .ok (.aload_n 0, 1) := by decide +kernel
theorem dX11_tryRow_232 : decode cX11_tryRow 232 = .ok (.getfield 69, 3) := by decide +kernel
theorem dX11_tryRow_235 : decode cX11_tryRow 235 = .ok (.iconst 2, 1) := by decide +kernel
theorem dX11_tryRow_236 : decode cX11_tryRow 236 = .ok (.iload 5, 2) := by decide +kernel
theorem dX11_tryRow_238 : decode cX11_tryRow 238 = .ok (.iastore, 1) := by decide +kernel
theorem dX11_tryRow_239 : decode cX11_tryRow 239 = .ok (.aload_n 0, 1) := by decide +kernel
theorem dX11_tryRow_240 : decode cX11_tryRow 240 = .ok (.getfield 69, 3) := by decide +kernel
theorem dX11_tryRow_243 : decode cX11_tryRow 243 = .ok (.iconst 3, 1) := by decide +kernel
theorem dX11_tryRow_244 : decode cX11_tryRow 244 = .ok (.iload 6, 2) := by decide +kernel
theorem dX11_tryRow_246 : decode cX11_tryRow 246 = .ok (.iastore, 1) := by decide +kernel
theorem dX11_tryRow_247 : decode cX11_tryRow 247 = .ok (.return_, 1) := by decide +kernel
theorem wX11_tryRow_J98 {p : Program} {l : Launch} {e : Env} {s : State} {m : MethodId} {args : Array Value} {below : List Frame} {meth : Method} {c : Code} {Y : Nat → ClassId} {D : va_G} {σ : Nat → Nat} {np b0 : Nat} {r : Mc} {K28 : Mc → Int32 → Int32 → Int32 → Int32 → Int32 → Int32 → Int32 → Option (Mc)} {K71 : Mc → Int32 → Int32 → Int32 → Int32 → Int32 → Int32 → Int32 → Int32 → Option (Mc)} {M : Mc} {N : Md} {X1 : Int32} {X2 : Int32} {X3 : Int32} {X4 : Int32} {X5 : Int32} {X6 : Int32} {X7 : Int32} {X8 : Int32} {Z0 : Int32} (hE : EOK p s m args meth c cX11_tryRow 9 RX11 Y D σ np b0) (hr : meth.sig.returnType = none) (hK28 : ∀ (M : Mc) (N : Md) (X1 : Int32) (X2 : Int32) (X3 : Int32) (X4 : Int32) (X5 : Int32) (X6 : Int32) (X7 : Int32), K28 M X1 X2 X3 X4 X5 X6 X7 = some r → Xw p l e (rmD 7) s m args below meth c 9 Y D σ np b0 0 0 (MQ below (QR Y D σ np b0 none r N) args s 0 0 (xA b0)) 28 [(0, .ref (σ 0)), (1, .int X1), (2, .int X2), (3, .int X3), (4, .int X4), (5, .int X5), (6, .int X6), (7, .int X7)] [] M N) (hK71 : ∀ (M : Mc) (N : Md) (X1 : Int32) (X2 : Int32) (X3 : Int32) (X4 : Int32) (X5 : Int32) (X6 : Int32) (X7 : Int32) (X8 : Int32), K71 M X1 X2 X3 X4 X5 X6 X7 X8 = some r → Xw p l e (rmD 7) s m args below meth c 9 Y D σ np b0 0 0 (MQ below (QR Y D σ np b0 none r N) args s 0 0 (xA b0)) 71 [(0, .ref (σ 0)), (1, .int X1), (2, .int X2), (3, .int X3), (4, .int X4), (5, .int X5), (6, .int X6), (7, .int X7), (8, .int X8)] [] M N) (hf : fX11_tryRow_J98 K28 K71 M X1 X2 X3 X4 X5 X6 X7 X8 Z0 = some r) : Xw p l e (rmD 7) s m args below meth c 9 Y D σ np b0 0 0 (MQ below (QR Y D σ np b0 none r N) args s 0 0 (xA b0)) 98 [(0, .ref (σ 0)), (1, .int X1), (2, .int X2), (3, .int X3), (4, .int X4), (5, .int X5), (6, .int X6), (7, .int X7), (8, .int X8)] [.int Z0, .ref (σ 0), .ref (σ (64))] M N := by
  unfold fX11_tryRow_J98 at hf
  obtain ⟨v8, hc7, hf⟩ := bnd_some hf
  refine x_callV1 hE [.int Z0] (rest := [.ref (σ (64))]) (v := .int v8) (c1 := M) (d1 := N) rfl yokX11_planPriceOf yvX11_planPriceOf lk_X11_474 rfl cl_11 (hE.kd kO_11) (by decide) rfl rfl ⟨Nat.le_of_ble_eq_true rfl, Nat.le_of_ble_eq_true rfl⟩ ⟨Nat.zero_le _, Nat.zero_le _⟩ rfl (Nat.le_of_ble_eq_true rfl) dX11_tryRow_98 (mX11_planPriceOf l hc7) ?_
  refine x_putI hE cl_10 (hE.kd (kO_10 hI_64)) (by decide) 10 rfl (by decide) lk_X11_394 rfl rfl rfl rfl dX11_tryRow_101 hf (fun M9 hf => ?_)
  refine x_aload_n hE 0 dX11_tryRow_104 rfl rfl ?_
  refine x_getR hE cl_11 (hE.kd kO_11) (by decide) 3 (64) rfl (by decide) lk_X11_31 dX11_tryRow_105 ?_
  obtain ⟨M11, hc10, hf⟩ := bnd_some hf
  refine x_callV0 hE [] (rest := []) (c1 := M11) (d1 := N) rfl yokX10_goOn yvX10_goOn lk_X11_384 rfl cl_10 (hE.kd (kO_10 hI_64)) (by decide) rfl rfl ⟨Nat.le_of_ble_eq_true rfl, Nat.le_of_ble_eq_true rfl⟩ ⟨Nat.zero_le _, Nat.zero_le _⟩ rfl (Nat.le_of_ble_eq_true rfl) dX11_tryRow_108 (mX10_goOn l hI_64 hc10) ?_
  refine x_iinc hE 8 (X8 + nI 1) (L' := [(8, .int (X8 + nI 1)), (0, .ref (σ 0)), (1, .int X1), (2, .int X2), (3, .int X3), (4, .int X4), (5, .int X5), (6, .int X6), (7, .int X7)]) dX11_tryRow_111 rfl rfl (by decide) rfl ?_
  refine x_pick [1, 2, 3, 4, 5, 6, 7, 8, 0] (L' := [(0, .ref (σ 0)), (1, .int X1), (2, .int X2), (3, .int X3), (4, .int X4), (5, .int X5), (6, .int X6), (7, .int X7), (8, .int (X8 + nI 1))]) rfl ?_
  refine x_goto hE 71 dX11_tryRow_114 (by decide) ?_
  exact hK71 _ _ _ _ _ _ _ _ _ _ hf
theorem wX11_tryRow_L71 {p : Program} {l : Launch} {e : Env} {s : State} {m : MethodId} {args : Array Value} {below : List Frame} {meth : Method} {c : Code} {Y : Nat → ClassId} {D : va_G} {σ : Nat → Nat} {np b0 : Nat} {r : Mc} {K28 : Mc → Int32 → Int32 → Int32 → Int32 → Int32 → Int32 → Int32 → Option (Mc)} (hE : EOK p s m args meth c cX11_tryRow 9 RX11 Y D σ np b0) (hr : meth.sig.returnType = none) (hK28 : ∀ (M : Mc) (N : Md) (X1 : Int32) (X2 : Int32) (X3 : Int32) (X4 : Int32) (X5 : Int32) (X6 : Int32) (X7 : Int32), K28 M X1 X2 X3 X4 X5 X6 X7 = some r → Xw p l e (rmD 7) s m args below meth c 9 Y D σ np b0 0 0 (MQ below (QR Y D σ np b0 none r N) args s 0 0 (xA b0)) 28 [(0, .ref (σ 0)), (1, .int X1), (2, .int X2), (3, .int X3), (4, .int X4), (5, .int X5), (6, .int X6), (7, .int X7)] [] M N) : ∀ (n : Nat) (M : Mc) (N : Md) (X1 : Int32) (X2 : Int32) (X3 : Int32) (X4 : Int32) (X5 : Int32) (X6 : Int32) (X7 : Int32) (X8 : Int32), fX11_tryRow_L71 K28 n M X1 X2 X3 X4 X5 X6 X7 X8 = some r → Xw p l e (rmD 7) s m args below meth c 9 Y D σ np b0 0 0 (MQ below (QR Y D σ np b0 none r N) args s 0 0 (xA b0)) 71 [(0, .ref (σ 0)), (1, .int X1), (2, .int X2), (3, .int X3), (4, .int X4), (5, .int X5), (6, .int X6), (7, .int X7), (8, .int X8)] [] M N := by
  intro n
  induction n with
  | zero =>
    intro M N X1 X2 X3 X4 X5 X6 X7 X8 hf
    cases hf
  | succ n ih =>
    intro M N X1 X2 X3 X4 X5 X6 X7 X8 hf
    rw [fX11_tryRow_L71.eq_2] at hf
    refine x_iload hE 8 dX11_tryRow_71 rfl ?_
    refine x_iload_n hE 1 dX11_tryRow_73 rfl rfl ?_
    refine x_bipush hE (nI 13) dX11_tryRow_74 (by decide) ?_
    refine x_imul hE dX11_tryRow_76 ?_
    refine x_icmp_ge hE 117 dX11_tryRow_77 (by decide) hf (fun hf => ?_) (fun hf => ?_)
    · refine x_iload hE 5 dX11_tryRow_117 rfl ?_
      refine x_aload_n hE 0 dX11_tryRow_119 rfl rfl ?_
      refine x_getR hE cl_11 (hE.kd kO_11) (by decide) 3 (64) rfl (by decide) lk_X11_31 dX11_tryRow_120 ?_
      refine x_getR hE cl_10 (hE.kd (kO_10 hI_64)) (by decide) 2 (64 + 15) rfl (by decide) lk_X11_125 dX11_tryRow_123 ?_
      refine x_getI hE cl_3 (hE.kd (kO_3 (hL_10_2 hI_64))) (by decide) 2 rfl (by decide) lk_X11_403 dX11_tryRow_126 ?_
      refine x_mmax hE lk_X11_477 (Nat.le_of_ble_eq_true rfl) dX11_tryRow_129 ?_
      refine x_ltI hf (fun v5 hf => ?_)
      refine x_istore hE (L' := [(5, .int v5), (0, .ref (σ 0)), (1, .int X1), (2, .int X2), (3, .int X3), (4, .int X4), (6, .int X6), (7, .int X7), (8, .int X8)]) dX11_tryRow_132 (by decide) rfl ?_
      refine x_pick [1, 2, 3, 4, 5, 0, 6, 7, 8] (L' := [(0, .ref (σ 0)), (1, .int X1), (2, .int X2), (3, .int X3), (4, .int X4), (5, .int v5), (6, .int X6), (7, .int X7), (8, .int X8)]) rfl ?_
      refine x_iload hE 6 dX11_tryRow_134 rfl ?_
      refine x_aload_n hE 0 dX11_tryRow_136 rfl rfl ?_
      refine x_getR hE cl_11 (hE.kd kO_11) (by decide) 3 (64) rfl (by decide) lk_X11_31 dX11_tryRow_137 ?_
      refine x_getR hE cl_10 (hE.kd (kO_10 hI_64)) (by decide) 1 (64 + 1) rfl (by decide) lk_X11_80 dX11_tryRow_140 ?_
      refine x_getI hE cl_4 (hE.kd (kO_4 (hL_10_1 hI_64))) (by decide) 9 rfl (by decide) lk_X11_400 dX11_tryRow_143 ?_
      refine x_mmin hE lk_X11_482 (Nat.le_of_ble_eq_true rfl) dX11_tryRow_146 ?_
      refine x_ltI hf (fun v6 hf => ?_)
      refine x_istore hE (L' := [(6, .int v6), (0, .ref (σ 0)), (1, .int X1), (2, .int X2), (3, .int X3), (4, .int X4), (5, .int v5), (7, .int X7), (8, .int X8)]) dX11_tryRow_149 (by decide) rfl ?_
      refine x_pick [1, 2, 3, 4, 5, 6, 0, 7, 8] (L' := [(0, .ref (σ 0)), (1, .int X1), (2, .int X2), (3, .int X3), (4, .int X4), (5, .int v5), (6, .int v6), (7, .int X7), (8, .int X8)]) rfl ?_
      refine x_iinc hE 7 (X7 + nI 1) (L' := [(7, .int (X7 + nI 1)), (0, .ref (σ 0)), (1, .int X1), (2, .int X2), (3, .int X3), (4, .int X4), (5, .int v5), (6, .int v6), (8, .int X8)]) dX11_tryRow_151 rfl rfl (by decide) rfl ?_
      refine x_pick [1, 2, 3, 4, 5, 6, 7, 0, 8] (L' := [(0, .ref (σ 0)), (1, .int X1), (2, .int X2), (3, .int X3), (4, .int X4), (5, .int v5), (6, .int v6), (7, .int (X7 + nI 1)), (8, .int X8)]) rfl ?_
      refine x_goto hE 28 dX11_tryRow_154 (by decide) ?_
      refine x_pick [0, 1, 2, 3, 4, 5, 6, 7] (L' := [(0, .ref (σ 0)), (1, .int X1), (2, .int X2), (3, .int X3), (4, .int X4), (5, .int v5), (6, .int v6), (7, .int (X7 + nI 1))]) rfl ?_
      exact hK28 _ _ _ _ _ _ _ _ _ hf
    · refine x_aload_n hE 0 dX11_tryRow_80 rfl rfl ?_
      refine x_getR hE cl_11 (hE.kd kO_11) (by decide) 3 (64) rfl (by decide) lk_X11_31 dX11_tryRow_81 ?_
      refine x_aload_n hE 0 dX11_tryRow_84 rfl rfl ?_
      refine x_iload hE 8 dX11_tryRow_85 rfl ?_
      refine x_bipush hE (nI 13) dX11_tryRow_87 (by decide) ?_
      refine x_icmp_ge hE 96 dX11_tryRow_89 (by decide) hf (fun hf => ?_) (fun hf => ?_)
      · refine x_iload hE 4 dX11_tryRow_96 rfl ?_
        exact wX11_tryRow_J98 hE hr hK28 (fun _ _ _ _ _ _ _ _ _ _ hf => ih _ _ _ _ _ _ _ _ _ _ hf) hf
      · refine x_iload_n hE 3 dX11_tryRow_92 rfl rfl ?_
        refine x_goto hE 98 dX11_tryRow_93 (by decide) ?_
        exact wX11_tryRow_J98 hE hr hK28 (fun _ _ _ _ _ _ _ _ _ _ hf => ih _ _ _ _ _ _ _ _ _ _ hf) hf
theorem wX11_tryRow_J230 {p : Program} {l : Launch} {e : Env} {s : State} {m : MethodId} {args : Array Value} {below : List Frame} {meth : Method} {c : Code} {Y : Nat → ClassId} {D : va_G} {σ : Nat → Nat} {np b0 : Nat} {r : Mc} {M : Mc} {N : Md} {X5 : Int32} {X6 : Int32} {Z0 : Int32} {Z1 : Int32} (hE : EOK p s m args meth c cX11_tryRow 9 RX11 Y D σ np b0) (hr : meth.sig.returnType = none) (hf : fX11_tryRow_J230 M X5 X6 Z0 Z1 = some r) : Xw p l e (rmD 7) s m args below meth c 9 Y D σ np b0 0 0 (MQ below (QR Y D σ np b0 none r N) args s 0 0 (xA b0)) 230 [(0, .ref (σ 0)), (5, .int X5), (6, .int X6)] [.int Z0, .int Z1, .ref (σ (126))] M N := by
  unfold fX11_tryRow_J230 at hf
  refine x_iast hE (hE.kd kA_126) dX11_tryRow_230 hf (fun M13 hf => ?_)
  refine x_aload_n hE 0 dX11_tryRow_231 rfl rfl ?_
  refine x_getR hE cl_11 (hE.kd kO_11) (by decide) 17 (126) rfl (by decide) lk_X11_69 dX11_tryRow_232 ?_
  refine x_iconst hE (nI 2) dX11_tryRow_235 (by decide) ?_
  refine x_iload hE 1 dX11_tryRow_236 rfl ?_
  refine x_iast hE (hE.kd kA_126) dX11_tryRow_238 hf (fun M14 hf => ?_)
  refine x_aload_n hE 0 dX11_tryRow_239 rfl rfl ?_
  refine x_getR hE cl_11 (hE.kd kO_11) (by decide) 17 (126) rfl (by decide) lk_X11_69 dX11_tryRow_240 ?_
  refine x_iconst hE (nI 3) dX11_tryRow_243 (by decide) ?_
  refine x_iload hE 2 dX11_tryRow_244 rfl ?_
  refine x_iast hE (hE.kd kA_126) dX11_tryRow_246 hf (fun M15 hf => ?_)
  replace hf := Option.some.inj hf
  subst hf
  exact x_vreturn hE hr dX11_tryRow_247
theorem wX11_tryRow_J207 {p : Program} {l : Launch} {e : Env} {s : State} {m : MethodId} {args : Array Value} {below : List Frame} {meth : Method} {c : Code} {Y : Nat → ClassId} {D : va_G} {σ : Nat → Nat} {np b0 : Nat} {r : Mc} {M : Mc} {N : Md} {X1 : Int32} {X3 : Int32} {X4 : Int32} {X5 : Int32} {X6 : Int32} (hE : EOK p s m args meth c cX11_tryRow 9 RX11 Y D σ np b0) (hr : meth.sig.returnType = none) (hf : fX11_tryRow_J207 M X1 X3 X4 X5 X6 = some r) : Xw p l e (rmD 7) s m args below meth c 9 Y D σ np b0 0 0 (MQ below (QR Y D σ np b0 none r N) args s 0 0 (xA b0)) 207 [(0, .ref (σ 0)), (1, .int X1), (3, .int X3), (4, .int X4), (5, .int X5), (6, .int X6)] [] M N := by
  unfold fX11_tryRow_J207 at hf
  refine x_aload_n hE 0 dX11_tryRow_207 rfl rfl ?_
  refine x_getR hE cl_11 (hE.kd kO_11) (by decide) 17 (126) rfl (by decide) lk_X11_69 dX11_tryRow_208 ?_
  refine x_iconst hE (0 : Int32) dX11_tryRow_211 (by decide) ?_
  refine x_iload_n hE 2 dX11_tryRow_212 rfl rfl ?_
  refine x_iast hE (hE.kd kA_126) dX11_tryRow_213 hf (fun M12 hf => ?_)
  refine x_aload_n hE 0 dX11_tryRow_214 rfl rfl ?_
  refine x_getR hE cl_11 (hE.kd kO_11) (by decide) 17 (126) rfl (by decide) lk_X11_69 dX11_tryRow_215 ?_
  refine x_iconst hE (nI 1) dX11_tryRow_218 (by decide) ?_
  refine x_iload_n hE 1 dX11_tryRow_219 rfl rfl ?_
  refine x_iconst hE (nI 2) dX11_tryRow_220 (by decide) ?_
  refine x_icmp_ne hE 229 dX11_tryRow_221 (by decide) hf (fun hf => ?_) (fun hf => ?_)
  · refine x_iconst hE (-1) dX11_tryRow_229 (by decide) ?_
    refine x_pick [0, 4, 5] (L' := [(0, .ref (σ 0)), (5, .int X5), (6, .int X6)]) rfl ?_
    exact wX11_tryRow_J230 hE hr  hf
  · refine x_iload hE 3 dX11_tryRow_224 rfl ?_
    refine x_goto hE 230 dX11_tryRow_226 (by decide) ?_
    refine x_pick [0, 4, 5] (L' := [(0, .ref (σ 0)), (5, .int X5), (6, .int X6)]) rfl ?_
    exact wX11_tryRow_J230 hE hr  hf
theorem wX11_tryRow_J195 {p : Program} {l : Launch} {e : Env} {s : State} {m : MethodId} {args : Array Value} {below : List Frame} {meth : Method} {c : Code} {Y : Nat → ClassId} {D : va_G} {σ : Nat → Nat} {np b0 : Nat} {r : Mc} {M : Mc} {N : Md} {X1 : Int32} {X2 : Int32} {X3 : Int32} {X4 : Int32} {X5 : Int32} {X6 : Int32} {Z0 : Int32} (hE : EOK p s m args meth c cX11_tryRow 9 RX11 Y D σ np b0) (hr : meth.sig.returnType = none) (hf : fX11_tryRow_J195 M X1 X2 X3 X4 X5 X6 Z0 = some r) : Xw p l e (rmD 7) s m args below meth c 9 Y D σ np b0 0 0 (MQ below (QR Y D σ np b0 none r N) args s 0 0 (xA b0)) 195 [(0, .ref (σ 0)), (1, .int X1), (2, .int X2), (3, .int X3), (4, .int X4), (5, .int X5), (6, .int X6)] [.int Z0] M N := by
  unfold fX11_tryRow_J195 at hf
  refine x_istore hE (L' := [(7, .int Z0), (0, .ref (σ 0)), (1, .int X1), (2, .int X2), (3, .int X3), (4, .int X4), (5, .int X5), (6, .int X6)]) dX11_tryRow_195 (by decide) rfl ?_
  refine x_pick [1, 2, 3, 4, 5, 6, 7, 0] (L' := [(0, .ref (σ 0)), (1, .int X1), (2, .int X2), (3, .int X3), (4, .int X4), (5, .int X5), (6, .int X6), (7, .int Z0)]) rfl ?_
  refine x_iload_n hE 2 dX11_tryRow_197 rfl rfl ?_
  refine x_if_le hE 207 dX11_tryRow_198 (by decide) hf (fun hf => ?_) (fun hf => ?_)
  · refine x_pick [0, 1, 3, 4, 5, 6] (L' := [(0, .ref (σ 0)), (1, .int X1), (3, .int X3), (4, .int X4), (5, .int X5), (6, .int X6)]) rfl ?_
    exact wX11_tryRow_J207 hE hr  hf
  · refine x_iload hE 7 dX11_tryRow_201 rfl ?_
    refine x_if_ne hE 207 dX11_tryRow_203 (by decide) hf (fun hf => ?_) (fun hf => ?_)
    · refine x_pick [0, 1, 3, 4, 5, 6] (L' := [(0, .ref (σ 0)), (1, .int X1), (3, .int X3), (4, .int X4), (5, .int X5), (6, .int X6)]) rfl ?_
      exact wX11_tryRow_J207 hE hr  hf
    · replace hf := Option.some.inj hf
      subst hf
      exact x_vreturn hE hr dX11_tryRow_206
theorem wX11_tryRow_J190 {p : Program} {l : Launch} {e : Env} {s : State} {m : MethodId} {args : Array Value} {below : List Frame} {meth : Method} {c : Code} {Y : Nat → ClassId} {D : va_G} {σ : Nat → Nat} {np b0 : Nat} {r : Mc} {M : Mc} {N : Md} {X1 : Int32} {X2 : Int32} {X3 : Int32} {X4 : Int32} {X5 : Int32} {X6 : Int32} (hE : EOK p s m args meth c cX11_tryRow 9 RX11 Y D σ np b0) (hr : meth.sig.returnType = none) (hf : fX11_tryRow_J190 M X1 X2 X3 X4 X5 X6 = some r) : Xw p l e (rmD 7) s m args below meth c 9 Y D σ np b0 0 0 (MQ below (QR Y D σ np b0 none r N) args s 0 0 (xA b0)) 190 [(0, .ref (σ 0)), (1, .int X1), (2, .int X2), (3, .int X3), (4, .int X4), (5, .int X5), (6, .int X6)] [] M N := by
  unfold fX11_tryRow_J190 at hf
  refine x_iconst hE (nI 1) dX11_tryRow_190 (by decide) ?_
  refine x_goto hE 195 dX11_tryRow_191 (by decide) ?_
  exact wX11_tryRow_J195 hE hr  hf
theorem wX11_tryRow_J194 {p : Program} {l : Launch} {e : Env} {s : State} {m : MethodId} {args : Array Value} {below : List Frame} {meth : Method} {c : Code} {Y : Nat → ClassId} {D : va_G} {σ : Nat → Nat} {np b0 : Nat} {r : Mc} {M : Mc} {N : Md} {X1 : Int32} {X2 : Int32} {X3 : Int32} {X4 : Int32} {X5 : Int32} {X6 : Int32} (hE : EOK p s m args meth c cX11_tryRow 9 RX11 Y D σ np b0) (hr : meth.sig.returnType = none) (hf : fX11_tryRow_J194 M X1 X2 X3 X4 X5 X6 = some r) : Xw p l e (rmD 7) s m args below meth c 9 Y D σ np b0 0 0 (MQ below (QR Y D σ np b0 none r N) args s 0 0 (xA b0)) 194 [(0, .ref (σ 0)), (1, .int X1), (2, .int X2), (3, .int X3), (4, .int X4), (5, .int X5), (6, .int X6)] [] M N := by
  unfold fX11_tryRow_J194 at hf
  refine x_iconst hE (0 : Int32) dX11_tryRow_194 (by decide) ?_
  exact wX11_tryRow_J195 hE hr  hf
theorem wX11_tryRow_J157 {p : Program} {l : Launch} {e : Env} {s : State} {m : MethodId} {args : Array Value} {below : List Frame} {meth : Method} {c : Code} {Y : Nat → ClassId} {D : va_G} {σ : Nat → Nat} {np b0 : Nat} {r : Mc} {M : Mc} {N : Md} {X1 : Int32} {X2 : Int32} {X3 : Int32} {X4 : Int32} {X5 : Int32} {X6 : Int32} (hE : EOK p s m args meth c cX11_tryRow 9 RX11 Y D σ np b0) (hr : meth.sig.returnType = none) (hf : fX11_tryRow_J157 M X1 X2 X3 X4 X5 X6 = some r) : Xw p l e (rmD 7) s m args below meth c 9 Y D σ np b0 0 0 (MQ below (QR Y D σ np b0 none r N) args s 0 0 (xA b0)) 157 [(0, .ref (σ 0)), (1, .int X1), (2, .int X2), (3, .int X3), (4, .int X4), (5, .int X5), (6, .int X6)] [] M N := by
  unfold fX11_tryRow_J157 at hf
  refine x_iload hE 5 dX11_tryRow_157 rfl ?_
  refine x_aload_n hE 0 dX11_tryRow_159 rfl rfl ?_
  refine x_getR hE cl_11 (hE.kd kO_11) (by decide) 17 (126) rfl (by decide) lk_X11_69 dX11_tryRow_160 ?_
  refine x_iconst hE (nI 2) dX11_tryRow_163 (by decide) ?_
  refine x_iald hE (hE.kd kA_126) dX11_tryRow_164 hf (fun hf => ?_)
  refine x_icmp_lt hE 190 dX11_tryRow_165 (by decide) hf (fun hf => ?_) (fun hf => ?_)
  · exact wX11_tryRow_J190 hE hr  hf
  · refine x_iload hE 5 dX11_tryRow_168 rfl ?_
    refine x_aload_n hE 0 dX11_tryRow_170 rfl rfl ?_
    refine x_getR hE cl_11 (hE.kd kO_11) (by decide) 17 (126) rfl (by decide) lk_X11_69 dX11_tryRow_171 ?_
    refine x_iconst hE (nI 2) dX11_tryRow_174 (by decide) ?_
    refine x_iald hE (hE.kd kA_126) dX11_tryRow_175 hf (fun hf => ?_)
    refine x_icmp_ne hE 194 dX11_tryRow_176 (by decide) hf (fun hf => ?_) (fun hf => ?_)
    · exact wX11_tryRow_J194 hE hr  hf
    · refine x_iload hE 6 dX11_tryRow_179 rfl ?_
      refine x_aload_n hE 0 dX11_tryRow_181 rfl rfl ?_
      refine x_getR hE cl_11 (hE.kd kO_11) (by decide) 17 (126) rfl (by decide) lk_X11_69 dX11_tryRow_182 ?_
      refine x_iconst hE (nI 3) dX11_tryRow_185 (by decide) ?_
      refine x_iald hE (hE.kd kA_126) dX11_tryRow_186 hf (fun hf => ?_)
      refine x_icmp_le hE 194 dX11_tryRow_187 (by decide) hf (fun hf => ?_) (fun hf => ?_)
      · exact wX11_tryRow_J194 hE hr  hf
      · exact wX11_tryRow_J190 hE hr  hf
theorem wX11_tryRow_L28 {p : Program} {l : Launch} {e : Env} {s : State} {m : MethodId} {args : Array Value} {below : List Frame} {meth : Method} {c : Code} {Y : Nat → ClassId} {D : va_G} {σ : Nat → Nat} {np b0 : Nat} {r : Mc} (hE : EOK p s m args meth c cX11_tryRow 9 RX11 Y D σ np b0) (hr : meth.sig.returnType = none) : ∀ (n : Nat) (M : Mc) (N : Md) (X1 : Int32) (X2 : Int32) (X3 : Int32) (X4 : Int32) (X5 : Int32) (X6 : Int32) (X7 : Int32), fX11_tryRow_L28 n M X1 X2 X3 X4 X5 X6 X7 = some r → Xw p l e (rmD 7) s m args below meth c 9 Y D σ np b0 0 0 (MQ below (QR Y D σ np b0 none r N) args s 0 0 (xA b0)) 28 [(0, .ref (σ 0)), (1, .int X1), (2, .int X2), (3, .int X3), (4, .int X4), (5, .int X5), (6, .int X6), (7, .int X7)] [] M N := by
  intro n
  induction n with
  | zero =>
    intro M N X1 X2 X3 X4 X5 X6 X7 hf
    cases hf
  | succ n ih =>
    intro M N X1 X2 X3 X4 X5 X6 X7 hf
    rw [fX11_tryRow_L28.eq_2] at hf
    refine x_iload hE 7 dX11_tryRow_28 rfl ?_
    refine x_aload_n hE 0 dX11_tryRow_30 rfl rfl ?_
    refine x_getI hE cl_11 (hE.kd kO_11) (by decide) 16 rfl (by decide) lk_X11_429 dX11_tryRow_31 ?_
    refine x_icmp_ge hE 157 dX11_tryRow_34 (by decide) hf (fun hf => ?_) (fun hf => ?_)
    · refine x_pick [0, 1, 2, 3, 4, 5, 6] (L' := [(0, .ref (σ 0)), (1, .int X1), (2, .int X2), (3, .int X3), (4, .int X4), (5, .int X5), (6, .int X6)]) rfl ?_
      exact wX11_tryRow_J157 hE hr  hf
    · refine x_iload hE 7 dX11_tryRow_37 rfl ?_
      refine x_iconst hE (nI 3) dX11_tryRow_39 (by decide) ?_
      refine x_icmp_ge hE 157 dX11_tryRow_40 (by decide) hf (fun hf => ?_) (fun hf => ?_)
      · refine x_pick [0, 1, 2, 3, 4, 5, 6] (L' := [(0, .ref (σ 0)), (1, .int X1), (2, .int X2), (3, .int X3), (4, .int X4), (5, .int X5), (6, .int X6)]) rfl ?_
        exact wX11_tryRow_J157 hE hr  hf
      · refine x_aload_n hE 0 dX11_tryRow_43 rfl rfl ?_
        refine x_getR hE cl_11 (hE.kd kO_11) (by decide) 3 (64) rfl (by decide) lk_X11_31 dX11_tryRow_44 ?_
        refine x_aload_n hE 0 dX11_tryRow_47 rfl rfl ?_
        refine x_getR hE cl_11 (hE.kd kO_11) (by decide) 2 (17) rfl (by decide) lk_X11_27 dX11_tryRow_48 ?_
        obtain ⟨M3, hc2, hf⟩ := bnd_some hf
        refine x_callV0 hE [.ref (σ (17))] (rest := []) (c1 := M3) (d1 := N) rfl yokX10_copyFrom yvX10_copyFrom lk_X11_165 rfl cl_10 (hE.kd (kO_10 hI_64)) (by decide) rfl rfl ⟨Nat.le_of_ble_eq_true rfl, Nat.le_of_ble_eq_true rfl⟩ ⟨Nat.zero_le _, Nat.zero_le _⟩ rfl (Nat.le_of_ble_eq_true rfl) dX11_tryRow_51 (mX10_copyFrom l hI_64 hI_17 hc2) ?_
        refine x_aload_n hE 0 dX11_tryRow_54 rfl rfl ?_
        refine x_getR hE cl_11 (hE.kd kO_11) (by decide) 3 (64) rfl (by decide) lk_X11_31 dX11_tryRow_55 ?_
        refine x_aload_n hE 0 dX11_tryRow_58 rfl rfl ?_
        refine x_getR hE cl_11 (hE.kd kO_11) (by decide) 15 (125) rfl (by decide) lk_X11_66 dX11_tryRow_59 ?_
        refine x_iload hE 7 dX11_tryRow_62 rfl ?_
        refine x_iald hE (hE.kd kA_125) dX11_tryRow_64 hf (fun hf => ?_)
        refine x_putI hE cl_10 (hE.kd (kO_10 hI_64)) (by decide) 12 rfl (by decide) lk_X11_471 rfl rfl rfl rfl dX11_tryRow_65 hf (fun M4 hf => ?_)
        refine x_iconst hE (0 : Int32) dX11_tryRow_68 (by decide) ?_
        refine x_istore hE (L' := [(8, .int 0), (0, .ref (σ 0)), (1, .int X1), (2, .int X2), (3, .int X3), (4, .int X4), (5, .int X5), (6, .int X6), (7, .int X7)]) dX11_tryRow_69 (by decide) rfl ?_
        refine x_pick [1, 2, 3, 4, 5, 6, 7, 8, 0] (L' := [(0, .ref (σ 0)), (1, .int X1), (2, .int X2), (3, .int X3), (4, .int X4), (5, .int X5), (6, .int X6), (7, .int X7), (8, .int 0)]) rfl ?_
        exact wX11_tryRow_L71 hE hr (fun _ _ _ _ _ _ _ _ _ hf => ih _ _ _ _ _ _ _ _ _ hf) FU _ _ _ _ _ _ _ _ _ _ hf
theorem wX11_tryRow_J12 {p : Program} {l : Launch} {e : Env} {s : State} {m : MethodId} {args : Array Value} {below : List Frame} {meth : Method} {c : Code} {Y : Nat → ClassId} {D : va_G} {σ : Nat → Nat} {np b0 : Nat} {r : Mc} {M : Mc} {N : Md} {X1 : Int32} {X2 : Int32} {Z0 : Int32} (hE : EOK p s m args meth c cX11_tryRow 9 RX11 Y D σ np b0) (hr : meth.sig.returnType = none) (hf : fX11_tryRow_J12 M X1 X2 Z0 = some r) : Xw p l e (rmD 7) s m args below meth c 9 Y D σ np b0 0 0 (MQ below (QR Y D σ np b0 none r N) args s 0 0 (xA b0)) 12 [(0, .ref (σ 0)), (1, .int X1), (2, .int X2)] [.int Z0] M N := by
  unfold fX11_tryRow_J12 at hf
  refine x_istore_n hE (L' := [(3, .int Z0), (0, .ref (σ 0)), (1, .int X1), (2, .int X2)]) dX11_tryRow_12 rfl (by decide) rfl ?_
  refine x_pick [1, 2, 3, 0] (L' := [(0, .ref (σ 0)), (1, .int X1), (2, .int X2), (3, .int Z0)]) rfl ?_
  refine x_iload_n hE 2 dX11_tryRow_13 rfl rfl ?_
  refine x_iconst hE (nI 3) dX11_tryRow_14 (by decide) ?_
  refine x_iremC hE dX11_tryRow_15 (by decide) ?_
  refine x_ltI hf (fun v1 hf => ?_)
  refine x_istore hE (L' := [(4, .int v1), (0, .ref (σ 0)), (1, .int X1), (2, .int X2), (3, .int Z0)]) dX11_tryRow_16 (by decide) rfl ?_
  refine x_pick [1, 2, 3, 4, 0] (L' := [(0, .ref (σ 0)), (1, .int X1), (2, .int X2), (3, .int Z0), (4, .int v1)]) rfl ?_
  refine x_iconst hE (0 : Int32) dX11_tryRow_18 (by decide) ?_
  refine x_istore hE (L' := [(5, .int 0), (0, .ref (σ 0)), (1, .int X1), (2, .int X2), (3, .int Z0), (4, .int v1)]) dX11_tryRow_19 (by decide) rfl ?_
  refine x_pick [1, 2, 3, 4, 5, 0] (L' := [(0, .ref (σ 0)), (1, .int X1), (2, .int X2), (3, .int Z0), (4, .int v1), (5, .int 0)]) rfl ?_
  refine x_bipush hE (nI 96) dX11_tryRow_21 (by decide) ?_
  refine x_istore hE (L' := [(6, .int (nI 96)), (0, .ref (σ 0)), (1, .int X1), (2, .int X2), (3, .int Z0), (4, .int v1), (5, .int 0)]) dX11_tryRow_23 (by decide) rfl ?_
  refine x_pick [1, 2, 3, 4, 5, 6, 0] (L' := [(0, .ref (σ 0)), (1, .int X1), (2, .int X2), (3, .int Z0), (4, .int v1), (5, .int 0), (6, .int (nI 96))]) rfl ?_
  refine x_iconst hE (0 : Int32) dX11_tryRow_25 (by decide) ?_
  refine x_istore hE (L' := [(7, .int 0), (0, .ref (σ 0)), (1, .int X1), (2, .int X2), (3, .int Z0), (4, .int v1), (5, .int 0), (6, .int (nI 96))]) dX11_tryRow_26 (by decide) rfl ?_
  refine x_pick [1, 2, 3, 4, 5, 6, 7, 0] (L' := [(0, .ref (σ 0)), (1, .int X1), (2, .int X2), (3, .int Z0), (4, .int v1), (5, .int 0), (6, .int (nI 96)), (7, .int 0)]) rfl ?_
  exact wX11_tryRow_L28 hE hr  FU _ _ _ _ _ _ _ _ _ hf
theorem mX11_tryRow (l : Launch) {Y : Nat → ClassId} {D : va_G} {σ : Nat → Nat} {np b0 : Nat} {M : Mc} {N : Md} {p0 : Int32} {p1 : Int32} {r : Mc} (hf : fX11_tryRow M p0 p1 = some r) : Met l yX11_tryRow (.code yX11_tryRow cX11_tryRow 9 none :: lw_g) (rmD 7) (PR Y D σ np b0 [.ref (σ 0), .int p0, .int p1] M N) (QR Y D σ np b0 none r N) 0 0 (xA b0) := by
  refine x_met (by decide) (Nat.le_of_ble_eq_true rfl) (fun p e s m args below meth c hE hr => ?_)
  unfold fX11_tryRow at hf
  refine x_pick [0, 1, 2] (L' := [(0, .ref (σ 0)), (1, .int p0), (2, .int p1)]) rfl ?_
  refine x_iload_n hE 1 dX11_tryRow_0 rfl rfl ?_
  refine x_iconst hE (nI 2) dX11_tryRow_1 (by decide) ?_
  refine x_icmp_ne hE 11 dX11_tryRow_2 (by decide) hf (fun hf => ?_) (fun hf => ?_)
  · refine x_iload_n hE 2 dX11_tryRow_11 rfl rfl ?_
    exact wX11_tryRow_J12 hE hr  hf
  · refine x_iload_n hE 2 dX11_tryRow_5 rfl rfl ?_
    refine x_iconst hE (nI 3) dX11_tryRow_6 (by decide) ?_
    refine x_idivC hE dX11_tryRow_7 (by decide) ?_
    refine x_goto hE 12 dX11_tryRow_8 (by decide) ?_
    exact wX11_tryRow_J12 hE hr  hf
theorem yokX11_tryRow : YOK yX11_tryRow cX11_tryRow 9 2 none := ⟨mem_g 1897 (by decide +kernel) (by decide +kernel), mem_g 131 (by decide +kernel) (by decide +kernel), by decide +kernel, by decide +kernel, by decide +kernel⟩
theorem yvX11_tryRow : YV yX11_tryRow := ⟨mem_g 1896 (by decide +kernel) (by decide +kernel), mem_g 53 (by decide +kernel) (by decide +kernel)⟩
theorem lk_X11_432 : Cond.methodLink RX11 432 yX11_tryRow ∈ lw_g := mem_g 1894 (by decide +kernel) (by decide +kernel)
theorem dX11_planned_0 : decode cX11_planned 0 = .ok (.iload_n 1, 1) := by decide +kernel
theorem dX11_planned_1 : decode cX11_planned 1 = .ok (.iconst 1, 1) := by decide +kernel
theorem dX11_planned_2 : decode cX11_planned 2 = .ok (.if_icmp .eq 8, 3) := by decide +kernel
theorem dX11_planned_5 : decode cX11_planned 5 = .ok (.iload_n 1, 1) := by decide +kernel
theorem dX11_planned_6 : decode cX11_planned 6 = .ok (.iconst 2, 1) := by decide +kernel
theorem dX11_planned_7 : decode cX11_planned 7 = .ok (.if_icmp .ne 16, 3) := by decide +kernel
theorem dX11_planned_10 : decode cX11_planned 10 = .ok (.iload_n 2, 1) := by decide +kernel
theorem dX11_planned_11 : decode cX11_planned 11 = .ok (.ifCond .lt 12, 3) := by decide +kernel
theorem dX11_planned_14 : decode cX11_planned 14 = .ok (.iload_n 2, 1) := by decide +kernel
theorem dX11_planned_15 : decode cX11_planned 15 = .ok (.iconst 3, 1) := by decide +kernel
theorem dX11_planned_16 : decode cX11_planned 16 = .ok (.if_icmp .gt 7, 3) := by decide +kernel
theorem dX11_planned_19 : decode cX11_planned 19 = .ok (.iconst 1, 1) := by decide +kernel
theorem dX11_planned_20 : decode cX11_planned 20 = .ok (.goto 4, 3) := by decide +kernel
theorem dX11_planned_23 : decode cX11_planned 23 = .ok (.iconst 0, 1) := by decide +kernel
theorem dX11_planned_24 : decode cX11_planned 24 = .ok (.invokestatic 76, 3) := by decide +kernel
theorem dX11_planned_27 : decode cX11_planned 27 = .ok (.aload_n 0, 1) := by decide +kernel
theorem dX11_planned_28 : decode cX11_planned 28 = .ok (.iload_n 1, 1) := by decide +kernel
theorem dX11_planned_29 : decode cX11_planned 29 = .ok (.bipush 13, 2) := by decide +kernel
theorem dX11_planned_31 : decode cX11_planned 31 = .ok (.imul, 1) := by decide +kernel
theorem dX11_planned_32 : decode cX11_planned 32 = .ok (.invokevirtual 381, 3) := by decide +kernel
theorem dX11_planned_35 : decode cX11_planned 35 = .ok (.aload_n 0, 1) := by decide +kernel
theorem dX11_planned_36 : decode cX11_planned 36 = .ok (.getfield 422, 3) := by decide +kernel
theorem dX11_planned_39 : decode cX11_planned 39 = .ok (.ifCond .eq 10, 3) := by decide +kernel
theorem dX11_planned_42 : decode cX11_planned 42 = .ok (.aload_n 0, 1) := by decide +kernel
theorem dX11_planned_43 : decode cX11_planned 43 = .ok (.getfield 429, 3) := by decide +kernel
theorem dX11_planned_46 : decode cX11_planned 46 = .ok (.ifCond .ne 5, 3) := by decide +kernel
theorem dX11_planned_49 : decode cX11_planned 49 = .ok (.iconst (-1), 1) := by decide +kernel
theorem dX11_planned_50 : decode cX11_planned 50 = .ok (.ireturn, 1) := by decide +kernel
theorem dX11_planned_51 : decode cX11_planned 51 = .ok (.iload_n 1, 1) := by decide +kernel
theorem dX11_planned_52 : decode cX11_planned 52 = .ok (.iconst 2, 1) := by decide +kernel
theorem dX11_planned_53 : decode cX11_planned 53 = .ok (.if_icmp .ne 8, 3) := by decide +kernel
theorem dX11_planned_56 : decode cX11_planned 56 = .ok (.bipush 9, 2) := by decide +kernel
theorem dX11_planned_58 : decode cX11_planned 58 = .ok (.goto 4, 3) := by decide +kernel
theorem dX11_planned_61 : decode cX11_planned 61 = .ok (.iconst 3, 1) := by decide +kernel
theorem dX11_planned_62 : decode cX11_planned 62 = .ok (.istore_n 3, 1) := by decide +kernel
theorem dX11_planned_63 : decode cX11_planned 63 = .ok (.iconst 0, 1) := by decide +kernel
theorem dX11_planned_64 : decode cX11_planned 64 = .ok (.istore 4, 2) := by decide +kernel
theorem dX11_planned_66 : decode cX11_planned 66 = .ok (.iload 4, 2) := by decide +kernel
theorem dX11_planned_68 : decode cX11_planned 68 = .ok (.iload_n 3, 1) := by decide +kernel
theorem dX11_planned_69 : decode cX11_planned 69 = .ok (.if_icmp .ge 16, 3) := by decide +kernel
theorem dX11_planned_72 : decode cX11_planned 72 = .ok (.aload_n 0, 1) := by decide +kernel
theorem dX11_planned_73 : decode cX11_planned 73 = .ok (.iload_n 1, 1) := by decide +kernel
theorem dX11_planned_74 : decode cX11_planned 74 = .ok (.iload 4, 2) := by decide +kernel
theorem dX11_planned_76 : decode cX11_planned 76 = .ok (.invokevirtual 432, 3) := by decide +kernel
theorem dX11_planned_79 : decode cX11_planned 79 = .ok (.iinc 4 1, 3) := by decide +kernel
theorem dX11_planned_82 : decode cX11_planned 82 = .ok (.goto (-16), 3) := by decide +kernel
theorem dX11_planned_85 : decode cX11_planned 85 = .ok (.iload_n 2, 1) := by decide +kernel
theorem dX11_planned_86 : decode cX11_planned 86 = .ok (.aload_n 0, 1) := by decide +kernel
theorem dX11_planned_87 : decode cX11_planned 87 = .ok (.getfield 69, 3) := by decide +kernel
theorem dX11_planned_90 : decode cX11_planned 90 = .ok (.arraylength, 1) := by decide +kernel
theorem dX11_planned_91 : decode cX11_planned 91 = .ok (.invokestatic 191, 3) := by decide +kernel
theorem dX11_planned_94 : decode cX11_planned 94 = .ok (.ifCond .eq 12, 3) := by decide +kernel
theorem dX11_planned_97 : decode cX11_planned 97 = .ok (.aload_n 0, 1) := by decide +kernel
theorem dX11_planned_98 : decode cX11_planned 98 = .ok (.getfield 69, 3) := by decide +kernel
theorem dX11_planned_101 : decode cX11_planned 101 = .ok (.iload_n 2, 1) := by decide +kernel
theorem dX11_planned_102 : decode cX11_planned 102 = .ok (.iaload, 1) := by decide +kernel
theorem dX11_planned_103 : decode cX11_planned 103 = .ok (.goto 4, 3) := by decide +kernel
theorem dX11_planned_106 : decode cX11_planned 106 = .ok (.iconst (-1), 1) := by decide +kernel
theorem dX11_planned_107 : decode cX11_planned 107 = .ok (.ireturn, 1) := by decide +kernel
theorem wX11_planned_L66 {p : Program} {l : Launch} {e : Env} {s : State} {m : MethodId} {args : Array Value} {below : List Frame} {meth : Method} {c : Code} {Y : Nat → ClassId} {D : va_G} {σ : Nat → Nat} {np b0 : Nat} {r : Nat ⊕ (Int32 × Mc)} {M0 : Mc} {N0 : Md} (hE : EOK p s m args meth c cX11_planned 5 RX11 Y D σ np b0) (hr : meth.sig.returnType = (some .int)) (hT : ∀ x ∈ c.exceptionTable.toList, False) (hfl : l.stackTraces = false) : ∀ (n : Nat) (M : Mc) (N : Md) (X1 : Int32) (X2 : Int32) (X3 : Int32) (X4 : Int32), fX11_planned_L66 n M X1 X2 X3 X4 = some r → Xw p l e (rmX 8 2) s m args below meth c 5 Y D σ np b0 2 (6 * 2) (vx_MQ below (QX (fun r : Int32 × Mc => QR Y D σ np b0 (some (.int r.1)) r.2 N) r) (XX Y D σ np b0 M0 N0 r) args s 2 (6 * 2) (xA b0)) 66 [(0, .ref (σ 0)), (1, .int X1), (2, .int X2), (3, .int X3), (4, .int X4)] [] M N := by
  intro n
  induction n with
  | zero =>
    intro M N X1 X2 X3 X4 hf
    cases hf
  | succ n ih =>
    intro M N X1 X2 X3 X4 hf
    rw [fX11_planned_L66.eq_2] at hf
    refine x_iload hE 4 dX11_planned_66 rfl ?_
    refine x_iload_n hE 3 dX11_planned_68 rfl rfl ?_
    refine x_icmp_ge hE 85 dX11_planned_69 (by decide) hf (fun hf => ?_) (fun hf => ?_)
    · refine x_iload_n hE 2 dX11_planned_85 rfl rfl ?_
      refine x_aload_n hE 0 dX11_planned_86 rfl rfl ?_
      refine x_getR hE cl_11 (hE.kd kO_11) (by decide) 17 (126) rfl (by decide) lk_X11_69 dX11_planned_87 ?_
      refine x_alen hE (nI 4) (hE.kd kA_126) (Or.inl rfl) rfl dX11_planned_90 ?_
      obtain ⟨v10, hc9, hf⟩ := bnd_some hf
      refine x_callS1 hE [.int X2, .int (nI 4)] (rest := []) (v := .int v10) (c1 := M) (d1 := N) rfl yokX11_inside ysX11_inside lk_X11_191 rfl rfl ⟨Nat.le_of_ble_eq_true rfl, Nat.le_of_ble_eq_true rfl⟩ (by decide) rfl (Nat.le_of_ble_eq_true rfl) dX11_planned_91 (mX11_inside l hc9) ?_
      refine x_if_eq hE 106 dX11_planned_94 (by decide) hf (fun hf => ?_) (fun hf => ?_)
      · refine x_iconst hE (-1) dX11_planned_106 (by decide) ?_
        refine x_xin (by decide) (by decide) hf ?_
        exact x_ireturn hE (v := (-1)) hr rfl dX11_planned_107
      · refine x_aload_n hE 0 dX11_planned_97 rfl rfl ?_
        refine x_getR hE cl_11 (hE.kd kO_11) (by decide) 17 (126) rfl (by decide) lk_X11_69 dX11_planned_98 ?_
        refine x_iload_n hE 2 dX11_planned_101 rfl rfl ?_
        refine x_iald hE (hE.kd kA_126) dX11_planned_102 hf (fun hf => ?_)
        refine x_goto hE 107 dX11_planned_103 (by decide) ?_
        refine x_xin (by decide) (by decide) hf ?_
        exact x_ireturn hE (v := M (126) X2.toNatClampNeg) hr rfl dX11_planned_107
    · refine x_aload_n hE 0 dX11_planned_72 rfl rfl ?_
      refine x_iload_n hE 1 dX11_planned_73 rfl rfl ?_
      refine x_iload hE 4 dX11_planned_74 rfl ?_
      obtain ⟨M12, hc11, hf⟩ := bnd_some hf
      refine x_callV0 hE [.int X1, .int X4] (rest := []) (c1 := M12) (d1 := N) rfl yokX11_tryRow yvX11_tryRow lk_X11_432 rfl cl_11 (hE.kd kO_11) (by decide) rfl rfl ⟨Nat.le_of_ble_eq_true rfl, Nat.le_of_ble_eq_true rfl⟩ (by decide) rfl (Nat.le_of_ble_eq_true rfl) dX11_planned_76 (mX11_tryRow l hc11) ?_
      refine x_iinc hE 4 (X4 + nI 1) (L' := [(4, .int (X4 + nI 1)), (0, .ref (σ 0)), (1, .int X1), (2, .int X2), (3, .int X3)]) dX11_planned_79 rfl rfl (by decide) rfl ?_
      refine x_pick [1, 2, 3, 4, 0] (L' := [(0, .ref (σ 0)), (1, .int X1), (2, .int X2), (3, .int X3), (4, .int (X4 + nI 1))]) rfl ?_
      refine x_goto hE 66 dX11_planned_82 (by decide) ?_
      exact ih _ _ _ _ _ _ hf
theorem wX11_planned_J62 {p : Program} {l : Launch} {e : Env} {s : State} {m : MethodId} {args : Array Value} {below : List Frame} {meth : Method} {c : Code} {Y : Nat → ClassId} {D : va_G} {σ : Nat → Nat} {np b0 : Nat} {r : Nat ⊕ (Int32 × Mc)} {M : Mc} {N : Md} {X1 : Int32} {X2 : Int32} {Z0 : Int32} (hE : EOK p s m args meth c cX11_planned 5 RX11 Y D σ np b0) (hr : meth.sig.returnType = (some .int)) (hT : ∀ x ∈ c.exceptionTable.toList, False) (hfl : l.stackTraces = false) (hf : fX11_planned_J62 M X1 X2 Z0 = some r) : Xw p l e (rmX 8 2) s m args below meth c 5 Y D σ np b0 2 (6 * 2) (vx_MQ below (QX (fun r : Int32 × Mc => QR Y D σ np b0 (some (.int r.1)) r.2 N) r) (XX Y D σ np b0 M N r) args s 2 (6 * 2) (xA b0)) 62 [(0, .ref (σ 0)), (1, .int X1), (2, .int X2)] [.int Z0] M N := by
  unfold fX11_planned_J62 at hf
  refine x_istore_n hE (L' := [(3, .int Z0), (0, .ref (σ 0)), (1, .int X1), (2, .int X2)]) dX11_planned_62 rfl (by decide) rfl ?_
  refine x_pick [1, 2, 3, 0] (L' := [(0, .ref (σ 0)), (1, .int X1), (2, .int X2), (3, .int Z0)]) rfl ?_
  refine x_iconst hE (0 : Int32) dX11_planned_63 (by decide) ?_
  refine x_istore hE (L' := [(4, .int 0), (0, .ref (σ 0)), (1, .int X1), (2, .int X2), (3, .int Z0)]) dX11_planned_64 (by decide) rfl ?_
  refine x_pick [1, 2, 3, 4, 0] (L' := [(0, .ref (σ 0)), (1, .int X1), (2, .int X2), (3, .int Z0), (4, .int 0)]) rfl ?_
  exact wX11_planned_L66 hE hr hT hfl FU _ _ _ _ _ _ hf
theorem wX11_planned_J24 {p : Program} {l : Launch} {e : Env} {s : State} {m : MethodId} {args : Array Value} {below : List Frame} {meth : Method} {c : Code} {Y : Nat → ClassId} {D : va_G} {σ : Nat → Nat} {np b0 : Nat} {r : Nat ⊕ (Int32 × Mc)} {M : Mc} {N : Md} {X1 : Int32} {X2 : Int32} {Z0 : Int32} (hE : EOK p s m args meth c cX11_planned 5 RX11 Y D σ np b0) (hr : meth.sig.returnType = (some .int)) (hT : ∀ x ∈ c.exceptionTable.toList, False) (hfl : l.stackTraces = false) (hf : fX11_planned_J24 M X1 X2 Z0 = some r) : Xw p l e (rmX 8 2) s m args below meth c 5 Y D σ np b0 0 (6 * 0) (vx_MQ below (QX (fun r : Int32 × Mc => QR Y D σ np b0 (some (.int r.1)) r.2 N) r) (XX Y D σ np b0 M N r) args s 2 (6 * 2) (xA b0)) 24 [(0, .ref (σ 0)), (1, .int X1), (2, .int X2)] [.int Z0] M N := by
  unfold fX11_planned_J24 at hf
  obtain ⟨y1, hc2, hy3⟩ := bnx_some hf
  refine x_callXS hE hT [.int Z0] (rest := []) rfl yokX11_needThat ysX11_needThat lk_X11_76 ⟨Nat.le_of_ble_eq_true rfl, Nat.le_of_ble_eq_true rfl⟩ (by decide) rfl (Nat.le_of_ble_eq_true rfl) dX11_planned_24 (mX11_needThat l hfl hc2) ⟨rfl, rfl⟩ (by decide) (by decide) (hy3.imp id (fun ⟨_, ha4, hf⟩ => ⟨_, none, M, N, ha4, rfl, ?_⟩))
  refine x_aload_n hE 0 dX11_planned_27 rfl rfl ?_
  refine x_iload_n hE 1 dX11_planned_28 rfl rfl ?_
  refine x_bipush hE (nI 13) dX11_planned_29 (by decide) ?_
  refine x_imul hE dX11_planned_31 ?_
  obtain ⟨y5, hc6, hy7⟩ := bnx_some hf
  refine x_callXV hE hT [.int (X1 * (nI 13))] (rest := []) rfl yokX11_needWeeks yvX11_needWeeks lk_X11_381 rfl cl_11 (hE.kd kO_11) (by decide) ⟨Nat.le_of_ble_eq_true rfl, Nat.le_of_ble_eq_true rfl⟩ (by decide) rfl (Nat.le_of_ble_eq_true rfl) dX11_planned_32 (mX11_needWeeks l hfl hc6) ⟨rfl, rfl⟩ (by decide) (by decide) (hy7.imp id (fun ⟨_, ha8, hf⟩ => ⟨_, none, M, N, ha8, rfl, ?_⟩))
  refine x_aload_n hE 0 dX11_planned_35 rfl rfl ?_
  refine x_getI hE cl_11 (hE.kd kO_11) (by decide) 14 rfl (by decide) lk_X11_422 dX11_planned_36 ?_
  refine x_if_eq hE 49 dX11_planned_39 (by decide) hf (fun hf => ?_) (fun hf => ?_)
  · refine x_iconst hE (-1) dX11_planned_49 (by decide) ?_
    refine x_xin (by decide) (by decide) hf ?_
    exact x_ireturn hE (v := (-1)) hr rfl dX11_planned_50
  · refine x_aload_n hE 0 dX11_planned_42 rfl rfl ?_
    refine x_getI hE cl_11 (hE.kd kO_11) (by decide) 16 rfl (by decide) lk_X11_429 dX11_planned_43 ?_
    refine x_if_ne hE 51 dX11_planned_46 (by decide) hf (fun hf => ?_) (fun hf => ?_)
    · refine x_iload_n hE 1 dX11_planned_51 rfl rfl ?_
      refine x_iconst hE (nI 2) dX11_planned_52 (by decide) ?_
      refine x_icmp_ne hE 61 dX11_planned_53 (by decide) hf (fun hf => ?_) (fun hf => ?_)
      · refine x_iconst hE (nI 3) dX11_planned_61 (by decide) ?_
        exact wX11_planned_J62 hE hr hT hfl hf
      · refine x_bipush hE (nI 9) dX11_planned_56 (by decide) ?_
        refine x_goto hE 62 dX11_planned_58 (by decide) ?_
        exact wX11_planned_J62 hE hr hT hfl hf
    · refine x_iconst hE (-1) dX11_planned_49 (by decide) ?_
      refine x_xin (by decide) (by decide) hf ?_
      exact x_ireturn hE (v := (-1)) hr rfl dX11_planned_50
theorem wX11_planned_J23 {p : Program} {l : Launch} {e : Env} {s : State} {m : MethodId} {args : Array Value} {below : List Frame} {meth : Method} {c : Code} {Y : Nat → ClassId} {D : va_G} {σ : Nat → Nat} {np b0 : Nat} {r : Nat ⊕ (Int32 × Mc)} {M : Mc} {N : Md} {X1 : Int32} {X2 : Int32} (hE : EOK p s m args meth c cX11_planned 5 RX11 Y D σ np b0) (hr : meth.sig.returnType = (some .int)) (hT : ∀ x ∈ c.exceptionTable.toList, False) (hfl : l.stackTraces = false) (hf : fX11_planned_J23 M X1 X2 = some r) : Xw p l e (rmX 8 2) s m args below meth c 5 Y D σ np b0 0 (6 * 0) (vx_MQ below (QX (fun r : Int32 × Mc => QR Y D σ np b0 (some (.int r.1)) r.2 N) r) (XX Y D σ np b0 M N r) args s 2 (6 * 2) (xA b0)) 23 [(0, .ref (σ 0)), (1, .int X1), (2, .int X2)] [] M N := by
  unfold fX11_planned_J23 at hf
  refine x_iconst hE (0 : Int32) dX11_planned_23 (by decide) ?_
  exact wX11_planned_J24 hE hr hT hfl hf
theorem wX11_planned_J10 {p : Program} {l : Launch} {e : Env} {s : State} {m : MethodId} {args : Array Value} {below : List Frame} {meth : Method} {c : Code} {Y : Nat → ClassId} {D : va_G} {σ : Nat → Nat} {np b0 : Nat} {r : Nat ⊕ (Int32 × Mc)} {M : Mc} {N : Md} {X1 : Int32} {X2 : Int32} (hE : EOK p s m args meth c cX11_planned 5 RX11 Y D σ np b0) (hr : meth.sig.returnType = (some .int)) (hT : ∀ x ∈ c.exceptionTable.toList, False) (hfl : l.stackTraces = false) (hf : fX11_planned_J10 M X1 X2 = some r) : Xw p l e (rmX 8 2) s m args below meth c 5 Y D σ np b0 0 (6 * 0) (vx_MQ below (QX (fun r : Int32 × Mc => QR Y D σ np b0 (some (.int r.1)) r.2 N) r) (XX Y D σ np b0 M N r) args s 2 (6 * 2) (xA b0)) 10 [(0, .ref (σ 0)), (1, .int X1), (2, .int X2)] [] M N := by
  unfold fX11_planned_J10 at hf
  refine x_iload_n hE 2 dX11_planned_10 rfl rfl ?_
  refine x_if_lt hE 23 dX11_planned_11 (by decide) hf (fun hf => ?_) (fun hf => ?_)
  · exact wX11_planned_J23 hE hr hT hfl hf
  · refine x_iload_n hE 2 dX11_planned_14 rfl rfl ?_
    refine x_iconst hE (nI 3) dX11_planned_15 (by decide) ?_
    refine x_icmp_gt hE 23 dX11_planned_16 (by decide) hf (fun hf => ?_) (fun hf => ?_)
    · exact wX11_planned_J23 hE hr hT hfl hf
    · refine x_iconst hE (nI 1) dX11_planned_19 (by decide) ?_
      refine x_goto hE 24 dX11_planned_20 (by decide) ?_
      exact wX11_planned_J24 hE hr hT hfl hf
theorem mX11_planned (l : Launch) (hfl : l.stackTraces = false) {Y : Nat → ClassId} {D : va_G} {σ : Nat → Nat} {np b0 : Nat} {M : Mc} {N : Md} {p0 : Int32} {p1 : Int32} {r : Nat ⊕ (Int32 × Mc)} (hf : fX11_planned M p0 p1 = some r) : vx_Met l yX11_planned (.code yX11_planned cX11_planned 5 (some .int) :: lw_g) (rmX 8 2) (PR Y D σ np b0 [.ref (σ 0), .int p0, .int p1] M N) (QX (fun r : Int32 × Mc => QR Y D σ np b0 (some (.int r.1)) r.2 N) r) (XX Y D σ np b0 M N r) 2 (6 * 2) (xA b0) := by
  refine x_vmet (by decide) (Nat.le_of_ble_eq_true rfl) (fun p e s m args below meth c hE hr hT => ?_)
  unfold fX11_planned at hf
  refine x_pick [0, 1, 2] (L' := [(0, .ref (σ 0)), (1, .int p0), (2, .int p1)]) rfl ?_
  refine x_iload_n hE 1 dX11_planned_0 rfl rfl ?_
  refine x_iconst hE (nI 1) dX11_planned_1 (by decide) ?_
  refine x_icmp_eq hE 10 dX11_planned_2 (by decide) hf (fun hf => ?_) (fun hf => ?_)
  · exact wX11_planned_J10 hE hr hT hfl hf
  · refine x_iload_n hE 1 dX11_planned_5 rfl rfl ?_
    refine x_iconst hE (nI 2) dX11_planned_6 (by decide) ?_
    refine x_icmp_ne hE 23 dX11_planned_7 (by decide) hf (fun hf => ?_) (fun hf => ?_)
    · exact wX11_planned_J23 hE hr hT hfl hf
    · exact wX11_planned_J10 hE hr hT hfl hf
theorem yokX11_planned : YOK yX11_planned cX11_planned 5 2 (some .int) := ⟨mem_g 1893 (by decide +kernel) (by decide +kernel), mem_g 131 (by decide +kernel) (by decide +kernel), by decide +kernel, by decide +kernel, by decide +kernel⟩
theorem yvX11_planned : YV yX11_planned := ⟨mem_g 1891 (by decide +kernel) (by decide +kernel), mem_g 1892 (by decide +kernel) (by decide +kernel)⟩
theorem lk_X11_51 : Cond.fieldLink RX11 51 (TX11 6).1 (TX11 6).2.1 (TX11 6).2.2.1 ∈ lw_g := mem_g 565 (by decide +kernel) (by decide +kernel)
theorem lk_X11_435 : Cond.methodLink RX11 435 yX6_take ∈ lw_g := mem_g 696 (by decide +kernel) (by decide +kernel)
theorem dX11_image_0 : decode cX11_image 0 = .ok (.aload_n 0, 1) := by decide +kernel
theorem dX11_image_1 : decode cX11_image 1 = .ok (.getfield 51, 3) := by decide +kernel
theorem dX11_image_4 : decode cX11_image 4 = .ok (.aload_n 0, 1) := by decide +kernel
theorem dX11_image_5 : decode cX11_image 5 = .ok (.getfield 27, 3) := by decide +kernel
theorem dX11_image_8 : decode cX11_image 8 = .ok (.getfield 80, 3) := by decide +kernel
theorem dX11_image_11 : decode cX11_image 11 = .ok (.aload_n 0, 1) := by decide +kernel
theorem dX11_image_12 : decode cX11_image 12 = .ok (.getfield 27, 3) := by decide +kernel
theorem dX11_image_15 : decode cX11_image 15 = .ok (.getfield 125, 3) := by decide +kernel
theorem dX11_image_18 : decode cX11_image 18 = .ok (.invokevirtual 435, 3) := by decide +kernel
theorem dX11_image_21 : decode cX11_image 21 = .ok (.ireturn, 1) := by decide +kernel
theorem mX11_image (l : Launch) {Y : Nat → ClassId} {D : va_G} {σ : Nat → Nat} {np b0 : Nat} {M : Mc} {N : Md} {r : Int32 × Mc × Md} (hf : fX11_image M N = some r) : Met l yX11_image (.code yX11_image cX11_image 1 (some .int) :: lw_g) (rmD 4) (PR Y D σ np b0 [.ref (σ 0)] M N) (QR Y D σ np b0 (some (.int r.1)) r.2.1 r.2.2) 0 0 (xA b0) := by
  refine x_met (by decide) (Nat.le_of_ble_eq_true rfl) (fun p e s m args below meth c hE hr => ?_)
  unfold fX11_image at hf
  refine x_pick [0] (L' := [(0, .ref (σ 0))]) rfl ?_
  refine x_aload_n hE 0 dX11_image_0 rfl rfl ?_
  refine x_getR hE cl_11 (hE.kd kO_11) (by decide) 6 (121) rfl (by decide) lk_X11_51 dX11_image_1 ?_
  refine x_aload_n hE 0 dX11_image_4 rfl rfl ?_
  refine x_getR hE cl_11 (hE.kd kO_11) (by decide) 2 (17) rfl (by decide) lk_X11_27 dX11_image_5 ?_
  refine x_getR hE cl_10 (hE.kd (kO_10 hI_17)) (by decide) 1 (17 + 1) rfl (by decide) lk_X11_80 dX11_image_8 ?_
  refine x_aload_n hE 0 dX11_image_11 rfl rfl ?_
  refine x_getR hE cl_11 (hE.kd kO_11) (by decide) 2 (17) rfl (by decide) lk_X11_27 dX11_image_12 ?_
  refine x_getR hE cl_10 (hE.kd (kO_10 hI_17)) (by decide) 2 (17 + 15) rfl (by decide) lk_X11_125 dX11_image_15 ?_
  obtain ⟨⟨v2, M3, N4⟩, hc1, hf⟩ := bn3_some hf
  refine x_callV1 hE [.ref (σ (17 + 1)), .ref (σ (17 + 15))] (rest := []) (v := .int v2) (c1 := M3) (d1 := N4) rfl yokX6_take yvX6_take lk_X11_435 rfl cl_6 (hE.kd kO_6) (by decide) rfl rfl ⟨Nat.le_of_ble_eq_true rfl, Nat.le_of_ble_eq_true rfl⟩ ⟨Nat.zero_le _, Nat.zero_le _⟩ rfl (Nat.le_of_ble_eq_true rfl) dX11_image_18 (mX6_take l (hL_10_1 hI_17) (hL_10_2 hI_17) hc1) ?_
  replace hf := Option.some.inj hf
  subst hf
  exact x_ireturn hE (v := v2) hr rfl dX11_image_21
theorem yokX11_image : YOK yX11_image cX11_image 1 0 (some .int) := ⟨mem_g 695 (by decide +kernel) (by decide +kernel), mem_g 131 (by decide +kernel) (by decide +kernel), by decide +kernel, by decide +kernel, by decide +kernel⟩
theorem yvX11_image : YV yX11_image := ⟨mem_g 693 (by decide +kernel) (by decide +kernel), mem_g 694 (by decide +kernel) (by decide +kernel)⟩
theorem lk_X11_439 : Cond.methodLink RX11 439 yX6_at ∈ lw_g := mem_g 733 (by decide +kernel) (by decide +kernel)
theorem dX11_number_0 : decode cX11_number 0 = .ok (.aload_n 0, 1) := by decide +kernel
theorem dX11_number_1 : decode cX11_number 1 = .ok (.getfield 51, 3) := by decide +kernel
theorem dX11_number_4 : decode cX11_number 4 = .ok (.iload_n 1, 1) := by decide +kernel
theorem dX11_number_5 : decode cX11_number 5 = .ok (.invokevirtual 439, 3) := by decide +kernel
theorem dX11_number_8 : decode cX11_number 8 = .ok (.ireturn, 1) := by decide +kernel
theorem mX11_number (l : Launch) {Y : Nat → ClassId} {D : va_G} {σ : Nat → Nat} {np b0 : Nat} {M : Mc} {N : Md} {p0 : Int32} {r : Int32} (hf : fX11_number M p0 = some r) : Met l yX11_number (.code yX11_number cX11_number 2 (some .int) :: lw_g) (rmD 3) (PR Y D σ np b0 [.ref (σ 0), .int p0] M N) (QR Y D σ np b0 (some (.int r)) M N) 0 0 (xA b0) := by
  refine x_met (by decide) (Nat.le_of_ble_eq_true rfl) (fun p e s m args below meth c hE hr => ?_)
  unfold fX11_number at hf
  refine x_pick [0, 1] (L' := [(0, .ref (σ 0)), (1, .int p0)]) rfl ?_
  refine x_aload_n hE 0 dX11_number_0 rfl rfl ?_
  refine x_getR hE cl_11 (hE.kd kO_11) (by decide) 6 (121) rfl (by decide) lk_X11_51 dX11_number_1 ?_
  refine x_iload_n hE 1 dX11_number_4 rfl rfl ?_
  obtain ⟨v2, hc1, hf⟩ := bnd_some hf
  refine x_callV1 hE [.int p0] (rest := []) (v := .int v2) (c1 := M) (d1 := N) rfl yokX6_at yvX6_at lk_X11_439 rfl cl_6 (hE.kd kO_6) (by decide) rfl rfl ⟨Nat.le_of_ble_eq_true rfl, Nat.le_of_ble_eq_true rfl⟩ ⟨Nat.zero_le _, Nat.zero_le _⟩ rfl (Nat.le_of_ble_eq_true rfl) dX11_number_5 (mX6_at l hc1) ?_
  replace hf := Option.some.inj hf
  subst hf
  exact x_ireturn hE (v := v2) hr rfl dX11_number_8
theorem yokX11_number : YOK yX11_number cX11_number 2 1 (some .int) := ⟨mem_g 732 (by decide +kernel) (by decide +kernel), mem_g 131 (by decide +kernel) (by decide +kernel), by decide +kernel, by decide +kernel, by decide +kernel⟩
theorem yvX11_number : YV yX11_number := ⟨mem_g 730 (by decide +kernel) (by decide +kernel), mem_g 731 (by decide +kernel) (by decide +kernel)⟩
theorem lk_X11_442 : Cond.methodLink RX11 442 yX6_alter ∈ lw_g := mem_g 742 (by decide +kernel) (by decide +kernel)
theorem dX11_tear_0 : decode cX11_tear 0 = .ok (.aload_n 0, 1) := by decide +kernel
theorem dX11_tear_1 : decode cX11_tear 1 = .ok (.getfield 51, 3) := by decide +kernel
theorem dX11_tear_4 : decode cX11_tear 4 = .ok (.iload_n 1, 1) := by decide +kernel
theorem dX11_tear_5 : decode cX11_tear 5 = .ok (.iload_n 2, 1) := by decide +kernel
theorem dX11_tear_6 : decode cX11_tear 6 = .ok (.invokevirtual 442, 3) := by decide +kernel
theorem dX11_tear_9 : decode cX11_tear 9 = .ok (.ireturn, 1) := by decide +kernel
theorem mX11_tear (l : Launch) {Y : Nat → ClassId} {D : va_G} {σ : Nat → Nat} {np b0 : Nat} {M : Mc} {N : Md} {p0 : Int32} {p1 : Int32} {r : Int32 × Mc} (hf : fX11_tear M p0 p1 = some r) : Met l yX11_tear (.code yX11_tear cX11_tear 3 (some .int) :: lw_g) (rmD 3) (PR Y D σ np b0 [.ref (σ 0), .int p0, .int p1] M N) (QR Y D σ np b0 (some (.int r.1)) r.2 N) 0 0 (xA b0) := by
  refine x_met (by decide) (Nat.le_of_ble_eq_true rfl) (fun p e s m args below meth c hE hr => ?_)
  unfold fX11_tear at hf
  refine x_pick [0, 1, 2] (L' := [(0, .ref (σ 0)), (1, .int p0), (2, .int p1)]) rfl ?_
  refine x_aload_n hE 0 dX11_tear_0 rfl rfl ?_
  refine x_getR hE cl_11 (hE.kd kO_11) (by decide) 6 (121) rfl (by decide) lk_X11_51 dX11_tear_1 ?_
  refine x_iload_n hE 1 dX11_tear_4 rfl rfl ?_
  refine x_iload_n hE 2 dX11_tear_5 rfl rfl ?_
  obtain ⟨⟨v2, M3⟩, hc1, hf⟩ := bn2_some hf
  refine x_callV1 hE [.int p0, .int p1] (rest := []) (v := .int v2) (c1 := M3) (d1 := N) rfl yokX6_alter yvX6_alter lk_X11_442 rfl cl_6 (hE.kd kO_6) (by decide) rfl rfl ⟨Nat.le_of_ble_eq_true rfl, Nat.le_of_ble_eq_true rfl⟩ ⟨Nat.zero_le _, Nat.zero_le _⟩ rfl (Nat.le_of_ble_eq_true rfl) dX11_tear_6 (mX6_alter l hc1) ?_
  replace hf := Option.some.inj hf
  subst hf
  exact x_ireturn hE (v := v2) hr rfl dX11_tear_9
theorem yokX11_tear : YOK yX11_tear cX11_tear 3 2 (some .int) := ⟨mem_g 741 (by decide +kernel) (by decide +kernel), mem_g 131 (by decide +kernel) (by decide +kernel), by decide +kernel, by decide +kernel, by decide +kernel⟩
theorem yvX11_tear : YV yX11_tear := ⟨mem_g 739 (by decide +kernel) (by decide +kernel), mem_g 740 (by decide +kernel) (by decide +kernel)⟩
theorem lk_X11_445 : Cond.methodLink RX11 445 yX6_verdict ∈ lw_g := mem_g 750 (by decide +kernel) (by decide +kernel)
theorem dX11_check_0 : decode cX11_check 0 = .ok (.aload_n 0, 1) := by decide +kernel
theorem dX11_check_1 : decode cX11_check 1 = .ok (.getfield 51, 3) := by decide +kernel
theorem dX11_check_4 : decode cX11_check 4 = .ok (.invokevirtual 445, 3) := by decide +kernel
theorem dX11_check_7 : decode cX11_check 7 = .ok (.ireturn, 1) := by decide +kernel
theorem mX11_check (l : Launch) {Y : Nat → ClassId} {D : va_G} {σ : Nat → Nat} {np b0 : Nat} {M : Mc} {N : Md} {r : Int32} (hf : fX11_check M N = some r) : Met l yX11_check (.code yX11_check cX11_check 1 (some .int) :: lw_g) (rmD 3) (PR Y D σ np b0 [.ref (σ 0)] M N) (QR Y D σ np b0 (some (.int r)) M N) 0 0 (xA b0) := by
  refine x_met (by decide) (Nat.le_of_ble_eq_true rfl) (fun p e s m args below meth c hE hr => ?_)
  unfold fX11_check at hf
  refine x_pick [0] (L' := [(0, .ref (σ 0))]) rfl ?_
  refine x_aload_n hE 0 dX11_check_0 rfl rfl ?_
  refine x_getR hE cl_11 (hE.kd kO_11) (by decide) 6 (121) rfl (by decide) lk_X11_51 dX11_check_1 ?_
  obtain ⟨v2, hc1, hf⟩ := bnd_some hf
  refine x_callV1 hE [] (rest := []) (v := .int v2) (c1 := M) (d1 := N) rfl yokX6_verdict yvX6_verdict lk_X11_445 rfl cl_6 (hE.kd kO_6) (by decide) rfl rfl ⟨Nat.le_of_ble_eq_true rfl, Nat.le_of_ble_eq_true rfl⟩ ⟨Nat.zero_le _, Nat.zero_le _⟩ rfl (Nat.le_of_ble_eq_true rfl) dX11_check_4 (mX6_verdict l hc1) ?_
  replace hf := Option.some.inj hf
  subst hf
  exact x_ireturn hE (v := v2) hr rfl dX11_check_7
theorem yokX11_check : YOK yX11_check cX11_check 1 0 (some .int) := ⟨mem_g 749 (by decide +kernel) (by decide +kernel), mem_g 131 (by decide +kernel) (by decide +kernel), by decide +kernel, by decide +kernel, by decide +kernel⟩
theorem yvX11_check : YV yX11_check := ⟨mem_g 747 (by decide +kernel) (by decide +kernel), mem_g 748 (by decide +kernel) (by decide +kernel)⟩
theorem lk_X11_450 : Cond.fieldLink RX11 450 (TX3 3).1 (TX3 3).2.1 (TX3 3).2.2.1 ∈ lw_g := mem_g 263 (by decide +kernel) (by decide +kernel)
theorem lk_X11_453 : Cond.fieldLink RX11 453 (TX9 2).1 (TX9 2).2.1 (TX9 2).2.2.1 ∈ lw_g := mem_g 485 (by decide +kernel) (by decide +kernel)
theorem dX11_count_0 : decode cX11_count 0 = .ok (.iload_n 1, 1) := by decide +kernel
theorem dX11_count_1 : decode cX11_count 1 = .ok (.tableswitch 216 0 14 #[75, 83, 94, 105, 116, 124, 132, 143, 154, 159, 170, 181, 192, 203, 208], 75) := by decide +kernel
theorem dX11_count_76 : decode cX11_count 76 = .ok (.aload_n 0, 1) := by decide +kernel
theorem dX11_count_77 : decode cX11_count 77 = .ok (.getfield 27, 3) := by decide +kernel
theorem dX11_count_80 : decode cX11_count 80 = .ok (.getfield 232, 3) := by decide +kernel
theorem dX11_count_83 : decode cX11_count 83 = .ok (.ireturn, 1) := by decide +kernel
theorem dX11_count_84 : decode cX11_count 84 = .ok (.aload_n 0, 1) := by decide +kernel
theorem dX11_count_85 : decode cX11_count 85 = .ok (.getfield 27, 3) := by decide +kernel
theorem dX11_count_88 : decode cX11_count 88 = .ok (.getfield 125, 3) := by decide +kernel
theorem dX11_count_91 : decode cX11_count 91 = .ok (.getfield 129, 3) := by decide +kernel
theorem dX11_count_94 : decode cX11_count 94 = .ok (.ireturn, 1) := by decide +kernel
theorem dX11_count_95 : decode cX11_count 95 = .ok (.aload_n 0, 1) := by decide +kernel
theorem dX11_count_96 : decode cX11_count 96 = .ok (.getfield 27, 3) := by decide +kernel
theorem dX11_count_99 : decode cX11_count 99 = .ok (.getfield 125, 3) := by decide +kernel
theorem dX11_count_102 : decode cX11_count 102 = .ok (.getfield 412, 3) := by decide +kernel
theorem dX11_count_105 : decode cX11_count 105 = .ok (.ireturn, 1) := by decide +kernel
theorem dX11_count_106 : decode cX11_count 106 = .ok (.aload_n 0, 1) := by decide +kernel
theorem dX11_count_107 : decode cX11_count 107 = .ok (.getfield 27, 3) := by decide +kernel
theorem dX11_count_110 : decode cX11_count 110 = .ok (.getfield 80, 3) := by decide +kernel
theorem dX11_count_113 : decode cX11_count 113 = .ok (.getfield 400, 3) := by decide +kernel
theorem dX11_count_116 : decode cX11_count 116 = .ok (.ireturn, 1) := by decide +kernel
theorem dX11_count_117 : decode cX11_count 117 = .ok (.aload_n 0, 1) := by decide +kernel
theorem dX11_count_118 : decode cX11_count 118 = .ok (.getfield 27, 3) := by decide +kernel
theorem dX11_count_121 : decode cX11_count 121 = .ok (.getfield 406, 3) := by decide +kernel
theorem dX11_count_124 : decode cX11_count 124 = .ok (.ireturn, 1) := by decide +kernel
theorem dX11_count_125 : decode cX11_count 125 = .ok (.aload_n 0, 1) := by decide +kernel
theorem dX11_count_126 : decode cX11_count 126 = .ok (.getfield 27, 3) := by decide +kernel
theorem dX11_count_129 : decode cX11_count 129 = .ok (.getfield 259, 3) := by decide +kernel
theorem dX11_count_132 : decode cX11_count 132 = .ok (.ireturn, 1) := by decide +kernel
theorem dX11_count_133 : decode cX11_count 133 = .ok (.aload_n 0, 1) := by decide +kernel
theorem dX11_count_134 : decode cX11_count 134 = .ok (.getfield 27, 3) := by decide +kernel
theorem dX11_count_137 : decode cX11_count 137 = .ok (.getfield 125, 3) := by decide +kernel
theorem dX11_count_140 : decode cX11_count 140 = .ok (.getfield 403, 3) := by decide +kernel
theorem dX11_count_143 : decode cX11_count 143 = .ok (.ireturn, 1) := by decide +kernel
theorem dX11_count_144 : decode cX11_count 144 = .ok (.aload_n 0, 1) := by decide +kernel
theorem dX11_count_145 : decode cX11_count 145 = .ok (.getfield 27, 3) := by decide +kernel
theorem dX11_count_148 : decode cX11_count 148 = .ok (.getfield 289, 3) := by decide +kernel
theorem dX11_count_151 : decode cX11_count 151 = .ok (.getfield 293, 3) := by decide +kernel
theorem dX11_count_154 : decode cX11_count 154 = .ok (.ireturn, 1) := by decide +kernel
theorem dX11_count_155 : decode cX11_count 155 = .ok (.aload_n 0, 1) := by decide +kernel
theorem dX11_count_156 : decode cX11_count 156 = .ok (.getfield 348, 3) := by decide +kernel
theorem dX11_count_159 : decode cX11_count 159 = .ok (.ireturn, 1) := by decide +kernel
theorem dX11_count_160 : decode cX11_count 160 = .ok (.aload_n 0, 1) := by decide +kernel
theorem dX11_count_161 : decode cX11_count 161 = .ok (.getfield 27, 3) := by decide +kernel
theorem dX11_count_164 : decode cX11_count 164 = .ok (.getfield 363, 3) := by decide +kernel
theorem dX11_count_167 : decode cX11_count 167 = .ok (.getfield 448, 3) := by decide +kernel
theorem dX11_count_170 : decode cX11_count 170 = .ok (.ireturn, 1) := by decide +kernel
theorem dX11_count_171 : decode cX11_count 171 = .ok (.aload_n 0, 1) := by decide +kernel
theorem dX11_count_172 : decode cX11_count 172 = .ok (.getfield 27, 3) := by decide +kernel
theorem dX11_count_175 : decode cX11_count 175 = .ok (.getfield 142, 3) := by decide +kernel
theorem dX11_count_178 : decode cX11_count 178 = .ok (.getfield 449, 3) := by decide +kernel
theorem dX11_count_181 : decode cX11_count 181 = .ok (.ireturn, 1) := by decide +kernel
theorem dX11_count_182 : decode cX11_count 182 = .ok (.aload_n 0, 1) := by decide +kernel
theorem dX11_count_183 : decode cX11_count 183 = .ok (.getfield 27, 3) := by decide +kernel
theorem dX11_count_186 : decode cX11_count 186 = .ok (.getfield 125, 3) := by decide +kernel
theorem dX11_count_189 : decode cX11_count 189 = .ok (.getfield 450, 3) := by decide +kernel
theorem dX11_count_192 : decode cX11_count 192 = .ok (.ireturn, 1) := by decide +kernel
theorem dX11_count_193 : decode cX11_count 193 = .ok (.aload_n 0, 1) := by decide +kernel
theorem dX11_count_194 : decode cX11_count 194 = .ok (.getfield 27, 3) := by decide +kernel
theorem dX11_count_197 : decode cX11_count 197 = .ok (.getfield 363, 3) := by decide +kernel
theorem dX11_count_200 : decode cX11_count 200 = .ok (.getfield 367, 3) := by decide +kernel
theorem dX11_count_203 : decode cX11_count 203 = .ok (.ireturn, 1) := by decide +kernel
theorem dX11_count_204 : decode cX11_count 204 = .ok (.aload_n 0, 1) := by decide +kernel
theorem dX11_count_205 : decode cX11_count 205 = .ok (.getfield 283, 3) := by decide +kernel
theorem dX11_count_208 : decode cX11_count 208 = .ok (.ireturn, 1) := by decide +kernel
theorem dX11_count_209 : decode cX11_count 209 = .ok (.aload_n 0, 1) := by decide +kernel
theorem dX11_count_210 : decode cX11_count 210 = .ok (.getfield 37, 3) := by decide +kernel
theorem dX11_count_213 : decode cX11_count 213 = .ok (.getfield 453, 3) := by decide +kernel
theorem dX11_count_216 : decode cX11_count 216 = .ok (.ireturn, 1) := by decide +kernel
theorem dX11_count_217 : decode cX11_count 217 = .ok (.iconst (-1), 1) := by decide +kernel
theorem dX11_count_218 : decode cX11_count 218 = .ok (.ireturn, 1) := by decide +kernel
theorem mX11_count (l : Launch) {Y : Nat → ClassId} {D : va_G} {σ : Nat → Nat} {np b0 : Nat} {M : Mc} {N : Md} {p0 : Int32} {r : Int32} (hf : fX11_count M p0 = some r) : Met l yX11_count (.code yX11_count cX11_count 2 (some .int) :: lw_g) (rmD 1) (PR Y D σ np b0 [.ref (σ 0), .int p0] M N) (QR Y D σ np b0 (some (.int r)) M N) 0 0 (xA b0) := by
  refine x_met (by decide) (Nat.le_of_ble_eq_true rfl) (fun p e s m args below meth c hE hr => ?_)
  unfold fX11_count at hf
  refine x_pick [0, 1] (L' := [(0, .ref (σ 0)), (1, .int p0)]) rfl ?_
  refine x_iload_n hE 1 dX11_count_0 rfl rfl ?_
  refine x_swi (0) hf (fun hsw hf => ?_) (fun hsw0 hf => ?_)
  · refine x_tabI hE 76 dX11_count_1 hsw (by decide) (by decide) rfl (by decide) ?_
    refine x_aload_n hE 0 dX11_count_76 rfl rfl ?_
    refine x_getR hE cl_11 (hE.kd kO_11) (by decide) 2 (17) rfl (by decide) lk_X11_27 dX11_count_77 ?_
    refine x_getI hE cl_10 (hE.kd (kO_10 hI_17)) (by decide) 6 rfl (by decide) lk_X11_232 dX11_count_80 ?_
    replace hf := Option.some.inj hf
    subst hf
    exact x_ireturn hE (v := M (17) 6) hr rfl dX11_count_83
  refine x_swi (nI 1) hf (fun hsw hf => ?_) (fun hsw1 hf => ?_)
  · refine x_tabI hE 84 dX11_count_1 hsw (by decide) (by decide) rfl (by decide) ?_
    refine x_aload_n hE 0 dX11_count_84 rfl rfl ?_
    refine x_getR hE cl_11 (hE.kd kO_11) (by decide) 2 (17) rfl (by decide) lk_X11_27 dX11_count_85 ?_
    refine x_getR hE cl_10 (hE.kd (kO_10 hI_17)) (by decide) 2 (17 + 15) rfl (by decide) lk_X11_125 dX11_count_88 ?_
    refine x_getI hE cl_3 (hE.kd (kO_3 (hL_10_2 hI_17))) (by decide) 0 rfl (by decide) lk_X11_129 dX11_count_91 ?_
    replace hf := Option.some.inj hf
    subst hf
    exact x_ireturn hE (v := M (17 + 15) 0) hr rfl dX11_count_94
  refine x_swi (nI 2) hf (fun hsw hf => ?_) (fun hsw2 hf => ?_)
  · refine x_tabI hE 95 dX11_count_1 hsw (by decide) (by decide) rfl (by decide) ?_
    refine x_aload_n hE 0 dX11_count_95 rfl rfl ?_
    refine x_getR hE cl_11 (hE.kd kO_11) (by decide) 2 (17) rfl (by decide) lk_X11_27 dX11_count_96 ?_
    refine x_getR hE cl_10 (hE.kd (kO_10 hI_17)) (by decide) 2 (17 + 15) rfl (by decide) lk_X11_125 dX11_count_99 ?_
    refine x_getI hE cl_3 (hE.kd (kO_3 (hL_10_2 hI_17))) (by decide) 1 rfl (by decide) lk_X11_412 dX11_count_102 ?_
    replace hf := Option.some.inj hf
    subst hf
    exact x_ireturn hE (v := M (17 + 15) 1) hr rfl dX11_count_105
  refine x_swi (nI 3) hf (fun hsw hf => ?_) (fun hsw3 hf => ?_)
  · refine x_tabI hE 106 dX11_count_1 hsw (by decide) (by decide) rfl (by decide) ?_
    refine x_aload_n hE 0 dX11_count_106 rfl rfl ?_
    refine x_getR hE cl_11 (hE.kd kO_11) (by decide) 2 (17) rfl (by decide) lk_X11_27 dX11_count_107 ?_
    refine x_getR hE cl_10 (hE.kd (kO_10 hI_17)) (by decide) 1 (17 + 1) rfl (by decide) lk_X11_80 dX11_count_110 ?_
    refine x_getI hE cl_4 (hE.kd (kO_4 (hL_10_1 hI_17))) (by decide) 9 rfl (by decide) lk_X11_400 dX11_count_113 ?_
    replace hf := Option.some.inj hf
    subst hf
    exact x_ireturn hE (v := M (17 + 1) 9) hr rfl dX11_count_116
  refine x_swi (nI 4) hf (fun hsw hf => ?_) (fun hsw4 hf => ?_)
  · refine x_tabI hE 117 dX11_count_1 hsw (by decide) (by decide) rfl (by decide) ?_
    refine x_aload_n hE 0 dX11_count_117 rfl rfl ?_
    refine x_getR hE cl_11 (hE.kd kO_11) (by decide) 2 (17) rfl (by decide) lk_X11_27 dX11_count_118 ?_
    refine x_getI hE cl_10 (hE.kd (kO_10 hI_17)) (by decide) 7 rfl (by decide) lk_X11_406 dX11_count_121 ?_
    replace hf := Option.some.inj hf
    subst hf
    exact x_ireturn hE (v := M (17) 7) hr rfl dX11_count_124
  refine x_swi (nI 5) hf (fun hsw hf => ?_) (fun hsw5 hf => ?_)
  · refine x_tabI hE 125 dX11_count_1 hsw (by decide) (by decide) rfl (by decide) ?_
    refine x_aload_n hE 0 dX11_count_125 rfl rfl ?_
    refine x_getR hE cl_11 (hE.kd kO_11) (by decide) 2 (17) rfl (by decide) lk_X11_27 dX11_count_126 ?_
    refine x_getI hE cl_10 (hE.kd (kO_10 hI_17)) (by decide) 8 rfl (by decide) lk_X11_259 dX11_count_129 ?_
    replace hf := Option.some.inj hf
    subst hf
    exact x_ireturn hE (v := M (17) 8) hr rfl dX11_count_132
  refine x_swi (nI 6) hf (fun hsw hf => ?_) (fun hsw6 hf => ?_)
  · refine x_tabI hE 133 dX11_count_1 hsw (by decide) (by decide) rfl (by decide) ?_
    refine x_aload_n hE 0 dX11_count_133 rfl rfl ?_
    refine x_getR hE cl_11 (hE.kd kO_11) (by decide) 2 (17) rfl (by decide) lk_X11_27 dX11_count_134 ?_
    refine x_getR hE cl_10 (hE.kd (kO_10 hI_17)) (by decide) 2 (17 + 15) rfl (by decide) lk_X11_125 dX11_count_137 ?_
    refine x_getI hE cl_3 (hE.kd (kO_3 (hL_10_2 hI_17))) (by decide) 2 rfl (by decide) lk_X11_403 dX11_count_140 ?_
    replace hf := Option.some.inj hf
    subst hf
    exact x_ireturn hE (v := M (17 + 15) 2) hr rfl dX11_count_143
  refine x_swi (nI 7) hf (fun hsw hf => ?_) (fun hsw7 hf => ?_)
  · refine x_tabI hE 144 dX11_count_1 hsw (by decide) (by decide) rfl (by decide) ?_
    refine x_aload_n hE 0 dX11_count_144 rfl rfl ?_
    refine x_getR hE cl_11 (hE.kd kO_11) (by decide) 2 (17) rfl (by decide) lk_X11_27 dX11_count_145 ?_
    refine x_getR hE cl_10 (hE.kd (kO_10 hI_17)) (by decide) 5 (17 + 37) rfl (by decide) lk_X11_289 dX11_count_148 ?_
    refine x_getI hE cl_2 (hE.kd (kO_2 (hL_10_5 hI_17))) (by decide) 1 rfl (by decide) lk_X11_293 dX11_count_151 ?_
    replace hf := Option.some.inj hf
    subst hf
    exact x_ireturn hE (v := M (17 + 37) 1) hr rfl dX11_count_154
  refine x_swi (nI 8) hf (fun hsw hf => ?_) (fun hsw8 hf => ?_)
  · refine x_tabI hE 155 dX11_count_1 hsw (by decide) (by decide) rfl (by decide) ?_
    refine x_aload_n hE 0 dX11_count_155 rfl rfl ?_
    refine x_getI hE cl_11 (hE.kd kO_11) (by decide) 10 rfl (by decide) lk_X11_348 dX11_count_156 ?_
    replace hf := Option.some.inj hf
    subst hf
    exact x_ireturn hE (v := M 0 10) hr rfl dX11_count_159
  refine x_swi (nI 9) hf (fun hsw hf => ?_) (fun hsw9 hf => ?_)
  · refine x_tabI hE 160 dX11_count_1 hsw (by decide) (by decide) rfl (by decide) ?_
    refine x_aload_n hE 0 dX11_count_160 rfl rfl ?_
    refine x_getR hE cl_11 (hE.kd kO_11) (by decide) 2 (17) rfl (by decide) lk_X11_27 dX11_count_161 ?_
    refine x_getR hE cl_10 (hE.kd (kO_10 hI_17)) (by decide) 4 (17 + 32) rfl (by decide) lk_X11_363 dX11_count_164 ?_
    refine x_getI hE cl_1 (hE.kd (kO_1 (hL_10_4 hI_17))) (by decide) 0 rfl (by decide) lk_X11_448 dX11_count_167 ?_
    replace hf := Option.some.inj hf
    subst hf
    exact x_ireturn hE (v := M (17 + 32) 0) hr rfl dX11_count_170
  refine x_swi (nI 10) hf (fun hsw hf => ?_) (fun hsw10 hf => ?_)
  · refine x_tabI hE 171 dX11_count_1 hsw (by decide) (by decide) rfl (by decide) ?_
    refine x_aload_n hE 0 dX11_count_171 rfl rfl ?_
    refine x_getR hE cl_11 (hE.kd kO_11) (by decide) 2 (17) rfl (by decide) lk_X11_27 dX11_count_172 ?_
    refine x_getR hE cl_10 (hE.kd (kO_10 hI_17)) (by decide) 3 (17 + 27) rfl (by decide) lk_X11_142 dX11_count_175 ?_
    refine x_getI hE cl_5 (hE.kd (kO_5 (hL_10_3 hI_17))) (by decide) 0 rfl (by decide) lk_X11_449 dX11_count_178 ?_
    replace hf := Option.some.inj hf
    subst hf
    exact x_ireturn hE (v := M (17 + 27) 0) hr rfl dX11_count_181
  refine x_swi (nI 11) hf (fun hsw hf => ?_) (fun hsw11 hf => ?_)
  · refine x_tabI hE 182 dX11_count_1 hsw (by decide) (by decide) rfl (by decide) ?_
    refine x_aload_n hE 0 dX11_count_182 rfl rfl ?_
    refine x_getR hE cl_11 (hE.kd kO_11) (by decide) 2 (17) rfl (by decide) lk_X11_27 dX11_count_183 ?_
    refine x_getR hE cl_10 (hE.kd (kO_10 hI_17)) (by decide) 2 (17 + 15) rfl (by decide) lk_X11_125 dX11_count_186 ?_
    refine x_getI hE cl_3 (hE.kd (kO_3 (hL_10_2 hI_17))) (by decide) 3 rfl (by decide) lk_X11_450 dX11_count_189 ?_
    replace hf := Option.some.inj hf
    subst hf
    exact x_ireturn hE (v := M (17 + 15) 3) hr rfl dX11_count_192
  refine x_swi (nI 12) hf (fun hsw hf => ?_) (fun hsw12 hf => ?_)
  · refine x_tabI hE 193 dX11_count_1 hsw (by decide) (by decide) rfl (by decide) ?_
    refine x_aload_n hE 0 dX11_count_193 rfl rfl ?_
    refine x_getR hE cl_11 (hE.kd kO_11) (by decide) 2 (17) rfl (by decide) lk_X11_27 dX11_count_194 ?_
    refine x_getR hE cl_10 (hE.kd (kO_10 hI_17)) (by decide) 4 (17 + 32) rfl (by decide) lk_X11_363 dX11_count_197 ?_
    refine x_getI hE cl_1 (hE.kd (kO_1 (hL_10_4 hI_17))) (by decide) 1 rfl (by decide) lk_X11_367 dX11_count_200 ?_
    replace hf := Option.some.inj hf
    subst hf
    exact x_ireturn hE (v := M (17 + 32) 1) hr rfl dX11_count_203
  refine x_swi (nI 13) hf (fun hsw hf => ?_) (fun hsw13 hf => ?_)
  · refine x_tabI hE 204 dX11_count_1 hsw (by decide) (by decide) rfl (by decide) ?_
    refine x_aload_n hE 0 dX11_count_204 rfl rfl ?_
    refine x_getI hE cl_11 (hE.kd kO_11) (by decide) 8 rfl (by decide) lk_X11_283 dX11_count_205 ?_
    replace hf := Option.some.inj hf
    subst hf
    exact x_ireturn hE (v := M 0 8) hr rfl dX11_count_208
  refine x_swi (nI 14) hf (fun hsw hf => ?_) (fun hsw14 hf => ?_)
  · refine x_tabI hE 209 dX11_count_1 hsw (by decide) (by decide) rfl (by decide) ?_
    refine x_aload_n hE 0 dX11_count_209 rfl rfl ?_
    refine x_getR hE cl_11 (hE.kd kO_11) (by decide) 4 (111) rfl (by decide) lk_X11_37 dX11_count_210 ?_
    refine x_getI hE cl_9 (hE.kd kO_9) (by decide) 2 rfl (by decide) lk_X11_453 dX11_count_213 ?_
    replace hf := Option.some.inj hf
    subst hf
    exact x_ireturn hE (v := M (111) 2) hr rfl dX11_count_216
  refine x_tabO hE 217 dX11_count_1 (x_out 15 rfl (fun k hk => match k, hk with | 0, _ => x_ne hsw0 (by decide) | 1, _ => x_ne hsw1 (by decide) | 2, _ => x_ne hsw2 (by decide) | 3, _ => x_ne hsw3 (by decide) | 4, _ => x_ne hsw4 (by decide) | 5, _ => x_ne hsw5 (by decide) | 6, _ => x_ne hsw6 (by decide) | 7, _ => x_ne hsw7 (by decide) | 8, _ => x_ne hsw8 (by decide) | 9, _ => x_ne hsw9 (by decide) | 10, _ => x_ne hsw10 (by decide) | 11, _ => x_ne hsw11 (by decide) | 12, _ => x_ne hsw12 (by decide) | 13, _ => x_ne hsw13 (by decide) | 14, _ => x_ne hsw14 (by decide) | k + 15, hk => absurd hk (by omega))) (by decide) ?_
  refine x_iconst hE (-1) dX11_count_217 (by decide) ?_
  replace hf := Option.some.inj hf
  subst hf
  exact x_ireturn hE (v := (-1)) hr rfl dX11_count_218
theorem yokX11_count : YOK yX11_count cX11_count 2 1 (some .int) := ⟨mem_g 757 (by decide +kernel) (by decide +kernel), mem_g 131 (by decide +kernel) (by decide +kernel), by decide +kernel, by decide +kernel, by decide +kernel⟩
theorem yvX11_count : YV yX11_count := ⟨mem_g 755 (by decide +kernel) (by decide +kernel), mem_g 756 (by decide +kernel) (by decide +kernel)⟩
