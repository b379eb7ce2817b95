theorem lk_X6_15 : Cond.fieldLink RX6 15 (TX6 1).1 (TX6 1).2.1 (TX6 1).2.2.1 ∈ lw_g := mem_g 547 (by decide +kernel) (by decide +kernel)
theorem lk_X6_9 : Cond.fieldLink RX6 9 (TX6 0).1 (TX6 0).2.1 (TX6 0).2.2.1 ∈ lw_g := mem_g 546 (by decide +kernel) (by decide +kernel)
theorem dX6_sumNow_0 : decode cX6_sumNow 0 = .ok (.lconst 0, 1) := by decide +kernel
theorem dX6_sumNow_1 : decode cX6_sumNow 1 = .ok (.lstore_n 1, 1) := by decide +kernel
theorem dX6_sumNow_2 : decode cX6_sumNow 2 = .ok (.iconst 0, 1) := by decide +kernel
theorem dX6_sumNow_3 : decode cX6_sumNow 3 = .ok (.istore_n 3, 1) := by decide +kernel
theorem dX6_sumNow_4 : decode cX6_sumNow 4 = .ok (.iload_n 3, 1) := by decide +kernel
theorem dX6_sumNow_5 : decode cX6_sumNow 5 = .ok (.aload_n 0, 1) := by decide +kernel
theorem dX6_sumNow_6 : decode cX6_sumNow 6 = .ok (.getfield 15, 3) := by decide +kernel
theorem dX6_sumNow_9 : decode cX6_sumNow 9 = .ok (.if_icmp .ge 28, 3) := by decide +kernel
theorem dX6_sumNow_12 : decode cX6_sumNow 12 = .ok (.iload_n 3, 1) := by decide +kernel
theorem dX6_sumNow_13 : decode cX6_sumNow 13 = .ok (.aload_n 0, 1) := by decide +kernel
theorem dX6_sumNow_14 : decode cX6_sumNow 14 = .ok (.getfield 9, 3) := by decide +kernel
theorem dX6_sumNow_17 : decode cX6_sumNow 17 = .ok (.arraylength, 1) := by decide +kernel
theorem dX6_sumNow_18 : decode cX6_sumNow 18 = .ok (.if_icmp .ge 19, 3) := by decide +kernel
theorem dX6_sumNow_21 : decode cX6_sumNow 21 = .ok (.lload_n 1, 1) := by decide +kernel
theorem dX6_sumNow_22 : decode cX6_sumNow 22 = .ok (.aload_n 0, 1) := by decide +kernel
theorem dX6_sumNow_23 : decode cX6_sumNow 23 = .ok (.getfield 9, 3) := by decide +kernel
theorem dX6_sumNow_26 : decode cX6_sumNow 26 = .ok (.iload_n 3, 1) := by decide +kernel
theorem dX6_sumNow_27 : decode cX6_sumNow 27 = .ok (.iaload, 1) := by decide +kernel
theorem dX6_sumNow_28 : decode cX6_sumNow 28 = .ok (.i2l, 1) := by decide +kernel
theorem dX6_sumNow_29 : decode cX6_sumNow 29 = .ok (.ladd, 1) := by decide +kernel
theorem dX6_sumNow_30 : decode cX6_sumNow 30 = .ok (.lstore_n 1, 1) := by decide +kernel
theorem dX6_sumNow_31 : decode cX6_sumNow 31 = .ok (.iinc 3 1, 3) := by decide +kernel
theorem dX6_sumNow_34 : decode cX6_sumNow 34 = .ok (.goto (-30), 3) := by decide +kernel
theorem dX6_sumNow_37 : decode cX6_sumNow 37 = .ok (.lload_n 1, 1) := by decide +kernel
theorem dX6_sumNow_38 : decode cX6_sumNow 38 = .ok (.lreturn, 1) := by decide +kernel
theorem wX6_sumNow_L4 {p : Program} {l : Launch} {e : Env} {s : State} {m : MethodId} {args : Array Value} {below : List Frame} {meth : Method} {c : Code} {Y : Nat → ClassId} {D : va_G} {σ : Nat → Nat} {np b0 : Nat} {r : Int64} (hE : EOK p s m args meth c cX6_sumNow 4 RX6 Y D σ np b0) (hr : meth.sig.returnType = (some .long)) : ∀ (n : Nat) (M : Mc) (N : Md) (X1 : Int64) (X3 : Int32), fX6_sumNow_L4 n M X1 X3 = some r → Xw p l e (rmD 1) s m args below meth c 4 Y D σ np b0 0 0 (MQ below (QR Y D σ np b0 (some (.long r)) M N) args s 0 0 (xA b0)) 4 [(0, .ref (σ (121))), (1, .long X1), (3, .int X3)] [] M N := by
  intro n
  induction n with
  | zero =>
    intro M N X1 X3 hf
    cases hf
  | succ n ih =>
    intro M N X1 X3 hf
    rw [fX6_sumNow_L4.eq_2] at hf
    refine x_iload_n hE 2 dX6_sumNow_4 rfl rfl ?_
    refine x_aload_n hE 0 dX6_sumNow_5 rfl rfl ?_
    refine x_getI hE cl_6 (hE.kd kO_6) (by decide) 1 rfl (by decide) lk_X6_15 dX6_sumNow_6 ?_
    refine x_icmp_ge hE 37 dX6_sumNow_9 (by decide) hf (fun hf => ?_) (fun hf => ?_)
    · refine x_lload_n hE 1 dX6_sumNow_37 rfl rfl ?_
      replace hf := Option.some.inj hf
      subst hf
      exact x_lreturn hE (v := X1) hr dX6_sumNow_38
    · refine x_iload_n hE 2 dX6_sumNow_12 rfl rfl ?_
      refine x_aload_n hE 0 dX6_sumNow_13 rfl rfl ?_
      refine x_getR hE cl_6 (hE.kd kO_6) (by decide) 0 (122) rfl (by decide) lk_X6_9 dX6_sumNow_14 ?_
      refine x_alen hE (nI 196) (hE.kd kA_122) (Or.inl rfl) rfl dX6_sumNow_17 ?_
      refine x_icmp_ge hE 37 dX6_sumNow_18 (by decide) hf (fun hf => ?_) (fun hf => ?_)
      · refine x_lload_n hE 1 dX6_sumNow_37 rfl rfl ?_
        replace hf := Option.some.inj hf
        subst hf
        exact x_lreturn hE (v := X1) hr dX6_sumNow_38
      · refine x_lload_n hE 1 dX6_sumNow_21 rfl rfl ?_
        refine x_aload_n hE 0 dX6_sumNow_22 rfl rfl ?_
        refine x_getR hE cl_6 (hE.kd kO_6) (by decide) 0 (122) rfl (by decide) lk_X6_9 dX6_sumNow_23 ?_
        refine x_iload_n hE 2 dX6_sumNow_26 rfl rfl ?_
        refine x_iald hE (hE.kd kA_122) dX6_sumNow_27 hf (fun hf => ?_)
        refine x_i2l hE dX6_sumNow_28 ?_
        refine x_ladd hE dX6_sumNow_29 ?_
        refine x_ltL hf (fun v2 hf => ?_)
        refine x_lstore_n hE (L' := [(1, .long v2), (0, .ref (σ (121))), (3, .int X3)]) dX6_sumNow_30 rfl (by decide) rfl ?_
        refine x_pick [1, 0, 2] (L' := [(0, .ref (σ (121))), (1, .long v2), (3, .int X3)]) rfl ?_
        refine x_iinc hE 2 (X3 + nI 1) (L' := [(3, .int (X3 + nI 1)), (0, .ref (σ (121))), (1, .long v2)]) dX6_sumNow_31 rfl rfl (by decide) rfl ?_
        refine x_pick [1, 2, 0] (L' := [(0, .ref (σ (121))), (1, .long v2), (3, .int (X3 + nI 1))]) rfl ?_
        refine x_goto hE 4 dX6_sumNow_34 (by decide) ?_
        exact ih _ _ _ _ hf
theorem mX6_sumNow (l : Launch) {Y : Nat → ClassId} {D : va_G} {σ : Nat → Nat} {np b0 : Nat} {M : Mc} {N : Md} {r : Int64} (hf : fX6_sumNow M = some r) : Met l yX6_sumNow (.code yX6_sumNow cX6_sumNow 4 (some .long) :: lw_g) (rmD 1) (PR Y D σ np b0 [.ref (σ (121))] M N) (QR Y D σ np b0 (some (.long r)) M N) 0 0 (xA b0) := by
  refine x_met (by decide) (Nat.le_of_ble_eq_true rfl) (fun p e s m args below meth c hE hr => ?_)
  unfold fX6_sumNow at hf
  refine x_pick [0] (L' := [(0, .ref (σ (121)))]) rfl ?_
  refine x_lconst hE (0 : Int64) dX6_sumNow_0 (by decide) ?_
  refine x_ltL hf (fun v1 hf => ?_)
  refine x_lstore_n hE (L' := [(1, .long v1), (0, .ref (σ (121)))]) dX6_sumNow_1 rfl (by decide) rfl ?_
  refine x_pick [1, 0] (L' := [(0, .ref (σ (121))), (1, .long v1)]) rfl ?_
  refine x_iconst hE (0 : Int32) dX6_sumNow_2 (by decide) ?_
  refine x_istore_n hE (L' := [(3, .int 0), (0, .ref (σ (121))), (1, .long v1)]) dX6_sumNow_3 rfl (by decide) rfl ?_
  refine x_pick [1, 2, 0] (L' := [(0, .ref (σ (121))), (1, .long v1), (3, .int 0)]) rfl ?_
  exact wX6_sumNow_L4 hE hr  FU _ _ _ _ hf
theorem yokX6_sumNow : YOK yX6_sumNow cX6_sumNow 4 0 (some .long) := ⟨mem_g 724 (by decide +kernel) (by decide +kernel), mem_g 142 (by decide +kernel) (by decide +kernel), by decide +kernel, by decide +kernel, by decide +kernel⟩
theorem yvX6_sumNow : YV yX6_sumNow := ⟨mem_g 723 (by decide +kernel) (by decide +kernel), mem_g 3 (by decide +kernel) (by decide +kernel)⟩
theorem dX6_weighedNow_0 : decode cX6_weighedNow 0 = .ok (.lconst 0, 1) := by decide +kernel
theorem dX6_weighedNow_1 : decode cX6_weighedNow 1 = .ok (.lstore_n 1, 1) := by decide +kernel
theorem dX6_weighedNow_2 : decode cX6_weighedNow 2 = .ok (.iconst 0, 1) := by decide +kernel
theorem dX6_weighedNow_3 : decode cX6_weighedNow 3 = .ok (.istore_n 3, 1) := by decide +kernel
theorem dX6_weighedNow_4 : decode cX6_weighedNow 4 = .ok (.iload_n 3, 1) := by decide +kernel
theorem dX6_weighedNow_5 : decode cX6_weighedNow 5 = .ok (.aload_n 0, 1) := by decide +kernel
theorem dX6_weighedNow_6 : decode cX6_weighedNow 6 = .ok (.getfield 15, 3) := by decide +kernel
theorem dX6_weighedNow_9 : decode cX6_weighedNow 9 = .ok (.if_icmp .ge 33, 3) := by decide +kernel
theorem dX6_weighedNow_12 : decode cX6_weighedNow 12 = .ok (.iload_n 3, 1) := by decide +kernel
theorem dX6_weighedNow_13 : decode cX6_weighedNow 13 = .ok (.aload_n 0, 1) := by decide +kernel
theorem dX6_weighedNow_14 : decode cX6_weighedNow 14 = .ok (.getfield 9, 3) := by decide +kernel
theorem dX6_weighedNow_17 : decode cX6_weighedNow 17 = .ok (.arraylength, 1) := by decide +kernel
theorem dX6_weighedNow_18 : decode cX6_weighedNow 18 = .ok (.if_icmp .ge 24, 3) := by decide +kernel
theorem dX6_weighedNow_21 : decode cX6_weighedNow 21 = .ok (.lload_n 1, 1) := by decide +kernel
theorem dX6_weighedNow_22 : decode cX6_weighedNow 22 = .ok (.aload_n 0, 1) := by decide +kernel
theorem dX6_weighedNow_23 : decode cX6_weighedNow 23 = .ok (.getfield 9, 3) := by decide +kernel
theorem dX6_weighedNow_26 : decode cX6_weighedNow 26 = .ok (.iload_n 3, 1) := by decide +kernel
theorem dX6_weighedNow_27 : decode cX6_weighedNow 27 = .ok (.iaload, 1) := by decide +kernel
theorem dX6_weighedNow_28 : decode cX6_weighedNow 28 = .ok (.i2l, 1) := by decide +kernel
theorem dX6_weighedNow_29 : decode cX6_weighedNow 29 = .ok (.iload_n 3, 1) := by decide +kernel
theorem dX6_weighedNow_30 : decode cX6_weighedNow 30 = .ok (.iconst 1, 1) := by decide +kernel
theorem dX6_weighedNow_31 : decode cX6_weighedNow 31 = .ok (.iadd, 1) := by decide +kernel
theorem dX6_weighedNow_32 : decode cX6_weighedNow 32 = .ok (.i2l, 1) := by decide +kernel
theorem dX6_weighedNow_33 : decode cX6_weighedNow 33 = .ok (.lmul, 1) := by decide +kernel
theorem dX6_weighedNow_34 : decode cX6_weighedNow 34 = .ok (.ladd, 1) := by decide +kernel
theorem dX6_weighedNow_35 : decode cX6_weighedNow 35 = .ok (.lstore_n 1, 1) := by decide +kernel
theorem dX6_weighedNow_36 : decode cX6_weighedNow 36 = .ok (.iinc 3 1, 3) := by decide +kernel
theorem dX6_weighedNow_39 : decode cX6_weighedNow 39 = .ok (.goto (-35), 3) := by decide +kernel
theorem dX6_weighedNow_42 : decode cX6_weighedNow 42 = .ok (.lload_n 1, 1) := by decide +kernel
theorem dX6_weighedNow_43 : decode cX6_weighedNow 43 = .ok (.lreturn, 1) := by decide +kernel
theorem wX6_weighedNow_L4 {p : Program} {l : Launch} {e : Env} {s : State} {m : MethodId} {args : Array Value} {below : List Frame} {meth : Method} {c : Code} {Y : Nat → ClassId} {D : va_G} {σ : Nat → Nat} {np b0 : Nat} {r : Int64} (hE : EOK p s m args meth c cX6_weighedNow 4 RX6 Y D σ np b0) (hr : meth.sig.returnType = (some .long)) : ∀ (n : Nat) (M : Mc) (N : Md) (X1 : Int64) (X3 : Int32), fX6_weighedNow_L4 n M X1 X3 = some r → Xw p l e (rmD 1) s m args below meth c 4 Y D σ np b0 0 0 (MQ below (QR Y D σ np b0 (some (.long r)) M N) args s 0 0 (xA b0)) 4 [(0, .ref (σ (121))), (1, .long X1), (3, .int X3)] [] M N := by
  intro n
  induction n with
  | zero =>
    intro M N X1 X3 hf
    cases hf
  | succ n ih =>
    intro M N X1 X3 hf
    rw [fX6_weighedNow_L4.eq_2] at hf
    refine x_iload_n hE 2 dX6_weighedNow_4 rfl rfl ?_
    refine x_aload_n hE 0 dX6_weighedNow_5 rfl rfl ?_
    refine x_getI hE cl_6 (hE.kd kO_6) (by decide) 1 rfl (by decide) lk_X6_15 dX6_weighedNow_6 ?_
    refine x_icmp_ge hE 42 dX6_weighedNow_9 (by decide) hf (fun hf => ?_) (fun hf => ?_)
    · refine x_lload_n hE 1 dX6_weighedNow_42 rfl rfl ?_
      replace hf := Option.some.inj hf
      subst hf
      exact x_lreturn hE (v := X1) hr dX6_weighedNow_43
    · refine x_iload_n hE 2 dX6_weighedNow_12 rfl rfl ?_
      refine x_aload_n hE 0 dX6_weighedNow_13 rfl rfl ?_
      refine x_getR hE cl_6 (hE.kd kO_6) (by decide) 0 (122) rfl (by decide) lk_X6_9 dX6_weighedNow_14 ?_
      refine x_alen hE (nI 196) (hE.kd kA_122) (Or.inl rfl) rfl dX6_weighedNow_17 ?_
      refine x_icmp_ge hE 42 dX6_weighedNow_18 (by decide) hf (fun hf => ?_) (fun hf => ?_)
      · refine x_lload_n hE 1 dX6_weighedNow_42 rfl rfl ?_
        replace hf := Option.some.inj hf
        subst hf
        exact x_lreturn hE (v := X1) hr dX6_weighedNow_43
      · refine x_lload_n hE 1 dX6_weighedNow_21 rfl rfl ?_
        refine x_aload_n hE 0 dX6_weighedNow_22 rfl rfl ?_
        refine x_getR hE cl_6 (hE.kd kO_6) (by decide) 0 (122) rfl (by decide) lk_X6_9 dX6_weighedNow_23 ?_
        refine x_iload_n hE 2 dX6_weighedNow_26 rfl rfl ?_
        refine x_iald hE (hE.kd kA_122) dX6_weighedNow_27 hf (fun hf => ?_)
        refine x_i2l hE dX6_weighedNow_28 ?_
        refine x_iload_n hE 2 dX6_weighedNow_29 rfl rfl ?_
        refine x_iconst hE (nI 1) dX6_weighedNow_30 (by decide) ?_
        refine x_iadd hE dX6_weighedNow_31 ?_
        refine x_i2l hE dX6_weighedNow_32 ?_
        refine x_lmul hE dX6_weighedNow_33 ?_
        refine x_ladd hE dX6_weighedNow_34 ?_
        refine x_ltL hf (fun v2 hf => ?_)
        refine x_lstore_n hE (L' := [(1, .long v2), (0, .ref (σ (121))), (3, .int X3)]) dX6_weighedNow_35 rfl (by decide) rfl ?_
        refine x_pick [1, 0, 2] (L' := [(0, .ref (σ (121))), (1, .long v2), (3, .int X3)]) rfl ?_
        refine x_iinc hE 2 (X3 + nI 1) (L' := [(3, .int (X3 + nI 1)), (0, .ref (σ (121))), (1, .long v2)]) dX6_weighedNow_36 rfl rfl (by decide) rfl ?_
        refine x_pick [1, 2, 0] (L' := [(0, .ref (σ (121))), (1, .long v2), (3, .int (X3 + nI 1))]) rfl ?_
        refine x_goto hE 4 dX6_weighedNow_39 (by decide) ?_
        exact ih _ _ _ _ hf
theorem mX6_weighedNow (l : Launch) {Y : Nat → ClassId} {D : va_G} {σ : Nat → Nat} {np b0 : Nat} {M : Mc} {N : Md} {r : Int64} (hf : fX6_weighedNow M = some r) : Met l yX6_weighedNow (.code yX6_weighedNow cX6_weighedNow 4 (some .long) :: lw_g) (rmD 1) (PR Y D σ np b0 [.ref (σ (121))] M N) (QR Y D σ np b0 (some (.long r)) M N) 0 0 (xA b0) := by
  refine x_met (by decide) (Nat.le_of_ble_eq_true rfl) (fun p e s m args below meth c hE hr => ?_)
  unfold fX6_weighedNow at hf
  refine x_pick [0] (L' := [(0, .ref (σ (121)))]) rfl ?_
  refine x_lconst hE (0 : Int64) dX6_weighedNow_0 (by decide) ?_
  refine x_ltL hf (fun v1 hf => ?_)
  refine x_lstore_n hE (L' := [(1, .long v1), (0, .ref (σ (121)))]) dX6_weighedNow_1 rfl (by decide) rfl ?_
  refine x_pick [1, 0] (L' := [(0, .ref (σ (121))), (1, .long v1)]) rfl ?_
  refine x_iconst hE (0 : Int32) dX6_weighedNow_2 (by decide) ?_
  refine x_istore_n hE (L' := [(3, .int 0), (0, .ref (σ (121))), (1, .long v1)]) dX6_weighedNow_3 rfl (by decide) rfl ?_
  refine x_pick [1, 2, 0] (L' := [(0, .ref (σ (121))), (1, .long v1), (3, .int 0)]) rfl ?_
  exact wX6_weighedNow_L4 hE hr  FU _ _ _ _ hf
theorem yokX6_weighedNow : YOK yX6_weighedNow cX6_weighedNow 4 0 (some .long) := ⟨mem_g 728 (by decide +kernel) (by decide +kernel), mem_g 142 (by decide +kernel) (by decide +kernel), by decide +kernel, by decide +kernel, by decide +kernel⟩
theorem yvX6_weighedNow : YV yX6_weighedNow := ⟨mem_g 727 (by decide +kernel) (by decide +kernel), mem_g 4 (by decide +kernel) (by decide +kernel)⟩
theorem lk_X6_19 : Cond.fieldLink RX6 19 (TX3 0).1 (TX3 0).2.1 (TX3 0).2.2.1 ∈ lw_g := mem_g 252 (by decide +kernel) (by decide +kernel)
theorem lk_X6_22 : Cond.methodLink RX6 22 yX4_holdingOf ∈ lw_g := mem_g 700 (by decide +kernel) (by decide +kernel)
theorem lk_X6_28 : Cond.methodLink RX6 28 yX4_ownerOf ∈ lw_g := mem_g 705 (by decide +kernel) (by decide +kernel)
theorem lk_X6_31 : Cond.methodLink RX6 31 yX3_coinsOf ∈ lw_g := mem_g 709 (by decide +kernel) (by decide +kernel)
theorem lk_X6_34 : Cond.methodLink RX6 34 yX3_stateOf ∈ lw_g := mem_g 717 (by decide +kernel) (by decide +kernel)
theorem lk_X6_37 : Cond.methodLink RX6 37 yX6_sumNow ∈ lw_g := mem_g 721 (by decide +kernel) (by decide +kernel)
theorem lk_X6_41 : Cond.fieldLink RX6 41 (TX6 2).1 (TX6 2).2.1 (TX6 2).2.2.1 ∈ lw_g := mem_g 548 (by decide +kernel) (by decide +kernel)
theorem lk_X6_45 : Cond.methodLink RX6 45 yX6_weighedNow ∈ lw_g := mem_g 725 (by decide +kernel) (by decide +kernel)
theorem lk_X6_48 : Cond.fieldLink RX6 48 (TX6 3).1 (TX6 3).2.1 (TX6 3).2.2.1 ∈ lw_g := mem_g 549 (by decide +kernel) (by decide +kernel)
theorem dX6_take_0 : decode cX6_take 0 = .ok (.aload_n 1, 1) := by decide +kernel
theorem dX6_take_1 : decode cX6_take 1 = .ok (.ifnull 7, 3) := by decide +kernel
theorem dX6_take_4 : decode cX6_take 4 = .ok (.aload_n 2, 1) := by decide +kernel
theorem dX6_take_5 : decode cX6_take 5 = .ok (.ifnonnull 8, 3) := by decide +kernel
theorem dX6_take_8 : decode cX6_take 8 = .ok (.aload_n 0, 1) := by decide +kernel
theorem dX6_take_9 : decode cX6_take 9 = .ok (.getfield 15, 3) := by decide +kernel
theorem dX6_take_12 : decode cX6_take 12 = .ok (.ireturn, 1) := by decide +kernel
theorem dX6_take_13 : decode cX6_take 13 = .ok (.aload_n 0, 1) := by decide +kernel
theorem dX6_take_14 : decode cX6_take 14 = .ok (.bipush 96, 2) := by decide +kernel
theorem dX6_take_16 : decode cX6_take 16 = .ok (.aload_n 2, 1) := by decide +kernel
theorem dX6_take_17 : decode cX6_take 17 = .ok (.getfield 19, 3) := by decide +kernel
theorem dX6_take_20 : decode cX6_take 20 = .ok (.iadd, 1) := by decide +kernel
theorem dX6_take_21 : decode cX6_take 21 = .ok (.putfield 15, 3) := by decide +kernel
theorem dX6_take_24 : decode cX6_take 24 = .ok (.iconst 0, 1) := by decide +kernel
theorem dX6_take_25 : decode cX6_take 25 = .ok (.istore_n 3, 1) := by decide +kernel
theorem dX6_take_26 : decode cX6_take 26 = .ok (.iload_n 3, 1) := by decide +kernel
theorem dX6_take_27 : decode cX6_take 27 = .ok (.bipush 96, 2) := by decide +kernel
theorem dX6_take_29 : decode cX6_take 29 = .ok (.if_icmp .ge 32, 3) := by decide +kernel
theorem dX6_take_32 : decode cX6_take 32 = .ok (.aload_n 0, 1) := by decide +kernel
theorem dX6_take_33 : decode cX6_take 33 = .ok (.getfield 9, 3) := by decide +kernel
theorem dX6_take_36 : decode cX6_take 36 = .ok (.iload_n 3, 1) := by decide +kernel
theorem dX6_take_37 : decode cX6_take 37 = .ok (.aload_n 1, 1) := by decide +kernel
theorem dX6_take_38 : decode cX6_take 38 = .ok (.iload_n 3, 1) := by decide +kernel
theorem dX6_take_39 : decode cX6_take 39 = .ok (.invokevirtual 22, 3) := by decide +kernel
theorem dX6_take_42 : decode cX6_take 42 = .ok (.sipush 200, 3) := by decide +kernel
theorem dX6_take_45 : decode cX6_take 45 = .ok (.imul, 1) := by decide +kernel
theorem dX6_take_46 : decode cX6_take 46 = .ok (.aload_n 1, 1) := by decide +kernel
theorem dX6_take_47 : decode cX6_take 47 = .ok (.iload_n 3, 1) := by decide +kernel
theorem dX6_take_48 : decode cX6_take 48 = .ok (.invokevirtual 28, 3) := by decide +kernel
theorem dX6_take_51 : decode cX6_take 51 = .ok (.iadd, 1) := by decide +kernel
theorem dX6_take_52 : decode cX6_take 52 = .ok (.iconst 1, 1) := by decide +kernel
theorem dX6_take_53 : decode cX6_take 53 = .ok (.iadd, 1) := by decide +kernel
theorem dX6_take_54 : decode cX6_take 54 = .ok (.iastore, 1) := by decide +kernel
theorem dX6_take_55 : decode cX6_take 55 = .ok (.iinc 3 1, 3) := by decide +kernel
theorem dX6_take_58 : decode cX6_take 58 = .ok (.goto (-32), 3) := by decide +kernel
theorem dX6_take_61 : decode cX6_take 61 = .ok (.iconst 0, 1) := by decide +kernel
theorem dX6_take_62 : decode cX6_take 62 = .ok (.istore_n 3, 1) := by decide +kernel
theorem dX6_take_63 : decode cX6_take 63 = .ok (.iload_n 3, 1) := by decide +kernel
theorem dX6_take_64 : decode cX6_take 64 = .ok (.aload_n 2, 1) := by decide +kernel
theorem dX6_take_65 : decode cX6_take 65 = .ok (.getfield 19, 3) := by decide +kernel
theorem dX6_take_68 : decode cX6_take 68 = .ok (.if_icmp .ge 38, 3) := by decide +kernel
theorem dX6_take_71 : decode cX6_take 71 = .ok (.iload_n 3, 1) := by decide +kernel
theorem dX6_take_72 : decode cX6_take 72 = .ok (.bipush 100, 2) := by decide +kernel
theorem dX6_take_74 : decode cX6_take 74 = .ok (.if_icmp .ge 32, 3) := by decide +kernel
theorem dX6_take_77 : decode cX6_take 77 = .ok (.aload_n 0, 1) := by decide +kernel
theorem dX6_take_78 : decode cX6_take 78 = .ok (.getfield 9, 3) := by decide +kernel
theorem dX6_take_81 : decode cX6_take 81 = .ok (.bipush 96, 2) := by decide +kernel
theorem dX6_take_83 : decode cX6_take 83 = .ok (.iload_n 3, 1) := by decide +kernel
theorem dX6_take_84 : decode cX6_take 84 = .ok (.iadd, 1) := by decide +kernel
theorem dX6_take_85 : decode cX6_take 85 = .ok (.aload_n 2, 1) := by decide +kernel
theorem dX6_take_86 : decode cX6_take 86 = .ok (.iload_n 3, 1) := by decide +kernel
theorem dX6_take_87 : decode cX6_take 87 = .ok (.invokevirtual 31, 3) := by decide +kernel
theorem dX6_take_90 : decode cX6_take 90 = .ok (.bipush 8, 2) := by decide +kernel
theorem dX6_take_92 : decode cX6_take 92 = .ok (.imul, 1) := by decide +kernel
theorem dX6_take_93 : decode cX6_take 93 = .ok (.aload_n 2, 1) := by decide +kernel
theorem dX6_take_94 : decode cX6_take 94 = .ok (.iload_n 3, 1) := by decide +kernel
theorem dX6_take_95 : decode cX6_take 95 = .ok (.invokevirtual 34, 3) := by decide +kernel
theorem dX6_take_98 : decode cX6_take 98 = .ok (.iadd, 1) := by decide +kernel
theorem dX6_take_99 : decode cX6_take 99 = .ok (.iastore, 1) := by decide +kernel
theorem dX6_take_100 : decode cX6_take 100 = .ok (.iinc 3 1, 3) := by decide +kernel
theorem dX6_take_103 : decode cX6_take 103 = .ok (.goto (-40), 3) := by decide +kernel
theorem dX6_take_106 : decode cX6_take 106 = .ok (.aload_n 0, 1) := by decide +kernel
theorem dX6_take_107 : decode cX6_take 107 = .ok (.aload_n 0, 1) := by decide +kernel
theorem dX6_take_108 : decode cX6_take 108 = .ok (.invokevirtual 37, 3) := by decide +kernel
theorem dX6_take_111 : decode cX6_take 111 = .ok (.putfield 41, 3) := by decide +kernel
theorem dX6_take_114 : decode cX6_take 114 = .ok (.aload_n 0, 1) := by decide +kernel
theorem dX6_take_115 : decode cX6_take 115 = .ok (.aload_n 0, 1) := by decide +kernel
theorem dX6_take_116 : decode cX6_take 116 = .ok (.invokevirtual 45, 3) := by decide +kernel
theorem dX6_take_119 : decode cX6_take 119 = .ok (.putfield 48, 3) := by decide +kernel
theorem dX6_take_122 : decode cX6_take 122 = .ok (.aload_n 0, 1) := by decide +kernel
theorem dX6_take_123 : decode cX6_take 123 = .ok (.getfield 15, 3) := by decide +kernel
theorem dX6_take_126 : decode cX6_take 126 = .ok (.ireturn, 1) := by decide +kernel
theorem wX6_take_J106 {p : Program} {l : Launch} {e : Env} {s : State} {m : MethodId} {args : Array Value} {below : List Frame} {meth : Method} {c : Code} {Y : Nat → ClassId} {D : va_G} {σ : Nat → Nat} {np b0 : Nat} {g : Nat} {q : Nat} {r : Int32 × Mc × Md} {M : Mc} {N : Md} (hE : EOK p s m args meth c cX6_take 4 RX6 Y D σ np b0) (hr : meth.sig.returnType = (some .int)) (hg : is4 g) (hq : is3 q) (hf : fX6_take_J106 g q M N = some r) : Xw p l e (rmD 3) s m args below meth c 4 Y D σ np b0 0 0 (MQ below (QR Y D σ np b0 (some (.int r.1)) r.2.1 r.2.2) args s 0 0 (xA b0)) 106 [(0, .ref (σ (121)))] [] M N := by
  unfold fX6_take_J106 at hf
  refine x_aload_n hE 0 dX6_take_106 rfl rfl ?_
  refine x_aload_n hE 0 dX6_take_107 rfl rfl ?_
  obtain ⟨v13, hc12, hf⟩ := bnd_some hf
  refine x_callV1 hE [] (rest := [.ref (σ (121))]) (v := .long v13) (c1 := M) (d1 := N) rfl yokX6_sumNow yvX6_sumNow lk_X6_37 rfl cl_6 (hE.kd kO_6) (by decide) rfl rfl ⟨Nat.le_of_ble_eq_true rfl, Nat.le_of_ble_eq_true rfl⟩ ⟨Nat.zero_le _, Nat.zero_le _⟩ rfl (Nat.le_of_ble_eq_true rfl) dX6_take_108 (mX6_sumNow l hc12) ?_
  refine x_putL hE cl_6 (hE.kd kO_6) (by decide) 2 rfl (by decide) lk_X6_41 rfl rfl rfl rfl dX6_take_111 hf (fun N14 hf => ?_)
  refine x_aload_n hE 0 dX6_take_114 rfl rfl ?_
  refine x_aload_n hE 0 dX6_take_115 rfl rfl ?_
  obtain ⟨v16, hc15, hf⟩ := bnd_some hf
  refine x_callV1 hE [] (rest := [.ref (σ (121))]) (v := .long v16) (c1 := M) (d1 := N14) rfl yokX6_weighedNow yvX6_weighedNow lk_X6_45 rfl cl_6 (hE.kd kO_6) (by decide) rfl rfl ⟨Nat.le_of_ble_eq_true rfl, Nat.le_of_ble_eq_true rfl⟩ ⟨Nat.zero_le _, Nat.zero_le _⟩ rfl (Nat.le_of_ble_eq_true rfl) dX6_take_116 (mX6_weighedNow l hc15) ?_
  refine x_putL hE cl_6 (hE.kd kO_6) (by decide) 3 rfl (by decide) lk_X6_48 rfl rfl rfl rfl dX6_take_119 hf (fun N17 hf => ?_)
  refine x_aload_n hE 0 dX6_take_122 rfl rfl ?_
  refine x_getI hE cl_6 (hE.kd kO_6) (by decide) 1 rfl (by decide) lk_X6_15 dX6_take_123 ?_
  replace hf := Option.some.inj hf
  subst hf
  exact x_ireturn hE (v := M (121) 1) hr rfl dX6_take_126
theorem wX6_take_L63 {p : Program} {l : Launch} {e : Env} {s : State} {m : MethodId} {args : Array Value} {below : List Frame} {meth : Method} {c : Code} {Y : Nat → ClassId} {D : va_G} {σ : Nat → Nat} {np b0 : Nat} {g : Nat} {q : Nat} {r : Int32 × Mc × Md} (hE : EOK p s m args meth c cX6_take 4 RX6 Y D σ np b0) (hr : meth.sig.returnType = (some .int)) (hg : is4 g) (hq : is3 q) : ∀ (n : Nat) (M : Mc) (N : Md) (X3 : Int32), fX6_take_L63 g q n M N X3 = some r → Xw p l e (rmD 3) s m args below meth c 4 Y D σ np b0 0 0 (MQ below (QR Y D σ np b0 (some (.int r.1)) r.2.1 r.2.2) args s 0 0 (xA b0)) 63 [(0, .ref (σ (121))), (2, .ref (σ q)), (3, .int X3)] [] M N := by
  intro n
  induction n with
  | zero =>
    intro M N X3 hf
    cases hf
  | succ n ih =>
    intro M N X3 hf
    rw [fX6_take_L63.eq_2] at hf
    refine x_iload_n hE 2 dX6_take_63 rfl rfl ?_
    refine x_aload_n hE 1 dX6_take_64 rfl rfl ?_
    refine x_getI hE cl_3 (hE.kd (kO_3 hq)) (by decide) 0 rfl (by decide) lk_X6_19 dX6_take_65 ?_
    refine x_icmp_ge hE 106 dX6_take_68 (by decide) hf (fun hf => ?_) (fun hf => ?_)
    · refine x_pick [0] (L' := [(0, .ref (σ (121)))]) rfl ?_
      exact wX6_take_J106 hE hr hg hq hf
    · refine x_iload_n hE 2 dX6_take_71 rfl rfl ?_
      refine x_bipush hE (nI 100) dX6_take_72 (by decide) ?_
      refine x_icmp_ge hE 106 dX6_take_74 (by decide) hf (fun hf => ?_) (fun hf => ?_)
      · refine x_pick [0] (L' := [(0, .ref (σ (121)))]) rfl ?_
        exact wX6_take_J106 hE hr hg hq hf
      · refine x_aload_n hE 0 dX6_take_77 rfl rfl ?_
        refine x_getR hE cl_6 (hE.kd kO_6) (by decide) 0 (122) rfl (by decide) lk_X6_9 dX6_take_78 ?_
        refine x_bipush hE (nI 96) dX6_take_81 (by decide) ?_
        refine x_iload_n hE 2 dX6_take_83 rfl rfl ?_
        refine x_iadd hE dX6_take_84 ?_
        refine x_aload_n hE 1 dX6_take_85 rfl rfl ?_
        refine x_iload_n hE 2 dX6_take_86 rfl rfl ?_
        obtain ⟨v8, hc7, hf⟩ := bnd_some hf
        refine x_callV1 hE [.int X3] (rest := [.int ((nI 96) + X3), .ref (σ (122))]) (v := .int v8) (c1 := M) (d1 := N) rfl yokX3_coinsOf yvX3_coinsOf lk_X6_31 rfl cl_3 (hE.kd (kO_3 hq)) (by decide) rfl rfl ⟨Nat.le_of_ble_eq_true rfl, Nat.le_of_ble_eq_true rfl⟩ ⟨Nat.zero_le _, Nat.zero_le _⟩ rfl (Nat.le_of_ble_eq_true rfl) dX6_take_87 (mX3_coinsOf l hq hc7) ?_
        refine x_bipush hE (nI 8) dX6_take_90 (by decide) ?_
        refine x_imul hE dX6_take_92 ?_
        refine x_aload_n hE 1 dX6_take_93 rfl rfl ?_
        refine x_iload_n hE 2 dX6_take_94 rfl rfl ?_
        obtain ⟨v10, hc9, hf⟩ := bnd_some hf
        refine x_callV1 hE [.int X3] (rest := [.int (v8 * (nI 8)), .int ((nI 96) + X3), .ref (σ (122))]) (v := .int v10) (c1 := M) (d1 := N) rfl yokX3_stateOf yvX3_stateOf lk_X6_34 rfl cl_3 (hE.kd (kO_3 hq)) (by decide) rfl rfl ⟨Nat.le_of_ble_eq_true rfl, Nat.le_of_ble_eq_true rfl⟩ ⟨Nat.zero_le _, Nat.zero_le _⟩ rfl (Nat.le_of_ble_eq_true rfl) dX6_take_95 (mX3_stateOf l hq hc9) ?_
        refine x_iadd hE dX6_take_98 ?_
        refine x_iast hE (hE.kd kA_122) dX6_take_99 hf (fun M11 hf => ?_)
        refine x_iinc hE 2 (X3 + nI 1) (L' := [(3, .int (X3 + nI 1)), (0, .ref (σ (121))), (2, .ref (σ q))]) dX6_take_100 rfl rfl (by decide) rfl ?_
        refine x_pick [1, 2, 0] (L' := [(0, .ref (σ (121))), (2, .ref (σ q)), (3, .int (X3 + nI 1))]) rfl ?_
        refine x_goto hE 63 dX6_take_103 (by decide) ?_
        exact ih _ _ _ hf
theorem wX6_take_L26 {p : Program} {l : Launch} {e : Env} {s : State} {m : MethodId} {args : Array Value} {below : List Frame} {meth : Method} {c : Code} {Y : Nat → ClassId} {D : va_G} {σ : Nat → Nat} {np b0 : Nat} {g : Nat} {q : Nat} {r : Int32 × Mc × Md} (hE : EOK p s m args meth c cX6_take 4 RX6 Y D σ np b0) (hr : meth.sig.returnType = (some .int)) (hg : is4 g) (hq : is3 q) : ∀ (n : Nat) (M : Mc) (N : Md) (X3 : Int32), fX6_take_L26 g q n M N X3 = some r → Xw p l e (rmD 3) s m args below meth c 4 Y D σ np b0 0 0 (MQ below (QR Y D σ np b0 (some (.int r.1)) r.2.1 r.2.2) args s 0 0 (xA b0)) 26 [(0, .ref (σ (121))), (1, .ref (σ g)), (2, .ref (σ q)), (3, .int X3)] [] M N := by
  intro n
  induction n with
  | zero =>
    intro M N X3 hf
    cases hf
  | succ n ih =>
    intro M N X3 hf
    rw [fX6_take_L26.eq_2] at hf
    refine x_iload_n hE 3 dX6_take_26 rfl rfl ?_
    refine x_bipush hE (nI 96) dX6_take_27 (by decide) ?_
    refine x_icmp_ge hE 61 dX6_take_29 (by decide) hf (fun hf => ?_) (fun hf => ?_)
    · refine x_iconst hE (0 : Int32) dX6_take_61 (by decide) ?_
      refine x_istore_n hE (L' := [(3, .int 0), (0, .ref (σ (121))), (1, .ref (σ g)), (2, .ref (σ q))]) dX6_take_62 rfl (by decide) rfl ?_
      refine x_pick [1, 2, 3, 0] (L' := [(0, .ref (σ (121))), (1, .ref (σ g)), (2, .ref (σ q)), (3, .int 0)]) rfl ?_
      refine x_pick [0, 2, 3] (L' := [(0, .ref (σ (121))), (2, .ref (σ q)), (3, .int 0)]) rfl ?_
      exact wX6_take_L63 hE hr hg hq FU _ _ _ hf
    · refine x_aload_n hE 0 dX6_take_32 rfl rfl ?_
      refine x_getR hE cl_6 (hE.kd kO_6) (by decide) 0 (122) rfl (by decide) lk_X6_9 dX6_take_33 ?_
      refine x_iload_n hE 3 dX6_take_36 rfl rfl ?_
      refine x_aload_n hE 1 dX6_take_37 rfl rfl ?_
      refine x_iload_n hE 3 dX6_take_38 rfl rfl ?_
      obtain ⟨v3, hc2, hf⟩ := bnd_some hf
      refine x_callV1 hE [.int X3] (rest := [.int X3, .ref (σ (122))]) (v := .int v3) (c1 := M) (d1 := N) rfl yokX4_holdingOf yvX4_holdingOf lk_X6_22 rfl cl_4 (hE.kd (kO_4 hg)) (by decide) rfl rfl ⟨Nat.le_of_ble_eq_true rfl, Nat.le_of_ble_eq_true rfl⟩ ⟨Nat.zero_le _, Nat.zero_le _⟩ rfl (Nat.le_of_ble_eq_true rfl) dX6_take_39 (mX4_holdingOf l hg hc2) ?_
      refine x_sipush hE (nI 200) dX6_take_42 (by decide) ?_
      refine x_imul hE dX6_take_45 ?_
      refine x_aload_n hE 1 dX6_take_46 rfl rfl ?_
      refine x_iload_n hE 3 dX6_take_47 rfl rfl ?_
      obtain ⟨v5, hc4, hf⟩ := bnd_some hf
      refine x_callV1 hE [.int X3] (rest := [.int (v3 * (nI 200)), .int X3, .ref (σ (122))]) (v := .int v5) (c1 := M) (d1 := N) rfl yokX4_ownerOf yvX4_ownerOf lk_X6_28 rfl cl_4 (hE.kd (kO_4 hg)) (by decide) rfl rfl ⟨Nat.le_of_ble_eq_true rfl, Nat.le_of_ble_eq_true rfl⟩ ⟨Nat.zero_le _, Nat.zero_le _⟩ rfl (Nat.le_of_ble_eq_true rfl) dX6_take_48 (mX4_ownerOf l hg hc4) ?_
      refine x_iadd hE dX6_take_51 ?_
      refine x_iconst hE (nI 1) dX6_take_52 (by decide) ?_
      refine x_iadd hE dX6_take_53 ?_
      refine x_iast hE (hE.kd kA_122) dX6_take_54 hf (fun M6 hf => ?_)
      refine x_iinc hE 3 (X3 + nI 1) (L' := [(3, .int (X3 + nI 1)), (0, .ref (σ (121))), (1, .ref (σ g)), (2, .ref (σ q))]) dX6_take_55 rfl rfl (by decide) rfl ?_
      refine x_pick [1, 2, 3, 0] (L' := [(0, .ref (σ (121))), (1, .ref (σ g)), (2, .ref (σ q)), (3, .int (X3 + nI 1))]) rfl ?_
      refine x_goto hE 26 dX6_take_58 (by decide) ?_
      exact ih _ _ _ hf
theorem mX6_take (l : Launch) {Y : Nat → ClassId} {D : va_G} {σ : Nat → Nat} {np b0 : Nat} {M : Mc} {N : Md} {g : Nat} {q : Nat} {r : Int32 × Mc × Md} (hg : is4 g) (hq : is3 q) (hf : fX6_take M N g q = some r) : Met l yX6_take (.code yX6_take cX6_take 4 (some .int) :: lw_g) (rmD 3) (PR Y D σ np b0 [.ref (σ (121)), .ref (σ g), .ref (σ q)] M N) (QR Y D σ np b0 (some (.int r.1)) r.2.1 r.2.2) 0 0 (xA b0) := by
  refine x_met (by decide) (Nat.le_of_ble_eq_true rfl) (fun p e s m args below meth c hE hr => ?_)
  unfold fX6_take at hf
  refine x_pick [0, 1, 2] (L' := [(0, .ref (σ (121))), (1, .ref (σ g)), (2, .ref (σ q))]) rfl ?_
  refine x_aload_n hE 1 dX6_take_0 rfl rfl ?_
  refine x_ifnull hE dX6_take_1 ?_
  refine x_aload_n hE 2 dX6_take_4 rfl rfl ?_
  refine x_ifnonnull hE 13 dX6_take_5 (by decide) ?_
  refine x_aload_n hE 0 dX6_take_13 rfl rfl ?_
  refine x_bipush hE (nI 96) dX6_take_14 (by decide) ?_
  refine x_aload_n hE 2 dX6_take_16 rfl rfl ?_
  refine x_getI hE cl_3 (hE.kd (kO_3 hq)) (by decide) 0 rfl (by decide) lk_X6_19 dX6_take_17 ?_
  refine x_iadd hE dX6_take_20 ?_
  refine x_putI hE cl_6 (hE.kd kO_6) (by decide) 1 rfl (by decide) lk_X6_15 rfl rfl rfl rfl dX6_take_21 hf (fun M1 hf => ?_)
  refine x_iconst hE (0 : Int32) dX6_take_24 (by decide) ?_
  refine x_istore_n hE (L' := [(3, .int 0), (0, .ref (σ (121))), (1, .ref (σ g)), (2, .ref (σ q))]) dX6_take_25 rfl (by decide) rfl ?_
  refine x_pick [1, 2, 3, 0] (L' := [(0, .ref (σ (121))), (1, .ref (σ g)), (2, .ref (σ q)), (3, .int 0)]) rfl ?_
  exact wX6_take_L26 hE hr hg hq FU _ _ _ hf
theorem yokX6_take : YOK yX6_take cX6_take 4 2 (some .int) := ⟨mem_g 699 (by decide +kernel) (by decide +kernel), mem_g 142 (by decide +kernel) (by decide +kernel), by decide +kernel, by decide +kernel, by decide +kernel⟩
theorem yvX6_take : YV yX6_take := ⟨mem_g 697 (by decide +kernel) (by decide +kernel), mem_g 698 (by decide +kernel) (by decide +kernel)⟩
theorem lk_X6_51 : Cond.methodLinkNest RX6 51 yX11_inside "SettlerColony" ∈ lw_nw := mem_n 737 (by decide +kernel) rfl
theorem dX6_at_0 : decode cX6_at 0 = .ok (.iload_n 1, 1) := by decide +kernel
theorem dX6_at_1 : decode cX6_at 1 = .ok (.aload_n 0, 1) := by decide +kernel
theorem dX6_at_2 : decode cX6_at 2 = .ok (.getfield 15, 3) := by decide +kernel
theorem dX6_at_5 : decode cX6_at 5 = .ok (.invokestatic 51, 3) := by decide +kernel
theorem dX6_at_8 : decode cX6_at 8 = .ok (.ifCond .eq 24, 3) := by decide +kernel
theorem dX6_at_11 : decode cX6_at 11 = .ok (.iload_n 1, 1) := by decide +kernel
theorem dX6_at_12 : decode cX6_at 12 = .ok (.aload_n 0, 1) := by decide +kernel
theorem dX6_at_13 : decode cX6_at 13 = .ok (.getfield 9, 3) := by decide +kernel
theorem dX6_at_16 : decode cX6_at 16 = .ok (.arraylength, 1) := by decide +kernel
theorem dX6_at_17 : decode cX6_at 17 = .ok (.invokestatic 51, 3) := by decide +kernel
theorem dX6_at_20 : decode cX6_at 20 = .ok (.ifCond .eq 12, 3) := by decide +kernel
theorem dX6_at_23 : decode cX6_at 23 = .ok (.aload_n 0, 1) := by decide +kernel
theorem dX6_at_24 : decode cX6_at 24 = .ok (.getfield 9, 3) := by decide +kernel
theorem dX6_at_27 : decode cX6_at 27 = .ok (.iload_n 1, 1) := by decide +kernel
theorem dX6_at_28 : decode cX6_at 28 = .ok (.iaload, 1) := by decide +kernel
theorem dX6_at_29 : decode cX6_at 29 = .ok (.goto 4, 3) := by decide +kernel
theorem dX6_at_32 : decode cX6_at 32 = .ok (.iconst (-1), 1) := by decide +kernel
theorem dX6_at_33 : decode cX6_at 33 = .ok (.ireturn, 1) := by decide +kernel
theorem mX6_at (l : Launch) {Y : Nat → ClassId} {D : va_G} {σ : Nat → Nat} {np b0 : Nat} {M : Mc} {N : Md} {p0 : Int32} {r : Int32} (hf : fX6_at M p0 = some r) : Met l yX6_at (.code yX6_at cX6_at 2 (some .int) :: lw_g) (rmD 2) (PR Y D σ np b0 [.ref (σ (121)), .int p0] M N) (QR Y D σ np b0 (some (.int r)) M N) 0 0 (xA b0) := by
  refine x_met (by decide) (Nat.le_of_ble_eq_true rfl) (fun p e s m args below meth c hE hr => ?_)
  unfold fX6_at at hf
  refine x_pick [0, 1] (L' := [(0, .ref (σ (121))), (1, .int p0)]) rfl ?_
  refine x_iload_n hE 1 dX6_at_0 rfl rfl ?_
  refine x_aload_n hE 0 dX6_at_1 rfl rfl ?_
  refine x_getI hE cl_6 (hE.kd kO_6) (by decide) 1 rfl (by decide) lk_X6_15 dX6_at_2 ?_
  obtain ⟨v2, hc1, hf⟩ := bnd_some hf
  refine x_callSN1 hE [.int p0, .int (M (121) 1)] (rest := []) (v := .int v2) (c1 := M) (d1 := N) rfl yokX11_inside ysX11_inside lk_X6_51 rfl rfl ⟨Nat.le_of_ble_eq_true rfl, Nat.le_of_ble_eq_true rfl⟩ ⟨Nat.zero_le _, Nat.zero_le _⟩ rfl (Nat.le_of_ble_eq_true rfl) dX6_at_5 (mX11_inside l hc1) ?_
  refine x_if_eq hE 32 dX6_at_8 (by decide) hf (fun hf => ?_) (fun hf => ?_)
  · refine x_iconst hE (-1) dX6_at_32 (by decide) ?_
    replace hf := Option.some.inj hf
    subst hf
    exact x_ireturn hE (v := (-1)) hr rfl dX6_at_33
  · refine x_iload_n hE 1 dX6_at_11 rfl rfl ?_
    refine x_aload_n hE 0 dX6_at_12 rfl rfl ?_
    refine x_getR hE cl_6 (hE.kd kO_6) (by decide) 0 (122) rfl (by decide) lk_X6_9 dX6_at_13 ?_
    refine x_alen hE (nI 196) (hE.kd kA_122) (Or.inl rfl) rfl dX6_at_16 ?_
    obtain ⟨v4, hc3, hf⟩ := bnd_some hf
    refine x_callSN1 hE [.int p0, .int (nI 196)] (rest := []) (v := .int v4) (c1 := M) (d1 := N) rfl yokX11_inside ysX11_inside lk_X6_51 rfl rfl ⟨Nat.le_of_ble_eq_true rfl, Nat.le_of_ble_eq_true rfl⟩ ⟨Nat.zero_le _, Nat.zero_le _⟩ rfl (Nat.le_of_ble_eq_true rfl) dX6_at_17 (mX11_inside l hc3) ?_
    refine x_if_eq hE 32 dX6_at_20 (by decide) hf (fun hf => ?_) (fun hf => ?_)
    · refine x_iconst hE (-1) dX6_at_32 (by decide) ?_
      replace hf := Option.some.inj hf
      subst hf
      exact x_ireturn hE (v := (-1)) hr rfl dX6_at_33
    · refine x_aload_n hE 0 dX6_at_23 rfl rfl ?_
      refine x_getR hE cl_6 (hE.kd kO_6) (by decide) 0 (122) rfl (by decide) lk_X6_9 dX6_at_24 ?_
      refine x_iload_n hE 1 dX6_at_27 rfl rfl ?_
      refine x_iald hE (hE.kd kA_122) dX6_at_28 hf (fun hf => ?_)
      refine x_goto hE 33 dX6_at_29 (by decide) ?_
      replace hf := Option.some.inj hf
      subst hf
      exact x_ireturn hE (v := M (122) p0.toNatClampNeg) hr rfl dX6_at_33
theorem yokX6_at : YOK yX6_at cX6_at 2 1 (some .int) := ⟨mem_g 736 (by decide +kernel) (by decide +kernel), mem_g 142 (by decide +kernel) (by decide +kernel), by decide +kernel, by decide +kernel, by decide +kernel⟩
theorem yvX6_at : YV yX6_at := ⟨mem_g 734 (by decide +kernel) (by decide +kernel), mem_g 735 (by decide +kernel) (by decide +kernel)⟩
theorem dX6_alter_0 : decode cX6_alter 0 = .ok (.iload_n 1, 1) := by decide +kernel
theorem dX6_alter_1 : decode cX6_alter 1 = .ok (.aload_n 0, 1) := by decide +kernel
theorem dX6_alter_2 : decode cX6_alter 2 = .ok (.getfield 15, 3) := by decide +kernel
theorem dX6_alter_5 : decode cX6_alter 5 = .ok (.invokestatic 51, 3) := by decide +kernel
theorem dX6_alter_8 : decode cX6_alter 8 = .ok (.ifCond .eq 15, 3) := by decide +kernel
theorem dX6_alter_11 : decode cX6_alter 11 = .ok (.iload_n 1, 1) := by decide +kernel
theorem dX6_alter_12 : decode cX6_alter 12 = .ok (.aload_n 0, 1) := by decide +kernel
theorem dX6_alter_13 : decode cX6_alter 13 = .ok (.getfield 9, 3) := by decide +kernel
theorem dX6_alter_16 : decode cX6_alter 16 = .ok (.arraylength, 1) := by decide +kernel
theorem dX6_alter_17 : decode cX6_alter 17 = .ok (.invokestatic 51, 3) := by decide +kernel
theorem dX6_alter_20 : decode cX6_alter 20 = .ok (.ifCond .ne 5, 3) := by decide +kernel
theorem dX6_alter_23 : decode cX6_alter 23 = .ok (.iconst (-1), 1) := by decide +kernel
theorem dX6_alter_24 : decode cX6_alter 24 = .ok (.ireturn, 1) := by decide +kernel
theorem dX6_alter_25 : decode cX6_alter 25 = .ok (.aload_n 0, 1) := by decide +kernel
theorem dX6_alter_26 : decode cX6_alter 26 = .ok (.getfield 9, 3) := by decide +kernel
theorem dX6_alter_29 : decode cX6_alter 29 = .ok (.iload_n 1, 1) := by decide +kernel
theorem dX6_alter_30 : decode cX6_alter 30 = .ok (.dup2, 1) := by decide +kernel
theorem dX6_alter_31 : decode cX6_alter 31 = .ok (.iaload, 1) := by decide +kernel
theorem dX6_alter_32 : decode cX6_alter 32 = .ok (.iload_n 2, 1) := by decide +kernel
theorem dX6_alter_33 : decode cX6_alter 33 = .ok (.ixor, 1) := by decide +kernel
theorem dX6_alter_34 : decode cX6_alter 34 = .ok (.iastore, 1) := by decide +kernel
theorem dX6_alter_35 : decode cX6_alter 35 = .ok (.aload_n 0, 1) := by decide +kernel
theorem dX6_alter_36 : decode cX6_alter 36 = .ok (.getfield 9, 3) := by decide +kernel
theorem dX6_alter_39 : decode cX6_alter 39 = .ok (.iload_n 1, 1) := by decide +kernel
theorem dX6_alter_40 : decode cX6_alter 40 = .ok (.iaload, 1) := by decide +kernel
theorem dX6_alter_41 : decode cX6_alter 41 = .ok (.ireturn, 1) := by decide +kernel
theorem mX6_alter (l : Launch) {Y : Nat → ClassId} {D : va_G} {σ : Nat → Nat} {np b0 : Nat} {M : Mc} {N : Md} {p0 : Int32} {p1 : Int32} {r : Int32 × Mc} (hf : fX6_alter M p0 p1 = some r) : Met l yX6_alter (.code yX6_alter cX6_alter 3 (some .int) :: lw_g) (rmD 2) (PR Y D σ np b0 [.ref (σ (121)), .int p0, .int p1] M N) (QR Y D σ np b0 (some (.int r.1)) r.2 N) 0 0 (xA b0) := by
  refine x_met (by decide) (Nat.le_of_ble_eq_true rfl) (fun p e s m args below meth c hE hr => ?_)
  unfold fX6_alter at hf
  refine x_pick [0, 1, 2] (L' := [(0, .ref (σ (121))), (1, .int p0), (2, .int p1)]) rfl ?_
  refine x_iload_n hE 1 dX6_alter_0 rfl rfl ?_
  refine x_aload_n hE 0 dX6_alter_1 rfl rfl ?_
  refine x_getI hE cl_6 (hE.kd kO_6) (by decide) 1 rfl (by decide) lk_X6_15 dX6_alter_2 ?_
  obtain ⟨v2, hc1, hf⟩ := bnd_some hf
  refine x_callSN1 hE [.int p0, .int (M (121) 1)] (rest := []) (v := .int v2) (c1 := M) (d1 := N) rfl yokX11_inside ysX11_inside lk_X6_51 rfl rfl ⟨Nat.le_of_ble_eq_true rfl, Nat.le_of_ble_eq_true rfl⟩ ⟨Nat.zero_le _, Nat.zero_le _⟩ rfl (Nat.le_of_ble_eq_true rfl) dX6_alter_5 (mX11_inside l hc1) ?_
  refine x_if_eq hE 23 dX6_alter_8 (by decide) hf (fun hf => ?_) (fun hf => ?_)
  · refine x_iconst hE (-1) dX6_alter_23 (by decide) ?_
    replace hf := Option.some.inj hf
    subst hf
    exact x_ireturn hE (v := (-1)) hr rfl dX6_alter_24
  · refine x_iload_n hE 1 dX6_alter_11 rfl rfl ?_
    refine x_aload_n hE 0 dX6_alter_12 rfl rfl ?_
    refine x_getR hE cl_6 (hE.kd kO_6) (by decide) 0 (122) rfl (by decide) lk_X6_9 dX6_alter_13 ?_
    refine x_alen hE (nI 196) (hE.kd kA_122) (Or.inl rfl) rfl dX6_alter_16 ?_
    obtain ⟨v4, hc3, hf⟩ := bnd_some hf
    refine x_callSN1 hE [.int p0, .int (nI 196)] (rest := []) (v := .int v4) (c1 := M) (d1 := N) rfl yokX11_inside ysX11_inside lk_X6_51 rfl rfl ⟨Nat.le_of_ble_eq_true rfl, Nat.le_of_ble_eq_true rfl⟩ ⟨Nat.zero_le _, Nat.zero_le _⟩ rfl (Nat.le_of_ble_eq_true rfl) dX6_alter_17 (mX11_inside l hc3) ?_
    refine x_if_ne hE 25 dX6_alter_20 (by decide) hf (fun hf => ?_) (fun hf => ?_)
    · refine x_aload_n hE 0 dX6_alter_25 rfl rfl ?_
      refine x_getR hE cl_6 (hE.kd kO_6) (by decide) 0 (122) rfl (by decide) lk_X6_9 dX6_alter_26 ?_
      refine x_iload_n hE 1 dX6_alter_29 rfl rfl ?_
      refine x_dup2 hE dX6_alter_30 rfl rfl ?_
      refine x_iald hE (hE.kd kA_122) dX6_alter_31 hf (fun hf => ?_)
      refine x_iload_n hE 2 dX6_alter_32 rfl rfl ?_
      refine x_ixor hE dX6_alter_33 ?_
      refine x_iast hE (hE.kd kA_122) dX6_alter_34 hf (fun M5 hf => ?_)
      refine x_aload_n hE 0 dX6_alter_35 rfl rfl ?_
      refine x_getR hE cl_6 (hE.kd kO_6) (by decide) 0 (122) rfl (by decide) lk_X6_9 dX6_alter_36 ?_
      refine x_iload_n hE 1 dX6_alter_39 rfl rfl ?_
      refine x_iald hE (hE.kd kA_122) dX6_alter_40 hf (fun hf => ?_)
      replace hf := Option.some.inj hf
      subst hf
      exact x_ireturn hE (v := M5 (122) p0.toNatClampNeg) hr rfl dX6_alter_41
    · refine x_iconst hE (-1) dX6_alter_23 (by decide) ?_
      replace hf := Option.some.inj hf
      subst hf
      exact x_ireturn hE (v := (-1)) hr rfl dX6_alter_24
theorem yokX6_alter : YOK yX6_alter cX6_alter 3 2 (some .int) := ⟨mem_g 745 (by decide +kernel) (by decide +kernel), mem_g 142 (by decide +kernel) (by decide +kernel), by decide +kernel, by decide +kernel, by decide +kernel⟩
theorem yvX6_alter : YV yX6_alter := ⟨mem_g 743 (by decide +kernel) (by decide +kernel), mem_g 744 (by decide +kernel) (by decide +kernel)⟩
theorem dX6_verdict_0 : decode cX6_verdict 0 = .ok (.aload_n 0, 1) := by decide +kernel
theorem dX6_verdict_1 : decode cX6_verdict 1 = .ok (.invokevirtual 37, 3) := by decide +kernel
theorem dX6_verdict_4 : decode cX6_verdict 4 = .ok (.aload_n 0, 1) := by decide +kernel
theorem dX6_verdict_5 : decode cX6_verdict 5 = .ok (.getfield 41, 3) := by decide +kernel
theorem dX6_verdict_8 : decode cX6_verdict 8 = .ok (.lsub, 1) := by decide +kernel
theorem dX6_verdict_9 : decode cX6_verdict 9 = .ok (.lstore_n 1, 1) := by decide +kernel
theorem dX6_verdict_10 : decode cX6_verdict 10 = .ok (.aload_n 0, 1) := by decide +kernel
theorem dX6_verdict_11 : decode cX6_verdict 11 = .ok (.invokevirtual 45, 3) := by decide +kernel
theorem dX6_verdict_14 : decode cX6_verdict 14 = .ok (.aload_n 0, 1) := by decide +kernel
theorem dX6_verdict_15 : decode cX6_verdict 15 = .ok (.getfield 48, 3) := by decide +kernel
theorem dX6_verdict_18 : decode cX6_verdict 18 = .ok (.lsub, 1) := by decide +kernel
theorem dX6_verdict_19 : decode cX6_verdict 19 = .ok (.lstore_n 3, 1) := by decide +kernel
theorem dX6_verdict_20 : decode cX6_verdict 20 = .ok (.lload_n 1, 1) := by decide +kernel
theorem dX6_verdict_21 : decode cX6_verdict 21 = .ok (.lconst 0, 1) := by decide +kernel
theorem dX6_verdict_22 : decode cX6_verdict 22 = .ok (.lcmp, 1) := by decide +kernel
theorem dX6_verdict_23 : decode cX6_verdict 23 = .ok (.ifCond .ne 11, 3) := by decide +kernel
theorem dX6_verdict_26 : decode cX6_verdict 26 = .ok (.lload_n 3, 1) := by decide +kernel
theorem dX6_verdict_27 : decode cX6_verdict 27 = .ok (.lconst 0, 1) := by decide +kernel
theorem dX6_verdict_28 : decode cX6_verdict 28 = .ok (.lcmp, 1) := by decide +kernel
theorem dX6_verdict_29 : decode cX6_verdict 29 = .ok (.ifCond .ne 5, 3) := by decide +kernel
theorem dX6_verdict_32 : decode cX6_verdict 32 = .ok (.iconst (-1), 1) := by decide +kernel
theorem dX6_verdict_33 : decode cX6_verdict 33 = .ok (.ireturn, 1) := by decide +kernel
theorem dX6_verdict_34 : decode cX6_verdict 34 = .ok (.lload_n 1, 1) := by decide +kernel
theorem dX6_verdict_35 : decode cX6_verdict 35 = .ok (.lconst 0, 1) := by decide +kernel
theorem dX6_verdict_36 : decode cX6_verdict 36 = .ok (.lcmp, 1) := by decide +kernel
theorem dX6_verdict_37 : decode cX6_verdict 37 = .ok (.ifCond .eq 11, 3) := by decide +kernel
theorem dX6_verdict_40 : decode cX6_verdict 40 = .ok (.lload_n 3, 1) := by decide +kernel
theorem dX6_verdict_41 : decode cX6_verdict 41 = .ok (.lload_n 1, 1) := by decide +kernel
theorem dX6_verdict_42 : decode cX6_verdict 42 = .ok (.lrem, 1) := by decide +kernel
theorem dX6_verdict_43 : decode cX6_verdict 43 = .ok (.lconst 0, 1) := by decide +kernel
theorem dX6_verdict_44 : decode cX6_verdict 44 = .ok (.lcmp, 1) := by decide +kernel
theorem dX6_verdict_45 : decode cX6_verdict 45 = .ok (.ifCond .eq 6, 3) := by decide +kernel
theorem dX6_verdict_48 : decode cX6_verdict 48 = .ok (.bipush (-2), 2) := by decide +kernel
theorem dX6_verdict_50 : decode cX6_verdict 50 = .ok (.ireturn, 1) := by decide +kernel
theorem dX6_verdict_51 : decode cX6_verdict 51 = .ok (.lload_n 3, 1) := by decide +kernel
theorem dX6_verdict_52 : decode cX6_verdict 52 = .ok (.lload_n 1, 1) := by decide +kernel
theorem dX6_verdict_53 : decode cX6_verdict 53 = .ok (.ldiv, 1) := by decide +kernel
theorem dX6_verdict_54 : decode cX6_verdict 54 = .ok (.lstore 5, 2) := by decide +kernel
theorem dX6_verdict_56 : decode cX6_verdict 56 = .ok (.lload 5, 2) := by decide +kernel
theorem dX6_verdict_58 : decode cX6_verdict 58 = .ok (.lconst 1, 1) := by decide +kernel
theorem dX6_verdict_59 : decode cX6_verdict 59 = .ok (.lcmp, 1) := by decide +kernel
theorem dX6_verdict_60 : decode cX6_verdict 60 = .ok (.ifCond .lt 22, 3) := by decide +kernel
theorem dX6_verdict_63 : decode cX6_verdict 63 = .ok (.lload 5, 2) := by decide +kernel
theorem dX6_verdict_65 : decode cX6_verdict 65 = .ok (.aload_n 0, 1) := by decide +kernel
theorem dX6_verdict_66 : decode cX6_verdict 66 = .ok (.getfield 15, 3) := by decide +kernel
theorem dX6_verdict_69 : decode cX6_verdict 69 = .ok (.i2l, 1) := by decide +kernel
theorem dX6_verdict_70 : decode cX6_verdict 70 = .ok (.lcmp, 1) := by decide +kernel
theorem dX6_verdict_71 : decode cX6_verdict 71 = .ok (.ifCond .gt 11, 3) := by decide +kernel
theorem dX6_verdict_74 : decode cX6_verdict 74 = .ok (.lload 5, 2) := by decide +kernel
theorem dX6_verdict_76 : decode cX6_verdict 76 = .ok (.l2i, 1) := by decide +kernel
theorem dX6_verdict_77 : decode cX6_verdict 77 = .ok (.iconst 1, 1) := by decide +kernel
theorem dX6_verdict_78 : decode cX6_verdict 78 = .ok (.isub, 1) := by decide +kernel
theorem dX6_verdict_79 : decode cX6_verdict 79 = .ok (.goto 5, 3) := by decide +kernel
theorem dX6_verdict_82 : decode cX6_verdict 82 = .ok (.bipush (-2), 2) := by decide +kernel
theorem dX6_verdict_84 : decode cX6_verdict 84 = .ok (.ireturn, 1) := by decide +kernel
theorem wX6_verdict_J34 {p : Program} {l : Launch} {e : Env} {s : State} {m : MethodId} {args : Array Value} {below : List Frame} {meth : Method} {c : Code} {Y : Nat → ClassId} {D : va_G} {σ : Nat → Nat} {np b0 : Nat} {r : Int32} {M : Mc} {N : Md} {X1 : Int64} {X3 : Int64} (hE : EOK p s m args meth c cX6_verdict 7 RX6 Y D σ np b0) (hr : meth.sig.returnType = (some .int)) (hf : fX6_verdict_J34 M N X1 X3 = some r) : Xw p l e (rmD 2) s m args below meth c 7 Y D σ np b0 0 0 (MQ below (QR Y D σ np b0 (some (.int r)) M N) args s 0 0 (xA b0)) 34 [(0, .ref (σ (121))), (1, .long X1), (3, .long X3)] [] M N := by
  unfold fX6_verdict_J34 at hf
  refine x_lload_n hE 1 dX6_verdict_34 rfl rfl ?_
  refine x_lconst hE (0 : Int64) dX6_verdict_35 (by decide) ?_
  refine x_lcmp hE dX6_verdict_36 ?_
  refine x_if_eq hE 48 dX6_verdict_37 (by decide) hf (fun hf => ?_) (fun hf => ?_)
  · refine x_bipush hE (-2) dX6_verdict_48 (by decide) ?_
    replace hf := Option.some.inj hf
    subst hf
    exact x_ireturn hE (v := (-2)) hr rfl dX6_verdict_50
  · refine x_lload_n hE 2 dX6_verdict_40 rfl rfl ?_
    refine x_lload_n hE 1 dX6_verdict_41 rfl rfl ?_
    refine x_lrem hE dX6_verdict_42 hf (fun hf => ?_)
    refine x_lconst hE (0 : Int64) dX6_verdict_43 (by decide) ?_
    refine x_lcmp hE dX6_verdict_44 ?_
    refine x_if_eq hE 51 dX6_verdict_45 (by decide) hf (fun hf => ?_) (fun hf => ?_)
    · refine x_lload_n hE 2 dX6_verdict_51 rfl rfl ?_
      refine x_lload_n hE 1 dX6_verdict_52 rfl rfl ?_
      refine x_ldiv hE dX6_verdict_53 hf (fun hf => ?_)
      refine x_ltL hf (fun v7 hf => ?_)
      refine x_lstore hE (L' := [(5, .long v7), (0, .ref (σ (121))), (1, .long X1), (3, .long X3)]) dX6_verdict_54 (by decide) rfl ?_
      refine x_pick [1, 2, 3, 0] (L' := [(0, .ref (σ (121))), (1, .long X1), (3, .long X3), (5, .long v7)]) rfl ?_
      refine x_lload hE 3 dX6_verdict_56 rfl ?_
      refine x_lconst hE (1 : Int64) dX6_verdict_58 (by decide) ?_
      refine x_lcmp hE dX6_verdict_59 ?_
      refine x_if_lt hE 82 dX6_verdict_60 (by decide) hf (fun hf => ?_) (fun hf => ?_)
      · refine x_bipush hE (-2) dX6_verdict_82 (by decide) ?_
        replace hf := Option.some.inj hf
        subst hf
        exact x_ireturn hE (v := (-2)) hr rfl dX6_verdict_84
      · refine x_lload hE 3 dX6_verdict_63 rfl ?_
        refine x_aload_n hE 0 dX6_verdict_65 rfl rfl ?_
        refine x_getI hE cl_6 (hE.kd kO_6) (by decide) 1 rfl (by decide) lk_X6_15 dX6_verdict_66 ?_
        refine x_i2l hE dX6_verdict_69 ?_
        refine x_lcmp hE dX6_verdict_70 ?_
        refine x_if_gt hE 82 dX6_verdict_71 (by decide) hf (fun hf => ?_) (fun hf => ?_)
        · refine x_bipush hE (-2) dX6_verdict_82 (by decide) ?_
          replace hf := Option.some.inj hf
          subst hf
          exact x_ireturn hE (v := (-2)) hr rfl dX6_verdict_84
        · refine x_lload hE 3 dX6_verdict_74 rfl ?_
          refine x_l2i hE dX6_verdict_76 ?_
          refine x_iconst hE (nI 1) dX6_verdict_77 (by decide) ?_
          refine x_isub hE dX6_verdict_78 ?_
          refine x_goto hE 84 dX6_verdict_79 (by decide) ?_
          replace hf := Option.some.inj hf
          subst hf
          exact x_ireturn hE (v := (v7.toInt32) - (nI 1)) hr rfl dX6_verdict_84
    · refine x_bipush hE (-2) dX6_verdict_48 (by decide) ?_
      replace hf := Option.some.inj hf
      subst hf
      exact x_ireturn hE (v := (-2)) hr rfl dX6_verdict_50
theorem mX6_verdict (l : Launch) {Y : Nat → ClassId} {D : va_G} {σ : Nat → Nat} {np b0 : Nat} {M : Mc} {N : Md} {r : Int32} (hf : fX6_verdict M N = some r) : Met l yX6_verdict (.code yX6_verdict cX6_verdict 7 (some .int) :: lw_g) (rmD 2) (PR Y D σ np b0 [.ref (σ (121))] M N) (QR Y D σ np b0 (some (.int r)) M N) 0 0 (xA b0) := by
  refine x_met (by decide) (Nat.le_of_ble_eq_true rfl) (fun p e s m args below meth c hE hr => ?_)
  unfold fX6_verdict at hf
  refine x_pick [0] (L' := [(0, .ref (σ (121)))]) rfl ?_
  refine x_aload_n hE 0 dX6_verdict_0 rfl rfl ?_
  obtain ⟨v2, hc1, hf⟩ := bnd_some hf
  refine x_callV1 hE [] (rest := []) (v := .long v2) (c1 := M) (d1 := N) rfl yokX6_sumNow yvX6_sumNow lk_X6_37 rfl cl_6 (hE.kd kO_6) (by decide) rfl rfl ⟨Nat.le_of_ble_eq_true rfl, Nat.le_of_ble_eq_true rfl⟩ ⟨Nat.zero_le _, Nat.zero_le _⟩ rfl (Nat.le_of_ble_eq_true rfl) dX6_verdict_1 (mX6_sumNow l hc1) ?_
  refine x_aload_n hE 0 dX6_verdict_4 rfl rfl ?_
  refine x_getL hE cl_6 (hE.kd kO_6) (by decide) 2 rfl (by decide) lk_X6_41 dX6_verdict_5 ?_
  refine x_lsub hE dX6_verdict_8 ?_
  refine x_ltL hf (fun v3 hf => ?_)
  refine x_lstore_n hE (L' := [(1, .long v3), (0, .ref (σ (121)))]) dX6_verdict_9 rfl (by decide) rfl ?_
  refine x_pick [1, 0] (L' := [(0, .ref (σ (121))), (1, .long v3)]) rfl ?_
  refine x_aload_n hE 0 dX6_verdict_10 rfl rfl ?_
  obtain ⟨v5, hc4, hf⟩ := bnd_some hf
  refine x_callV1 hE [] (rest := []) (v := .long v5) (c1 := M) (d1 := N) rfl yokX6_weighedNow yvX6_weighedNow lk_X6_45 rfl cl_6 (hE.kd kO_6) (by decide) rfl rfl ⟨Nat.le_of_ble_eq_true rfl, Nat.le_of_ble_eq_true rfl⟩ ⟨Nat.zero_le _, Nat.zero_le _⟩ rfl (Nat.le_of_ble_eq_true rfl) dX6_verdict_11 (mX6_weighedNow l hc4) ?_
  refine x_aload_n hE 0 dX6_verdict_14 rfl rfl ?_
  refine x_getL hE cl_6 (hE.kd kO_6) (by decide) 3 rfl (by decide) lk_X6_48 dX6_verdict_15 ?_
  refine x_lsub hE dX6_verdict_18 ?_
  refine x_ltL hf (fun v6 hf => ?_)
  refine x_lstore_n hE (L' := [(3, .long v6), (0, .ref (σ (121))), (1, .long v3)]) dX6_verdict_19 rfl (by decide) rfl ?_
  refine x_pick [1, 2, 0] (L' := [(0, .ref (σ (121))), (1, .long v3), (3, .long v6)]) rfl ?_
  refine x_lload_n hE 1 dX6_verdict_20 rfl rfl ?_
  refine x_lconst hE (0 : Int64) dX6_verdict_21 (by decide) ?_
  refine x_lcmp hE dX6_verdict_22 ?_
  refine x_if_ne hE 34 dX6_verdict_23 (by decide) hf (fun hf => ?_) (fun hf => ?_)
  · exact wX6_verdict_J34 hE hr  hf
  · refine x_lload_n hE 2 dX6_verdict_26 rfl rfl ?_
    refine x_lconst hE (0 : Int64) dX6_verdict_27 (by decide) ?_
    refine x_lcmp hE dX6_verdict_28 ?_
    refine x_if_ne hE 34 dX6_verdict_29 (by decide) hf (fun hf => ?_) (fun hf => ?_)
    · exact wX6_verdict_J34 hE hr  hf
    · refine x_iconst hE (-1) dX6_verdict_32 (by decide) ?_
      replace hf := Option.some.inj hf
      subst hf
      exact x_ireturn hE (v := (-1)) hr rfl dX6_verdict_33
theorem yokX6_verdict : YOK yX6_verdict cX6_verdict 7 0 (some .int) := ⟨mem_g 753 (by decide +kernel) (by decide +kernel), mem_g 142 (by decide +kernel) (by decide +kernel), by decide +kernel, by decide +kernel, by decide +kernel⟩
theorem yvX6_verdict : YV yX6_verdict := ⟨mem_g 751 (by decide +kernel) (by decide +kernel), mem_g 752 (by decide +kernel) (by decide +kernel)⟩
