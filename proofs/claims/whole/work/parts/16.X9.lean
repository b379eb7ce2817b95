theorem lk_X9_18 : Cond.fieldLink RX9 18 (TX9 2).1 (TX9 2).2.1 (TX9 2).2.2.1 ∈ lw_g := mem_g 484 (by decide +kernel) (by decide +kernel)
theorem lk_X9_9 : Cond.fieldLink RX9 9 (TX9 0).1 (TX9 0).2.1 (TX9 0).2.2.1 ∈ lw_g := mem_g 482 (by decide +kernel) (by decide +kernel)
theorem dX9_has_0 : decode cX9_has 0 = .ok (.iconst 0, 1) := by decide +kernel
theorem dX9_has_1 : decode cX9_has 1 = .ok (.istore_n 2, 1) := by decide +kernel
theorem dX9_has_2 : decode cX9_has 2 = .ok (.iload_n 2, 1) := by decide +kernel
theorem dX9_has_3 : decode cX9_has 3 = .ok (.aload_n 0, 1) := by decide +kernel
theorem dX9_has_4 : decode cX9_has 4 = .ok (.getfield 18, 3) := by decide +kernel
theorem dX9_has_7 : decode cX9_has 7 = .ok (.if_icmp .ge 27, 3) := by decide +kernel
theorem dX9_has_10 : decode cX9_has 10 = .ok (.iload_n 2, 1) := by decide +kernel
theorem dX9_has_11 : decode cX9_has 11 = .ok (.bipush 12, 2) := by decide +kernel
theorem dX9_has_13 : decode cX9_has 13 = .ok (.if_icmp .ge 21, 3) := by decide +kernel
theorem dX9_has_16 : decode cX9_has 16 = .ok (.aload_n 0, 1) := by decide +kernel
theorem dX9_has_17 : decode cX9_has 17 = .ok (.getfield 9, 3) := by decide +kernel
theorem dX9_has_20 : decode cX9_has 20 = .ok (.iload_n 2, 1) := by decide +kernel
theorem dX9_has_21 : decode cX9_has 21 = .ok (.iaload, 1) := by decide +kernel
theorem dX9_has_22 : decode cX9_has 22 = .ok (.iload_n 1, 1) := by decide +kernel
theorem dX9_has_23 : decode cX9_has 23 = .ok (.if_icmp .ne 5, 3) := by decide +kernel
theorem dX9_has_26 : decode cX9_has 26 = .ok (.iconst 1, 1) := by decide +kernel
theorem dX9_has_27 : decode cX9_has 27 = .ok (.ireturn, 1) := by decide +kernel
theorem dX9_has_28 : decode cX9_has 28 = .ok (.iinc 2 1, 3) := by decide +kernel
theorem dX9_has_31 : decode cX9_has 31 = .ok (.goto (-29), 3) := by decide +kernel
theorem dX9_has_34 : decode cX9_has 34 = .ok (.iconst 0, 1) := by decide +kernel
theorem dX9_has_35 : decode cX9_has 35 = .ok (.ireturn, 1) := by decide +kernel
theorem wX9_has_L2 {p : Program} {l : Launch} {e : Env} {s : State} {m : MethodId} {args : Array Value} {below : List Frame} {meth : Method} {c : Code} {Y : Nat → ClassId} {D : va_G} {σ : Nat → Nat} {np b0 : Nat} {r : Int32} (hE : EOK p s m args meth c cX9_has 3 RX9 Y D σ np b0) (hr : meth.sig.returnType = (some .boolean)) : ∀ (n : Nat) (M : Mc) (N : Md) (X1 : Int32) (X2 : Int32), fX9_has_L2 n M X1 X2 = some r → Xw p l e (rmD 1) s m args below meth c 3 Y D σ np b0 0 0 (MQ below (QR Y D σ np b0 (some (.int r)) M N) args s 0 0 (xA b0)) 2 [(0, .ref (σ (111))), (1, .int X1), (2, .int X2)] [] M N := by
  intro n
  induction n with
  | zero =>
    intro M N X1 X2 hf
    cases hf
  | succ n ih =>
    intro M N X1 X2 hf
    rw [fX9_has_L2.eq_2] at hf
    refine x_iload_n hE 2 dX9_has_2 rfl rfl ?_
    refine x_aload_n hE 0 dX9_has_3 rfl rfl ?_
    refine x_getI hE cl_9 (hE.kd kO_9) (by decide) 2 rfl (by decide) lk_X9_18 dX9_has_4 ?_
    refine x_icmp_ge hE 34 dX9_has_7 (by decide) hf (fun hf => ?_) (fun hf => ?_)
    · refine x_iconst hE (0 : Int32) dX9_has_34 (by decide) ?_
      replace hf := Option.some.inj hf
      subst hf
      exact x_ireturn hE (v := 0) hr rfl dX9_has_35
    · refine x_iload_n hE 2 dX9_has_10 rfl rfl ?_
      refine x_bipush hE (nI 12) dX9_has_11 (by decide) ?_
      refine x_icmp_ge hE 34 dX9_has_13 (by decide) hf (fun hf => ?_) (fun hf => ?_)
      · refine x_iconst hE (0 : Int32) dX9_has_34 (by decide) ?_
        replace hf := Option.some.inj hf
        subst hf
        exact x_ireturn hE (v := 0) hr rfl dX9_has_35
      · refine x_aload_n hE 0 dX9_has_16 rfl rfl ?_
        refine x_getR hE cl_9 (hE.kd kO_9) (by decide) 0 (112) rfl (by decide) lk_X9_9 dX9_has_17 ?_
        refine x_iload_n hE 2 dX9_has_20 rfl rfl ?_
        refine x_iald hE (hE.kd kA_112) dX9_has_21 hf (fun hf => ?_)
        refine x_iload_n hE 1 dX9_has_22 rfl rfl ?_
        refine x_icmp_ne hE 28 dX9_has_23 (by decide) hf (fun hf => ?_) (fun hf => ?_)
        · refine x_iinc hE 2 (X2 + nI 1) (L' := [(2, .int (X2 + nI 1)), (0, .ref (σ (111))), (1, .int X1)]) dX9_has_28 rfl rfl (by decide) rfl ?_
          refine x_pick [1, 2, 0] (L' := [(0, .ref (σ (111))), (1, .int X1), (2, .int (X2 + nI 1))]) rfl ?_
          refine x_goto hE 2 dX9_has_31 (by decide) ?_
          exact ih _ _ _ _ hf
        · refine x_iconst hE (nI 1) dX9_has_26 (by decide) ?_
          replace hf := Option.some.inj hf
          subst hf
          exact x_ireturn hE (v := nI 1) hr rfl dX9_has_27
theorem mX9_has (l : Launch) {Y : Nat → ClassId} {D : va_G} {σ : Nat → Nat} {np b0 : Nat} {M : Mc} {N : Md} {p0 : Int32} {r : Int32} (hf : fX9_has M p0 = some r) : Met l yX9_has (.code yX9_has cX9_has 3 (some .boolean) :: lw_g) (rmD 1) (PR Y D σ np b0 [.ref (σ (111)), .int p0] M N) (QR Y D σ np b0 (some (.int r)) M N) 0 0 (xA b0) := by
  refine x_met (by decide) (Nat.le_of_ble_eq_true rfl) (fun p e s m args below meth c hE hr => ?_)
  unfold fX9_has at hf
  refine x_pick [0, 1] (L' := [(0, .ref (σ (111))), (1, .int p0)]) rfl ?_
  refine x_iconst hE (0 : Int32) dX9_has_0 (by decide) ?_
  refine x_istore_n hE (L' := [(2, .int 0), (0, .ref (σ (111))), (1, .int p0)]) dX9_has_1 rfl (by decide) rfl ?_
  refine x_pick [1, 2, 0] (L' := [(0, .ref (σ (111))), (1, .int p0), (2, .int 0)]) rfl ?_
  exact wX9_has_L2 hE hr  FU _ _ _ _ hf
theorem yokX9_has : YOK yX9_has cX9_has 3 1 (some .boolean) := ⟨mem_g 1109 (by decide +kernel) (by decide +kernel), mem_g 140 (by decide +kernel) (by decide +kernel), by decide +kernel, by decide +kernel, by decide +kernel⟩
theorem yvX9_has : YV yX9_has := ⟨mem_g 1107 (by decide +kernel) (by decide +kernel), mem_g 1108 (by decide +kernel) (by decide +kernel)⟩
theorem lk_X9_22 : Cond.fieldLink RX9 22 (TX9 3).1 (TX9 3).2.1 (TX9 3).2.2.1 ∈ lw_g := mem_g 486 (by decide +kernel) (by decide +kernel)
theorem lk_X9_15 : Cond.fieldLink RX9 15 (TX9 1).1 (TX9 1).2.1 (TX9 1).2.2.1 ∈ lw_g := mem_g 483 (by decide +kernel) (by decide +kernel)
theorem dX9_isAsking_0 : decode cX9_isAsking 0 = .ok (.iconst 0, 1) := by decide +kernel
theorem dX9_isAsking_1 : decode cX9_isAsking 1 = .ok (.istore_n 2, 1) := by decide +kernel
theorem dX9_isAsking_2 : decode cX9_isAsking 2 = .ok (.iload_n 2, 1) := by decide +kernel
theorem dX9_isAsking_3 : decode cX9_isAsking 3 = .ok (.aload_n 0, 1) := by decide +kernel
theorem dX9_isAsking_4 : decode cX9_isAsking 4 = .ok (.getfield 22, 3) := by decide +kernel
theorem dX9_isAsking_7 : decode cX9_isAsking 7 = .ok (.if_icmp .ge 27, 3) := by decide +kernel
theorem dX9_isAsking_10 : decode cX9_isAsking 10 = .ok (.iload_n 2, 1) := by decide +kernel
theorem dX9_isAsking_11 : decode cX9_isAsking 11 = .ok (.bipush 12, 2) := by decide +kernel
theorem dX9_isAsking_13 : decode cX9_isAsking 13 = .ok (.if_icmp .ge 21, 3) := by decide +kernel
theorem dX9_isAsking_16 : decode cX9_isAsking 16 = .ok (.aload_n 0, 1) := by decide +kernel
theorem dX9_isAsking_17 : decode cX9_isAsking 17 = .ok (.getfield 15, 3) := by decide +kernel
theorem dX9_isAsking_20 : decode cX9_isAsking 20 = .ok (.iload_n 2, 1) := by decide +kernel
theorem dX9_isAsking_21 : decode cX9_isAsking 21 = .ok (.iaload, 1) := by decide +kernel
theorem dX9_isAsking_22 : decode cX9_isAsking 22 = .ok (.iload_n 1, 1) := by decide +kernel
theorem dX9_isAsking_23 : decode cX9_isAsking 23 = .ok (.if_icmp .ne 5, 3) := by decide +kernel
theorem dX9_isAsking_26 : decode cX9_isAsking 26 = .ok (.iconst 1, 1) := by decide +kernel
theorem dX9_isAsking_27 : decode cX9_isAsking 27 = .ok (.ireturn, 1) := by decide +kernel
theorem dX9_isAsking_28 : decode cX9_isAsking 28 = .ok (.iinc 2 1, 3) := by decide +kernel
theorem dX9_isAsking_31 : decode cX9_isAsking 31 = .ok (.goto (-29), 3) := by decide +kernel
theorem dX9_isAsking_34 : decode cX9_isAsking 34 = .ok (.iconst 0, 1) := by decide +kernel
theorem dX9_isAsking_35 : decode cX9_isAsking 35 = .ok (.ireturn, 1) := by decide +kernel
theorem wX9_isAsking_L2 {p : Program} {l : Launch} {e : Env} {s : State} {m : MethodId} {args : Array Value} {below : List Frame} {meth : Method} {c : Code} {Y : Nat → ClassId} {D : va_G} {σ : Nat → Nat} {np b0 : Nat} {r : Int32} (hE : EOK p s m args meth c cX9_isAsking 3 RX9 Y D σ np b0) (hr : meth.sig.returnType = (some .boolean)) : ∀ (n : Nat) (M : Mc) (N : Md) (X1 : Int32) (X2 : Int32), fX9_isAsking_L2 n M X1 X2 = some r → Xw p l e (rmD 1) s m args below meth c 3 Y D σ np b0 0 0 (MQ below (QR Y D σ np b0 (some (.int r)) M N) args s 0 0 (xA b0)) 2 [(0, .ref (σ (111))), (1, .int X1), (2, .int X2)] [] M N := by
  intro n
  induction n with
  | zero =>
    intro M N X1 X2 hf
    cases hf
  | succ n ih =>
    intro M N X1 X2 hf
    rw [fX9_isAsking_L2.eq_2] at hf
    refine x_iload_n hE 2 dX9_isAsking_2 rfl rfl ?_
    refine x_aload_n hE 0 dX9_isAsking_3 rfl rfl ?_
    refine x_getI hE cl_9 (hE.kd kO_9) (by decide) 3 rfl (by decide) lk_X9_22 dX9_isAsking_4 ?_
    refine x_icmp_ge hE 34 dX9_isAsking_7 (by decide) hf (fun hf => ?_) (fun hf => ?_)
    · refine x_iconst hE (0 : Int32) dX9_isAsking_34 (by decide) ?_
      replace hf := Option.some.inj hf
      subst hf
      exact x_ireturn hE (v := 0) hr rfl dX9_isAsking_35
    · refine x_iload_n hE 2 dX9_isAsking_10 rfl rfl ?_
      refine x_bipush hE (nI 12) dX9_isAsking_11 (by decide) ?_
      refine x_icmp_ge hE 34 dX9_isAsking_13 (by decide) hf (fun hf => ?_) (fun hf => ?_)
      · refine x_iconst hE (0 : Int32) dX9_isAsking_34 (by decide) ?_
        replace hf := Option.some.inj hf
        subst hf
        exact x_ireturn hE (v := 0) hr rfl dX9_isAsking_35
      · refine x_aload_n hE 0 dX9_isAsking_16 rfl rfl ?_
        refine x_getR hE cl_9 (hE.kd kO_9) (by decide) 1 (113) rfl (by decide) lk_X9_15 dX9_isAsking_17 ?_
        refine x_iload_n hE 2 dX9_isAsking_20 rfl rfl ?_
        refine x_iald hE (hE.kd kA_113) dX9_isAsking_21 hf (fun hf => ?_)
        refine x_iload_n hE 1 dX9_isAsking_22 rfl rfl ?_
        refine x_icmp_ne hE 28 dX9_isAsking_23 (by decide) hf (fun hf => ?_) (fun hf => ?_)
        · refine x_iinc hE 2 (X2 + nI 1) (L' := [(2, .int (X2 + nI 1)), (0, .ref (σ (111))), (1, .int X1)]) dX9_isAsking_28 rfl rfl (by decide) rfl ?_
          refine x_pick [1, 2, 0] (L' := [(0, .ref (σ (111))), (1, .int X1), (2, .int (X2 + nI 1))]) rfl ?_
          refine x_goto hE 2 dX9_isAsking_31 (by decide) ?_
          exact ih _ _ _ _ hf
        · refine x_iconst hE (nI 1) dX9_isAsking_26 (by decide) ?_
          replace hf := Option.some.inj hf
          subst hf
          exact x_ireturn hE (v := nI 1) hr rfl dX9_isAsking_27
theorem mX9_isAsking (l : Launch) {Y : Nat → ClassId} {D : va_G} {σ : Nat → Nat} {np b0 : Nat} {M : Mc} {N : Md} {p0 : Int32} {r : Int32} (hf : fX9_isAsking M p0 = some r) : Met l yX9_isAsking (.code yX9_isAsking cX9_isAsking 3 (some .boolean) :: lw_g) (rmD 1) (PR Y D σ np b0 [.ref (σ (111)), .int p0] M N) (QR Y D σ np b0 (some (.int r)) M N) 0 0 (xA b0) := by
  refine x_met (by decide) (Nat.le_of_ble_eq_true rfl) (fun p e s m args below meth c hE hr => ?_)
  unfold fX9_isAsking at hf
  refine x_pick [0, 1] (L' := [(0, .ref (σ (111))), (1, .int p0)]) rfl ?_
  refine x_iconst hE (0 : Int32) dX9_isAsking_0 (by decide) ?_
  refine x_istore_n hE (L' := [(2, .int 0), (0, .ref (σ (111))), (1, .int p0)]) dX9_isAsking_1 rfl (by decide) rfl ?_
  refine x_pick [1, 2, 0] (L' := [(0, .ref (σ (111))), (1, .int p0), (2, .int 0)]) rfl ?_
  exact wX9_isAsking_L2 hE hr  FU _ _ _ _ hf
theorem yokX9_isAsking : YOK yX9_isAsking cX9_isAsking 3 1 (some .boolean) := ⟨mem_g 1113 (by decide +kernel) (by decide +kernel), mem_g 140 (by decide +kernel) (by decide +kernel), by decide +kernel, by decide +kernel, by decide +kernel⟩
theorem yvX9_isAsking : YV yX9_isAsking := ⟨mem_g 1111 (by decide +kernel) (by decide +kernel), mem_g 1112 (by decide +kernel) (by decide +kernel)⟩
theorem lk_X9_25 : Cond.methodLinkNest RX9 25 yX11_inside "SettlerColony" ∈ lw_nw := mem_n 1118 (by decide +kernel) rfl
theorem dX9_hear_0 : decode cX9_hear 0 = .ok (.aload_n 0, 1) := by decide +kernel
theorem dX9_hear_1 : decode cX9_hear 1 = .ok (.getfield 18, 3) := by decide +kernel
theorem dX9_hear_4 : decode cX9_hear 4 = .ok (.aload_n 0, 1) := by decide +kernel
theorem dX9_hear_5 : decode cX9_hear 5 = .ok (.getfield 22, 3) := by decide +kernel
theorem dX9_hear_8 : decode cX9_hear 8 = .ok (.iadd, 1) := by decide +kernel
theorem dX9_hear_9 : decode cX9_hear 9 = .ok (.bipush 12, 2) := by decide +kernel
theorem dX9_hear_11 : decode cX9_hear 11 = .ok (.if_icmp .ge 15, 3) := by decide +kernel
theorem dX9_hear_14 : decode cX9_hear 14 = .ok (.aload_n 0, 1) := by decide +kernel
theorem dX9_hear_15 : decode cX9_hear 15 = .ok (.getfield 22, 3) := by decide +kernel
theorem dX9_hear_18 : decode cX9_hear 18 = .ok (.bipush 12, 2) := by decide +kernel
theorem dX9_hear_20 : decode cX9_hear 20 = .ok (.invokestatic 25, 3) := by decide +kernel
theorem dX9_hear_23 : decode cX9_hear 23 = .ok (.ifCond .ne 6, 3) := by decide +kernel
theorem dX9_hear_26 : decode cX9_hear 26 = .ok (.bipush (-3), 2) := by decide +kernel
theorem dX9_hear_28 : decode cX9_hear 28 = .ok (.ireturn, 1) := by decide +kernel
theorem dX9_hear_29 : decode cX9_hear 29 = .ok (.aload_n 0, 1) := by decide +kernel
theorem dX9_hear_30 : decode cX9_hear 30 = .ok (.getfield 15, 3) := by decide +kernel
theorem dX9_hear_33 : decode cX9_hear 33 = .ok (.aload_n 0, 1) := by decide +kernel
theorem dX9_hear_34 : decode cX9_hear 34 = .ok (.getfield 22, 3) := by decide +kernel
theorem dX9_hear_37 : decode cX9_hear 37 = .ok (.iload_n 1, 1) := by decide +kernel
theorem dX9_hear_38 : decode cX9_hear 38 = .ok (.iastore, 1) := by decide +kernel
theorem dX9_hear_39 : decode cX9_hear 39 = .ok (.aload_n 0, 1) := by decide +kernel
theorem dX9_hear_40 : decode cX9_hear 40 = .ok (.dup, 1) := by decide +kernel
theorem dX9_hear_41 : decode cX9_hear 41 = .ok (.getfield 22, 3) := by decide +kernel
theorem dX9_hear_44 : decode cX9_hear 44 = .ok (.iconst 1, 1) := by decide +kernel
theorem dX9_hear_45 : decode cX9_hear 45 = .ok (.iadd, 1) := by decide +kernel
theorem dX9_hear_46 : decode cX9_hear 46 = .ok (.putfield 22, 3) := by decide +kernel
theorem dX9_hear_49 : decode cX9_hear 49 = .ok (.aload_n 0, 1) := by decide +kernel
theorem dX9_hear_50 : decode cX9_hear 50 = .ok (.getfield 22, 3) := by decide +kernel
theorem dX9_hear_53 : decode cX9_hear 53 = .ok (.ireturn, 1) := by decide +kernel
theorem mX9_hear (l : Launch) {Y : Nat → ClassId} {D : va_G} {σ : Nat → Nat} {np b0 : Nat} {M : Mc} {N : Md} {p0 : Int32} {r : Int32 × Mc} (hf : fX9_hear M p0 = some r) : Met l yX9_hear (.code yX9_hear cX9_hear 2 (some .int) :: lw_g) (rmD 2) (PR Y D σ np b0 [.ref (σ (111)), .int p0] M N) (QR Y D σ np b0 (some (.int r.1)) r.2 N) 0 0 (xA b0) := by
  refine x_met (by decide) (Nat.le_of_ble_eq_true rfl) (fun p e s m args below meth c hE hr => ?_)
  unfold fX9_hear at hf
  refine x_pick [0, 1] (L' := [(0, .ref (σ (111))), (1, .int p0)]) rfl ?_
  refine x_aload_n hE 0 dX9_hear_0 rfl rfl ?_
  refine x_getI hE cl_9 (hE.kd kO_9) (by decide) 2 rfl (by decide) lk_X9_18 dX9_hear_1 ?_
  refine x_aload_n hE 0 dX9_hear_4 rfl rfl ?_
  refine x_getI hE cl_9 (hE.kd kO_9) (by decide) 3 rfl (by decide) lk_X9_22 dX9_hear_5 ?_
  refine x_iadd hE dX9_hear_8 ?_
  refine x_bipush hE (nI 12) dX9_hear_9 (by decide) ?_
  refine x_icmp_ge hE 26 dX9_hear_11 (by decide) hf (fun hf => ?_) (fun hf => ?_)
  · refine x_bipush hE (-3) dX9_hear_26 (by decide) ?_
    replace hf := Option.some.inj hf
    subst hf
    exact x_ireturn hE (v := (-3)) hr rfl dX9_hear_28
  · refine x_aload_n hE 0 dX9_hear_14 rfl rfl ?_
    refine x_getI hE cl_9 (hE.kd kO_9) (by decide) 3 rfl (by decide) lk_X9_22 dX9_hear_15 ?_
    refine x_bipush hE (nI 12) dX9_hear_18 (by decide) ?_
    obtain ⟨v2, hc1, hf⟩ := bnd_some hf
    refine x_callSN1 hE [.int (M (111) 3), .int (nI 12)] (rest := []) (v := .int v2) (c1 := M) (d1 := N) rfl yokX11_inside ysX11_inside lk_X9_25 rfl rfl ⟨Nat.le_of_ble_eq_true rfl, Nat.le_of_ble_eq_true rfl⟩ ⟨Nat.zero_le _, Nat.zero_le _⟩ rfl (Nat.le_of_ble_eq_true rfl) dX9_hear_20 (mX11_inside l hc1) ?_
    refine x_if_ne hE 29 dX9_hear_23 (by decide) hf (fun hf => ?_) (fun hf => ?_)
    · refine x_aload_n hE 0 dX9_hear_29 rfl rfl ?_
      refine x_getR hE cl_9 (hE.kd kO_9) (by decide) 1 (113) rfl (by decide) lk_X9_15 dX9_hear_30 ?_
      refine x_aload_n hE 0 dX9_hear_33 rfl rfl ?_
      refine x_getI hE cl_9 (hE.kd kO_9) (by decide) 3 rfl (by decide) lk_X9_22 dX9_hear_34 ?_
      refine x_iload_n hE 1 dX9_hear_37 rfl rfl ?_
      refine x_iast hE (hE.kd kA_113) dX9_hear_38 hf (fun M3 hf => ?_)
      refine x_aload_n hE 0 dX9_hear_39 rfl rfl ?_
      refine x_dup hE dX9_hear_40 rfl ?_
      refine x_getI hE cl_9 (hE.kd kO_9) (by decide) 3 rfl (by decide) lk_X9_22 dX9_hear_41 ?_
      refine x_iconst hE (nI 1) dX9_hear_44 (by decide) ?_
      refine x_iadd hE dX9_hear_45 ?_
      refine x_putI hE cl_9 (hE.kd kO_9) (by decide) 3 rfl (by decide) lk_X9_22 rfl rfl rfl rfl dX9_hear_46 hf (fun M4 hf => ?_)
      refine x_aload_n hE 0 dX9_hear_49 rfl rfl ?_
      refine x_getI hE cl_9 (hE.kd kO_9) (by decide) 3 rfl (by decide) lk_X9_22 dX9_hear_50 ?_
      replace hf := Option.some.inj hf
      subst hf
      exact x_ireturn hE (v := M4 (111) 3) hr rfl dX9_hear_53
    · refine x_bipush hE (-3) dX9_hear_26 (by decide) ?_
      replace hf := Option.some.inj hf
      subst hf
      exact x_ireturn hE (v := (-3)) hr rfl dX9_hear_28
theorem yokX9_hear : YOK yX9_hear cX9_hear 2 1 (some .int) := ⟨mem_g 1117 (by decide +kernel) (by decide +kernel), mem_g 140 (by decide +kernel) (by decide +kernel), by decide +kernel, by decide +kernel, by decide +kernel⟩
theorem yvX9_hear : YV yX9_hear := ⟨mem_g 1115 (by decide +kernel) (by decide +kernel), mem_g 1116 (by decide +kernel) (by decide +kernel)⟩
theorem dX9_ownerOf_0 : decode cX9_ownerOf 0 = .ok (.iload_n 1, 1) := by decide +kernel
theorem dX9_ownerOf_1 : decode cX9_ownerOf 1 = .ok (.aload_n 0, 1) := by decide +kernel
theorem dX9_ownerOf_2 : decode cX9_ownerOf 2 = .ok (.getfield 18, 3) := by decide +kernel
theorem dX9_ownerOf_5 : decode cX9_ownerOf 5 = .ok (.invokestatic 25, 3) := by decide +kernel
theorem dX9_ownerOf_8 : decode cX9_ownerOf 8 = .ok (.ifCond .eq 21, 3) := by decide +kernel
theorem dX9_ownerOf_11 : decode cX9_ownerOf 11 = .ok (.iload_n 1, 1) := by decide +kernel
theorem dX9_ownerOf_12 : decode cX9_ownerOf 12 = .ok (.bipush 12, 2) := by decide +kernel
theorem dX9_ownerOf_14 : decode cX9_ownerOf 14 = .ok (.invokestatic 25, 3) := by decide +kernel
theorem dX9_ownerOf_17 : decode cX9_ownerOf 17 = .ok (.ifCond .eq 12, 3) := by decide +kernel
theorem dX9_ownerOf_20 : decode cX9_ownerOf 20 = .ok (.aload_n 0, 1) := by decide +kernel
theorem dX9_ownerOf_21 : decode cX9_ownerOf 21 = .ok (.getfield 9, 3) := by decide +kernel
theorem dX9_ownerOf_24 : decode cX9_ownerOf 24 = .ok (.iload_n 1, 1) := by decide +kernel
theorem dX9_ownerOf_25 : decode cX9_ownerOf 25 = .ok (.iaload, 1) := by decide +kernel
theorem dX9_ownerOf_26 : decode cX9_ownerOf 26 = .ok (.goto 4, 3) := by decide +kernel
theorem dX9_ownerOf_29 : decode cX9_ownerOf 29 = .ok (.iconst (-1), 1) := by decide +kernel
theorem dX9_ownerOf_30 : decode cX9_ownerOf 30 = .ok (.ireturn, 1) := by decide +kernel
theorem mX9_ownerOf (l : Launch) {Y : Nat → ClassId} {D : va_G} {σ : Nat → Nat} {np b0 : Nat} {M : Mc} {N : Md} {p0 : Int32} {r : Int32} (hf : fX9_ownerOf M p0 = some r) : Met l yX9_ownerOf (.code yX9_ownerOf cX9_ownerOf 2 (some .int) :: lw_g) (rmD 2) (PR Y D σ np b0 [.ref (σ (111)), .int p0] M N) (QR Y D σ np b0 (some (.int r)) M N) 0 0 (xA b0) := by
  refine x_met (by decide) (Nat.le_of_ble_eq_true rfl) (fun p e s m args below meth c hE hr => ?_)
  unfold fX9_ownerOf at hf
  refine x_pick [0, 1] (L' := [(0, .ref (σ (111))), (1, .int p0)]) rfl ?_
  refine x_iload_n hE 1 dX9_ownerOf_0 rfl rfl ?_
  refine x_aload_n hE 0 dX9_ownerOf_1 rfl rfl ?_
  refine x_getI hE cl_9 (hE.kd kO_9) (by decide) 2 rfl (by decide) lk_X9_18 dX9_ownerOf_2 ?_
  obtain ⟨v2, hc1, hf⟩ := bnd_some hf
  refine x_callSN1 hE [.int p0, .int (M (111) 2)] (rest := []) (v := .int v2) (c1 := M) (d1 := N) rfl yokX11_inside ysX11_inside lk_X9_25 rfl rfl ⟨Nat.le_of_ble_eq_true rfl, Nat.le_of_ble_eq_true rfl⟩ ⟨Nat.zero_le _, Nat.zero_le _⟩ rfl (Nat.le_of_ble_eq_true rfl) dX9_ownerOf_5 (mX11_inside l hc1) ?_
  refine x_if_eq hE 29 dX9_ownerOf_8 (by decide) hf (fun hf => ?_) (fun hf => ?_)
  · refine x_iconst hE (-1) dX9_ownerOf_29 (by decide) ?_
    replace hf := Option.some.inj hf
    subst hf
    exact x_ireturn hE (v := (-1)) hr rfl dX9_ownerOf_30
  · refine x_iload_n hE 1 dX9_ownerOf_11 rfl rfl ?_
    refine x_bipush hE (nI 12) dX9_ownerOf_12 (by decide) ?_
    obtain ⟨v4, hc3, hf⟩ := bnd_some hf
    refine x_callSN1 hE [.int p0, .int (nI 12)] (rest := []) (v := .int v4) (c1 := M) (d1 := N) rfl yokX11_inside ysX11_inside lk_X9_25 rfl rfl ⟨Nat.le_of_ble_eq_true rfl, Nat.le_of_ble_eq_true rfl⟩ ⟨Nat.zero_le _, Nat.zero_le _⟩ rfl (Nat.le_of_ble_eq_true rfl) dX9_ownerOf_14 (mX11_inside l hc3) ?_
    refine x_if_eq hE 29 dX9_ownerOf_17 (by decide) hf (fun hf => ?_) (fun hf => ?_)
    · refine x_iconst hE (-1) dX9_ownerOf_29 (by decide) ?_
      replace hf := Option.some.inj hf
      subst hf
      exact x_ireturn hE (v := (-1)) hr rfl dX9_ownerOf_30
    · refine x_aload_n hE 0 dX9_ownerOf_20 rfl rfl ?_
      refine x_getR hE cl_9 (hE.kd kO_9) (by decide) 0 (112) rfl (by decide) lk_X9_9 dX9_ownerOf_21 ?_
      refine x_iload_n hE 1 dX9_ownerOf_24 rfl rfl ?_
      refine x_iald hE (hE.kd kA_112) dX9_ownerOf_25 hf (fun hf => ?_)
      refine x_goto hE 30 dX9_ownerOf_26 (by decide) ?_
      replace hf := Option.some.inj hf
      subst hf
      exact x_ireturn hE (v := M (112) p0.toNatClampNeg) hr rfl dX9_ownerOf_30
theorem yokX9_ownerOf : YOK yX9_ownerOf cX9_ownerOf 2 1 (some .int) := ⟨mem_g 1152 (by decide +kernel) (by decide +kernel), mem_g 140 (by decide +kernel) (by decide +kernel), by decide +kernel, by decide +kernel, by decide +kernel⟩
theorem yvX9_ownerOf : YV yX9_ownerOf := ⟨mem_g 1150 (by decide +kernel) (by decide +kernel), mem_g 1151 (by decide +kernel) (by decide +kernel)⟩
theorem dX9_factorial_0 : decode cX9_factorial 0 = .ok (.iconst 1, 1) := by decide +kernel
theorem dX9_factorial_1 : decode cX9_factorial 1 = .ok (.istore_n 2, 1) := by decide +kernel
theorem dX9_factorial_2 : decode cX9_factorial 2 = .ok (.iconst 2, 1) := by decide +kernel
theorem dX9_factorial_3 : decode cX9_factorial 3 = .ok (.istore_n 3, 1) := by decide +kernel
theorem dX9_factorial_4 : decode cX9_factorial 4 = .ok (.iload_n 3, 1) := by decide +kernel
theorem dX9_factorial_5 : decode cX9_factorial 5 = .ok (.iload_n 1, 1) := by decide +kernel
theorem dX9_factorial_6 : decode cX9_factorial 6 = .ok (.if_icmp .gt 19, 3) := by decide +kernel
theorem dX9_factorial_9 : decode cX9_factorial 9 = .ok (.iload_n 3, 1) := by decide +kernel
theorem dX9_factorial_10 : decode cX9_factorial 10 = .ok (.bipush 12, 2) := by decide +kernel
theorem dX9_factorial_12 : decode cX9_factorial 12 = .ok (.if_icmp .gt 13, 3) := by decide +kernel
theorem dX9_factorial_15 : decode cX9_factorial 15 = .ok (.iload_n 2, 1) := by decide +kernel
theorem dX9_factorial_16 : decode cX9_factorial 16 = .ok (.iload_n 3, 1) := by decide +kernel
theorem dX9_factorial_17 : decode cX9_factorial 17 = .ok (.imul, 1) := by decide +kernel
theorem dX9_factorial_18 : decode cX9_factorial 18 = .ok (.istore_n 2, 1) := by decide +kernel
theorem dX9_factorial_19 : decode cX9_factorial 19 = .ok (.iinc 3 1, 3) := by decide +kernel
theorem dX9_factorial_22 : decode cX9_factorial 22 = .ok (.goto (-18), 3) := by decide +kernel
theorem dX9_factorial_25 : decode cX9_factorial 25 = .ok (.iload_n 2, 1) := by decide +kernel
theorem dX9_factorial_26 : decode cX9_factorial 26 = .ok (.ireturn, 1) := by decide +kernel
theorem wX9_factorial_L4 {p : Program} {l : Launch} {e : Env} {s : State} {m : MethodId} {args : Array Value} {below : List Frame} {meth : Method} {c : Code} {Y : Nat → ClassId} {D : va_G} {σ : Nat → Nat} {np b0 : Nat} {r : Int32} (hE : EOK p s m args meth c cX9_factorial 4 RX9 Y D σ np b0) (hr : meth.sig.returnType = (some .int)) : ∀ (n : Nat) (M : Mc) (N : Md) (X1 : Int32) (X2 : Int32) (X3 : Int32), fX9_factorial_L4 n X1 X2 X3 = some r → Xw p l e (rmD 1) s m args below meth c 4 Y D σ np b0 0 0 (MQ below (QR Y D σ np b0 (some (.int r)) M N) args s 0 0 (xA b0)) 4 [(1, .int X1), (2, .int X2), (3, .int X3)] [] M N := by
  intro n
  induction n with
  | zero =>
    intro M N X1 X2 X3 hf
    cases hf
  | succ n ih =>
    intro M N X1 X2 X3 hf
    rw [fX9_factorial_L4.eq_2] at hf
    refine x_iload_n hE 2 dX9_factorial_4 rfl rfl ?_
    refine x_iload_n hE 0 dX9_factorial_5 rfl rfl ?_
    refine x_icmp_gt hE 25 dX9_factorial_6 (by decide) hf (fun hf => ?_) (fun hf => ?_)
    · refine x_iload_n hE 1 dX9_factorial_25 rfl rfl ?_
      replace hf := Option.some.inj hf
      subst hf
      exact x_ireturn hE (v := X2) hr rfl dX9_factorial_26
    · refine x_iload_n hE 2 dX9_factorial_9 rfl rfl ?_
      refine x_bipush hE (nI 12) dX9_factorial_10 (by decide) ?_
      refine x_icmp_gt hE 25 dX9_factorial_12 (by decide) hf (fun hf => ?_) (fun hf => ?_)
      · refine x_iload_n hE 1 dX9_factorial_25 rfl rfl ?_
        replace hf := Option.some.inj hf
        subst hf
        exact x_ireturn hE (v := X2) hr rfl dX9_factorial_26
      · refine x_iload_n hE 1 dX9_factorial_15 rfl rfl ?_
        refine x_iload_n hE 2 dX9_factorial_16 rfl rfl ?_
        refine x_imul hE dX9_factorial_17 ?_
        refine x_ltI hf (fun v1 hf => ?_)
        refine x_istore_n hE (L' := [(2, .int v1), (1, .int X1), (3, .int X3)]) dX9_factorial_18 rfl (by decide) rfl ?_
        refine x_pick [1, 0, 2] (L' := [(1, .int X1), (2, .int v1), (3, .int X3)]) rfl ?_
        refine x_iinc hE 2 (X3 + nI 1) (L' := [(3, .int (X3 + nI 1)), (1, .int X1), (2, .int v1)]) dX9_factorial_19 rfl rfl (by decide) rfl ?_
        refine x_pick [1, 2, 0] (L' := [(1, .int X1), (2, .int v1), (3, .int (X3 + nI 1))]) rfl ?_
        refine x_goto hE 4 dX9_factorial_22 (by decide) ?_
        exact ih _ _ _ _ _ hf
theorem mX9_factorial (l : Launch) {Y : Nat → ClassId} {D : va_G} {σ : Nat → Nat} {np b0 : Nat} {M : Mc} {N : Md} {p0 : Int32} {r : Int32} (hf : fX9_factorial p0 = some r) : Met l yX9_factorial (.code yX9_factorial cX9_factorial 4 (some .int) :: lw_g) (rmD 1) (PR Y D σ np b0 [.ref (σ (111)), .int p0] M N) (QR Y D σ np b0 (some (.int r)) M N) 0 0 (xA b0) := by
  refine x_met (by decide) (Nat.le_of_ble_eq_true rfl) (fun p e s m args below meth c hE hr => ?_)
  unfold fX9_factorial at hf
  refine x_pick [0, 1] (L' := [(0, .ref (σ (111))), (1, .int p0)]) rfl ?_
  refine x_iconst hE (nI 1) dX9_factorial_0 (by decide) ?_
  refine x_istore_n hE (L' := [(2, .int (nI 1)), (0, .ref (σ (111))), (1, .int p0)]) dX9_factorial_1 rfl (by decide) rfl ?_
  refine x_pick [1, 2, 0] (L' := [(0, .ref (σ (111))), (1, .int p0), (2, .int (nI 1))]) rfl ?_
  refine x_iconst hE (nI 2) dX9_factorial_2 (by decide) ?_
  refine x_istore_n hE (L' := [(3, .int (nI 2)), (0, .ref (σ (111))), (1, .int p0), (2, .int (nI 1))]) dX9_factorial_3 rfl (by decide) rfl ?_
  refine x_pick [1, 2, 3, 0] (L' := [(0, .ref (σ (111))), (1, .int p0), (2, .int (nI 1)), (3, .int (nI 2))]) rfl ?_
  refine x_pick [1, 2, 3] (L' := [(1, .int p0), (2, .int (nI 1)), (3, .int (nI 2))]) rfl ?_
  exact wX9_factorial_L4 hE hr  FU _ _ _ _ _ hf
theorem yokX9_factorial : YOK yX9_factorial cX9_factorial 4 1 (some .int) := ⟨mem_g 1133 (by decide +kernel) (by decide +kernel), mem_g 140 (by decide +kernel) (by decide +kernel), by decide +kernel, by decide +kernel, by decide +kernel⟩
theorem yvX9_factorial : YV yX9_factorial := ⟨mem_g 1132 (by decide +kernel) (by decide +kernel), mem_g 12 (by decide +kernel) (by decide +kernel)⟩
theorem lk_X9_29 : Cond.methodLink RX9 29 yX9_factorial ∈ lw_g := mem_g 1130 (by decide +kernel) (by decide +kernel)
theorem dX9_waysToDraw_0 : decode cX9_waysToDraw 0 = .ok (.aload_n 0, 1) := by decide +kernel
theorem dX9_waysToDraw_1 : decode cX9_waysToDraw 1 = .ok (.aload_n 0, 1) := by decide +kernel
theorem dX9_waysToDraw_2 : decode cX9_waysToDraw 2 = .ok (.getfield 22, 3) := by decide +kernel
theorem dX9_waysToDraw_5 : decode cX9_waysToDraw 5 = .ok (.invokevirtual 29, 3) := by decide +kernel
theorem dX9_waysToDraw_8 : decode cX9_waysToDraw 8 = .ok (.ireturn, 1) := by decide +kernel
theorem mX9_waysToDraw (l : Launch) {Y : Nat → ClassId} {D : va_G} {σ : Nat → Nat} {np b0 : Nat} {M : Mc} {N : Md} {r : Int32} (hf : fX9_waysToDraw M = some r) : Met l yX9_waysToDraw (.code yX9_waysToDraw cX9_waysToDraw 1 (some .int) :: lw_g) (rmD 2) (PR Y D σ np b0 [.ref (σ (111))] M N) (QR Y D σ np b0 (some (.int r)) M N) 0 0 (xA b0) := by
  refine x_met (by decide) (Nat.le_of_ble_eq_true rfl) (fun p e s m args below meth c hE hr => ?_)
  unfold fX9_waysToDraw at hf
  refine x_pick [0] (L' := [(0, .ref (σ (111)))]) rfl ?_
  refine x_aload_n hE 0 dX9_waysToDraw_0 rfl rfl ?_
  refine x_aload_n hE 0 dX9_waysToDraw_1 rfl rfl ?_
  refine x_getI hE cl_9 (hE.kd kO_9) (by decide) 3 rfl (by decide) lk_X9_22 dX9_waysToDraw_2 ?_
  obtain ⟨v2, hc1, hf⟩ := bnd_some hf
  refine x_callV1 hE [.int (M (111) 3)] (rest := []) (v := .int v2) (c1 := M) (d1 := N) rfl yokX9_factorial yvX9_factorial lk_X9_29 rfl cl_9 (hE.kd kO_9) (by decide) rfl rfl ⟨Nat.le_of_ble_eq_true rfl, Nat.le_of_ble_eq_true rfl⟩ ⟨Nat.zero_le _, Nat.zero_le _⟩ rfl (Nat.le_of_ble_eq_true rfl) dX9_waysToDraw_5 (mX9_factorial l hc1) ?_
  replace hf := Option.some.inj hf
  subst hf
  exact x_ireturn hE (v := v2) hr rfl dX9_waysToDraw_8
theorem yokX9_waysToDraw : YOK yX9_waysToDraw cX9_waysToDraw 1 0 (some .int) := ⟨mem_g 1129 (by decide +kernel) (by decide +kernel), mem_g 140 (by decide +kernel) (by decide +kernel), by decide +kernel, by decide +kernel, by decide +kernel⟩
theorem yvX9_waysToDraw : YV yX9_waysToDraw := ⟨mem_g 1127 (by decide +kernel) (by decide +kernel), mem_g 1128 (by decide +kernel) (by decide +kernel)⟩
theorem dX9_drawOne_0 : decode cX9_drawOne 0 = .ok (.iload_n 1, 1) := by decide +kernel
theorem dX9_drawOne_1 : decode cX9_drawOne 1 = .ok (.aload_n 0, 1) := by decide +kernel
theorem dX9_drawOne_2 : decode cX9_drawOne 2 = .ok (.getfield 22, 3) := by decide +kernel
theorem dX9_drawOne_5 : decode cX9_drawOne 5 = .ok (.invokestatic 25, 3) := by decide +kernel
theorem dX9_drawOne_8 : decode cX9_drawOne 8 = .ok (.ifCond .eq 24, 3) := by decide +kernel
theorem dX9_drawOne_11 : decode cX9_drawOne 11 = .ok (.iload_n 1, 1) := by decide +kernel
theorem dX9_drawOne_12 : decode cX9_drawOne 12 = .ok (.bipush 12, 2) := by decide +kernel
theorem dX9_drawOne_14 : decode cX9_drawOne 14 = .ok (.invokestatic 25, 3) := by decide +kernel
theorem dX9_drawOne_17 : decode cX9_drawOne 17 = .ok (.ifCond .eq 15, 3) := by decide +kernel
theorem dX9_drawOne_20 : decode cX9_drawOne 20 = .ok (.aload_n 0, 1) := by decide +kernel
theorem dX9_drawOne_21 : decode cX9_drawOne 21 = .ok (.getfield 18, 3) := by decide +kernel
theorem dX9_drawOne_24 : decode cX9_drawOne 24 = .ok (.bipush 12, 2) := by decide +kernel
theorem dX9_drawOne_26 : decode cX9_drawOne 26 = .ok (.invokestatic 25, 3) := by decide +kernel
theorem dX9_drawOne_29 : decode cX9_drawOne 29 = .ok (.ifCond .ne 4, 3) := by decide +kernel
theorem dX9_drawOne_32 : decode cX9_drawOne 32 = .ok (.return_, 1) := by decide +kernel
theorem dX9_drawOne_33 : decode cX9_drawOne 33 = .ok (.aload_n 0, 1) := by decide +kernel
theorem dX9_drawOne_34 : decode cX9_drawOne 34 = .ok (.getfield 9, 3) := by decide +kernel
theorem dX9_drawOne_37 : decode cX9_drawOne 37 = .ok (.aload_n 0, 1) := by decide +kernel
theorem dX9_drawOne_38 : decode cX9_drawOne 38 = .ok (.getfield 18, 3) := by decide +kernel
theorem dX9_drawOne_41 : decode cX9_drawOne 41 = .ok (.aload_n 0, 1) := by decide +kernel
theorem dX9_drawOne_42 : decode cX9_drawOne 42 = .ok (.getfield 15, 3) := by decide +kernel
theorem dX9_drawOne_45 : decode cX9_drawOne 45 = .ok (.iload_n 1, 1) := by decide +kernel
theorem dX9_drawOne_46 : decode cX9_drawOne 46 = .ok (.iaload, 1) := by decide +kernel
theorem dX9_drawOne_47 : decode cX9_drawOne 47 = .ok (.iastore, 1) := by decide +kernel
theorem dX9_drawOne_48 : decode cX9_drawOne 48 = .ok (.aload_n 0, 1) := by decide +kernel
theorem dX9_drawOne_49 : decode cX9_drawOne 49 = .ok (.dup, 1) := by decide +kernel
theorem dX9_drawOne_50 : decode cX9_drawOne 50 = .ok (.getfield 18, 3) := by decide +kernel
theorem dX9_drawOne_53 : decode cX9_drawOne 53 = .ok (.iconst 1, 1) := by decide +kernel
theorem dX9_drawOne_54 : decode cX9_drawOne 54 = .ok (.iadd, 1) := by decide +kernel
theorem dX9_drawOne_55 : decode cX9_drawOne 55 = .ok (.putfield 18, 3) := by decide +kernel
theorem dX9_drawOne_58 : decode cX9_drawOne 58 = .ok (.iload_n 1, 1) := by decide +kernel
theorem dX9_drawOne_59 : decode cX9_drawOne 59 = .ok (.istore_n 2, 1) := by decide +kernel
theorem dX9_drawOne_60 : decode cX9_drawOne 60 = .ok (.iload_n 2, 1) := by decide +kernel
theorem dX9_drawOne_61 : decode cX9_drawOne 61 = .ok (.iconst 1, 1) := by decide +kernel
theorem dX9_drawOne_62 : decode cX9_drawOne 62 = .ok (.iadd, 1) := by decide +kernel
theorem dX9_drawOne_63 : decode cX9_drawOne 63 = .ok (.aload_n 0, 1) := by decide +kernel
theorem dX9_drawOne_64 : decode cX9_drawOne 64 = .ok (.getfield 22, 3) := by decide +kernel
theorem dX9_drawOne_67 : decode cX9_drawOne 67 = .ok (.if_icmp .ge 31, 3) := by decide +kernel
theorem dX9_drawOne_70 : decode cX9_drawOne 70 = .ok (.iload_n 2, 1) := by decide +kernel
theorem dX9_drawOne_71 : decode cX9_drawOne 71 = .ok (.iconst 1, 1) := by decide +kernel
theorem dX9_drawOne_72 : decode cX9_drawOne 72 = .ok (.iadd, 1) := by decide +kernel
theorem dX9_drawOne_73 : decode cX9_drawOne 73 = .ok (.bipush 12, 2) := by decide +kernel
theorem dX9_drawOne_75 : decode cX9_drawOne 75 = .ok (.if_icmp .ge 23, 3) := by decide +kernel
theorem dX9_drawOne_78 : decode cX9_drawOne 78 = .ok (.aload_n 0, 1) := by decide +kernel
theorem dX9_drawOne_79 : decode cX9_drawOne 79 = .ok (.getfield 15, 3) := by decide +kernel
theorem dX9_drawOne_82 : decode cX9_drawOne 82 = .ok (.iload_n 2, 1) := by decide +kernel
theorem dX9_drawOne_83 : decode cX9_drawOne 83 = .ok (.aload_n 0, 1) := by decide +kernel
theorem dX9_drawOne_84 : decode cX9_drawOne 84 = .ok (.getfield 15, 3) := by decide +kernel
theorem dX9_drawOne_87 : decode cX9_drawOne 87 = .ok (.iload_n 2, 1) := by decide +kernel
theorem dX9_drawOne_88 : decode cX9_drawOne 88 = .ok (.iconst 1, 1) := by decide +kernel
theorem dX9_drawOne_89 : decode cX9_drawOne 89 = .ok (.iadd, 1) := by decide +kernel
theorem dX9_drawOne_90 : decode cX9_drawOne 90 = .ok (.iaload, 1) := by decide +kernel
theorem dX9_drawOne_91 : decode cX9_drawOne 91 = .ok (.iastore, 1) := by decide +kernel
theorem dX9_drawOne_92 : decode cX9_drawOne 92 = .ok (.iinc 2 1, 3) := by decide +kernel
theorem dX9_drawOne_95 : decode cX9_drawOne 95 = .ok (.goto (-35), 3) := by decide +kernel
theorem dX9_drawOne_98 : decode cX9_drawOne 98 = .ok (.aload_n 0, 1) := by decide +kernel
theorem dX9_drawOne_99 : decode cX9_drawOne 99 = .ok (.dup, 1) := by decide +kernel
theorem dX9_drawOne_100 : decode cX9_drawOne 100 = .ok (.getfield 22, 3) := by decide +kernel
theorem dX9_drawOne_103 : decode cX9_drawOne 103 = .ok (.iconst 1, 1) := by decide +kernel
theorem dX9_drawOne_104 : decode cX9_drawOne 104 = .ok (.isub, 1) := by decide +kernel
theorem dX9_drawOne_105 : decode cX9_drawOne 105 = .ok (.putfield 22, 3) := by decide +kernel
theorem dX9_drawOne_108 : decode cX9_drawOne 108 = .ok (.return_, 1) := by decide +kernel
theorem wX9_drawOne_J98 {p : Program} {l : Launch} {e : Env} {s : State} {m : MethodId} {args : Array Value} {below : List Frame} {meth : Method} {c : Code} {Y : Nat → ClassId} {D : va_G} {σ : Nat → Nat} {np b0 : Nat} {r : Mc} {M : Mc} {N : Md} (hE : EOK p s m args meth c cX9_drawOne 3 RX9 Y D σ np b0) (hr : meth.sig.returnType = none) (hf : fX9_drawOne_J98 M = some r) : Xw p l e (rmD 2) s m args below meth c 3 Y D σ np b0 0 0 (MQ below (QR Y D σ np b0 none r N) args s 0 0 (xA b0)) 98 [(0, .ref (σ (111)))] [] M N := by
  unfold fX9_drawOne_J98 at hf
  refine x_aload_n hE 0 dX9_drawOne_98 rfl rfl ?_
  refine x_dup hE dX9_drawOne_99 rfl ?_
  refine x_getI hE cl_9 (hE.kd kO_9) (by decide) 3 rfl (by decide) lk_X9_22 dX9_drawOne_100 ?_
  refine x_iconst hE (nI 1) dX9_drawOne_103 (by decide) ?_
  refine x_isub hE dX9_drawOne_104 ?_
  refine x_putI hE cl_9 (hE.kd kO_9) (by decide) 3 rfl (by decide) lk_X9_22 rfl rfl rfl rfl dX9_drawOne_105 hf (fun M10 hf => ?_)
  replace hf := Option.some.inj hf
  subst hf
  exact x_vreturn hE hr dX9_drawOne_108
theorem wX9_drawOne_L60 {p : Program} {l : Launch} {e : Env} {s : State} {m : MethodId} {args : Array Value} {below : List Frame} {meth : Method} {c : Code} {Y : Nat → ClassId} {D : va_G} {σ : Nat → Nat} {np b0 : Nat} {r : Mc} (hE : EOK p s m args meth c cX9_drawOne 3 RX9 Y D σ np b0) (hr : meth.sig.returnType = none) : ∀ (n : Nat) (M : Mc) (N : Md) (X2 : Int32), fX9_drawOne_L60 n M X2 = some r → Xw p l e (rmD 2) s m args below meth c 3 Y D σ np b0 0 0 (MQ below (QR Y D σ np b0 none r N) args s 0 0 (xA b0)) 60 [(0, .ref (σ (111))), (2, .int X2)] [] M N := by
  intro n
  induction n with
  | zero =>
    intro M N X2 hf
    cases hf
  | succ n ih =>
    intro M N X2 hf
    rw [fX9_drawOne_L60.eq_2] at hf
    refine x_iload_n hE 1 dX9_drawOne_60 rfl rfl ?_
    refine x_iconst hE (nI 1) dX9_drawOne_61 (by decide) ?_
    refine x_iadd hE dX9_drawOne_62 ?_
    refine x_aload_n hE 0 dX9_drawOne_63 rfl rfl ?_
    refine x_getI hE cl_9 (hE.kd kO_9) (by decide) 3 rfl (by decide) lk_X9_22 dX9_drawOne_64 ?_
    refine x_icmp_ge hE 98 dX9_drawOne_67 (by decide) hf (fun hf => ?_) (fun hf => ?_)
    · refine x_pick [0] (L' := [(0, .ref (σ (111)))]) rfl ?_
      exact wX9_drawOne_J98 hE hr  hf
    · refine x_iload_n hE 1 dX9_drawOne_70 rfl rfl ?_
      refine x_iconst hE (nI 1) dX9_drawOne_71 (by decide) ?_
      refine x_iadd hE dX9_drawOne_72 ?_
      refine x_bipush hE (nI 12) dX9_drawOne_73 (by decide) ?_
      refine x_icmp_ge hE 98 dX9_drawOne_75 (by decide) hf (fun hf => ?_) (fun hf => ?_)
      · refine x_pick [0] (L' := [(0, .ref (σ (111)))]) rfl ?_
        exact wX9_drawOne_J98 hE hr  hf
      · refine x_aload_n hE 0 dX9_drawOne_78 rfl rfl ?_
        refine x_getR hE cl_9 (hE.kd kO_9) (by decide) 1 (113) rfl (by decide) lk_X9_15 dX9_drawOne_79 ?_
        refine x_iload_n hE 1 dX9_drawOne_82 rfl rfl ?_
        refine x_aload_n hE 0 dX9_drawOne_83 rfl rfl ?_
        refine x_getR hE cl_9 (hE.kd kO_9) (by decide) 1 (113) rfl (by decide) lk_X9_15 dX9_drawOne_84 ?_
        refine x_iload_n hE 1 dX9_drawOne_87 rfl rfl ?_
        refine x_iconst hE (nI 1) dX9_drawOne_88 (by decide) ?_
        refine x_iadd hE dX9_drawOne_89 ?_
        refine x_iald hE (hE.kd kA_113) dX9_drawOne_90 hf (fun hf => ?_)
        refine x_iast hE (hE.kd kA_113) dX9_drawOne_91 hf (fun M9 hf => ?_)
        refine x_iinc hE 1 (X2 + nI 1) (L' := [(2, .int (X2 + nI 1)), (0, .ref (σ (111)))]) dX9_drawOne_92 rfl rfl (by decide) rfl ?_
        refine x_pick [1, 0] (L' := [(0, .ref (σ (111))), (2, .int (X2 + nI 1))]) rfl ?_
        refine x_goto hE 60 dX9_drawOne_95 (by decide) ?_
        exact ih _ _ _ hf
theorem mX9_drawOne (l : Launch) {Y : Nat → ClassId} {D : va_G} {σ : Nat → Nat} {np b0 : Nat} {M : Mc} {N : Md} {p0 : Int32} {r : Mc} (hf : fX9_drawOne M p0 = some r) : Met l yX9_drawOne (.code yX9_drawOne cX9_drawOne 3 none :: lw_g) (rmD 2) (PR Y D σ np b0 [.ref (σ (111)), .int p0] M N) (QR Y D σ np b0 none r N) 0 0 (xA b0) := by
  refine x_met (by decide) (Nat.le_of_ble_eq_true rfl) (fun p e s m args below meth c hE hr => ?_)
  unfold fX9_drawOne at hf
  refine x_pick [0, 1] (L' := [(0, .ref (σ (111))), (1, .int p0)]) rfl ?_
  refine x_iload_n hE 1 dX9_drawOne_0 rfl rfl ?_
  refine x_aload_n hE 0 dX9_drawOne_1 rfl rfl ?_
  refine x_getI hE cl_9 (hE.kd kO_9) (by decide) 3 rfl (by decide) lk_X9_22 dX9_drawOne_2 ?_
  obtain ⟨v2, hc1, hf⟩ := bnd_some hf
  refine x_callSN1 hE [.int p0, .int (M (111) 3)] (rest := []) (v := .int v2) (c1 := M) (d1 := N) rfl yokX11_inside ysX11_inside lk_X9_25 rfl rfl ⟨Nat.le_of_ble_eq_true rfl, Nat.le_of_ble_eq_true rfl⟩ ⟨Nat.zero_le _, Nat.zero_le _⟩ rfl (Nat.le_of_ble_eq_true rfl) dX9_drawOne_5 (mX11_inside l hc1) ?_
  refine x_if_eq hE 32 dX9_drawOne_8 (by decide) hf (fun hf => ?_) (fun hf => ?_)
  · replace hf := Option.some.inj hf
    subst hf
    exact x_vreturn hE hr dX9_drawOne_32
  · refine x_iload_n hE 1 dX9_drawOne_11 rfl rfl ?_
    refine x_bipush hE (nI 12) dX9_drawOne_12 (by decide) ?_
    obtain ⟨v4, hc3, hf⟩ := bnd_some hf
    refine x_callSN1 hE [.int p0, .int (nI 12)] (rest := []) (v := .int v4) (c1 := M) (d1 := N) rfl yokX11_inside ysX11_inside lk_X9_25 rfl rfl ⟨Nat.le_of_ble_eq_true rfl, Nat.le_of_ble_eq_true rfl⟩ ⟨Nat.zero_le _, Nat.zero_le _⟩ rfl (Nat.le_of_ble_eq_true rfl) dX9_drawOne_14 (mX11_inside l hc3) ?_
    refine x_if_eq hE 32 dX9_drawOne_17 (by decide) hf (fun hf => ?_) (fun hf => ?_)
    · replace hf := Option.some.inj hf
      subst hf
      exact x_vreturn hE hr dX9_drawOne_32
    · refine x_aload_n hE 0 dX9_drawOne_20 rfl rfl ?_
      refine x_getI hE cl_9 (hE.kd kO_9) (by decide) 2 rfl (by decide) lk_X9_18 dX9_drawOne_21 ?_
      refine x_bipush hE (nI 12) dX9_drawOne_24 (by decide) ?_
      obtain ⟨v6, hc5, hf⟩ := bnd_some hf
      refine x_callSN1 hE [.int (M (111) 2), .int (nI 12)] (rest := []) (v := .int v6) (c1 := M) (d1 := N) rfl yokX11_inside ysX11_inside lk_X9_25 rfl rfl ⟨Nat.le_of_ble_eq_true rfl, Nat.le_of_ble_eq_true rfl⟩ ⟨Nat.zero_le _, Nat.zero_le _⟩ rfl (Nat.le_of_ble_eq_true rfl) dX9_drawOne_26 (mX11_inside l hc5) ?_
      refine x_if_ne hE 33 dX9_drawOne_29 (by decide) hf (fun hf => ?_) (fun hf => ?_)
      · refine x_aload_n hE 0 dX9_drawOne_33 rfl rfl ?_
        refine x_getR hE cl_9 (hE.kd kO_9) (by decide) 0 (112) rfl (by decide) lk_X9_9 dX9_drawOne_34 ?_
        refine x_aload_n hE 0 dX9_drawOne_37 rfl rfl ?_
        refine x_getI hE cl_9 (hE.kd kO_9) (by decide) 2 rfl (by decide) lk_X9_18 dX9_drawOne_38 ?_
        refine x_aload_n hE 0 dX9_drawOne_41 rfl rfl ?_
        refine x_getR hE cl_9 (hE.kd kO_9) (by decide) 1 (113) rfl (by decide) lk_X9_15 dX9_drawOne_42 ?_
        refine x_iload_n hE 1 dX9_drawOne_45 rfl rfl ?_
        refine x_iald hE (hE.kd kA_113) dX9_drawOne_46 hf (fun hf => ?_)
        refine x_iast hE (hE.kd kA_112) dX9_drawOne_47 hf (fun M7 hf => ?_)
        refine x_aload_n hE 0 dX9_drawOne_48 rfl rfl ?_
        refine x_dup hE dX9_drawOne_49 rfl ?_
        refine x_getI hE cl_9 (hE.kd kO_9) (by decide) 2 rfl (by decide) lk_X9_18 dX9_drawOne_50 ?_
        refine x_iconst hE (nI 1) dX9_drawOne_53 (by decide) ?_
        refine x_iadd hE dX9_drawOne_54 ?_
        refine x_putI hE cl_9 (hE.kd kO_9) (by decide) 2 rfl (by decide) lk_X9_18 rfl rfl rfl rfl dX9_drawOne_55 hf (fun M8 hf => ?_)
        refine x_iload_n hE 1 dX9_drawOne_58 rfl rfl ?_
        refine x_istore_n hE (L' := [(2, .int p0), (0, .ref (σ (111))), (1, .int p0)]) dX9_drawOne_59 rfl (by decide) rfl ?_
        refine x_pick [1, 2, 0] (L' := [(0, .ref (σ (111))), (1, .int p0), (2, .int p0)]) rfl ?_
        refine x_pick [0, 2] (L' := [(0, .ref (σ (111))), (2, .int p0)]) rfl ?_
        exact wX9_drawOne_L60 hE hr  FU _ _ _ hf
      · replace hf := Option.some.inj hf
        subst hf
        exact x_vreturn hE hr dX9_drawOne_32
theorem yokX9_drawOne : YOK yX9_drawOne cX9_drawOne 3 1 none := ⟨mem_g 1141 (by decide +kernel) (by decide +kernel), mem_g 140 (by decide +kernel) (by decide +kernel), by decide +kernel, by decide +kernel, by decide +kernel⟩
theorem yvX9_drawOne : YV yX9_drawOne := ⟨mem_g 1140 (by decide +kernel) (by decide +kernel), mem_g 13 (by decide +kernel) (by decide +kernel)⟩
theorem lk_X9_33 : Cond.methodLink RX9 33 yX9_drawOne ∈ lw_g := mem_g 1138 (by decide +kernel) (by decide +kernel)
theorem dX9_drawBy_0 : decode cX9_drawBy 0 = .ok (.aload_n 0, 1) := by decide +kernel
theorem dX9_drawBy_1 : decode cX9_drawBy 1 = .ok (.getfield 22, 3) := by decide +kernel
theorem dX9_drawBy_4 : decode cX9_drawBy 4 = .ok (.istore_n 2, 1) := by decide +kernel
theorem dX9_drawBy_5 : decode cX9_drawBy 5 = .ok (.iload_n 1, 1) := by decide +kernel
theorem dX9_drawBy_6 : decode cX9_drawBy 6 = .ok (.istore_n 3, 1) := by decide +kernel
theorem dX9_drawBy_7 : decode cX9_drawBy 7 = .ok (.iconst 0, 1) := by decide +kernel
theorem dX9_drawBy_8 : decode cX9_drawBy 8 = .ok (.istore 4, 2) := by decide +kernel
theorem dX9_drawBy_10 : decode cX9_drawBy 10 = .ok (.iload 4, 2) := by decide +kernel
theorem dX9_drawBy_12 : decode cX9_drawBy 12 = .ok (.iload_n 2, 1) := by decide +kernel
theorem dX9_drawBy_13 : decode cX9_drawBy 13 = .ok (.if_icmp .ge 42, 3) := by decide +kernel
theorem dX9_drawBy_16 : decode cX9_drawBy 16 = .ok (.aload_n 0, 1) := by decide +kernel
theorem dX9_drawBy_17 : decode cX9_drawBy 17 = .ok (.aload_n 0, 1) := by decide +kernel
theorem dX9_drawBy_18 : decode cX9_drawBy 18 = .ok (.getfield 22, 3) := by decide +kernel
theorem dX9_drawBy_21 : decode cX9_drawBy 21 = .ok (.iconst 1, 1) := by decide +kernel
theorem dX9_drawBy_22 : decode cX9_drawBy 22 = .ok (.isub, 1) := by decide +kernel
theorem dX9_drawBy_23 : decode cX9_drawBy 23 = .ok (.invokevirtual 29, 3) := by decide +kernel
theorem dX9_drawBy_26 : decode cX9_drawBy 26 = .ok (.istore 5, 2) := by decide +kernel
theorem dX9_drawBy_28 : decode cX9_drawBy 28 = .ok (.iload 5, 2) := by decide +kernel
theorem dX9_drawBy_30 : decode cX9_drawBy 30 = .ok (.ifCond .gt 6, 3) := by decide +kernel
theorem dX9_drawBy_33 : decode cX9_drawBy 33 = .ok (.iload 4, 2) := by decide +kernel
theorem dX9_drawBy_35 : decode cX9_drawBy 35 = .ok (.ireturn, 1) := by decide +kernel
theorem dX9_drawBy_36 : decode cX9_drawBy 36 = .ok (.aload_n 0, 1) := by decide +kernel
theorem dX9_drawBy_37 : decode cX9_drawBy 37 = .ok (.iload_n 3, 1) := by decide +kernel
theorem dX9_drawBy_38 : decode cX9_drawBy 38 = .ok (.iload 5, 2) := by decide +kernel
theorem dX9_drawBy_40 : decode cX9_drawBy 40 = .ok (.idiv, 1) := by decide +kernel
theorem dX9_drawBy_41 : decode cX9_drawBy 41 = .ok (.invokevirtual 33, 3) := by decide +kernel
theorem dX9_drawBy_44 : decode cX9_drawBy 44 = .ok (.iload_n 3, 1) := by decide +kernel
theorem dX9_drawBy_45 : decode cX9_drawBy 45 = .ok (.iload 5, 2) := by decide +kernel
theorem dX9_drawBy_47 : decode cX9_drawBy 47 = .ok (.irem, 1) := by decide +kernel
theorem dX9_drawBy_48 : decode cX9_drawBy 48 = .ok (.istore_n 3, 1) := by decide +kernel
theorem dX9_drawBy_49 : decode cX9_drawBy 49 = .ok (.iinc 4 1, 3) := by decide +kernel
theorem dX9_drawBy_52 : decode cX9_drawBy 52 = .ok (.goto (-42), 3) := by decide +kernel
theorem dX9_drawBy_55 : decode cX9_drawBy 55 = .ok (.iload_n 2, 1) := by decide +kernel
theorem dX9_drawBy_56 : decode cX9_drawBy 56 = .ok (.ireturn, 1) := by decide +kernel
theorem wX9_drawBy_L10 {p : Program} {l : Launch} {e : Env} {s : State} {m : MethodId} {args : Array Value} {below : List Frame} {meth : Method} {c : Code} {Y : Nat → ClassId} {D : va_G} {σ : Nat → Nat} {np b0 : Nat} {r : Int32 × Mc} (hE : EOK p s m args meth c cX9_drawBy 6 RX9 Y D σ np b0) (hr : meth.sig.returnType = (some .int)) : ∀ (n : Nat) (M : Mc) (N : Md) (X2 : Int32) (X3 : Int32) (X4 : Int32), fX9_drawBy_L10 n M X2 X3 X4 = some r → Xw p l e (rmD 3) s m args below meth c 6 Y D σ np b0 0 0 (MQ below (QR Y D σ np b0 (some (.int r.1)) r.2 N) args s 0 0 (xA b0)) 10 [(0, .ref (σ (111))), (2, .int X2), (3, .int X3), (4, .int X4)] [] M N := by
  intro n
  induction n with
  | zero =>
    intro M N X2 X3 X4 hf
    cases hf
  | succ n ih =>
    intro M N X2 X3 X4 hf
    rw [fX9_drawBy_L10.eq_2] at hf
    refine x_iload hE 3 dX9_drawBy_10 rfl ?_
    refine x_iload_n hE 1 dX9_drawBy_12 rfl rfl ?_
    refine x_icmp_ge hE 55 dX9_drawBy_13 (by decide) hf (fun hf => ?_) (fun hf => ?_)
    · refine x_iload_n hE 1 dX9_drawBy_55 rfl rfl ?_
      replace hf := Option.some.inj hf
      subst hf
      exact x_ireturn hE (v := X2) hr rfl dX9_drawBy_56
    · refine x_aload_n hE 0 dX9_drawBy_16 rfl rfl ?_
      refine x_aload_n hE 0 dX9_drawBy_17 rfl rfl ?_
      refine x_getI hE cl_9 (hE.kd kO_9) (by decide) 3 rfl (by decide) lk_X9_22 dX9_drawBy_18 ?_
      refine x_iconst hE (nI 1) dX9_drawBy_21 (by decide) ?_
      refine x_isub hE dX9_drawBy_22 ?_
      obtain ⟨v3, hc2, hf⟩ := bnd_some hf
      refine x_callV1 hE [.int ((M (111) 3) - (nI 1))] (rest := []) (v := .int v3) (c1 := M) (d1 := N) rfl yokX9_factorial yvX9_factorial lk_X9_29 rfl cl_9 (hE.kd kO_9) (by decide) rfl rfl ⟨Nat.le_of_ble_eq_true rfl, Nat.le_of_ble_eq_true rfl⟩ ⟨Nat.zero_le _, Nat.zero_le _⟩ rfl (Nat.le_of_ble_eq_true rfl) dX9_drawBy_23 (mX9_factorial l hc2) ?_
      refine x_istore hE (L' := [(5, .int v3), (0, .ref (σ (111))), (2, .int X2), (3, .int X3), (4, .int X4)]) dX9_drawBy_26 (by decide) rfl ?_
      refine x_pick [1, 2, 3, 4, 0] (L' := [(0, .ref (σ (111))), (2, .int X2), (3, .int X3), (4, .int X4), (5, .int v3)]) rfl ?_
      refine x_iload hE 4 dX9_drawBy_28 rfl ?_
      refine x_if_gt hE 36 dX9_drawBy_30 (by decide) hf (fun hf => ?_) (fun hf => ?_)
      · refine x_aload_n hE 0 dX9_drawBy_36 rfl rfl ?_
        refine x_iload_n hE 2 dX9_drawBy_37 rfl rfl ?_
        refine x_iload hE 4 dX9_drawBy_38 rfl ?_
        refine x_idiv hE dX9_drawBy_40 hf (fun hf => ?_)
        obtain ⟨M5, hc4, hf⟩ := bnd_some hf
        refine x_callV0 hE [.int (X3 / v3)] (rest := []) (c1 := M5) (d1 := N) rfl yokX9_drawOne yvX9_drawOne lk_X9_33 rfl cl_9 (hE.kd kO_9) (by decide) rfl rfl ⟨Nat.le_of_ble_eq_true rfl, Nat.le_of_ble_eq_true rfl⟩ ⟨Nat.zero_le _, Nat.zero_le _⟩ rfl (Nat.le_of_ble_eq_true rfl) dX9_drawBy_41 (mX9_drawOne l hc4) ?_
        refine x_iload_n hE 2 dX9_drawBy_44 rfl rfl ?_
        refine x_iload hE 4 dX9_drawBy_45 rfl ?_
        refine x_irem hE dX9_drawBy_47 hf (fun hf => ?_)
        refine x_ltI hf (fun v6 hf => ?_)
        refine x_istore_n hE (L' := [(3, .int v6), (0, .ref (σ (111))), (2, .int X2), (4, .int X4), (5, .int v3)]) dX9_drawBy_48 rfl (by decide) rfl ?_
        refine x_pick [1, 2, 0, 3, 4] (L' := [(0, .ref (σ (111))), (2, .int X2), (3, .int v6), (4, .int X4), (5, .int v3)]) rfl ?_
        refine x_iinc hE 3 (X4 + nI 1) (L' := [(4, .int (X4 + nI 1)), (0, .ref (σ (111))), (2, .int X2), (3, .int v6), (5, .int v3)]) dX9_drawBy_49 rfl rfl (by decide) rfl ?_
        refine x_pick [1, 2, 3, 0, 4] (L' := [(0, .ref (σ (111))), (2, .int X2), (3, .int v6), (4, .int (X4 + nI 1)), (5, .int v3)]) rfl ?_
        refine x_goto hE 10 dX9_drawBy_52 (by decide) ?_
        refine x_pick [0, 1, 2, 3] (L' := [(0, .ref (σ (111))), (2, .int X2), (3, .int v6), (4, .int (X4 + nI 1))]) rfl ?_
        exact ih _ _ _ _ _ hf
      · refine x_iload hE 3 dX9_drawBy_33 rfl ?_
        replace hf := Option.some.inj hf
        subst hf
        exact x_ireturn hE (v := X4) hr rfl dX9_drawBy_35
theorem mX9_drawBy (l : Launch) {Y : Nat → ClassId} {D : va_G} {σ : Nat → Nat} {np b0 : Nat} {M : Mc} {N : Md} {p0 : Int32} {r : Int32 × Mc} (hf : fX9_drawBy M p0 = some r) : Met l yX9_drawBy (.code yX9_drawBy cX9_drawBy 6 (some .int) :: lw_g) (rmD 3) (PR Y D σ np b0 [.ref (σ (111)), .int p0] M N) (QR Y D σ np b0 (some (.int r.1)) r.2 N) 0 0 (xA b0) := by
  refine x_met (by decide) (Nat.le_of_ble_eq_true rfl) (fun p e s m args below meth c hE hr => ?_)
  unfold fX9_drawBy at hf
  refine x_pick [0, 1] (L' := [(0, .ref (σ (111))), (1, .int p0)]) rfl ?_
  refine x_aload_n hE 0 dX9_drawBy_0 rfl rfl ?_
  refine x_getI hE cl_9 (hE.kd kO_9) (by decide) 3 rfl (by decide) lk_X9_22 dX9_drawBy_1 ?_
  refine x_ltI hf (fun v1 hf => ?_)
  refine x_istore_n hE (L' := [(2, .int v1), (0, .ref (σ (111))), (1, .int p0)]) dX9_drawBy_4 rfl (by decide) rfl ?_
  refine x_pick [1, 2, 0] (L' := [(0, .ref (σ (111))), (1, .int p0), (2, .int v1)]) rfl ?_
  refine x_iload_n hE 1 dX9_drawBy_5 rfl rfl ?_
  refine x_istore_n hE (L' := [(3, .int p0), (0, .ref (σ (111))), (1, .int p0), (2, .int v1)]) dX9_drawBy_6 rfl (by decide) rfl ?_
  refine x_pick [1, 2, 3, 0] (L' := [(0, .ref (σ (111))), (1, .int p0), (2, .int v1), (3, .int p0)]) rfl ?_
  refine x_iconst hE (0 : Int32) dX9_drawBy_7 (by decide) ?_
  refine x_istore hE (L' := [(4, .int 0), (0, .ref (σ (111))), (1, .int p0), (2, .int v1), (3, .int p0)]) dX9_drawBy_8 (by decide) rfl ?_
  refine x_pick [1, 2, 3, 4, 0] (L' := [(0, .ref (σ (111))), (1, .int p0), (2, .int v1), (3, .int p0), (4, .int 0)]) rfl ?_
  refine x_pick [0, 2, 3, 4] (L' := [(0, .ref (σ (111))), (2, .int v1), (3, .int p0), (4, .int 0)]) rfl ?_
  exact wX9_drawBy_L10 hE hr  FU _ _ _ _ _ hf
theorem yokX9_drawBy : YOK yX9_drawBy cX9_drawBy 6 1 (some .int) := ⟨mem_g 1137 (by decide +kernel) (by decide +kernel), mem_g 140 (by decide +kernel) (by decide +kernel), by decide +kernel, by decide +kernel, by decide +kernel⟩
theorem yvX9_drawBy : YV yX9_drawBy := ⟨mem_g 1135 (by decide +kernel) (by decide +kernel), mem_g 1136 (by decide +kernel) (by decide +kernel)⟩
