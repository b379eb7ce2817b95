theorem lk_X11_27 : Cond.fieldLink RX11 27 (TX11 2).1 (TX11 2).2.1 (TX11 2).2.2.1 ∈ lw_g := mem_g 564 (by decide +kernel) (by decide +kernel)
theorem lk_X11_232 : Cond.fieldLink RX11 232 (TX10 6).1 (TX10 6).2.1 (TX10 6).2.2.1 ∈ lw_g := mem_g 422 (by decide +kernel) (by decide +kernel)
theorem lk_X11_289 : Cond.fieldLink RX11 289 (TX10 5).1 (TX10 5).2.1 (TX10 5).2.2.1 ∈ lw_g := mem_g 419 (by decide +kernel) (by decide +kernel)
theorem lk_X11_10 : Cond.fieldLink RX11 10 (TX11 0).1 (TX11 0).2.1 (TX11 0).2.2.1 ∈ lw_g := mem_g 562 (by decide +kernel) (by decide +kernel)
theorem lk_X11_391 : Cond.methodLink RX11 391 yX0_rowOf ∈ lw_g := mem_g 642 (by decide +kernel) (by decide +kernel)
theorem lk_X11_468 : Cond.methodLink RX11 468 yX2_meaning ∈ lw_g := mem_g 647 (by decide +kernel) (by decide +kernel)
theorem lk_X11_465 : Cond.fieldLink RX11 465 "SettlerColony" "USUAL" "[I" ∈ lw_g := mem_g 640 (by decide +kernel) (by decide +kernel)
theorem dX11_priceAtHome_0 : decode cX11_priceAtHome 0 = .ok (.aload_n 0, 1) := by decide +kernel
theorem dX11_priceAtHome_1 : decode cX11_priceAtHome 1 = .ok (.getfield 27, 3) := by decide +kernel
theorem dX11_priceAtHome_4 : decode cX11_priceAtHome 4 = .ok (.getfield 232, 3) := by decide +kernel
theorem dX11_priceAtHome_7 : decode cX11_priceAtHome 7 = .ok (.bipush 34, 2) := by decide +kernel
theorem dX11_priceAtHome_9 : decode cX11_priceAtHome 9 = .ok (.isub, 1) := by decide +kernel
theorem dX11_priceAtHome_10 : decode cX11_priceAtHome 10 = .ok (.istore_n 1, 1) := by decide +kernel
theorem dX11_priceAtHome_11 : decode cX11_priceAtHome 11 = .ok (.iload_n 1, 1) := by decide +kernel
theorem dX11_priceAtHome_12 : decode cX11_priceAtHome 12 = .ok (.ifCond .ge 9, 3) := by decide +kernel
theorem dX11_priceAtHome_15 : decode cX11_priceAtHome 15 = .ok (.getstatic 465, 3) := by decide +kernel
theorem dX11_priceAtHome_18 : decode cX11_priceAtHome 18 = .ok (.iconst 0, 1) := by decide +kernel
theorem dX11_priceAtHome_19 : decode cX11_priceAtHome 19 = .ok (.iaload, 1) := by decide +kernel
theorem dX11_priceAtHome_20 : decode cX11_priceAtHome 20 = .ok (.ireturn, 1) := by decide +kernel
theorem dX11_priceAtHome_21 : decode cX11_priceAtHome 21 = .ok (.aload_n 0, 1) := by decide +kernel
theorem dX11_priceAtHome_22 : decode cX11_priceAtHome 22 = .ok (.getfield 27, 3) := by decide +kernel
theorem dX11_priceAtHome_25 : decode cX11_priceAtHome 25 = .ok (.getfield 289, 3) := by decide +kernel
theorem dX11_priceAtHome_28 : decode cX11_priceAtHome 28 = .ok (.aload_n 0, 1) := by decide +kernel
theorem dX11_priceAtHome_29 : decode cX11_priceAtHome 29 = .ok (.getfield 10, 3) := by decide +kernel
theorem dX11_priceAtHome_32 : decode cX11_priceAtHome 32 = .ok (.iload_n 1, 1) := by decide +kernel
theorem dX11_priceAtHome_33 : decode cX11_priceAtHome 33 = .ok (.bipush 6, 2) := by decide +kernel
theorem dX11_priceAtHome_35 : decode cX11_priceAtHome 35 = .ok (.invokevirtual 391, 3) := by decide +kernel
theorem dX11_priceAtHome_38 : decode cX11_priceAtHome 38 = .ok (.iconst 0, 1) := by decide +kernel
theorem dX11_priceAtHome_39 : decode cX11_priceAtHome 39 = .ok (.iload_n 1, 1) := by decide +kernel
theorem dX11_priceAtHome_40 : decode cX11_priceAtHome 40 = .ok (.aload_n 0, 1) := by decide +kernel
theorem dX11_priceAtHome_41 : decode cX11_priceAtHome 41 = .ok (.getfield 10, 3) := by decide +kernel
theorem dX11_priceAtHome_44 : decode cX11_priceAtHome 44 = .ok (.iload_n 1, 1) := by decide +kernel
theorem dX11_priceAtHome_45 : decode cX11_priceAtHome 45 = .ok (.iconst 1, 1) := by decide +kernel
theorem dX11_priceAtHome_46 : decode cX11_priceAtHome 46 = .ok (.invokevirtual 391, 3) := by decide +kernel
theorem dX11_priceAtHome_49 : decode cX11_priceAtHome 49 = .ok (.aload_n 0, 1) := by decide +kernel
theorem dX11_priceAtHome_50 : decode cX11_priceAtHome 50 = .ok (.getfield 10, 3) := by decide +kernel
theorem dX11_priceAtHome_53 : decode cX11_priceAtHome 53 = .ok (.iload_n 1, 1) := by decide +kernel
theorem dX11_priceAtHome_54 : decode cX11_priceAtHome 54 = .ok (.iconst 0, 1) := by decide +kernel
theorem dX11_priceAtHome_55 : decode cX11_priceAtHome 55 = .ok (.invokevirtual 391, 3) := by decide +kernel
theorem dX11_priceAtHome_58 : decode cX11_priceAtHome 58 = .ok (.iconst 0, 1) := by decide +kernel
theorem dX11_priceAtHome_59 : decode cX11_priceAtHome 59 = .ok (.invokevirtual 468, 3) := by decide +kernel
theorem dX11_priceAtHome_62 : decode cX11_priceAtHome 62 = .ok (.ireturn, 1) := by decide +kernel
def fX11_priceAtHome (M : Mc) : Option (Int32 × Mc) := lt ((M (17) 6) - (nI 34)) fun v1 => (if 0 ≤ v1 then bnd (fX0_rowOf M v1 (nI 6)) fun v3 => bnd (fX0_rowOf M v1 (nI 1)) fun v5 => bnd (fX0_rowOf M v1 0) fun v7 => bn2 (fX2_meaning M (17 + 37) v3 0 v1 v5 v7 0) fun v9 M10 => (some (v9, M10)) else chk 0 8 ((some ((usu (0 : Int32).toNatClampNeg), M))))
theorem mX11_priceAtHome (l : Launch) {Y : Nat → ClassId} {D : va_G} {σ : Nat → Nat} {np b0 : Nat} {M : Mc} {N : Md} {r : Int32 × Mc} (hf : fX11_priceAtHome M = some r) : Met l yX11_priceAtHome (.code yX11_priceAtHome cX11_priceAtHome 2 (some .int) :: lw_g) (rmD 5) (PR Y D σ np b0 [.ref (σ 0)] M N) (QR Y D σ np b0 (some (.int r.1)) r.2 N) 0 0 (xA b0) := by
  refine x_met (by decide) (Nat.le_of_ble_eq_true rfl) (fun p e s m args below meth c hE hr => ?_)
  unfold fX11_priceAtHome at hf
  refine x_pick [0] (L' := [(0, .ref (σ 0))]) rfl ?_
  refine x_aload_n hE 0 dX11_priceAtHome_0 rfl rfl ?_
  refine x_getR hE cl_11 (hE.kd kO_11) (by decide) 2 (17) rfl (by decide) lk_X11_27 dX11_priceAtHome_1 ?_
  refine x_getI hE cl_10 (hE.kd (kO_10 hI_17)) (by decide) 6 rfl (by decide) lk_X11_232 dX11_priceAtHome_4 ?_
  refine x_bipush hE (nI 34) dX11_priceAtHome_7 (by decide) ?_
  refine x_isub hE dX11_priceAtHome_9 ?_
  refine x_ltI hf (fun v1 hf => ?_)
  refine x_istore_n hE (L' := [(1, .int v1), (0, .ref (σ 0))]) dX11_priceAtHome_10 rfl (by decide) rfl ?_
  refine x_pick [1, 0] (L' := [(0, .ref (σ 0)), (1, .int v1)]) rfl ?_
  refine x_iload_n hE 1 dX11_priceAtHome_11 rfl rfl ?_
  refine x_if_ge hE 21 dX11_priceAtHome_12 (by decide) hf (fun hf => ?_) (fun hf => ?_)
  · refine x_aload_n hE 0 dX11_priceAtHome_21 rfl rfl ?_
    refine x_getR hE cl_11 (hE.kd kO_11) (by decide) 2 (17) rfl (by decide) lk_X11_27 dX11_priceAtHome_22 ?_
    refine x_getR hE cl_10 (hE.kd (kO_10 hI_17)) (by decide) 5 (17 + 37) rfl (by decide) lk_X11_289 dX11_priceAtHome_25 ?_
    refine x_aload_n hE 0 dX11_priceAtHome_28 rfl rfl ?_
    refine x_getR hE cl_11 (hE.kd kO_11) (by decide) 0 (1) rfl (by decide) lk_X11_10 dX11_priceAtHome_29 ?_
    refine x_iload_n hE 1 dX11_priceAtHome_32 rfl rfl ?_
    refine x_bipush hE (nI 6) dX11_priceAtHome_33 (by decide) ?_
    obtain ⟨v3, hc2, hf⟩ := bnd_some hf
    refine x_callV1 hE [.int v1, .int (nI 6)] (rest := [.ref (σ (17 + 37))]) (v := .int v3) (c1 := M) (d1 := N) rfl yokX0_rowOf yvX0_rowOf lk_X11_391 rfl cl_0 (hE.kd kO_0) (by decide) rfl rfl ⟨Nat.le_of_ble_eq_true rfl, Nat.le_of_ble_eq_true rfl⟩ ⟨Nat.zero_le _, Nat.zero_le _⟩ rfl (Nat.le_of_ble_eq_true rfl) dX11_priceAtHome_35 (mX0_rowOf l hc2) ?_
    refine x_iconst hE (0 : Int32) dX11_priceAtHome_38 (by decide) ?_
    refine x_iload_n hE 1 dX11_priceAtHome_39 rfl rfl ?_
    refine x_aload_n hE 0 dX11_priceAtHome_40 rfl rfl ?_
    refine x_getR hE cl_11 (hE.kd kO_11) (by decide) 0 (1) rfl (by decide) lk_X11_10 dX11_priceAtHome_41 ?_
    refine x_iload_n hE 1 dX11_priceAtHome_44 rfl rfl ?_
    refine x_iconst hE (nI 1) dX11_priceAtHome_45 (by decide) ?_
    obtain ⟨v5, hc4, hf⟩ := bnd_some hf
    refine x_callV1 hE [.int v1, .int (nI 1)] (rest := [.int v1, .int 0, .int v3, .ref (σ (17 + 37))]) (v := .int v5) (c1 := M) (d1 := N) rfl yokX0_rowOf yvX0_rowOf lk_X11_391 rfl cl_0 (hE.kd kO_0) (by decide) rfl rfl ⟨Nat.le_of_ble_eq_true rfl, Nat.le_of_ble_eq_true rfl⟩ ⟨Nat.zero_le _, Nat.zero_le _⟩ rfl (Nat.le_of_ble_eq_true rfl) dX11_priceAtHome_46 (mX0_rowOf l hc4) ?_
    refine x_aload_n hE 0 dX11_priceAtHome_49 rfl rfl ?_
    refine x_getR hE cl_11 (hE.kd kO_11) (by decide) 0 (1) rfl (by decide) lk_X11_10 dX11_priceAtHome_50 ?_
    refine x_iload_n hE 1 dX11_priceAtHome_53 rfl rfl ?_
    refine x_iconst hE (0 : Int32) dX11_priceAtHome_54 (by decide) ?_
    obtain ⟨v7, hc6, hf⟩ := bnd_some hf
    refine x_callV1 hE [.int v1, .int 0] (rest := [.int v5, .int v1, .int 0, .int v3, .ref (σ (17 + 37))]) (v := .int v7) (c1 := M) (d1 := N) rfl yokX0_rowOf yvX0_rowOf lk_X11_391 rfl cl_0 (hE.kd kO_0) (by decide) rfl rfl ⟨Nat.le_of_ble_eq_true rfl, Nat.le_of_ble_eq_true rfl⟩ ⟨Nat.zero_le _, Nat.zero_le _⟩ rfl (Nat.le_of_ble_eq_true rfl) dX11_priceAtHome_55 (mX0_rowOf l hc6) ?_
    refine x_iconst hE (0 : Int32) dX11_priceAtHome_58 (by decide) ?_
    obtain ⟨⟨v9, M10⟩, hc8, hf⟩ := bn2_some hf
    refine x_callV1 hE [.int v3, .int 0, .int v1, .int v5, .int v7, .int 0] (rest := []) (v := .int v9) (c1 := M10) (d1 := N) rfl yokX2_meaning yvX2_meaning lk_X11_468 rfl cl_2 (hE.kd (kO_2 (hL_10_5 hI_17))) (by decide) rfl rfl ⟨Nat.le_of_ble_eq_true rfl, Nat.le_of_ble_eq_true rfl⟩ ⟨Nat.zero_le _, Nat.zero_le _⟩ rfl (Nat.le_of_ble_eq_true rfl) dX11_priceAtHome_59 (mX2_meaning l (hL_10_5 hI_17) hc8) ?_
    replace hf := Option.some.inj hf
    subst hf
    exact x_ireturn hE (v := v9) hr rfl dX11_priceAtHome_62
  · refine x_usual hE lk_X11_465 dX11_priceAtHome_15 ?_
    refine x_iconst hE (0 : Int32) dX11_priceAtHome_18 (by decide) ?_
    refine x_uald hE dX11_priceAtHome_19 hf (fun hf => ?_)
    replace hf := Option.some.inj hf
    subst hf
    exact x_ireturn hE (v := usu (0 : Int32).toNatClampNeg) hr rfl dX11_priceAtHome_20
theorem yokX11_priceAtHome : YOK yX11_priceAtHome cX11_priceAtHome 2 0 (some .int) := ⟨mem_g 639 (by decide +kernel) (by decide +kernel), mem_g 131 (by decide +kernel) (by decide +kernel), by decide +kernel, by decide +kernel, by decide +kernel⟩
theorem yvX11_priceAtHome : YV yX11_priceAtHome := ⟨mem_g 638 (by decide +kernel) (by decide +kernel), mem_g 1 (by decide +kernel) (by decide +kernel)⟩
theorem lk_X11_283 : Cond.fieldLink RX11 283 (TX11 8).1 (TX11 8).2.1 (TX11 8).2.2.1 ∈ lw_g := mem_g 570 (by decide +kernel) (by decide +kernel)
theorem lk_X11_55 : Cond.fieldLink RX11 55 (TX11 7).1 (TX11 7).2.1 (TX11 7).2.2.1 ∈ lw_g := mem_g 569 (by decide +kernel) (by decide +kernel)
theorem lk_X11_191 : Cond.methodLink RX11 191 yX11_inside ∈ lw_g := mem_g 625 (by decide +kernel) (by decide +kernel)
theorem dX11_tapeNumber_0 : decode cX11_tapeNumber 0 = .ok (.bipush 24, 2) := by decide +kernel
theorem dX11_tapeNumber_2 : decode cX11_tapeNumber 2 = .ok (.istore_n 2, 1) := by decide +kernel
theorem dX11_tapeNumber_3 : decode cX11_tapeNumber 3 = .ok (.iload_n 2, 1) := by decide +kernel
theorem dX11_tapeNumber_4 : decode cX11_tapeNumber 4 = .ok (.ifCond .lt 51, 3) := by decide +kernel
theorem dX11_tapeNumber_7 : decode cX11_tapeNumber 7 = .ok (.aload_n 0, 1) := by decide +kernel
theorem dX11_tapeNumber_8 : decode cX11_tapeNumber 8 = .ok (.getfield 283, 3) := by decide +kernel
theorem dX11_tapeNumber_11 : decode cX11_tapeNumber 11 = .ok (.aload_n 0, 1) := by decide +kernel
theorem dX11_tapeNumber_12 : decode cX11_tapeNumber 12 = .ok (.getfield 55, 3) := by decide +kernel
theorem dX11_tapeNumber_15 : decode cX11_tapeNumber 15 = .ok (.arraylength, 1) := by decide +kernel
theorem dX11_tapeNumber_16 : decode cX11_tapeNumber 16 = .ok (.invokestatic 191, 3) := by decide +kernel
theorem dX11_tapeNumber_19 : decode cX11_tapeNumber 19 = .ok (.ifCond .ne 4, 3) := by decide +kernel
theorem dX11_tapeNumber_22 : decode cX11_tapeNumber 22 = .ok (.return_, 1) := by decide +kernel
theorem dX11_tapeNumber_23 : decode cX11_tapeNumber 23 = .ok (.aload_n 0, 1) := by decide +kernel
theorem dX11_tapeNumber_24 : decode cX11_tapeNumber 24 = .ok (.getfield 55, 3) := by decide +kernel
theorem dX11_tapeNumber_27 : decode cX11_tapeNumber 27 = .ok (.aload_n 0, 1) := by decide +kernel
theorem dX11_tapeNumber_28 : decode cX11_tapeNumber 28 = .ok (.getfield 283, 3) := by decide +kernel
theorem dX11_tapeNumber_31 : decode cX11_tapeNumber 31 = .ok (.iload_n 1, 1) := by decide +kernel
theorem dX11_tapeNumber_32 : decode cX11_tapeNumber 32 = .ok (.iload_n 2, 1) := by decide +kernel
theorem dX11_tapeNumber_33 : decode cX11_tapeNumber 33 = .ok (.iushr, 1) := by decide +kernel
theorem dX11_tapeNumber_34 : decode cX11_tapeNumber 34 = .ok (.sipush 255, 3) := by decide +kernel
theorem dX11_tapeNumber_37 : decode cX11_tapeNumber 37 = .ok (.iand, 1) := by decide +kernel
theorem dX11_tapeNumber_38 : decode cX11_tapeNumber 38 = .ok (.iastore, 1) := by decide +kernel
theorem dX11_tapeNumber_39 : decode cX11_tapeNumber 39 = .ok (.aload_n 0, 1) := by decide +kernel
theorem dX11_tapeNumber_40 : decode cX11_tapeNumber 40 = .ok (.dup, 1) := by decide +kernel
theorem dX11_tapeNumber_41 : decode cX11_tapeNumber 41 = .ok (.getfield 283, 3) := by decide +kernel
theorem dX11_tapeNumber_44 : decode cX11_tapeNumber 44 = .ok (.iconst 1, 1) := by decide +kernel
theorem dX11_tapeNumber_45 : decode cX11_tapeNumber 45 = .ok (.iadd, 1) := by decide +kernel
theorem dX11_tapeNumber_46 : decode cX11_tapeNumber 46 = .ok (.putfield 283, 3) := by decide +kernel
theorem dX11_tapeNumber_49 : decode cX11_tapeNumber 49 = .ok (.iinc 2 (-8), 3) := by decide +kernel
theorem dX11_tapeNumber_52 : decode cX11_tapeNumber 52 = .ok (.goto (-49), 3) := by decide +kernel
theorem dX11_tapeNumber_55 : decode cX11_tapeNumber 55 = .ok (.return_, 1) := by decide +kernel
def fX11_tapeNumber_L3 : Nat → Mc → Int32 → Int32 → Option (Mc)
  | 0, _, _, _ => none
  | n + 1, M, X1, X2 => (if X2 < 0 then (some (M)) else bnd (fX11_inside (M 0 8) (nI 300)) fun v2 => (if v2 = 0 then (some (M)) else chk (M 0 8) 300 (lt (wr M (123) (M 0 8).toNatClampNeg ((iushr5 X1 X2) &&& (nI 255))) fun M3 => lt (wr M3 0 8 ((M3 0 8) + (nI 1))) fun M4 => (fX11_tapeNumber_L3 n M4 X1 (X2 + (-8))))))
theorem wX11_tapeNumber_L3 {p : Program} {l : Launch} {e : Env} {s : State} {m : MethodId} {args : Array Value} {below : List Frame} {meth : Method} {c : Code} {Y : Nat → ClassId} {D : va_G} {σ : Nat → Nat} {np b0 : Nat} {r : Mc} (hE : EOK p s m args meth c cX11_tapeNumber 3 RX11 Y D σ np b0) (hr : meth.sig.returnType = none) : ∀ (n : Nat) (M : Mc) (N : Md) (X1 : Int32) (X2 : Int32), fX11_tapeNumber_L3 n M X1 X2 = some r → Xw p l e (rmD 2) s m args below meth c 3 Y D σ np b0 0 0 (MQ below (QR Y D σ np b0 none r N) args s 0 0 (xA b0)) 3 [(0, .ref (σ 0)), (1, .int X1), (2, .int X2)] [] M N := by
  intro n
  induction n with
  | zero =>
    intro M N X1 X2 hf
    cases hf
  | succ n ih =>
    intro M N X1 X2 hf
    rw [fX11_tapeNumber_L3.eq_2] at hf
    refine x_iload_n hE 2 dX11_tapeNumber_3 rfl rfl ?_
    refine x_if_lt hE 55 dX11_tapeNumber_4 (by decide) hf (fun hf => ?_) (fun hf => ?_)
    · replace hf := Option.some.inj hf
      subst hf
      exact x_vreturn hE hr dX11_tapeNumber_55
    · refine x_aload_n hE 0 dX11_tapeNumber_7 rfl rfl ?_
      refine x_getI hE cl_11 (hE.kd kO_11) (by decide) 8 rfl (by decide) lk_X11_283 dX11_tapeNumber_8 ?_
      refine x_aload_n hE 0 dX11_tapeNumber_11 rfl rfl ?_
      refine x_getR hE cl_11 (hE.kd kO_11) (by decide) 7 (123) rfl (by decide) lk_X11_55 dX11_tapeNumber_12 ?_
      refine x_alen hE (nI 300) (hE.kd kA_123) (Or.inl rfl) rfl dX11_tapeNumber_15 ?_
      obtain ⟨v2, hc1, hf⟩ := bnd_some hf
      refine x_callS1 hE [.int (M 0 8), .int (nI 300)] (rest := []) (v := .int v2) (c1 := M) (d1 := N) rfl yokX11_inside ysX11_inside lk_X11_191 rfl rfl ⟨Nat.le_of_ble_eq_true rfl, Nat.le_of_ble_eq_true rfl⟩ ⟨Nat.zero_le _, Nat.zero_le _⟩ rfl (Nat.le_of_ble_eq_true rfl) dX11_tapeNumber_16 (mX11_inside l hc1) ?_
      refine x_if_ne hE 23 dX11_tapeNumber_19 (by decide) hf (fun hf => ?_) (fun hf => ?_)
      · refine x_aload_n hE 0 dX11_tapeNumber_23 rfl rfl ?_
        refine x_getR hE cl_11 (hE.kd kO_11) (by decide) 7 (123) rfl (by decide) lk_X11_55 dX11_tapeNumber_24 ?_
        refine x_aload_n hE 0 dX11_tapeNumber_27 rfl rfl ?_
        refine x_getI hE cl_11 (hE.kd kO_11) (by decide) 8 rfl (by decide) lk_X11_283 dX11_tapeNumber_28 ?_
        refine x_iload_n hE 1 dX11_tapeNumber_31 rfl rfl ?_
        refine x_iload_n hE 2 dX11_tapeNumber_32 rfl rfl ?_
        refine x_iushr hE dX11_tapeNumber_33 ?_
        refine x_sipush hE (nI 255) dX11_tapeNumber_34 (by decide) ?_
        refine x_iand hE dX11_tapeNumber_37 ?_
        refine x_iast hE (hE.kd kA_123) dX11_tapeNumber_38 hf (fun M3 hf => ?_)
        refine x_aload_n hE 0 dX11_tapeNumber_39 rfl rfl ?_
        refine x_dup hE dX11_tapeNumber_40 rfl ?_
        refine x_getI hE cl_11 (hE.kd kO_11) (by decide) 8 rfl (by decide) lk_X11_283 dX11_tapeNumber_41 ?_
        refine x_iconst hE (nI 1) dX11_tapeNumber_44 (by decide) ?_
        refine x_iadd hE dX11_tapeNumber_45 ?_
        refine x_putI hE cl_11 (hE.kd kO_11) (by decide) 8 rfl (by decide) lk_X11_283 rfl rfl rfl rfl dX11_tapeNumber_46 hf (fun M4 hf => ?_)
        refine x_iinc hE 2 (X2 + (-8)) (L' := [(2, .int (X2 + (-8))), (0, .ref (σ 0)), (1, .int X1)]) dX11_tapeNumber_49 rfl rfl (by decide) rfl ?_
        refine x_pick [1, 2, 0] (L' := [(0, .ref (σ 0)), (1, .int X1), (2, .int (X2 + (-8)))]) rfl ?_
        refine x_goto hE 3 dX11_tapeNumber_52 (by decide) ?_
        exact ih _ _ _ _ hf
      · replace hf := Option.some.inj hf
        subst hf
        exact x_vreturn hE hr dX11_tapeNumber_22
def fX11_tapeNumber (M : Mc) (p0 : Int32) : Option (Mc) := (fX11_tapeNumber_L3 FU M p0 (nI 24))
theorem mX11_tapeNumber (l : Launch) {Y : Nat → ClassId} {D : va_G} {σ : Nat → Nat} {np b0 : Nat} {M : Mc} {N : Md} {p0 : Int32} {r : Mc} (hf : fX11_tapeNumber M p0 = some r) : Met l yX11_tapeNumber (.code yX11_tapeNumber cX11_tapeNumber 3 none :: lw_g) (rmD 2) (PR Y D σ np b0 [.ref (σ 0), .int p0] M N) (QR Y D σ np b0 none r N) 0 0 (xA b0) := by
  refine x_met (by decide) (Nat.le_of_ble_eq_true rfl) (fun p e s m args below meth c hE hr => ?_)
  unfold fX11_tapeNumber at hf
  refine x_pick [0, 1] (L' := [(0, .ref (σ 0)), (1, .int p0)]) rfl ?_
  refine x_bipush hE (nI 24) dX11_tapeNumber_0 (by decide) ?_
  refine x_istore_n hE (L' := [(2, .int (nI 24)), (0, .ref (σ 0)), (1, .int p0)]) dX11_tapeNumber_2 rfl (by decide) rfl ?_
  refine x_pick [1, 2, 0] (L' := [(0, .ref (σ 0)), (1, .int p0), (2, .int (nI 24))]) rfl ?_
  exact wX11_tapeNumber_L3 hE hr  FU _ _ _ _ hf
theorem yokX11_tapeNumber : YOK yX11_tapeNumber cX11_tapeNumber 3 1 none := ⟨mem_g 624 (by decide +kernel) (by decide +kernel), mem_g 131 (by decide +kernel) (by decide +kernel), by decide +kernel, by decide +kernel, by decide +kernel⟩
theorem yvX11_tapeNumber : YV yX11_tapeNumber := ⟨mem_g 623 (by decide +kernel) (by decide +kernel), mem_g 0 (by decide +kernel) (by decide +kernel)⟩
theorem lk_X11_286 : Cond.methodLink RX11 286 yX11_tapeNumber ∈ lw_g := mem_g 621 (by decide +kernel) (by decide +kernel)
theorem dX11_feed_0 : decode cX11_feed 0 = .ok (.aload_n 0, 1) := by decide +kernel
theorem dX11_feed_1 : decode cX11_feed 1 = .ok (.getfield 283, 3) := by decide +kernel
theorem dX11_feed_4 : decode cX11_feed 4 = .ok (.sipush 280, 3) := by decide +kernel
theorem dX11_feed_7 : decode cX11_feed 7 = .ok (.if_icmp .le 5, 3) := by decide +kernel
theorem dX11_feed_10 : decode cX11_feed 10 = .ok (.iconst (-1), 1) := by decide +kernel
theorem dX11_feed_11 : decode cX11_feed 11 = .ok (.ireturn, 1) := by decide +kernel
theorem dX11_feed_12 : decode cX11_feed 12 = .ok (.aload_n 0, 1) := by decide +kernel
theorem dX11_feed_13 : decode cX11_feed 13 = .ok (.iload_n 1, 1) := by decide +kernel
theorem dX11_feed_14 : decode cX11_feed 14 = .ok (.invokevirtual 286, 3) := by decide +kernel
theorem dX11_feed_17 : decode cX11_feed 17 = .ok (.aload_n 0, 1) := by decide +kernel
theorem dX11_feed_18 : decode cX11_feed 18 = .ok (.iload_n 2, 1) := by decide +kernel
theorem dX11_feed_19 : decode cX11_feed 19 = .ok (.invokevirtual 286, 3) := by decide +kernel
theorem dX11_feed_22 : decode cX11_feed 22 = .ok (.aload_n 0, 1) := by decide +kernel
theorem dX11_feed_23 : decode cX11_feed 23 = .ok (.iload_n 3, 1) := by decide +kernel
theorem dX11_feed_24 : decode cX11_feed 24 = .ok (.invokevirtual 286, 3) := by decide +kernel
theorem dX11_feed_27 : decode cX11_feed 27 = .ok (.aload_n 0, 1) := by decide +kernel
theorem dX11_feed_28 : decode cX11_feed 28 = .ok (.iload 4, 2) := by decide +kernel
theorem dX11_feed_30 : decode cX11_feed 30 = .ok (.invokevirtual 286, 3) := by decide +kernel
theorem dX11_feed_33 : decode cX11_feed 33 = .ok (.aload_n 0, 1) := by decide +kernel
theorem dX11_feed_34 : decode cX11_feed 34 = .ok (.iload 5, 2) := by decide +kernel
theorem dX11_feed_36 : decode cX11_feed 36 = .ok (.invokevirtual 286, 3) := by decide +kernel
theorem dX11_feed_39 : decode cX11_feed 39 = .ok (.aload_n 0, 1) := by decide +kernel
theorem dX11_feed_40 : decode cX11_feed 40 = .ok (.getfield 283, 3) := by decide +kernel
theorem dX11_feed_43 : decode cX11_feed 43 = .ok (.ireturn, 1) := by decide +kernel
def fX11_feed (M : Mc) (p0 : Int32) (p1 : Int32) (p2 : Int32) (p3 : Int32) (p4 : Int32) : Option (Int32 × Mc) := (if (M 0 8) ≤ (nI 280) then bnd (fX11_tapeNumber M p0) fun M2 => bnd (fX11_tapeNumber M2 p1) fun M4 => bnd (fX11_tapeNumber M4 p2) fun M6 => bnd (fX11_tapeNumber M6 p3) fun M8 => bnd (fX11_tapeNumber M8 p4) fun M10 => (some ((M10 0 8), M10)) else (some ((-1), M)))
theorem mX11_feed (l : Launch) {Y : Nat → ClassId} {D : va_G} {σ : Nat → Nat} {np b0 : Nat} {M : Mc} {N : Md} {p0 : Int32} {p1 : Int32} {p2 : Int32} {p3 : Int32} {p4 : Int32} {r : Int32 × Mc} (hf : fX11_feed M p0 p1 p2 p3 p4 = some r) : Met l yX11_feed (.code yX11_feed cX11_feed 6 (some .int) :: lw_g) (rmD 3) (PR Y D σ np b0 [.ref (σ 0), .int p0, .int p1, .int p2, .int p3, .int p4] M N) (QR Y D σ np b0 (some (.int r.1)) r.2 N) 0 0 (xA b0) := by
  refine x_met (by decide) (Nat.le_of_ble_eq_true rfl) (fun p e s m args below meth c hE hr => ?_)
  unfold fX11_feed at hf
  refine x_pick [0, 1, 2, 3, 4, 5] (L' := [(0, .ref (σ 0)), (1, .int p0), (2, .int p1), (3, .int p2), (4, .int p3), (5, .int p4)]) rfl ?_
  refine x_aload_n hE 0 dX11_feed_0 rfl rfl ?_
  refine x_getI hE cl_11 (hE.kd kO_11) (by decide) 8 rfl (by decide) lk_X11_283 dX11_feed_1 ?_
  refine x_sipush hE (nI 280) dX11_feed_4 (by decide) ?_
  refine x_icmp_le hE 12 dX11_feed_7 (by decide) hf (fun hf => ?_) (fun hf => ?_)
  · refine x_aload_n hE 0 dX11_feed_12 rfl rfl ?_
    refine x_iload_n hE 1 dX11_feed_13 rfl rfl ?_
    obtain ⟨M2, hc1, hf⟩ := bnd_some hf
    refine x_callV0 hE [.int p0] (rest := []) (c1 := M2) (d1 := N) rfl yokX11_tapeNumber yvX11_tapeNumber lk_X11_286 rfl cl_11 (hE.kd kO_11) (by decide) rfl rfl ⟨Nat.le_of_ble_eq_true rfl, Nat.le_of_ble_eq_true rfl⟩ ⟨Nat.zero_le _, Nat.zero_le _⟩ rfl (Nat.le_of_ble_eq_true rfl) dX11_feed_14 (mX11_tapeNumber l hc1) ?_
    refine x_aload_n hE 0 dX11_feed_17 rfl rfl ?_
    refine x_iload_n hE 2 dX11_feed_18 rfl rfl ?_
    obtain ⟨M4, hc3, hf⟩ := bnd_some hf
    refine x_callV0 hE [.int p1] (rest := []) (c1 := M4) (d1 := N) rfl yokX11_tapeNumber yvX11_tapeNumber lk_X11_286 rfl cl_11 (hE.kd kO_11) (by decide) rfl rfl ⟨Nat.le_of_ble_eq_true rfl, Nat.le_of_ble_eq_true rfl⟩ ⟨Nat.zero_le _, Nat.zero_le _⟩ rfl (Nat.le_of_ble_eq_true rfl) dX11_feed_19 (mX11_tapeNumber l hc3) ?_
    refine x_aload_n hE 0 dX11_feed_22 rfl rfl ?_
    refine x_iload_n hE 3 dX11_feed_23 rfl rfl ?_
    obtain ⟨M6, hc5, hf⟩ := bnd_some hf
    refine x_callV0 hE [.int p2] (rest := []) (c1 := M6) (d1 := N) rfl yokX11_tapeNumber yvX11_tapeNumber lk_X11_286 rfl cl_11 (hE.kd kO_11) (by decide) rfl rfl ⟨Nat.le_of_ble_eq_true rfl, Nat.le_of_ble_eq_true rfl⟩ ⟨Nat.zero_le _, Nat.zero_le _⟩ rfl (Nat.le_of_ble_eq_true rfl) dX11_feed_24 (mX11_tapeNumber l hc5) ?_
    refine x_aload_n hE 0 dX11_feed_27 rfl rfl ?_
    refine x_iload hE 4 dX11_feed_28 rfl ?_
    obtain ⟨M8, hc7, hf⟩ := bnd_some hf
    refine x_callV0 hE [.int p3] (rest := []) (c1 := M8) (d1 := N) rfl yokX11_tapeNumber yvX11_tapeNumber lk_X11_286 rfl cl_11 (hE.kd kO_11) (by decide) rfl rfl ⟨Nat.le_of_ble_eq_true rfl, Nat.le_of_ble_eq_true rfl⟩ ⟨Nat.zero_le _, Nat.zero_le _⟩ rfl (Nat.le_of_ble_eq_true rfl) dX11_feed_30 (mX11_tapeNumber l hc7) ?_
    refine x_aload_n hE 0 dX11_feed_33 rfl rfl ?_
    refine x_iload hE 5 dX11_feed_34 rfl ?_
    obtain ⟨M10, hc9, hf⟩ := bnd_some hf
    refine x_callV0 hE [.int p4] (rest := []) (c1 := M10) (d1 := N) rfl yokX11_tapeNumber yvX11_tapeNumber lk_X11_286 rfl cl_11 (hE.kd kO_11) (by decide) rfl rfl ⟨Nat.le_of_ble_eq_true rfl, Nat.le_of_ble_eq_true rfl⟩ ⟨Nat.zero_le _, Nat.zero_le _⟩ rfl (Nat.le_of_ble_eq_true rfl) dX11_feed_36 (mX11_tapeNumber l hc9) ?_
    refine x_aload_n hE 0 dX11_feed_39 rfl rfl ?_
    refine x_getI hE cl_11 (hE.kd kO_11) (by decide) 8 rfl (by decide) lk_X11_283 dX11_feed_40 ?_
    replace hf := Option.some.inj hf
    subst hf
    exact x_ireturn hE (v := M10 0 8) hr rfl dX11_feed_43
  · refine x_iconst hE (-1) dX11_feed_10 (by decide) ?_
    replace hf := Option.some.inj hf
    subst hf
    exact x_ireturn hE (v := (-1)) hr rfl dX11_feed_11
theorem yokX11_feed : YOK yX11_feed cX11_feed 6 5 (some .int) := ⟨mem_g 620 (by decide +kernel) (by decide +kernel), mem_g 131 (by decide +kernel) (by decide +kernel), by decide +kernel, by decide +kernel, by decide +kernel⟩
theorem yvX11_feed : YV yX11_feed := ⟨mem_g 618 (by decide +kernel) (by decide +kernel), mem_g 619 (by decide +kernel) (by decide +kernel)⟩
theorem lk_X11_59 : Cond.fieldLink RX11 59 (TX11 9).1 (TX11 9).2.1 (TX11 9).2.2.1 ∈ lw_g := mem_g 571 (by decide +kernel) (by decide +kernel)
theorem dX11_fault_0 : decode cX11_fault 0 = .ok (.aload_n 0, 1) := by decide +kernel
theorem dX11_fault_1 : decode cX11_fault 1 = .ok (.getfield 59, 3) := by decide +kernel
theorem dX11_fault_4 : decode cX11_fault 4 = .ok (.ireturn, 1) := by decide +kernel
def fX11_fault (M : Mc) : Option (Int32) := (some ((M 0 9)))
theorem mX11_fault (l : Launch) {Y : Nat → ClassId} {D : va_G} {σ : Nat → Nat} {np b0 : Nat} {M : Mc} {N : Md} {r : Int32} (hf : fX11_fault M = some r) : Met l yX11_fault (.code yX11_fault cX11_fault 1 (some .int) :: lw_g) (rmD 1) (PR Y D σ np b0 [.ref (σ 0)] M N) (QR Y D σ np b0 (some (.int r)) M N) 0 0 (xA b0) := by
  refine x_met (by decide) (Nat.le_of_ble_eq_true rfl) (fun p e s m args below meth c hE hr => ?_)
  unfold fX11_fault at hf
  refine x_pick [0] (L' := [(0, .ref (σ 0))]) rfl ?_
  refine x_aload_n hE 0 dX11_fault_0 rfl rfl ?_
  refine x_getI hE cl_11 (hE.kd kO_11) (by decide) 9 rfl (by decide) lk_X11_59 dX11_fault_1 ?_
  replace hf := Option.some.inj hf
  subst hf
  exact x_ireturn hE (v := M 0 9) hr rfl dX11_fault_4
theorem yokX11_fault : YOK yX11_fault cX11_fault 1 0 (some .int) := ⟨mem_g 631 (by decide +kernel) (by decide +kernel), mem_g 131 (by decide +kernel) (by decide +kernel), by decide +kernel, by decide +kernel, by decide +kernel⟩
theorem yvX11_fault : YV yX11_fault := ⟨mem_g 629 (by decide +kernel) (by decide +kernel), mem_g 630 (by decide +kernel) (by decide +kernel)⟩
theorem lk_X11_125 : Cond.fieldLink RX11 125 (TX10 2).1 (TX10 2).2.1 (TX10 2).2.2.1 ∈ lw_g := mem_g 412 (by decide +kernel) (by decide +kernel)
theorem lk_X11_172 : Cond.methodLink RX11 172 yX3_isHere ∈ lw_g := mem_g 1105 (by decide +kernel) (by decide +kernel)
theorem lk_X11_462 : Cond.methodLink RX11 462 yX3_farmsOf ∈ lw_g := mem_g 1538 (by decide +kernel) (by decide +kernel)
theorem lk_X11_37 : Cond.fieldLink RX11 37 (TX11 4).1 (TX11 4).2.1 (TX11 4).2.2.1 ∈ lw_g := mem_g 566 (by decide +kernel) (by decide +kernel)
theorem lk_X11_175 : Cond.methodLink RX11 175 yX9_has ∈ lw_g := mem_g 1109 (by decide +kernel) (by decide +kernel)
theorem dX11_mayVote_0 : decode cX11_mayVote 0 = .ok (.aload_n 0, 1) := by decide +kernel
theorem dX11_mayVote_1 : decode cX11_mayVote 1 = .ok (.getfield 27, 3) := by decide +kernel
theorem dX11_mayVote_4 : decode cX11_mayVote 4 = .ok (.getfield 125, 3) := by decide +kernel
theorem dX11_mayVote_7 : decode cX11_mayVote 7 = .ok (.iload_n 1, 1) := by decide +kernel
theorem dX11_mayVote_8 : decode cX11_mayVote 8 = .ok (.invokevirtual 172, 3) := by decide +kernel
theorem dX11_mayVote_11 : decode cX11_mayVote 11 = .ok (.ifCond .eq 32, 3) := by decide +kernel
theorem dX11_mayVote_14 : decode cX11_mayVote 14 = .ok (.aload_n 0, 1) := by decide +kernel
theorem dX11_mayVote_15 : decode cX11_mayVote 15 = .ok (.getfield 27, 3) := by decide +kernel
theorem dX11_mayVote_18 : decode cX11_mayVote 18 = .ok (.getfield 125, 3) := by decide +kernel
theorem dX11_mayVote_21 : decode cX11_mayVote 21 = .ok (.iload_n 1, 1) := by decide +kernel
theorem dX11_mayVote_22 : decode cX11_mayVote 22 = .ok (.invokevirtual 462, 3) := by decide +kernel
theorem dX11_mayVote_25 : decode cX11_mayVote 25 = .ok (.ifCond .gt 14, 3) := by decide +kernel
theorem dX11_mayVote_28 : decode cX11_mayVote 28 = .ok (.aload_n 0, 1) := by decide +kernel
theorem dX11_mayVote_29 : decode cX11_mayVote 29 = .ok (.getfield 37, 3) := by decide +kernel
theorem dX11_mayVote_32 : decode cX11_mayVote 32 = .ok (.iload_n 1, 1) := by decide +kernel
theorem dX11_mayVote_33 : decode cX11_mayVote 33 = .ok (.invokevirtual 175, 3) := by decide +kernel
theorem dX11_mayVote_36 : decode cX11_mayVote 36 = .ok (.ifCond .eq 7, 3) := by decide +kernel
theorem dX11_mayVote_39 : decode cX11_mayVote 39 = .ok (.iconst 1, 1) := by decide +kernel
theorem dX11_mayVote_40 : decode cX11_mayVote 40 = .ok (.goto 4, 3) := by decide +kernel
theorem dX11_mayVote_43 : decode cX11_mayVote 43 = .ok (.iconst 0, 1) := by decide +kernel
theorem dX11_mayVote_44 : decode cX11_mayVote 44 = .ok (.ireturn, 1) := by decide +kernel
def fX11_mayVote (M : Mc) (p0 : Int32) : Option (Int32) := bnd (fX3_isHere M (17 + 15) p0) fun v2 => (if v2 = 0 then (some (0)) else bnd (fX3_farmsOf M (17 + 15) p0) fun v4 => (if 0 < v4 then (some ((nI 1))) else bnd (fX9_has M p0) fun v6 => (if v6 = 0 then (some (0)) else (some ((nI 1))))))
theorem mX11_mayVote (l : Launch) {Y : Nat → ClassId} {D : va_G} {σ : Nat → Nat} {np b0 : Nat} {M : Mc} {N : Md} {p0 : Int32} {r : Int32} (hf : fX11_mayVote M p0 = some r) : Met l yX11_mayVote (.code yX11_mayVote cX11_mayVote 2 (some .boolean) :: lw_g) (rmD 3) (PR Y D σ np b0 [.ref (σ 0), .int p0] M N) (QR Y D σ np b0 (some (.int r)) M N) 0 0 (xA b0) := by
  refine x_met (by decide) (Nat.le_of_ble_eq_true rfl) (fun p e s m args below meth c hE hr => ?_)
  unfold fX11_mayVote at hf
  refine x_pick [0, 1] (L' := [(0, .ref (σ 0)), (1, .int p0)]) rfl ?_
  refine x_aload_n hE 0 dX11_mayVote_0 rfl rfl ?_
  refine x_getR hE cl_11 (hE.kd kO_11) (by decide) 2 (17) rfl (by decide) lk_X11_27 dX11_mayVote_1 ?_
  refine x_getR hE cl_10 (hE.kd (kO_10 hI_17)) (by decide) 2 (17 + 15) rfl (by decide) lk_X11_125 dX11_mayVote_4 ?_
  refine x_iload_n hE 1 dX11_mayVote_7 rfl rfl ?_
  obtain ⟨v2, hc1, hf⟩ := bnd_some hf
  refine x_callV1 hE [.int p0] (rest := []) (v := .int v2) (c1 := M) (d1 := N) rfl yokX3_isHere yvX3_isHere lk_X11_172 rfl cl_3 (hE.kd (kO_3 (hL_10_2 hI_17))) (by decide) rfl rfl ⟨Nat.le_of_ble_eq_true rfl, Nat.le_of_ble_eq_true rfl⟩ ⟨Nat.zero_le _, Nat.zero_le _⟩ rfl (Nat.le_of_ble_eq_true rfl) dX11_mayVote_8 (mX3_isHere l (hL_10_2 hI_17) hc1) ?_
  refine x_if_eq hE 43 dX11_mayVote_11 (by decide) hf (fun hf => ?_) (fun hf => ?_)
  · refine x_iconst hE (0 : Int32) dX11_mayVote_43 (by decide) ?_
    replace hf := Option.some.inj hf
    subst hf
    exact x_ireturn hE (v := 0) hr rfl dX11_mayVote_44
  · refine x_aload_n hE 0 dX11_mayVote_14 rfl rfl ?_
    refine x_getR hE cl_11 (hE.kd kO_11) (by decide) 2 (17) rfl (by decide) lk_X11_27 dX11_mayVote_15 ?_
    refine x_getR hE cl_10 (hE.kd (kO_10 hI_17)) (by decide) 2 (17 + 15) rfl (by decide) lk_X11_125 dX11_mayVote_18 ?_
    refine x_iload_n hE 1 dX11_mayVote_21 rfl rfl ?_
    obtain ⟨v4, hc3, hf⟩ := bnd_some hf
    refine x_callV1 hE [.int p0] (rest := []) (v := .int v4) (c1 := M) (d1 := N) rfl yokX3_farmsOf yvX3_farmsOf lk_X11_462 rfl cl_3 (hE.kd (kO_3 (hL_10_2 hI_17))) (by decide) rfl rfl ⟨Nat.le_of_ble_eq_true rfl, Nat.le_of_ble_eq_true rfl⟩ ⟨Nat.zero_le _, Nat.zero_le _⟩ rfl (Nat.le_of_ble_eq_true rfl) dX11_mayVote_22 (mX3_farmsOf l (hL_10_2 hI_17) hc3) ?_
    refine x_if_gt hE 39 dX11_mayVote_25 (by decide) hf (fun hf => ?_) (fun hf => ?_)
    · refine x_iconst hE (nI 1) dX11_mayVote_39 (by decide) ?_
      refine x_goto hE 44 dX11_mayVote_40 (by decide) ?_
      replace hf := Option.some.inj hf
      subst hf
      exact x_ireturn hE (v := nI 1) hr rfl dX11_mayVote_44
    · refine x_aload_n hE 0 dX11_mayVote_28 rfl rfl ?_
      refine x_getR hE cl_11 (hE.kd kO_11) (by decide) 4 (111) rfl (by decide) lk_X11_37 dX11_mayVote_29 ?_
      refine x_iload_n hE 1 dX11_mayVote_32 rfl rfl ?_
      obtain ⟨v6, hc5, hf⟩ := bnd_some hf
      refine x_callV1 hE [.int p0] (rest := []) (v := .int v6) (c1 := M) (d1 := N) rfl yokX9_has yvX9_has lk_X11_175 rfl cl_9 (hE.kd kO_9) (by decide) rfl rfl ⟨Nat.le_of_ble_eq_true rfl, Nat.le_of_ble_eq_true rfl⟩ ⟨Nat.zero_le _, Nat.zero_le _⟩ rfl (Nat.le_of_ble_eq_true rfl) dX11_mayVote_33 (mX9_has l hc5) ?_
      refine x_if_eq hE 43 dX11_mayVote_36 (by decide) hf (fun hf => ?_) (fun hf => ?_)
      · refine x_iconst hE (0 : Int32) dX11_mayVote_43 (by decide) ?_
        replace hf := Option.some.inj hf
        subst hf
        exact x_ireturn hE (v := 0) hr rfl dX11_mayVote_44
      · refine x_iconst hE (nI 1) dX11_mayVote_39 (by decide) ?_
        refine x_goto hE 44 dX11_mayVote_40 (by decide) ?_
        replace hf := Option.some.inj hf
        subst hf
        exact x_ireturn hE (v := nI 1) hr rfl dX11_mayVote_44
theorem yokX11_mayVote : YOK yX11_mayVote cX11_mayVote 2 1 (some .boolean) := ⟨mem_g 1537 (by decide +kernel) (by decide +kernel), mem_g 131 (by decide +kernel) (by decide +kernel), by decide +kernel, by decide +kernel, by decide +kernel⟩
theorem yvX11_mayVote : YV yX11_mayVote := ⟨mem_g 1536 (by decide +kernel) (by decide +kernel), mem_g 36 (by decide +kernel) (by decide +kernel)⟩
theorem lk_X11_220 : Cond.methodLink RX11 220 yX11_priceAtHome ∈ lw_g := mem_g 636 (by decide +kernel) (by decide +kernel)
theorem dX11_quoted_0 : decode cX11_quoted 0 = .ok (.aload_n 0, 1) := by decide +kernel
theorem dX11_quoted_1 : decode cX11_quoted 1 = .ok (.invokevirtual 220, 3) := by decide +kernel
theorem dX11_quoted_4 : decode cX11_quoted 4 = .ok (.ireturn, 1) := by decide +kernel
def fX11_quoted (M : Mc) : Option (Int32 × Mc) := bn2 (fX11_priceAtHome M) fun v2 M3 => (some (v2, M3))
theorem mX11_quoted (l : Launch) {Y : Nat → ClassId} {D : va_G} {σ : Nat → Nat} {np b0 : Nat} {M : Mc} {N : Md} {r : Int32 × Mc} (hf : fX11_quoted M = some r) : Met l yX11_quoted (.code yX11_quoted cX11_quoted 1 (some .int) :: lw_g) (rmD 6) (PR Y D σ np b0 [.ref (σ 0)] M N) (QR Y D σ np b0 (some (.int r.1)) r.2 N) 0 0 (xA b0) := by
  refine x_met (by decide) (Nat.le_of_ble_eq_true rfl) (fun p e s m args below meth c hE hr => ?_)
  unfold fX11_quoted at hf
  refine x_pick [0] (L' := [(0, .ref (σ 0))]) rfl ?_
  refine x_aload_n hE 0 dX11_quoted_0 rfl rfl ?_
  obtain ⟨⟨v2, M3⟩, hc1, hf⟩ := bn2_some hf
  refine x_callV1 hE [] (rest := []) (v := .int v2) (c1 := M3) (d1 := N) rfl yokX11_priceAtHome yvX11_priceAtHome lk_X11_220 rfl cl_11 (hE.kd kO_11) (by decide) rfl rfl ⟨Nat.le_of_ble_eq_true rfl, Nat.le_of_ble_eq_true rfl⟩ ⟨Nat.zero_le _, Nat.zero_le _⟩ rfl (Nat.le_of_ble_eq_true rfl) dX11_quoted_1 (mX11_priceAtHome l hc1) ?_
  replace hf := Option.some.inj hf
  subst hf
  exact x_ireturn hE (v := v2) hr rfl dX11_quoted_4
theorem yokX11_quoted : YOK yX11_quoted cX11_quoted 1 0 (some .int) := ⟨mem_g 635 (by decide +kernel) (by decide +kernel), mem_g 131 (by decide +kernel) (by decide +kernel), by decide +kernel, by decide +kernel, by decide +kernel⟩
theorem yvX11_quoted : YV yX11_quoted := ⟨mem_g 633 (by decide +kernel) (by decide +kernel), mem_g 634 (by decide +kernel) (by decide +kernel)⟩
theorem lk_X11_223 : Cond.fieldLink RX11 223 (TX11 11).1 (TX11 11).2.1 (TX11 11).2.2.1 ∈ lw_g := mem_g 573 (by decide +kernel) (by decide +kernel)
theorem lk_X11_356 : Cond.fieldLink RX11 356 (TX11 12).1 (TX11 12).2.1 (TX11 12).2.2.1 ∈ lw_g := mem_g 574 (by decide +kernel) (by decide +kernel)
theorem dX11_passagesAtHome_0 : decode cX11_passagesAtHome 0 = .ok (.aload_n 0, 1) := by decide +kernel
theorem dX11_passagesAtHome_1 : decode cX11_passagesAtHome 1 = .ok (.getfield 27, 3) := by decide +kernel
theorem dX11_passagesAtHome_4 : decode cX11_passagesAtHome 4 = .ok (.getfield 232, 3) := by decide +kernel
theorem dX11_passagesAtHome_7 : decode cX11_passagesAtHome 7 = .ok (.bipush 34, 2) := by decide +kernel
theorem dX11_passagesAtHome_9 : decode cX11_passagesAtHome 9 = .ok (.isub, 1) := by decide +kernel
theorem dX11_passagesAtHome_10 : decode cX11_passagesAtHome 10 = .ok (.istore_n 1, 1) := by decide +kernel
theorem dX11_passagesAtHome_11 : decode cX11_passagesAtHome 11 = .ok (.iload_n 1, 1) := by decide +kernel
theorem dX11_passagesAtHome_12 : decode cX11_passagesAtHome 12 = .ok (.ifCond .ge 7, 3) := by decide +kernel
theorem dX11_passagesAtHome_15 : decode cX11_passagesAtHome 15 = .ok (.iconst 0, 1) := by decide +kernel
theorem dX11_passagesAtHome_16 : decode cX11_passagesAtHome 16 = .ok (.goto 12, 3) := by decide +kernel
theorem dX11_passagesAtHome_19 : decode cX11_passagesAtHome 19 = .ok (.aload_n 0, 1) := by decide +kernel
theorem dX11_passagesAtHome_20 : decode cX11_passagesAtHome 20 = .ok (.getfield 10, 3) := by decide +kernel
theorem dX11_passagesAtHome_23 : decode cX11_passagesAtHome 23 = .ok (.iload_n 1, 1) := by decide +kernel
theorem dX11_passagesAtHome_24 : decode cX11_passagesAtHome 24 = .ok (.iconst 5, 1) := by decide +kernel
theorem dX11_passagesAtHome_25 : decode cX11_passagesAtHome 25 = .ok (.invokevirtual 391, 3) := by decide +kernel
theorem dX11_passagesAtHome_28 : decode cX11_passagesAtHome 28 = .ok (.istore_n 2, 1) := by decide +kernel
theorem dX11_passagesAtHome_29 : decode cX11_passagesAtHome 29 = .ok (.iload_n 2, 1) := by decide +kernel
theorem dX11_passagesAtHome_30 : decode cX11_passagesAtHome 30 = .ok (.aload_n 0, 1) := by decide +kernel
theorem dX11_passagesAtHome_31 : decode cX11_passagesAtHome 31 = .ok (.getfield 223, 3) := by decide +kernel
theorem dX11_passagesAtHome_34 : decode cX11_passagesAtHome 34 = .ok (.iadd, 1) := by decide +kernel
theorem dX11_passagesAtHome_35 : decode cX11_passagesAtHome 35 = .ok (.aload_n 0, 1) := by decide +kernel
theorem dX11_passagesAtHome_36 : decode cX11_passagesAtHome 36 = .ok (.getfield 356, 3) := by decide +kernel
theorem dX11_passagesAtHome_39 : decode cX11_passagesAtHome 39 = .ok (.isub, 1) := by decide +kernel
theorem dX11_passagesAtHome_40 : decode cX11_passagesAtHome 40 = .ok (.ireturn, 1) := by decide +kernel
def fX11_passagesAtHome_J28 (M : Mc) (Z0 : Int32) : Option (Int32) := (some (((Z0 + (M 0 11)) - (M 0 12))))
theorem wX11_passagesAtHome_J28 {p : Program} {l : Launch} {e : Env} {s : State} {m : MethodId} {args : Array Value} {below : List Frame} {meth : Method} {c : Code} {Y : Nat → ClassId} {D : va_G} {σ : Nat → Nat} {np b0 : Nat} {r : Int32} {M : Mc} {N : Md} {Z0 : Int32} (hE : EOK p s m args meth c cX11_passagesAtHome 3 RX11 Y D σ np b0) (hr : meth.sig.returnType = (some .int)) (hf : fX11_passagesAtHome_J28 M Z0 = some r) : Xw p l e (rmD 3) s m args below meth c 3 Y D σ np b0 0 0 (MQ below (QR Y D σ np b0 (some (.int r)) M N) args s 0 0 (xA b0)) 28 [(0, .ref (σ 0))] [.int Z0] M N := by
  unfold fX11_passagesAtHome_J28 at hf
  refine x_istore_n hE (L' := [(2, .int Z0), (0, .ref (σ 0))]) dX11_passagesAtHome_28 rfl (by decide) rfl ?_
  refine x_pick [1, 0] (L' := [(0, .ref (σ 0)), (2, .int Z0)]) rfl ?_
  refine x_iload_n hE 1 dX11_passagesAtHome_29 rfl rfl ?_
  refine x_aload_n hE 0 dX11_passagesAtHome_30 rfl rfl ?_
  refine x_getI hE cl_11 (hE.kd kO_11) (by decide) 11 rfl (by decide) lk_X11_223 dX11_passagesAtHome_31 ?_
  refine x_iadd hE dX11_passagesAtHome_34 ?_
  refine x_aload_n hE 0 dX11_passagesAtHome_35 rfl rfl ?_
  refine x_getI hE cl_11 (hE.kd kO_11) (by decide) 12 rfl (by decide) lk_X11_356 dX11_passagesAtHome_36 ?_
  refine x_isub hE dX11_passagesAtHome_39 ?_
  replace hf := Option.some.inj hf
  subst hf
  exact x_ireturn hE (v := (Z0 + (M 0 11)) - (M 0 12)) hr rfl dX11_passagesAtHome_40
def fX11_passagesAtHome (M : Mc) : Option (Int32) := lt ((M (17) 6) - (nI 34)) fun v1 => (if 0 ≤ v1 then bnd (fX0_rowOf M v1 (nI 5)) fun v3 => (fX11_passagesAtHome_J28 M v3) else (fX11_passagesAtHome_J28 M 0))
theorem mX11_passagesAtHome (l : Launch) {Y : Nat → ClassId} {D : va_G} {σ : Nat → Nat} {np b0 : Nat} {M : Mc} {N : Md} {r : Int32} (hf : fX11_passagesAtHome M = some r) : Met l yX11_passagesAtHome (.code yX11_passagesAtHome cX11_passagesAtHome 3 (some .int) :: lw_g) (rmD 3) (PR Y D σ np b0 [.ref (σ 0)] M N) (QR Y D σ np b0 (some (.int r)) M N) 0 0 (xA b0) := by
  refine x_met (by decide) (Nat.le_of_ble_eq_true rfl) (fun p e s m args below meth c hE hr => ?_)
  unfold fX11_passagesAtHome at hf
  refine x_pick [0] (L' := [(0, .ref (σ 0))]) rfl ?_
  refine x_aload_n hE 0 dX11_passagesAtHome_0 rfl rfl ?_
  refine x_getR hE cl_11 (hE.kd kO_11) (by decide) 2 (17) rfl (by decide) lk_X11_27 dX11_passagesAtHome_1 ?_
  refine x_getI hE cl_10 (hE.kd (kO_10 hI_17)) (by decide) 6 rfl (by decide) lk_X11_232 dX11_passagesAtHome_4 ?_
  refine x_bipush hE (nI 34) dX11_passagesAtHome_7 (by decide) ?_
  refine x_isub hE dX11_passagesAtHome_9 ?_
  refine x_ltI hf (fun v1 hf => ?_)
  refine x_istore_n hE (L' := [(1, .int v1), (0, .ref (σ 0))]) dX11_passagesAtHome_10 rfl (by decide) rfl ?_
  refine x_pick [1, 0] (L' := [(0, .ref (σ 0)), (1, .int v1)]) rfl ?_
  refine x_iload_n hE 1 dX11_passagesAtHome_11 rfl rfl ?_
  refine x_if_ge hE 19 dX11_passagesAtHome_12 (by decide) hf (fun hf => ?_) (fun hf => ?_)
  · refine x_aload_n hE 0 dX11_passagesAtHome_19 rfl rfl ?_
    refine x_getR hE cl_11 (hE.kd kO_11) (by decide) 0 (1) rfl (by decide) lk_X11_10 dX11_passagesAtHome_20 ?_
    refine x_iload_n hE 1 dX11_passagesAtHome_23 rfl rfl ?_
    refine x_iconst hE (nI 5) dX11_passagesAtHome_24 (by decide) ?_
    obtain ⟨v3, hc2, hf⟩ := bnd_some hf
    refine x_callV1 hE [.int v1, .int (nI 5)] (rest := []) (v := .int v3) (c1 := M) (d1 := N) rfl yokX0_rowOf yvX0_rowOf lk_X11_391 rfl cl_0 (hE.kd kO_0) (by decide) rfl rfl ⟨Nat.le_of_ble_eq_true rfl, Nat.le_of_ble_eq_true rfl⟩ ⟨Nat.zero_le _, Nat.zero_le _⟩ rfl (Nat.le_of_ble_eq_true rfl) dX11_passagesAtHome_25 (mX0_rowOf l hc2) ?_
    refine x_pick [0] (L' := [(0, .ref (σ 0))]) rfl ?_
    exact wX11_passagesAtHome_J28 hE hr  hf
  · refine x_iconst hE (0 : Int32) dX11_passagesAtHome_15 (by decide) ?_
    refine x_goto hE 28 dX11_passagesAtHome_16 (by decide) ?_
    refine x_pick [0] (L' := [(0, .ref (σ 0))]) rfl ?_
    exact wX11_passagesAtHome_J28 hE hr  hf
theorem yokX11_passagesAtHome : YOK yX11_passagesAtHome cX11_passagesAtHome 3 0 (some .int) := ⟨mem_g 681 (by decide +kernel) (by decide +kernel), mem_g 131 (by decide +kernel) (by decide +kernel), by decide +kernel, by decide +kernel, by decide +kernel⟩
theorem yvX11_passagesAtHome : YV yX11_passagesAtHome := ⟨mem_g 680 (by decide +kernel) (by decide +kernel), mem_g 2 (by decide +kernel) (by decide +kernel)⟩
theorem lk_X11_348 : Cond.fieldLink RX11 348 (TX11 10).1 (TX11 10).2.1 (TX11 10).2.2.1 ∈ lw_g := mem_g 572 (by decide +kernel) (by decide +kernel)
theorem lk_X11_129 : Cond.fieldLink RX11 129 (TX3 0).1 (TX3 0).2.1 (TX3 0).2.2.1 ∈ lw_g := mem_g 257 (by decide +kernel) (by decide +kernel)
theorem lk_X11_351 : Cond.constantLong RX11 351 (10 : Int64) ∈ lw_g := mem_g 677 (by decide +kernel) (by decide +kernel)
theorem lk_X11_353 : Cond.methodLink RX11 353 yX11_passagesAtHome ∈ lw_g := mem_g 678 (by decide +kernel) (by decide +kernel)
theorem lk_X11_359 : Cond.methodLink RX11 359 yX3_sailOrders ∈ lw_g := mem_g 682 (by decide +kernel) (by decide +kernel)
theorem lk_X11_134 : Cond.methodLink RX11 134 yX3_add ∈ lw_g := mem_g 686 (by decide +kernel) (by decide +kernel)
theorem dX11_ship_0 : decode cX11_ship 0 = .ok (.iload_n 1, 1) := by decide +kernel
theorem dX11_ship_1 : decode cX11_ship 1 = .ok (.ifCond .lt 16, 3) := by decide +kernel
theorem dX11_ship_4 : decode cX11_ship 4 = .ok (.iload_n 2, 1) := by decide +kernel
theorem dX11_ship_5 : decode cX11_ship 5 = .ok (.ifCond .lt 12, 3) := by decide +kernel
theorem dX11_ship_8 : decode cX11_ship 8 = .ok (.iload_n 3, 1) := by decide +kernel
theorem dX11_ship_9 : decode cX11_ship 9 = .ok (.ifCond .lt 8, 3) := by decide +kernel
theorem dX11_ship_12 : decode cX11_ship 12 = .ok (.iload 4, 2) := by decide +kernel
theorem dX11_ship_14 : decode cX11_ship 14 = .ok (.ifCond .ge 5, 3) := by decide +kernel
theorem dX11_ship_17 : decode cX11_ship 17 = .ok (.iconst (-1), 1) := by decide +kernel
theorem dX11_ship_18 : decode cX11_ship 18 = .ok (.ireturn, 1) := by decide +kernel
theorem dX11_ship_19 : decode cX11_ship 19 = .ok (.aload_n 0, 1) := by decide +kernel
theorem dX11_ship_20 : decode cX11_ship 20 = .ok (.getfield 348, 3) := by decide +kernel
theorem dX11_ship_23 : decode cX11_ship 23 = .ok (.bipush 20, 2) := by decide +kernel
theorem dX11_ship_25 : decode cX11_ship 25 = .ok (.if_icmp .lt 6, 3) := by decide +kernel
theorem dX11_ship_28 : decode cX11_ship 28 = .ok (.bipush (-2), 2) := by decide +kernel
theorem dX11_ship_30 : decode cX11_ship 30 = .ok (.ireturn, 1) := by decide +kernel
theorem dX11_ship_31 : decode cX11_ship 31 = .ok (.iload_n 1, 1) := by decide +kernel
theorem dX11_ship_32 : decode cX11_ship 32 = .ok (.i2l, 1) := by decide +kernel
theorem dX11_ship_33 : decode cX11_ship 33 = .ok (.iload_n 2, 1) := by decide +kernel
theorem dX11_ship_34 : decode cX11_ship 34 = .ok (.i2l, 1) := by decide +kernel
theorem dX11_ship_35 : decode cX11_ship 35 = .ok (.ladd, 1) := by decide +kernel
theorem dX11_ship_36 : decode cX11_ship 36 = .ok (.iload_n 3, 1) := by decide +kernel
theorem dX11_ship_37 : decode cX11_ship 37 = .ok (.i2l, 1) := by decide +kernel
theorem dX11_ship_38 : decode cX11_ship 38 = .ok (.ladd, 1) := by decide +kernel
theorem dX11_ship_39 : decode cX11_ship 39 = .ok (.iload 4, 2) := by decide +kernel
theorem dX11_ship_41 : decode cX11_ship 41 = .ok (.i2l, 1) := by decide +kernel
theorem dX11_ship_42 : decode cX11_ship 42 = .ok (.ladd, 1) := by decide +kernel
theorem dX11_ship_43 : decode cX11_ship 43 = .ok (.lstore 5, 2) := by decide +kernel
theorem dX11_ship_45 : decode cX11_ship 45 = .ok (.lload 5, 2) := by decide +kernel
theorem dX11_ship_47 : decode cX11_ship 47 = .ok (.bipush 100, 2) := by decide +kernel
theorem dX11_ship_49 : decode cX11_ship 49 = .ok (.aload_n 0, 1) := by decide +kernel
theorem dX11_ship_50 : decode cX11_ship 50 = .ok (.getfield 27, 3) := by decide +kernel
theorem dX11_ship_53 : decode cX11_ship 53 = .ok (.getfield 125, 3) := by decide +kernel
theorem dX11_ship_56 : decode cX11_ship 56 = .ok (.getfield 129, 3) := by decide +kernel
theorem dX11_ship_59 : decode cX11_ship 59 = .ok (.isub, 1) := by decide +kernel
theorem dX11_ship_60 : decode cX11_ship 60 = .ok (.i2l, 1) := by decide +kernel
theorem dX11_ship_61 : decode cX11_ship 61 = .ok (.lcmp, 1) := by decide +kernel
theorem dX11_ship_62 : decode cX11_ship 62 = .ok (.ifCond .le 6, 3) := by decide +kernel
theorem dX11_ship_65 : decode cX11_ship 65 = .ok (.bipush (-3), 2) := by decide +kernel
theorem dX11_ship_67 : decode cX11_ship 67 = .ok (.ireturn, 1) := by decide +kernel
theorem dX11_ship_68 : decode cX11_ship 68 = .ok (.ldc2_w 351, 3) := by decide +kernel
theorem dX11_ship_71 : decode cX11_ship 71 = .ok (.lload 5, 2) := by decide +kernel
theorem dX11_ship_73 : decode cX11_ship 73 = .ok (.lmul, 1) := by decide +kernel
theorem dX11_ship_74 : decode cX11_ship 74 = .ok (.lstore 7, 2) := by decide +kernel
theorem dX11_ship_76 : decode cX11_ship 76 = .ok (.lload 7, 2) := by decide +kernel
theorem dX11_ship_78 : decode cX11_ship 78 = .ok (.aload_n 0, 1) := by decide +kernel
theorem dX11_ship_79 : decode cX11_ship 79 = .ok (.invokevirtual 353, 3) := by decide +kernel
theorem dX11_ship_82 : decode cX11_ship 82 = .ok (.i2l, 1) := by decide +kernel
theorem dX11_ship_83 : decode cX11_ship 83 = .ok (.lcmp, 1) := by decide +kernel
theorem dX11_ship_84 : decode cX11_ship 84 = .ok (.ifCond .le 6, 3) := by decide +kernel
theorem dX11_ship_87 : decode cX11_ship 87 = .ok (.bipush (-4), 2) := by decide +kernel
theorem dX11_ship_89 : decode cX11_ship 89 = .ok (.ireturn, 1) := by decide +kernel
theorem dX11_ship_90 : decode cX11_ship 90 = .ok (.aload_n 0, 1) := by decide +kernel
theorem dX11_ship_91 : decode cX11_ship 91 = .ok (.dup, 1) := by decide +kernel
theorem dX11_ship_92 : decode cX11_ship 92 = .ok (.getfield 356, 3) := by decide +kernel
theorem dX11_ship_95 : decode cX11_ship 95 = .ok (.lload 7, 2) := by decide +kernel
theorem dX11_ship_97 : decode cX11_ship 97 = .ok (.l2i, 1) := by decide +kernel
theorem dX11_ship_98 : decode cX11_ship 98 = .ok (.iadd, 1) := by decide +kernel
theorem dX11_ship_99 : decode cX11_ship 99 = .ok (.putfield 356, 3) := by decide +kernel
theorem dX11_ship_102 : decode cX11_ship 102 = .ok (.aload_n 0, 1) := by decide +kernel
theorem dX11_ship_103 : decode cX11_ship 103 = .ok (.getfield 27, 3) := by decide +kernel
theorem dX11_ship_106 : decode cX11_ship 106 = .ok (.getfield 232, 3) := by decide +kernel
theorem dX11_ship_109 : decode cX11_ship 109 = .ok (.bipush 34, 2) := by decide +kernel
theorem dX11_ship_111 : decode cX11_ship 111 = .ok (.iadd, 1) := by decide +kernel
theorem dX11_ship_112 : decode cX11_ship 112 = .ok (.istore 9, 2) := by decide +kernel
theorem dX11_ship_114 : decode cX11_ship 114 = .ok (.aload_n 0, 1) := by decide +kernel
theorem dX11_ship_115 : decode cX11_ship 115 = .ok (.getfield 27, 3) := by decide +kernel
theorem dX11_ship_118 : decode cX11_ship 118 = .ok (.getfield 125, 3) := by decide +kernel
theorem dX11_ship_121 : decode cX11_ship 121 = .ok (.iload 9, 2) := by decide +kernel
theorem dX11_ship_123 : decode cX11_ship 123 = .ok (.invokevirtual 359, 3) := by decide +kernel
theorem dX11_ship_126 : decode cX11_ship 126 = .ok (.aload_n 0, 1) := by decide +kernel
theorem dX11_ship_127 : decode cX11_ship 127 = .ok (.getfield 27, 3) := by decide +kernel
theorem dX11_ship_130 : decode cX11_ship 130 = .ok (.getfield 125, 3) := by decide +kernel
theorem dX11_ship_133 : decode cX11_ship 133 = .ok (.iload_n 1, 1) := by decide +kernel
theorem dX11_ship_134 : decode cX11_ship 134 = .ok (.iconst 0, 1) := by decide +kernel
theorem dX11_ship_135 : decode cX11_ship 135 = .ok (.iconst 5, 1) := by decide +kernel
theorem dX11_ship_136 : decode cX11_ship 136 = .ok (.iload 9, 2) := by decide +kernel
theorem dX11_ship_138 : decode cX11_ship 138 = .ok (.invokevirtual 134, 3) := by decide +kernel
theorem dX11_ship_141 : decode cX11_ship 141 = .ok (.aload_n 0, 1) := by decide +kernel
theorem dX11_ship_142 : decode cX11_ship 142 = .ok (.getfield 27, 3) := by decide +kernel
theorem dX11_ship_145 : decode cX11_ship 145 = .ok (.getfield 125, 3) := by decide +kernel
theorem dX11_ship_148 : decode cX11_ship 148 = .ok (.iload_n 2, 1) := by decide +kernel
theorem dX11_ship_149 : decode cX11_ship 149 = .ok (.iconst 1, 1) := by decide +kernel
theorem dX11_ship_150 : decode cX11_ship 150 = .ok (.iconst 5, 1) := by decide +kernel
theorem dX11_ship_151 : decode cX11_ship 151 = .ok (.iload 9, 2) := by decide +kernel
theorem dX11_ship_153 : decode cX11_ship 153 = .ok (.invokevirtual 134, 3) := by decide +kernel
theorem dX11_ship_156 : decode cX11_ship 156 = .ok (.aload_n 0, 1) := by decide +kernel
theorem dX11_ship_157 : decode cX11_ship 157 = .ok (.getfield 27, 3) := by decide +kernel
theorem dX11_ship_160 : decode cX11_ship 160 = .ok (.getfield 125, 3) := by decide +kernel
theorem dX11_ship_163 : decode cX11_ship 163 = .ok (.iload_n 3, 1) := by decide +kernel
theorem dX11_ship_164 : decode cX11_ship 164 = .ok (.iconst 2, 1) := by decide +kernel
theorem dX11_ship_165 : decode cX11_ship 165 = .ok (.iconst 5, 1) := by decide +kernel
theorem dX11_ship_166 : decode cX11_ship 166 = .ok (.iload 9, 2) := by decide +kernel
theorem dX11_ship_168 : decode cX11_ship 168 = .ok (.invokevirtual 134, 3) := by decide +kernel
theorem dX11_ship_171 : decode cX11_ship 171 = .ok (.aload_n 0, 1) := by decide +kernel
theorem dX11_ship_172 : decode cX11_ship 172 = .ok (.getfield 27, 3) := by decide +kernel
theorem dX11_ship_175 : decode cX11_ship 175 = .ok (.getfield 125, 3) := by decide +kernel
theorem dX11_ship_178 : decode cX11_ship 178 = .ok (.iload 4, 2) := by decide +kernel
theorem dX11_ship_180 : decode cX11_ship 180 = .ok (.iconst 3, 1) := by decide +kernel
theorem dX11_ship_181 : decode cX11_ship 181 = .ok (.iconst 5, 1) := by decide +kernel
theorem dX11_ship_182 : decode cX11_ship 182 = .ok (.iload 9, 2) := by decide +kernel
theorem dX11_ship_184 : decode cX11_ship 184 = .ok (.invokevirtual 134, 3) := by decide +kernel
theorem dX11_ship_187 : decode cX11_ship 187 = .ok (.aload_n 0, 1) := by decide +kernel
theorem dX11_ship_188 : decode cX11_ship 188 = .ok (.dup, 1) := by decide +kernel
theorem dX11_ship_189 : decode cX11_ship 189 = .ok (.getfield 348, 3) := by decide +kernel
theorem dX11_ship_192 : decode cX11_ship 192 = .ok (.dup_x1, 1) := by decide +kernel
theorem dX11_ship_193 : decode cX11_ship 193 = .ok (.iconst 1, 1) := by decide +kernel
theorem dX11_ship_194 : decode cX11_ship 194 = .ok (.iadd, 1) := by decide +kernel
theorem dX11_ship_195 : decode cX11_ship 195 = .ok (.putfield 348, 3) := by decide +kernel
theorem dX11_ship_198 : decode cX11_ship 198 = .ok (.ireturn, 1) := by decide +kernel
def fX11_ship (M : Mc) (p0 : Int32) (p1 : Int32) (p2 : Int32) (p3 : Int32) : Option (Int32 × Mc) := (if p0 < 0 then (some ((-1), M)) else (if p1 < 0 then (some ((-1), M)) else (if p2 < 0 then (some ((-1), M)) else (if 0 ≤ p3 then (if (M 0 10) < (nI 20) then lt ((((p0.toInt64) + (p1.toInt64)) + (p2.toInt64)) + (p3.toInt64)) fun v1 => (if (lg_cmp v1 (((nI 100) - (M (17 + 15) 0)).toInt64)) ≤ 0 then lt ((10 : Int64) * v1) fun v2 => bnd (fX11_passagesAtHome M) fun v4 => (if (lg_cmp v2 (v4.toInt64)) ≤ 0 then lt (wr M 0 12 ((M 0 12) + (v2.toInt32))) fun M5 => lt ((M5 (17) 6) + (nI 34)) fun v6 => bnd (fX3_sailOrders M5 (17 + 15) v6) fun M8 => bnd (fX3_add M8 (17 + 15) p0 0 (nI 5) v6) fun M10 => bnd (fX3_add M10 (17 + 15) p1 (nI 1) (nI 5) v6) fun M12 => bnd (fX3_add M12 (17 + 15) p2 (nI 2) (nI 5) v6) fun M14 => bnd (fX3_add M14 (17 + 15) p3 (nI 3) (nI 5) v6) fun M16 => lt (wr M16 0 10 ((M16 0 10) + (nI 1))) fun M17 => (some ((M16 0 10), M17)) else (some ((-4), M))) else (some ((-3), M))) else (some ((-2), M))) else (some ((-1), M))))))
theorem mX11_ship (l : Launch) {Y : Nat → ClassId} {D : va_G} {σ : Nat → Nat} {np b0 : Nat} {M : Mc} {N : Md} {p0 : Int32} {p1 : Int32} {p2 : Int32} {p3 : Int32} {r : Int32 × Mc} (hf : fX11_ship M p0 p1 p2 p3 = some r) : Met l yX11_ship (.code yX11_ship cX11_ship 10 (some .int) :: lw_g) (rmD 4) (PR Y D σ np b0 [.ref (σ 0), .int p0, .int p1, .int p2, .int p3] M N) (QR Y D σ np b0 (some (.int r.1)) r.2 N) 0 0 (xA b0) := by
  refine x_met (by decide) (Nat.le_of_ble_eq_true rfl) (fun p e s m args below meth c hE hr => ?_)
  unfold fX11_ship at hf
  refine x_pick [0, 1, 2, 3, 4] (L' := [(0, .ref (σ 0)), (1, .int p0), (2, .int p1), (3, .int p2), (4, .int p3)]) rfl ?_
  refine x_iload_n hE 1 dX11_ship_0 rfl rfl ?_
  refine x_if_lt hE 17 dX11_ship_1 (by decide) hf (fun hf => ?_) (fun hf => ?_)
  · refine x_iconst hE (-1) dX11_ship_17 (by decide) ?_
    replace hf := Option.some.inj hf
    subst hf
    exact x_ireturn hE (v := (-1)) hr rfl dX11_ship_18
  · refine x_iload_n hE 2 dX11_ship_4 rfl rfl ?_
    refine x_if_lt hE 17 dX11_ship_5 (by decide) hf (fun hf => ?_) (fun hf => ?_)
    · refine x_iconst hE (-1) dX11_ship_17 (by decide) ?_
      replace hf := Option.some.inj hf
      subst hf
      exact x_ireturn hE (v := (-1)) hr rfl dX11_ship_18
    · refine x_iload_n hE 3 dX11_ship_8 rfl rfl ?_
      refine x_if_lt hE 17 dX11_ship_9 (by decide) hf (fun hf => ?_) (fun hf => ?_)
      · refine x_iconst hE (-1) dX11_ship_17 (by decide) ?_
        replace hf := Option.some.inj hf
        subst hf
        exact x_ireturn hE (v := (-1)) hr rfl dX11_ship_18
      · refine x_iload hE 4 dX11_ship_12 rfl ?_
        refine x_if_ge hE 19 dX11_ship_14 (by decide) hf (fun hf => ?_) (fun hf => ?_)
        · refine x_aload_n hE 0 dX11_ship_19 rfl rfl ?_
          refine x_getI hE cl_11 (hE.kd kO_11) (by decide) 10 rfl (by decide) lk_X11_348 dX11_ship_20 ?_
          refine x_bipush hE (nI 20) dX11_ship_23 (by decide) ?_
          refine x_icmp_lt hE 31 dX11_ship_25 (by decide) hf (fun hf => ?_) (fun hf => ?_)
          · refine x_iload_n hE 1 dX11_ship_31 rfl rfl ?_
            refine x_i2l hE dX11_ship_32 ?_
            refine x_iload_n hE 2 dX11_ship_33 rfl rfl ?_
            refine x_i2l hE dX11_ship_34 ?_
            refine x_ladd hE dX11_ship_35 ?_
            refine x_iload_n hE 3 dX11_ship_36 rfl rfl ?_
            refine x_i2l hE dX11_ship_37 ?_
            refine x_ladd hE dX11_ship_38 ?_
            refine x_iload hE 4 dX11_ship_39 rfl ?_
            refine x_i2l hE dX11_ship_41 ?_
            refine x_ladd hE dX11_ship_42 ?_
            refine x_ltL hf (fun v1 hf => ?_)
            refine x_lstore hE (L' := [(5, .long v1), (0, .ref (σ 0)), (1, .int p0), (2, .int p1), (3, .int p2), (4, .int p3)]) dX11_ship_43 (by decide) rfl ?_
            refine x_pick [1, 2, 3, 4, 5, 0] (L' := [(0, .ref (σ 0)), (1, .int p0), (2, .int p1), (3, .int p2), (4, .int p3), (5, .long v1)]) rfl ?_
            refine x_lload hE 5 dX11_ship_45 rfl ?_
            refine x_bipush hE (nI 100) dX11_ship_47 (by decide) ?_
            refine x_aload_n hE 0 dX11_ship_49 rfl rfl ?_
            refine x_getR hE cl_11 (hE.kd kO_11) (by decide) 2 (17) rfl (by decide) lk_X11_27 dX11_ship_50 ?_
            refine x_getR hE cl_10 (hE.kd (kO_10 hI_17)) (by decide) 2 (17 + 15) rfl (by decide) lk_X11_125 dX11_ship_53 ?_
            refine x_getI hE cl_3 (hE.kd (kO_3 (hL_10_2 hI_17))) (by decide) 0 rfl (by decide) lk_X11_129 dX11_ship_56 ?_
            refine x_isub hE dX11_ship_59 ?_
            refine x_i2l hE dX11_ship_60 ?_
            refine x_lcmp hE dX11_ship_61 ?_
            refine x_if_le hE 68 dX11_ship_62 (by decide) hf (fun hf => ?_) (fun hf => ?_)
            · refine x_ldc2 hE (10 : Int64) lk_X11_351 dX11_ship_68 ?_
              refine x_lload hE 5 dX11_ship_71 rfl ?_
              refine x_lmul hE dX11_ship_73 ?_
              refine x_ltL hf (fun v2 hf => ?_)
              refine x_lstore hE (L' := [(7, .long v2), (0, .ref (σ 0)), (1, .int p0), (2, .int p1), (3, .int p2), (4, .int p3), (5, .long v1)]) dX11_ship_74 (by decide) rfl ?_
              refine x_pick [1, 2, 3, 4, 5, 6, 0] (L' := [(0, .ref (σ 0)), (1, .int p0), (2, .int p1), (3, .int p2), (4, .int p3), (5, .long v1), (7, .long v2)]) rfl ?_
              refine x_lload hE 6 dX11_ship_76 rfl ?_
              refine x_aload_n hE 0 dX11_ship_78 rfl rfl ?_
              obtain ⟨v4, hc3, hf⟩ := bnd_some hf
              refine x_callV1 hE [] (rest := [.long v2]) (v := .int v4) (c1 := M) (d1 := N) rfl yokX11_passagesAtHome yvX11_passagesAtHome lk_X11_353 rfl cl_11 (hE.kd kO_11) (by decide) rfl rfl ⟨Nat.le_of_ble_eq_true rfl, Nat.le_of_ble_eq_true rfl⟩ ⟨Nat.zero_le _, Nat.zero_le _⟩ rfl (Nat.le_of_ble_eq_true rfl) dX11_ship_79 (mX11_passagesAtHome l hc3) ?_
              refine x_i2l hE dX11_ship_82 ?_
              refine x_lcmp hE dX11_ship_83 ?_
              refine x_if_le hE 90 dX11_ship_84 (by decide) hf (fun hf => ?_) (fun hf => ?_)
              · refine x_aload_n hE 0 dX11_ship_90 rfl rfl ?_
                refine x_dup hE dX11_ship_91 rfl ?_
                refine x_getI hE cl_11 (hE.kd kO_11) (by decide) 12 rfl (by decide) lk_X11_356 dX11_ship_92 ?_
                refine x_lload hE 6 dX11_ship_95 rfl ?_
                refine x_l2i hE dX11_ship_97 ?_
                refine x_iadd hE dX11_ship_98 ?_
                refine x_putI hE cl_11 (hE.kd kO_11) (by decide) 12 rfl (by decide) lk_X11_356 rfl rfl rfl rfl dX11_ship_99 hf (fun M5 hf => ?_)
                refine x_aload_n hE 0 dX11_ship_102 rfl rfl ?_
                refine x_getR hE cl_11 (hE.kd kO_11) (by decide) 2 (17) rfl (by decide) lk_X11_27 dX11_ship_103 ?_
                refine x_getI hE cl_10 (hE.kd (kO_10 hI_17)) (by decide) 6 rfl (by decide) lk_X11_232 dX11_ship_106 ?_
                refine x_bipush hE (nI 34) dX11_ship_109 (by decide) ?_
                refine x_iadd hE dX11_ship_111 ?_
                refine x_ltI hf (fun v6 hf => ?_)
                refine x_istore hE (L' := [(9, .int v6), (0, .ref (σ 0)), (1, .int p0), (2, .int p1), (3, .int p2), (4, .int p3), (5, .long v1), (7, .long v2)]) dX11_ship_112 (by decide) rfl ?_
                refine x_pick [1, 2, 3, 4, 5, 6, 7, 0] (L' := [(0, .ref (σ 0)), (1, .int p0), (2, .int p1), (3, .int p2), (4, .int p3), (5, .long v1), (7, .long v2), (9, .int v6)]) rfl ?_
                refine x_aload_n hE 0 dX11_ship_114 rfl rfl ?_
                refine x_getR hE cl_11 (hE.kd kO_11) (by decide) 2 (17) rfl (by decide) lk_X11_27 dX11_ship_115 ?_
                refine x_getR hE cl_10 (hE.kd (kO_10 hI_17)) (by decide) 2 (17 + 15) rfl (by decide) lk_X11_125 dX11_ship_118 ?_
                refine x_iload hE 7 dX11_ship_121 rfl ?_
                obtain ⟨M8, hc7, hf⟩ := bnd_some hf
                refine x_callV0 hE [.int v6] (rest := []) (c1 := M8) (d1 := N) rfl yokX3_sailOrders yvX3_sailOrders lk_X11_359 rfl cl_3 (hE.kd (kO_3 (hL_10_2 hI_17))) (by decide) rfl rfl ⟨Nat.le_of_ble_eq_true rfl, Nat.le_of_ble_eq_true rfl⟩ ⟨Nat.zero_le _, Nat.zero_le _⟩ rfl (Nat.le_of_ble_eq_true rfl) dX11_ship_123 (mX3_sailOrders l (hL_10_2 hI_17) hc7) ?_
                refine x_aload_n hE 0 dX11_ship_126 rfl rfl ?_
                refine x_getR hE cl_11 (hE.kd kO_11) (by decide) 2 (17) rfl (by decide) lk_X11_27 dX11_ship_127 ?_
                refine x_getR hE cl_10 (hE.kd (kO_10 hI_17)) (by decide) 2 (17 + 15) rfl (by decide) lk_X11_125 dX11_ship_130 ?_
                refine x_iload_n hE 1 dX11_ship_133 rfl rfl ?_
                refine x_iconst hE (0 : Int32) dX11_ship_134 (by decide) ?_
                refine x_iconst hE (nI 5) dX11_ship_135 (by decide) ?_
                refine x_iload hE 7 dX11_ship_136 rfl ?_
                obtain ⟨M10, hc9, hf⟩ := bnd_some hf
                refine x_callV0 hE [.int p0, .int 0, .int (nI 5), .int v6] (rest := []) (c1 := M10) (d1 := N) rfl yokX3_add yvX3_add lk_X11_134 rfl cl_3 (hE.kd (kO_3 (hL_10_2 hI_17))) (by decide) rfl rfl ⟨Nat.le_of_ble_eq_true rfl, Nat.le_of_ble_eq_true rfl⟩ ⟨Nat.zero_le _, Nat.zero_le _⟩ rfl (Nat.le_of_ble_eq_true rfl) dX11_ship_138 (mX3_add l (hL_10_2 hI_17) hc9) ?_
                refine x_aload_n hE 0 dX11_ship_141 rfl rfl ?_
                refine x_getR hE cl_11 (hE.kd kO_11) (by decide) 2 (17) rfl (by decide) lk_X11_27 dX11_ship_142 ?_
                refine x_getR hE cl_10 (hE.kd (kO_10 hI_17)) (by decide) 2 (17 + 15) rfl (by decide) lk_X11_125 dX11_ship_145 ?_
                refine x_iload_n hE 2 dX11_ship_148 rfl rfl ?_
                refine x_iconst hE (nI 1) dX11_ship_149 (by decide) ?_
                refine x_iconst hE (nI 5) dX11_ship_150 (by decide) ?_
                refine x_iload hE 7 dX11_ship_151 rfl ?_
                obtain ⟨M12, hc11, hf⟩ := bnd_some hf
                refine x_callV0 hE [.int p1, .int (nI 1), .int (nI 5), .int v6] (rest := []) (c1 := M12) (d1 := N) rfl yokX3_add yvX3_add lk_X11_134 rfl cl_3 (hE.kd (kO_3 (hL_10_2 hI_17))) (by decide) rfl rfl ⟨Nat.le_of_ble_eq_true rfl, Nat.le_of_ble_eq_true rfl⟩ ⟨Nat.zero_le _, Nat.zero_le _⟩ rfl (Nat.le_of_ble_eq_true rfl) dX11_ship_153 (mX3_add l (hL_10_2 hI_17) hc11) ?_
                refine x_aload_n hE 0 dX11_ship_156 rfl rfl ?_
                refine x_getR hE cl_11 (hE.kd kO_11) (by decide) 2 (17) rfl (by decide) lk_X11_27 dX11_ship_157 ?_
                refine x_getR hE cl_10 (hE.kd (kO_10 hI_17)) (by decide) 2 (17 + 15) rfl (by decide) lk_X11_125 dX11_ship_160 ?_
                refine x_iload_n hE 3 dX11_ship_163 rfl rfl ?_
                refine x_iconst hE (nI 2) dX11_ship_164 (by decide) ?_
                refine x_iconst hE (nI 5) dX11_ship_165 (by decide) ?_
                refine x_iload hE 7 dX11_ship_166 rfl ?_
                obtain ⟨M14, hc13, hf⟩ := bnd_some hf
                refine x_callV0 hE [.int p2, .int (nI 2), .int (nI 5), .int v6] (rest := []) (c1 := M14) (d1 := N) rfl yokX3_add yvX3_add lk_X11_134 rfl cl_3 (hE.kd (kO_3 (hL_10_2 hI_17))) (by decide) rfl rfl ⟨Nat.le_of_ble_eq_true rfl, Nat.le_of_ble_eq_true rfl⟩ ⟨Nat.zero_le _, Nat.zero_le _⟩ rfl (Nat.le_of_ble_eq_true rfl) dX11_ship_168 (mX3_add l (hL_10_2 hI_17) hc13) ?_
                refine x_aload_n hE 0 dX11_ship_171 rfl rfl ?_
                refine x_getR hE cl_11 (hE.kd kO_11) (by decide) 2 (17) rfl (by decide) lk_X11_27 dX11_ship_172 ?_
                refine x_getR hE cl_10 (hE.kd (kO_10 hI_17)) (by decide) 2 (17 + 15) rfl (by decide) lk_X11_125 dX11_ship_175 ?_
                refine x_iload hE 4 dX11_ship_178 rfl ?_
                refine x_iconst hE (nI 3) dX11_ship_180 (by decide) ?_
                refine x_iconst hE (nI 5) dX11_ship_181 (by decide) ?_
                refine x_iload hE 7 dX11_ship_182 rfl ?_
                obtain ⟨M16, hc15, hf⟩ := bnd_some hf
                refine x_callV0 hE [.int p3, .int (nI 3), .int (nI 5), .int v6] (rest := []) (c1 := M16) (d1 := N) rfl yokX3_add yvX3_add lk_X11_134 rfl cl_3 (hE.kd (kO_3 (hL_10_2 hI_17))) (by decide) rfl rfl ⟨Nat.le_of_ble_eq_true rfl, Nat.le_of_ble_eq_true rfl⟩ ⟨Nat.zero_le _, Nat.zero_le _⟩ rfl (Nat.le_of_ble_eq_true rfl) dX11_ship_184 (mX3_add l (hL_10_2 hI_17) hc15) ?_
                refine x_aload_n hE 0 dX11_ship_187 rfl rfl ?_
                refine x_dup hE dX11_ship_188 rfl ?_
                refine x_getI hE cl_11 (hE.kd kO_11) (by decide) 10 rfl (by decide) lk_X11_348 dX11_ship_189 ?_
                refine x_dup_x1 hE dX11_ship_192 rfl rfl ?_
                refine x_iconst hE (nI 1) dX11_ship_193 (by decide) ?_
                refine x_iadd hE dX11_ship_194 ?_
                refine x_putI hE cl_11 (hE.kd kO_11) (by decide) 10 rfl (by decide) lk_X11_348 rfl rfl rfl rfl dX11_ship_195 hf (fun M17 hf => ?_)
                replace hf := Option.some.inj hf
                subst hf
                exact x_ireturn hE (v := M16 0 10) hr rfl dX11_ship_198
              · refine x_bipush hE (-4) dX11_ship_87 (by decide) ?_
                replace hf := Option.some.inj hf
                subst hf
                exact x_ireturn hE (v := (-4)) hr rfl dX11_ship_89
            · refine x_bipush hE (-3) dX11_ship_65 (by decide) ?_
              replace hf := Option.some.inj hf
              subst hf
              exact x_ireturn hE (v := (-3)) hr rfl dX11_ship_67
          · refine x_bipush hE (-2) dX11_ship_28 (by decide) ?_
            replace hf := Option.some.inj hf
            subst hf
            exact x_ireturn hE (v := (-2)) hr rfl dX11_ship_30
        · refine x_iconst hE (-1) dX11_ship_17 (by decide) ?_
          replace hf := Option.some.inj hf
          subst hf
          exact x_ireturn hE (v := (-1)) hr rfl dX11_ship_18
theorem yokX11_ship : YOK yX11_ship cX11_ship 10 4 (some .int) := ⟨mem_g 676 (by decide +kernel) (by decide +kernel), mem_g 131 (by decide +kernel) (by decide +kernel), by decide +kernel, by decide +kernel, by decide +kernel⟩
theorem yvX11_ship : YV yX11_ship := ⟨mem_g 674 (by decide +kernel) (by decide +kernel), mem_g 675 (by decide +kernel) (by decide +kernel)⟩
theorem dX11_passages_0 : decode cX11_passages 0 = .ok (.aload_n 0, 1) := by decide +kernel
theorem dX11_passages_1 : decode cX11_passages 1 = .ok (.invokevirtual 353, 3) := by decide +kernel
theorem dX11_passages_4 : decode cX11_passages 4 = .ok (.ireturn, 1) := by decide +kernel
def fX11_passages (M : Mc) : Option (Int32) := bnd (fX11_passagesAtHome M) fun v2 => (some (v2))
theorem mX11_passages (l : Launch) {Y : Nat → ClassId} {D : va_G} {σ : Nat → Nat} {np b0 : Nat} {M : Mc} {N : Md} {r : Int32} (hf : fX11_passages M = some r) : Met l yX11_passages (.code yX11_passages cX11_passages 1 (some .int) :: lw_g) (rmD 4) (PR Y D σ np b0 [.ref (σ 0)] M N) (QR Y D σ np b0 (some (.int r)) M N) 0 0 (xA b0) := by
  refine x_met (by decide) (Nat.le_of_ble_eq_true rfl) (fun p e s m args below meth c hE hr => ?_)
  unfold fX11_passages at hf
  refine x_pick [0] (L' := [(0, .ref (σ 0))]) rfl ?_
  refine x_aload_n hE 0 dX11_passages_0 rfl rfl ?_
  obtain ⟨v2, hc1, hf⟩ := bnd_some hf
  refine x_callV1 hE [] (rest := []) (v := .int v2) (c1 := M) (d1 := N) rfl yokX11_passagesAtHome yvX11_passagesAtHome lk_X11_353 rfl cl_11 (hE.kd kO_11) (by decide) rfl rfl ⟨Nat.le_of_ble_eq_true rfl, Nat.le_of_ble_eq_true rfl⟩ ⟨Nat.zero_le _, Nat.zero_le _⟩ rfl (Nat.le_of_ble_eq_true rfl) dX11_passages_1 (mX11_passagesAtHome l hc1) ?_
  replace hf := Option.some.inj hf
  subst hf
  exact x_ireturn hE (v := v2) hr rfl dX11_passages_4
theorem yokX11_passages : YOK yX11_passages cX11_passages 1 0 (some .int) := ⟨mem_g 694 (by decide +kernel) (by decide +kernel), mem_g 131 (by decide +kernel) (by decide +kernel), by decide +kernel, by decide +kernel, by decide +kernel⟩
theorem yvX11_passages : YV yX11_passages := ⟨mem_g 692 (by decide +kernel) (by decide +kernel), mem_g 693 (by decide +kernel) (by decide +kernel)⟩
theorem dX11_isPrice_0 : decode cX11_isPrice 0 = .ok (.iload_n 0, 1) := by decide +kernel
theorem dX11_isPrice_1 : decode cX11_isPrice 1 = .ok (.iconst 1, 1) := by decide +kernel
theorem dX11_isPrice_2 : decode cX11_isPrice 2 = .ok (.if_icmp .lt 14, 3) := by decide +kernel
theorem dX11_isPrice_5 : decode cX11_isPrice 5 = .ok (.iload_n 0, 1) := by decide +kernel
theorem dX11_isPrice_6 : decode cX11_isPrice 6 = .ok (.sipush 1000, 3) := by decide +kernel
theorem dX11_isPrice_9 : decode cX11_isPrice 9 = .ok (.if_icmp .gt 7, 3) := by decide +kernel
theorem dX11_isPrice_12 : decode cX11_isPrice 12 = .ok (.iconst 1, 1) := by decide +kernel
theorem dX11_isPrice_13 : decode cX11_isPrice 13 = .ok (.goto 4, 3) := by decide +kernel
theorem dX11_isPrice_16 : decode cX11_isPrice 16 = .ok (.iconst 0, 1) := by decide +kernel
theorem dX11_isPrice_17 : decode cX11_isPrice 17 = .ok (.ireturn, 1) := by decide +kernel
def fX11_isPrice (p0 : Int32) : Option (Int32) := (if p0 < (nI 1) then (some (0)) else (if (nI 1000) < p0 then (some (0)) else (some ((nI 1)))))
theorem mX11_isPrice (l : Launch) {Y : Nat → ClassId} {D : va_G} {σ : Nat → Nat} {np b0 : Nat} {M : Mc} {N : Md} {p0 : Int32} {r : Int32} (hf : fX11_isPrice p0 = some r) : Met l yX11_isPrice (.code yX11_isPrice cX11_isPrice 1 (some .boolean) :: lw_g) (rmD 1) (PR Y D σ np b0 [.int p0] M N) (QR Y D σ np b0 (some (.int r)) M N) 0 0 (xA b0) := by
  refine x_met (by decide) (Nat.le_of_ble_eq_true rfl) (fun p e s m args below meth c hE hr => ?_)
  unfold fX11_isPrice at hf
  refine x_pick [0] (L' := [(0, .int p0)]) rfl ?_
  refine x_iload_n hE 0 dX11_isPrice_0 rfl rfl ?_
  refine x_iconst hE (nI 1) dX11_isPrice_1 (by decide) ?_
  refine x_icmp_lt hE 16 dX11_isPrice_2 (by decide) hf (fun hf => ?_) (fun hf => ?_)
  · refine x_iconst hE (0 : Int32) dX11_isPrice_16 (by decide) ?_
    replace hf := Option.some.inj hf
    subst hf
    exact x_ireturn hE (v := 0) hr rfl dX11_isPrice_17
  · refine x_iload_n hE 0 dX11_isPrice_5 rfl rfl ?_
    refine x_sipush hE (nI 1000) dX11_isPrice_6 (by decide) ?_
    refine x_icmp_gt hE 16 dX11_isPrice_9 (by decide) hf (fun hf => ?_) (fun hf => ?_)
    · refine x_iconst hE (0 : Int32) dX11_isPrice_16 (by decide) ?_
      replace hf := Option.some.inj hf
      subst hf
      exact x_ireturn hE (v := 0) hr rfl dX11_isPrice_17
    · refine x_iconst hE (nI 1) dX11_isPrice_12 (by decide) ?_
      refine x_goto hE 17 dX11_isPrice_13 (by decide) ?_
      replace hf := Option.some.inj hf
      subst hf
      exact x_ireturn hE (v := nI 1) hr rfl dX11_isPrice_17
theorem yokX11_isPrice : YOK yX11_isPrice cX11_isPrice 1 1 (some .boolean) := ⟨mem_g 1876 (by decide +kernel) (by decide +kernel), mem_g 131 (by decide +kernel) (by decide +kernel), by decide +kernel, by decide +kernel, by decide +kernel⟩
theorem ysX11_isPrice : Cond.static yX11_isPrice ∈ lw_g := mem_g 1875 (by decide +kernel) (by decide +kernel)
theorem dX11_putThree_0 : decode cX11_putThree 0 = .ok (.aload_n 0, 1) := by decide +kernel
theorem dX11_putThree_1 : decode cX11_putThree 1 = .ok (.arraylength, 1) := by decide +kernel
theorem dX11_putThree_2 : decode cX11_putThree 2 = .ok (.iconst 3, 1) := by decide +kernel
theorem dX11_putThree_3 : decode cX11_putThree 3 = .ok (.if_icmp .ge 4, 3) := by decide +kernel
theorem dX11_putThree_6 : decode cX11_putThree 6 = .ok (.return_, 1) := by decide +kernel
theorem dX11_putThree_7 : decode cX11_putThree 7 = .ok (.aload_n 0, 1) := by decide +kernel
theorem dX11_putThree_8 : decode cX11_putThree 8 = .ok (.iconst 0, 1) := by decide +kernel
theorem dX11_putThree_9 : decode cX11_putThree 9 = .ok (.iload_n 1, 1) := by decide +kernel
theorem dX11_putThree_10 : decode cX11_putThree 10 = .ok (.iastore, 1) := by decide +kernel
theorem dX11_putThree_11 : decode cX11_putThree 11 = .ok (.aload_n 0, 1) := by decide +kernel
theorem dX11_putThree_12 : decode cX11_putThree 12 = .ok (.iconst 1, 1) := by decide +kernel
theorem dX11_putThree_13 : decode cX11_putThree 13 = .ok (.iload_n 2, 1) := by decide +kernel
theorem dX11_putThree_14 : decode cX11_putThree 14 = .ok (.iastore, 1) := by decide +kernel
theorem dX11_putThree_15 : decode cX11_putThree 15 = .ok (.aload_n 0, 1) := by decide +kernel
theorem dX11_putThree_16 : decode cX11_putThree 16 = .ok (.iconst 2, 1) := by decide +kernel
theorem dX11_putThree_17 : decode cX11_putThree 17 = .ok (.iload_n 3, 1) := by decide +kernel
theorem dX11_putThree_18 : decode cX11_putThree 18 = .ok (.iastore, 1) := by decide +kernel
theorem dX11_putThree_19 : decode cX11_putThree 19 = .ok (.return_, 1) := by decide +kernel
def fX11_putThree (M : Mc) (k0 : Nat) (p0 : Int32) (p1 : Int32) (p2 : Int32) : Option (Mc) := (if (nI 3) ≤ (nI 3) then chk 0 3 (lt (wr M k0 (0 : Int32).toNatClampNeg p0) fun M1 => chk (nI 1) 3 (lt (wr M1 k0 (nI 1).toNatClampNeg p1) fun M2 => chk (nI 2) 3 (lt (wr M2 k0 (nI 2).toNatClampNeg p2) fun M3 => (some (M3))))) else (some (M)))
theorem mX11_putThree (l : Launch) {Y : Nat → ClassId} {D : va_G} {σ : Nat → Nat} {np b0 : Nat} {M : Mc} {N : Md} {k0 : Nat} {p0 : Int32} {p1 : Int32} {p2 : Int32} {r : Mc} (hk0 : k0 < 146 ∧ kd k0 = (100, 3, [])) (hf : fX11_putThree M k0 p0 p1 p2 = some r) : Met l yX11_putThree (.code yX11_putThree cX11_putThree 4 none :: lw_g) (rmD 1) (PR Y D σ np b0 [.ref (σ k0), .int p0, .int p1, .int p2] M N) (QR Y D σ np b0 none r N) 0 0 (xA b0) := by
  refine x_met (by decide) (Nat.le_of_ble_eq_true rfl) (fun p e s m args below meth c hE hr => ?_)
  unfold fX11_putThree at hf
  refine x_pick [0, 1, 2, 3] (L' := [(0, .ref (σ k0)), (1, .int p0), (2, .int p1), (3, .int p2)]) rfl ?_
  refine x_aload_n hE 0 dX11_putThree_0 rfl rfl ?_
  refine x_alen hE (nI 3) (hE.kd hk0) (Or.inl rfl) rfl dX11_putThree_1 ?_
  refine x_iconst hE (nI 3) dX11_putThree_2 (by decide) ?_
  refine x_icmp_ge hE 7 dX11_putThree_3 (by decide) hf (fun hf => ?_) (fun hf => ?_)
  · refine x_aload_n hE 0 dX11_putThree_7 rfl rfl ?_
    refine x_iconst hE (0 : Int32) dX11_putThree_8 (by decide) ?_
    refine x_iload_n hE 1 dX11_putThree_9 rfl rfl ?_
    refine x_iast hE (hE.kd hk0) dX11_putThree_10 hf (fun M1 hf => ?_)
    refine x_aload_n hE 0 dX11_putThree_11 rfl rfl ?_
    refine x_iconst hE (nI 1) dX11_putThree_12 (by decide) ?_
    refine x_iload_n hE 2 dX11_putThree_13 rfl rfl ?_
    refine x_iast hE (hE.kd hk0) dX11_putThree_14 hf (fun M2 hf => ?_)
    refine x_aload_n hE 0 dX11_putThree_15 rfl rfl ?_
    refine x_iconst hE (nI 2) dX11_putThree_16 (by decide) ?_
    refine x_iload_n hE 3 dX11_putThree_17 rfl rfl ?_
    refine x_iast hE (hE.kd hk0) dX11_putThree_18 hf (fun M3 hf => ?_)
    replace hf := Option.some.inj hf
    subst hf
    exact x_vreturn hE hr dX11_putThree_19
  · replace hf := Option.some.inj hf
    subst hf
    exact x_vreturn hE hr dX11_putThree_6
theorem yokX11_putThree : YOK yX11_putThree cX11_putThree 4 4 none := ⟨mem_g 1879 (by decide +kernel) (by decide +kernel), mem_g 131 (by decide +kernel) (by decide +kernel), by decide +kernel, by decide +kernel, by decide +kernel⟩
theorem ysX11_putThree : Cond.static yX11_putThree ∈ lw_g := mem_g 1878 (by decide +kernel) (by decide +kernel)
theorem dX11_isRain_0 : decode cX11_isRain 0 = .ok (.iload_n 0, 1) := by decide +kernel
theorem dX11_isRain_1 : decode cX11_isRain 1 = .ok (.ifCond .lt 14, 3) := by decide +kernel
theorem dX11_isRain_4 : decode cX11_isRain 4 = .ok (.iload_n 0, 1) := by decide +kernel
theorem dX11_isRain_5 : decode cX11_isRain 5 = .ok (.sipush 500, 3) := by decide +kernel
theorem dX11_isRain_8 : decode cX11_isRain 8 = .ok (.if_icmp .gt 7, 3) := by decide +kernel
theorem dX11_isRain_11 : decode cX11_isRain 11 = .ok (.iconst 1, 1) := by decide +kernel
theorem dX11_isRain_12 : decode cX11_isRain 12 = .ok (.goto 4, 3) := by decide +kernel
theorem dX11_isRain_15 : decode cX11_isRain 15 = .ok (.iconst 0, 1) := by decide +kernel
theorem dX11_isRain_16 : decode cX11_isRain 16 = .ok (.ireturn, 1) := by decide +kernel
def fX11_isRain (p0 : Int32) : Option (Int32) := (if p0 < 0 then (some (0)) else (if (nI 500) < p0 then (some (0)) else (some ((nI 1)))))
theorem mX11_isRain (l : Launch) {Y : Nat → ClassId} {D : va_G} {σ : Nat → Nat} {np b0 : Nat} {M : Mc} {N : Md} {p0 : Int32} {r : Int32} (hf : fX11_isRain p0 = some r) : Met l yX11_isRain (.code yX11_isRain cX11_isRain 1 (some .boolean) :: lw_g) (rmD 1) (PR Y D σ np b0 [.int p0] M N) (QR Y D σ np b0 (some (.int r)) M N) 0 0 (xA b0) := by
  refine x_met (by decide) (Nat.le_of_ble_eq_true rfl) (fun p e s m args below meth c hE hr => ?_)
  unfold fX11_isRain at hf
  refine x_pick [0] (L' := [(0, .int p0)]) rfl ?_
  refine x_iload_n hE 0 dX11_isRain_0 rfl rfl ?_
  refine x_if_lt hE 15 dX11_isRain_1 (by decide) hf (fun hf => ?_) (fun hf => ?_)
  · refine x_iconst hE (0 : Int32) dX11_isRain_15 (by decide) ?_
    replace hf := Option.some.inj hf
    subst hf
    exact x_ireturn hE (v := 0) hr rfl dX11_isRain_16
  · refine x_iload_n hE 0 dX11_isRain_4 rfl rfl ?_
    refine x_sipush hE (nI 500) dX11_isRain_5 (by decide) ?_
    refine x_icmp_gt hE 15 dX11_isRain_8 (by decide) hf (fun hf => ?_) (fun hf => ?_)
    · refine x_iconst hE (0 : Int32) dX11_isRain_15 (by decide) ?_
      replace hf := Option.some.inj hf
      subst hf
      exact x_ireturn hE (v := 0) hr rfl dX11_isRain_16
    · refine x_iconst hE (nI 1) dX11_isRain_11 (by decide) ?_
      refine x_goto hE 16 dX11_isRain_12 (by decide) ?_
      replace hf := Option.some.inj hf
      subst hf
      exact x_ireturn hE (v := nI 1) hr rfl dX11_isRain_16
theorem yokX11_isRain : YOK yX11_isRain cX11_isRain 1 1 (some .boolean) := ⟨mem_g 1889 (by decide +kernel) (by decide +kernel), mem_g 131 (by decide +kernel) (by decide +kernel), by decide +kernel, by decide +kernel, by decide +kernel⟩
theorem ysX11_isRain : Cond.static yX11_isRain ∈ lw_g := mem_g 1888 (by decide +kernel) (by decide +kernel)
theorem lk_X11_63 : Cond.fieldLink RX11 63 (TX11 13).1 (TX11 13).2.1 (TX11 13).2.2.1 ∈ lw_g := mem_g 575 (by decide +kernel) (by decide +kernel)
theorem dX11_planPriceOf_0 : decode cX11_planPriceOf 0 = .ok (.iload_n 1, 1) := by decide +kernel
theorem dX11_planPriceOf_1 : decode cX11_planPriceOf 1 = .ok (.aload_n 0, 1) := by decide +kernel
theorem dX11_planPriceOf_2 : decode cX11_planPriceOf 2 = .ok (.getfield 63, 3) := by decide +kernel
theorem dX11_planPriceOf_5 : decode cX11_planPriceOf 5 = .ok (.arraylength, 1) := by decide +kernel
theorem dX11_planPriceOf_6 : decode cX11_planPriceOf 6 = .ok (.invokestatic 191, 3) := by decide +kernel
theorem dX11_planPriceOf_9 : decode cX11_planPriceOf 9 = .ok (.ifCond .eq 12, 3) := by decide +kernel
theorem dX11_planPriceOf_12 : decode cX11_planPriceOf 12 = .ok (.aload_n 0, 1) := by decide +kernel
theorem dX11_planPriceOf_13 : decode cX11_planPriceOf 13 = .ok (.getfield 63, 3) := by decide +kernel
theorem dX11_planPriceOf_16 : decode cX11_planPriceOf 16 = .ok (.iload_n 1, 1) := by decide +kernel
theorem dX11_planPriceOf_17 : decode cX11_planPriceOf 17 = .ok (.iaload, 1) := by decide +kernel
theorem dX11_planPriceOf_18 : decode cX11_planPriceOf 18 = .ok (.goto 4, 3) := by decide +kernel
theorem dX11_planPriceOf_21 : decode cX11_planPriceOf 21 = .ok (.iconst 0, 1) := by decide +kernel
theorem dX11_planPriceOf_22 : decode cX11_planPriceOf 22 = .ok (.ireturn, 1) := by decide +kernel
def fX11_planPriceOf (M : Mc) (p0 : Int32) : Option (Int32) := bnd (fX11_inside p0 (nI 3)) fun v2 => (if v2 = 0 then (some (0)) else chk p0 (3) ((some ((M (124) p0.toNatClampNeg)))))
theorem mX11_planPriceOf (l : Launch) {Y : Nat → ClassId} {D : va_G} {σ : Nat → Nat} {np b0 : Nat} {M : Mc} {N : Md} {p0 : Int32} {r : Int32} (hf : fX11_planPriceOf M p0 = some r) : Met l yX11_planPriceOf (.code yX11_planPriceOf cX11_planPriceOf 2 (some .int) :: lw_g) (rmD 2) (PR Y D σ np b0 [.ref (σ 0), .int p0] M N) (QR Y D σ np b0 (some (.int r)) M N) 0 0 (xA b0) := by
  refine x_met (by decide) (Nat.le_of_ble_eq_true rfl) (fun p e s m args below meth c hE hr => ?_)
  unfold fX11_planPriceOf at hf
  refine x_pick [0, 1] (L' := [(0, .ref (σ 0)), (1, .int p0)]) rfl ?_
  refine x_iload_n hE 1 dX11_planPriceOf_0 rfl rfl ?_
  refine x_aload_n hE 0 dX11_planPriceOf_1 rfl rfl ?_
  refine x_getR hE cl_11 (hE.kd kO_11) (by decide) 13 (124) rfl (by decide) lk_X11_63 dX11_planPriceOf_2 ?_
  refine x_alen hE (nI 3) (hE.kd kA_124) (Or.inl rfl) rfl dX11_planPriceOf_5 ?_
  obtain ⟨v2, hc1, hf⟩ := bnd_some hf
  refine x_callS1 hE [.int p0, .int (nI 3)] (rest := []) (v := .int v2) (c1 := M) (d1 := N) rfl yokX11_inside ysX11_inside lk_X11_191 rfl rfl ⟨Nat.le_of_ble_eq_true rfl, Nat.le_of_ble_eq_true rfl⟩ ⟨Nat.zero_le _, Nat.zero_le _⟩ rfl (Nat.le_of_ble_eq_true rfl) dX11_planPriceOf_6 (mX11_inside l hc1) ?_
  refine x_if_eq hE 21 dX11_planPriceOf_9 (by decide) hf (fun hf => ?_) (fun hf => ?_)
  · refine x_iconst hE (0 : Int32) dX11_planPriceOf_21 (by decide) ?_
    replace hf := Option.some.inj hf
    subst hf
    exact x_ireturn hE (v := 0) hr rfl dX11_planPriceOf_22
  · refine x_aload_n hE 0 dX11_planPriceOf_12 rfl rfl ?_
    refine x_getR hE cl_11 (hE.kd kO_11) (by decide) 13 (124) rfl (by decide) lk_X11_63 dX11_planPriceOf_13 ?_
    refine x_iload_n hE 1 dX11_planPriceOf_16 rfl rfl ?_
    refine x_iald hE (hE.kd kA_124) dX11_planPriceOf_17 hf (fun hf => ?_)
    refine x_goto hE 22 dX11_planPriceOf_18 (by decide) ?_
    replace hf := Option.some.inj hf
    subst hf
    exact x_ireturn hE (v := M (124) p0.toNatClampNeg) hr rfl dX11_planPriceOf_22
theorem yokX11_planPriceOf : YOK yX11_planPriceOf cX11_planPriceOf 2 1 (some .int) := ⟨mem_g 1904 (by decide +kernel) (by decide +kernel), mem_g 131 (by decide +kernel) (by decide +kernel), by decide +kernel, by decide +kernel, by decide +kernel⟩
theorem yvX11_planPriceOf : YV yX11_planPriceOf := ⟨mem_g 1903 (by decide +kernel) (by decide +kernel), mem_g 54 (by decide +kernel) (by decide +kernel)⟩
theorem lk_X11_429 : Cond.fieldLink RX11 429 (TX11 16).1 (TX11 16).2.1 (TX11 16).2.2.1 ∈ lw_g := mem_g 578 (by decide +kernel) (by decide +kernel)
theorem lk_X11_31 : Cond.fieldLink RX11 31 (TX11 3).1 (TX11 3).2.1 (TX11 3).2.2.1 ∈ lw_g := mem_g 565 (by decide +kernel) (by decide +kernel)
theorem lk_X11_165 : Cond.methodLink RX11 165 yX10_copyFrom ∈ lw_g := mem_g 1036 (by decide +kernel) (by decide +kernel)
theorem lk_X11_66 : Cond.fieldLink RX11 66 (TX11 15).1 (TX11 15).2.1 (TX11 15).2.2.1 ∈ lw_g := mem_g 577 (by decide +kernel) (by decide +kernel)
theorem lk_X11_471 : Cond.fieldLink RX11 471 (TX10 12).1 (TX10 12).2.1 (TX10 12).2.2.1 ∈ lw_g := mem_g 436 (by decide +kernel) (by decide +kernel)
theorem lk_X11_69 : Cond.fieldLink RX11 69 (TX11 17).1 (TX11 17).2.1 (TX11 17).2.2.1 ∈ lw_g := mem_g 579 (by decide +kernel) (by decide +kernel)
theorem lk_X11_403 : Cond.fieldLink RX11 403 (TX3 2).1 (TX3 2).2.1 (TX3 2).2.2.1 ∈ lw_g := mem_g 264 (by decide +kernel) (by decide +kernel)
theorem lk_X11_477 : Cond.methodLink RX11 477 Lib.Math.max.name ∈ lw_g := mem_g 1905 (by decide +kernel) (by decide +kernel)
theorem lk_X11_80 : Cond.fieldLink RX11 80 (TX10 1).1 (TX10 1).2.1 (TX10 1).2.2.1 ∈ lw_g := mem_g 408 (by decide +kernel) (by decide +kernel)
theorem lk_X11_400 : Cond.fieldLink RX11 400 (TX4 10).1 (TX4 10).2.1 (TX4 10).2.2.1 ∈ lw_g := mem_g 214 (by decide +kernel) (by decide +kernel)
theorem lk_X11_482 : Cond.methodLink RX11 482 Lib.Math.min.name ∈ lw_g := mem_g 1906 (by decide +kernel) (by decide +kernel)
theorem lk_X11_474 : Cond.methodLink RX11 474 yX11_planPriceOf ∈ lw_g := mem_g 1901 (by decide +kernel) (by decide +kernel)
theorem lk_X11_394 : Cond.fieldLink RX11 394 (TX10 10).1 (TX10 10).2.1 (TX10 10).2.2.1 ∈ lw_g := mem_g 432 (by decide +kernel) (by decide +kernel)
theorem lk_X11_384 : Cond.methodLink RX11 384 yX10_goOn ∈ lw_g := mem_g 1676 (by decide +kernel) (by decide +kernel)
theorem dX11_tryRow_0 : decode cX11_tryRow 0 = .ok (.iload_n 1, 1) := by decide +kernel
theorem dX11_tryRow_1 : decode cX11_tryRow 1 = .ok (.iconst 2, 1) := by decide +kernel
theorem dX11_tryRow_2 : decode cX11_tryRow 2 = .ok (.if_icmp .ne 9, 3) := by decide +kernel
theorem dX11_tryRow_5 : decode cX11_tryRow 5 = .ok (.iload_n 2, 1) := by decide +kernel
theorem dX11_tryRow_6 : decode cX11_tryRow 6 = .ok (.iconst 3, 1) := by decide +kernel
theorem dX11_tryRow_7 : decode cX11_tryRow 7 = .ok (.idiv, 1) := by decide +kernel
theorem dX11_tryRow_8 : decode cX11_tryRow 8 = .ok (.goto 4, 3) := by decide +kernel
theorem dX11_tryRow_11 : decode cX11_tryRow 11 = .ok (.iload_n 2, 1) := by decide +kernel
theorem dX11_tryRow_12 : decode cX11_tryRow 12 = .ok (.istore_n 3, 1) := by decide +kernel
theorem dX11_tryRow_13 : decode cX11_tryRow 13 = .ok (.iload_n 2, 1) := by decide +kernel
theorem dX11_tryRow_14 : decode cX11_tryRow 14 = .ok (.iconst 3, 1) := by decide +kernel
theorem dX11_tryRow_15 : decode cX11_tryRow 15 = .ok (.irem, 1) := by decide +kernel
theorem dX11_tryRow_16 : decode cX11_tryRow 16 = .ok (.istore 4, 2) := by decide +kernel
theorem dX11_tryRow_18 : decode cX11_tryRow 18 = .ok (.iconst 0, 1) := by decide +kernel
theorem dX11_tryRow_19 : decode cX11_tryRow 19 = .ok (.istore 5, 2) := by decide +kernel
theorem dX11_tryRow_21 : decode cX11_tryRow 21 = .ok (.bipush 96, 2) := by decide +kernel
theorem dX11_tryRow_23 : decode cX11_tryRow 23 = .ok (.istore 6, 2) := by decide +kernel
theorem dX11_tryRow_25 : decode cX11_tryRow 25 = .ok (.iconst 0, 1) := by decide +kernel
theorem dX11_tryRow_26 : decode cX11_tryRow 26 = .ok (.istore 7, 2) := by decide +kernel
theorem dX11_tryRow_28 : decode cX11_tryRow 28 = .ok (.iload 7, 2) := by decide +kernel
theorem dX11_tryRow_30 : decode cX11_tryRow 30 = .ok (.aload_n 0, 1) := by decide +kernel
theorem dX11_tryRow_31 : decode cX11_tryRow 31 = .ok (.getfield 429, 3) := by decide +kernel
theorem dX11_tryRow_34 : decode cX11_tryRow 34 = .ok (.if_icmp .ge 123, 3) := by decide +kernel
theorem dX11_tryRow_37 : decode cX11_tryRow 37 = .ok (.iload 7, 2) := by decide +kernel
theorem dX11_tryRow_39 : decode cX11_tryRow 39 = .ok (.iconst 3, 1) := by decide +kernel
theorem dX11_tryRow_40 : decode cX11_tryRow 40 = .ok (.if_icmp .ge 117, 3) := by decide +kernel
theorem dX11_tryRow_43 : decode cX11_tryRow 43 = .ok (.aload_n 0, 1) := by decide +kernel
theorem dX11_tryRow_44 : decode cX11_tryRow 44 = .ok (.getfield 31, 3) := by decide +kernel
theorem dX11_tryRow_47 : decode cX11_tryRow 47 = .ok (.aload_n 0, 1) := by decide +kernel
theorem dX11_tryRow_48 : decode cX11_tryRow 48 = .ok (.getfield 27, 3) := by decide +kernel
theorem dX11_tryRow_51 : decode cX11_tryRow 51 = .ok (.invokevirtual 165, 3) := by decide +kernel
theorem dX11_tryRow_54 : decode cX11_tryRow 54 = .ok (.aload_n 0, 1) := by decide +kernel
theorem dX11_tryRow_55 : decode cX11_tryRow 55 = .ok (.getfield 31, 3) := by decide +kernel
theorem dX11_tryRow_58 : decode cX11_tryRow 58 = .ok (.aload_n 0, 1) := by decide +kernel
theorem dX11_tryRow_59 : decode cX11_tryRow 59 = .ok (.getfield 66, 3) := by decide +kernel
theorem dX11_tryRow_62 : decode cX11_tryRow 62 = .ok (.iload 7, 2) := by decide +kernel
theorem dX11_tryRow_64 : decode cX11_tryRow 64 = .ok (.iaload, 1) := by decide +kernel
theorem dX11_tryRow_65 : decode cX11_tryRow 65 = .ok (.putfield 471, 3) := by decide +kernel
theorem dX11_tryRow_68 : decode cX11_tryRow 68 = .ok (.iconst 0, 1) := by decide +kernel
theorem dX11_tryRow_69 : decode cX11_tryRow 69 = .ok (.istore 8, 2) := by decide +kernel
theorem dX11_tryRow_71 : decode cX11_tryRow 71 = .ok (.iload 8, 2) := by decide +kernel
theorem dX11_tryRow_73 : decode cX11_tryRow 73 = .ok (.iload_n 1, 1) := by decide +kernel
theorem dX11_tryRow_74 : decode cX11_tryRow 74 = .ok (.bipush 13, 2) := by decide +kernel
theorem dX11_tryRow_76 : decode cX11_tryRow 76 = .ok (.imul, 1) := by decide +kernel
theorem dX11_tryRow_77 : decode cX11_tryRow 77 = .ok (.if_icmp .ge 40, 3) := by decide +kernel
theorem dX11_tryRow_80 : decode cX11_tryRow 80 = .ok (.aload_n 0, 1) := by decide +kernel
theorem dX11_tryRow_81 : decode cX11_tryRow 81 = .ok (.getfield 31, 3) := by decide +kernel
theorem dX11_tryRow_84 : decode cX11_tryRow 84 = .ok (.aload_n 0, 1) := by decide +kernel
theorem dX11_tryRow_85 : decode cX11_tryRow 85 = .ok (.iload 8, 2) := by decide +kernel
theorem dX11_tryRow_87 : decode cX11_tryRow 87 = .ok (.bipush 13, 2) := by decide +kernel
theorem dX11_tryRow_89 : decode cX11_tryRow 89 = .ok (.if_icmp .ge 7, 3) := by decide +kernel
theorem dX11_tryRow_92 : decode cX11_tryRow 92 = .ok (.iload_n 3, 1) := by decide +kernel
theorem dX11_tryRow_93 : decode cX11_tryRow 93 = .ok (.goto 5, 3) := by decide +kernel
theorem dX11_tryRow_96 : decode cX11_tryRow 96 = .ok (.iload 4, 2) := by decide +kernel
theorem dX11_tryRow_98 : decode cX11_tryRow 98 = .ok (.invokevirtual 474, 3) := by decide +kernel
theorem dX11_tryRow_101 : decode cX11_tryRow 101 = .ok (.putfield 394, 3) := by decide +kernel
theorem dX11_tryRow_104 : decode cX11_tryRow 104 = .ok (.aload_n 0, 1) := by decide +kernel
theorem dX11_tryRow_105 : decode cX11_tryRow 105 = .ok (.getfield 31, 3) := by decide +kernel
theorem dX11_tryRow_108 : decode cX11_tryRow 108 = .ok (.invokevirtual 384, 3) := by decide +kernel
theorem dX11_tryRow_111 : decode cX11_tryRow 111 = .ok (.iinc 8 1, 3) := by decide +kernel
theorem dX11_tryRow_114 : decode cX11_tryRow 114 = .ok (.goto (-43), 3) := by decide +kernel
theorem dX11_tryRow_117 : decode cX11_tryRow 117 = .ok (.iload 5, 2) := by decide +kernel
theorem dX11_tryRow_119 : decode cX11_tryRow 119 = .ok (.aload_n 0, 1) := by decide +kernel
theorem dX11_tryRow_120 : decode cX11_tryRow 120 = .ok (.getfield 31, 3) := by decide +kernel
theorem dX11_tryRow_123 : decode cX11_tryRow 123 = .ok (.getfield 125, 3) := by decide +kernel
theorem dX11_tryRow_126 : decode cX11_tryRow 126 = .ok (.getfield 403, 3) := by decide +kernel
theorem dX11_tryRow_129 : decode cX11_tryRow 129 = .ok (.invokestatic 477, 3) := by decide +kernel
theorem dX11_tryRow_132 : decode cX11_tryRow 132 = .ok (.istore 5, 2) := by decide +kernel
theorem dX11_tryRow_134 : decode cX11_tryRow 134 = .ok (.iload 6, 2) := by decide +kernel
theorem dX11_tryRow_136 : decode cX11_tryRow 136 = .ok (.aload_n 0, 1) := by decide +kernel
theorem dX11_tryRow_137 : decode cX11_tryRow 137 = .ok (.getfield 31, 3) := by decide +kernel
theorem dX11_tryRow_140 : decode cX11_tryRow 140 = .ok (.getfield 80, 3) := by decide +kernel
theorem dX11_tryRow_143 : decode cX11_tryRow 143 = .ok (.getfield 400, 3) := by decide +kernel
theorem dX11_tryRow_146 : decode cX11_tryRow 146 = .ok (.invokestatic 482, 3) := by decide +kernel
theorem dX11_tryRow_149 : decode cX11_tryRow 149 = .ok (.istore 6, 2) := by decide +kernel
theorem dX11_tryRow_151 : decode cX11_tryRow 151 = .ok (.iinc 7 1, 3) := by decide +kernel
theorem dX11_tryRow_154 : decode cX11_tryRow 154 = .ok (.goto (-126), 3) := by decide +kernel
theorem dX11_tryRow_157 : decode cX11_tryRow 157 = .ok (.iload 5, 2) := by decide +kernel
theorem dX11_tryRow_159 : decode cX11_tryRow 159 = .ok (.aload_n 0, 1) := by decide +kernel
theorem dX11_tryRow_160 : decode cX11_tryRow 160 = .ok (.getfield 69, 3) := by decide +kernel
theorem dX11_tryRow_163 : decode cX11_tryRow 163 = .ok (.iconst 2, 1) := by decide +kernel
theorem dX11_tryRow_164 : decode cX11_tryRow 164 = .ok (.iaload, 1) := by decide +kernel
theorem dX11_tryRow_165 : decode cX11_tryRow 165 = .ok (.if_icmp .lt 25, 3) := by decide +kernel
theorem dX11_tryRow_168 : decode cX11_tryRow 168 = .ok (.iload 5, 2) := by decide +kernel
theorem dX11_tryRow_170 : decode cX11_tryRow 170 = .ok (.aload_n 0, 1) := by decide +kernel
theorem dX11_tryRow_171 : decode cX11_tryRow 171 = .ok (.getfield 69, 3) := by decide +kernel
theorem dX11_tryRow_174 : decode cX11_tryRow 174 = .ok (.iconst 2, 1) := by decide +kernel
theorem dX11_tryRow_175 : decode cX11_tryRow 175 = .ok (.iaload, 1) := by decide +kernel
theorem dX11_tryRow_176 : decode cX11_tryRow 176 = .ok (.if_icmp .ne 18, 3) := by decide +kernel
theorem dX11_tryRow_179 : decode cX11_tryRow 179 = .ok (.iload 6, 2) := by decide +kernel
theorem dX11_tryRow_181 : decode cX11_tryRow 181 = .ok (.aload_n 0, 1) := by decide +kernel
theorem dX11_tryRow_182 : decode cX11_tryRow 182 = .ok (.getfield 69, 3) := by decide +kernel
theorem dX11_tryRow_185 : decode cX11_tryRow 185 = .ok (.iconst 3, 1) := by decide +kernel
theorem dX11_tryRow_186 : decode cX11_tryRow 186 = .ok (.iaload, 1) := by decide +kernel
theorem dX11_tryRow_187 : decode cX11_tryRow 187 = .ok (.if_icmp .le 7, 3) := by decide +kernel
theorem dX11_tryRow_190 : decode cX11_tryRow 190 = .ok (.iconst 1, 1) := by decide +kernel
theorem dX11_tryRow_191 : decode cX11_tryRow 191 = .ok (.goto 4, 3) := by decide +kernel
theorem dX11_tryRow_194 : decode cX11_tryRow 194 = .ok (.iconst 0, 1) := by decide +kernel
theorem dX11_tryRow_195 : decode cX11_tryRow 195 = .ok (.istore 7, 2) := by decide +kernel
theorem dX11_tryRow_197 : decode cX11_tryRow 197 = .ok (.iload_n 2, 1) := by decide +kernel
theorem dX11_tryRow_198 : decode cX11_tryRow 198 = .ok (.ifCond .le 9, 3) := by decide +kernel
theorem dX11_tryRow_201 : decode cX11_tryRow 201 = .ok (.iload 7, 2) := by decide +kernel
theorem dX11_tryRow_203 : decode cX11_tryRow 203 = .ok (.ifCond .ne 4, 3) := by decide +kernel
theorem dX11_tryRow_206 : decode cX11_tryRow 206 = .ok (.return_, 1) := by decide +kernel
theorem dX11_tryRow_207 : decode cX11_tryRow 207 = .ok (.aload_n 0, 1) := by decide +kernel
theorem dX11_tryRow_208 : decode cX11_tryRow 208 = .ok (.getfield 69, 3) := by decide +kernel
theorem dX11_tryRow_211 : decode cX11_tryRow 211 = .ok (.iconst 0, 1) := by decide +kernel
theorem dX11_tryRow_212 : decode cX11_tryRow 212 = .ok (.iload_n 3, 1) := by decide +kernel
theorem dX11_tryRow_213 : decode cX11_tryRow 213 = .ok (.iastore, 1) := by decide +kernel
theorem dX11_tryRow_214 : decode cX11_tryRow 214 = .ok (.aload_n 0, 1) := by decide +kernel
theorem dX11_tryRow_215 : decode cX11_tryRow 215 = .ok (.getfield 69, 3) := by decide +kernel
theorem dX11_tryRow_218 : decode cX11_tryRow 218 = .ok (.iconst 1, 1) := by decide +kernel
theorem dX11_tryRow_219 : decode cX11_tryRow 219 = .ok (.iload_n 1, 1) := by decide +kernel
theorem dX11_tryRow_220 : decode cX11_tryRow 220 = .ok (.iconst 2, 1) := by decide +kernel
theorem dX11_tryRow_221 : decode cX11_tryRow 221 = .ok (.if_icmp .ne 8, 3) := by decide +kernel
theorem dX11_tryRow_224 : decode cX11_tryRow 224 = .ok (.iload 4, 2) := by decide +kernel
theorem dX11_tryRow_226 : decode cX11_tryRow 226 = .ok (.goto 4, 3) := by decide +kernel
theorem dX11_tryRow_229 : decode cX11_tryRow 229 = .ok (.iconst (-1), 1) := by decide +kernel
theorem dX11_tryRow_230 : decode cX11_tryRow 230 = .ok (.iastore, 1) := by decide +kernel
theorem dX11_tryRow_231 : decode cX11_tryRow 231 = .ok (.aload_n 0, 1) := by decide +kernel
theorem dX11_tryRow_232 : decode cX11_tryRow 232 = .ok (.getfield 69, 3) := by decide +kernel
theorem dX11_tryRow_235 : decode cX11_tryRow 235 = .ok (.iconst 2, 1) := by decide +kernel
theorem dX11_tryRow_236 : decode cX11_tryRow 236 = .ok (.iload 5, 2) := by decide +kernel
theorem dX11_tryRow_238 : decode cX11_tryRow 238 = .ok (.iastore, 1) := by decide +kernel
theorem dX11_tryRow_239 : decode cX11_tryRow 239 = .ok (.aload_n 0, 1) := by decide +kernel
theorem dX11_tryRow_240 : decode cX11_tryRow 240 = .ok (.getfield 69, 3) := by decide +kernel
theorem dX11_tryRow_243 : decode cX11_tryRow 243 = .ok (.iconst 3, 1) := by decide +kernel
theorem dX11_tryRow_244 : decode cX11_tryRow 244 = .ok (.iload 6, 2) := by decide +kernel
theorem dX11_tryRow_246 : decode cX11_tryRow 246 = .ok (.iastore, 1) := by decide +kernel
theorem dX11_tryRow_247 : decode cX11_tryRow 247 = .ok (.return_, 1) := by decide +kernel
def fX11_tryRow_J98 (K28 : Mc → Int32 → Int32 → Int32 → Int32 → Int32 → Int32 → Int32 → Option (Mc)) (K71 : Mc → Int32 → Int32 → Int32 → Int32 → Int32 → Int32 → Int32 → Int32 → Option (Mc)) (M : Mc) (X1 : Int32) (X2 : Int32) (X3 : Int32) (X4 : Int32) (X5 : Int32) (X6 : Int32) (X7 : Int32) (X8 : Int32) (Z0 : Int32) : Option (Mc) := bnd (fX11_planPriceOf M Z0) fun v8 => lt (wr M (64) 10 v8) fun M9 => bnd (fX10_goOn M9 (64)) fun M11 => (K71 M11 X1 X2 X3 X4 X5 X6 X7 (X8 + nI 1))
theorem wX11_tryRow_J98 {p : Program} {l : Launch} {e : Env} {s : State} {m : MethodId} {args : Array Value} {below : List Frame} {meth : Method} {c : Code} {Y : Nat → ClassId} {D : va_G} {σ : Nat → Nat} {np b0 : Nat} {r : Mc} {K28 : Mc → Int32 → Int32 → Int32 → Int32 → Int32 → Int32 → Int32 → Option (Mc)} {K71 : Mc → Int32 → Int32 → Int32 → Int32 → Int32 → Int32 → Int32 → Int32 → Option (Mc)} {M : Mc} {N : Md} {X1 : Int32} {X2 : Int32} {X3 : Int32} {X4 : Int32} {X5 : Int32} {X6 : Int32} {X7 : Int32} {X8 : Int32} {Z0 : Int32} (hE : EOK p s m args meth c cX11_tryRow 9 RX11 Y D σ np b0) (hr : meth.sig.returnType = none) (hK28 : ∀ (M : Mc) (N : Md) (X1 : Int32) (X2 : Int32) (X3 : Int32) (X4 : Int32) (X5 : Int32) (X6 : Int32) (X7 : Int32), K28 M X1 X2 X3 X4 X5 X6 X7 = some r → Xw p l e (rmD 9) s m args below meth c 9 Y D σ np b0 0 0 (MQ below (QR Y D σ np b0 none r N) args s 0 0 (xA b0)) 28 [(0, .ref (σ 0)), (1, .int X1), (2, .int X2), (3, .int X3), (4, .int X4), (5, .int X5), (6, .int X6), (7, .int X7)] [] M N) (hK71 : ∀ (M : Mc) (N : Md) (X1 : Int32) (X2 : Int32) (X3 : Int32) (X4 : Int32) (X5 : Int32) (X6 : Int32) (X7 : Int32) (X8 : Int32), K71 M X1 X2 X3 X4 X5 X6 X7 X8 = some r → Xw p l e (rmD 9) s m args below meth c 9 Y D σ np b0 0 0 (MQ below (QR Y D σ np b0 none r N) args s 0 0 (xA b0)) 71 [(0, .ref (σ 0)), (1, .int X1), (2, .int X2), (3, .int X3), (4, .int X4), (5, .int X5), (6, .int X6), (7, .int X7), (8, .int X8)] [] M N) (hf : fX11_tryRow_J98 K28 K71 M X1 X2 X3 X4 X5 X6 X7 X8 Z0 = some r) : Xw p l e (rmD 9) s m args below meth c 9 Y D σ np b0 0 0 (MQ below (QR Y D σ np b0 none r N) args s 0 0 (xA b0)) 98 [(0, .ref (σ 0)), (1, .int X1), (2, .int X2), (3, .int X3), (4, .int X4), (5, .int X5), (6, .int X6), (7, .int X7), (8, .int X8)] [.int Z0, .ref (σ 0), .ref (σ (64))] M N := by
  unfold fX11_tryRow_J98 at hf
  obtain ⟨v8, hc7, hf⟩ := bnd_some hf
  refine x_callV1 hE [.int Z0] (rest := [.ref (σ (64))]) (v := .int v8) (c1 := M) (d1 := N) rfl yokX11_planPriceOf yvX11_planPriceOf lk_X11_474 rfl cl_11 (hE.kd kO_11) (by decide) rfl rfl ⟨Nat.le_of_ble_eq_true rfl, Nat.le_of_ble_eq_true rfl⟩ ⟨Nat.zero_le _, Nat.zero_le _⟩ rfl (Nat.le_of_ble_eq_true rfl) dX11_tryRow_98 (mX11_planPriceOf l hc7) ?_
  refine x_putI hE cl_10 (hE.kd (kO_10 hI_64)) (by decide) 10 rfl (by decide) lk_X11_394 rfl rfl rfl rfl dX11_tryRow_101 hf (fun M9 hf => ?_)
  refine x_aload_n hE 0 dX11_tryRow_104 rfl rfl ?_
  refine x_getR hE cl_11 (hE.kd kO_11) (by decide) 3 (64) rfl (by decide) lk_X11_31 dX11_tryRow_105 ?_
  obtain ⟨M11, hc10, hf⟩ := bnd_some hf
  refine x_callV0 hE [] (rest := []) (c1 := M11) (d1 := N) rfl yokX10_goOn yvX10_goOn lk_X11_384 rfl cl_10 (hE.kd (kO_10 hI_64)) (by decide) rfl rfl ⟨Nat.le_of_ble_eq_true rfl, Nat.le_of_ble_eq_true rfl⟩ ⟨Nat.zero_le _, Nat.zero_le _⟩ rfl (Nat.le_of_ble_eq_true rfl) dX11_tryRow_108 (mX10_goOn l hI_64 hc10) ?_
  refine x_iinc hE 8 (X8 + nI 1) (L' := [(8, .int (X8 + nI 1)), (0, .ref (σ 0)), (1, .int X1), (2, .int X2), (3, .int X3), (4, .int X4), (5, .int X5), (6, .int X6), (7, .int X7)]) dX11_tryRow_111 rfl rfl (by decide) rfl ?_
  refine x_pick [1, 2, 3, 4, 5, 6, 7, 8, 0] (L' := [(0, .ref (σ 0)), (1, .int X1), (2, .int X2), (3, .int X3), (4, .int X4), (5, .int X5), (6, .int X6), (7, .int X7), (8, .int (X8 + nI 1))]) rfl ?_
  refine x_goto hE 71 dX11_tryRow_114 (by decide) ?_
  exact hK71 _ _ _ _ _ _ _ _ _ _ hf
def fX11_tryRow_L71 (K28 : Mc → Int32 → Int32 → Int32 → Int32 → Int32 → Int32 → Int32 → Option (Mc)) : Nat → Mc → Int32 → Int32 → Int32 → Int32 → Int32 → Int32 → Int32 → Int32 → Option (Mc)
  | 0, _, _, _, _, _, _, _, _, _ => none
  | n + 1, M, X1, X2, X3, X4, X5, X6, X7, X8 => (if (X1 * (nI 13)) ≤ X8 then lt (xmax X5 (M (64 + 15) 2)) fun v5 => lt (xmin X6 (M (64 + 1) 10)) fun v6 => (K28 M X1 X2 X3 X4 v5 v6 (X7 + nI 1)) else (if (nI 13) ≤ X8 then (fX11_tryRow_J98 K28 (fun M X0 X1 X2 X3 X4 X5 X6 X7 => fX11_tryRow_L71 K28 n M X0 X1 X2 X3 X4 X5 X6 X7) M X1 X2 X3 X4 X5 X6 X7 X8 X4) else (fX11_tryRow_J98 K28 (fun M X0 X1 X2 X3 X4 X5 X6 X7 => fX11_tryRow_L71 K28 n M X0 X1 X2 X3 X4 X5 X6 X7) M X1 X2 X3 X4 X5 X6 X7 X8 X3)))
theorem wX11_tryRow_L71 {p : Program} {l : Launch} {e : Env} {s : State} {m : MethodId} {args : Array Value} {below : List Frame} {meth : Method} {c : Code} {Y : Nat → ClassId} {D : va_G} {σ : Nat → Nat} {np b0 : Nat} {r : Mc} {K28 : Mc → Int32 → Int32 → Int32 → Int32 → Int32 → Int32 → Int32 → Option (Mc)} (hE : EOK p s m args meth c cX11_tryRow 9 RX11 Y D σ np b0) (hr : meth.sig.returnType = none) (hK28 : ∀ (M : Mc) (N : Md) (X1 : Int32) (X2 : Int32) (X3 : Int32) (X4 : Int32) (X5 : Int32) (X6 : Int32) (X7 : Int32), K28 M X1 X2 X3 X4 X5 X6 X7 = some r → Xw p l e (rmD 9) s m args below meth c 9 Y D σ np b0 0 0 (MQ below (QR Y D σ np b0 none r N) args s 0 0 (xA b0)) 28 [(0, .ref (σ 0)), (1, .int X1), (2, .int X2), (3, .int X3), (4, .int X4), (5, .int X5), (6, .int X6), (7, .int X7)] [] M N) : ∀ (n : Nat) (M : Mc) (N : Md) (X1 : Int32) (X2 : Int32) (X3 : Int32) (X4 : Int32) (X5 : Int32) (X6 : Int32) (X7 : Int32) (X8 : Int32), fX11_tryRow_L71 K28 n M X1 X2 X3 X4 X5 X6 X7 X8 = some r → Xw p l e (rmD 9) s m args below meth c 9 Y D σ np b0 0 0 (MQ below (QR Y D σ np b0 none r N) args s 0 0 (xA b0)) 71 [(0, .ref (σ 0)), (1, .int X1), (2, .int X2), (3, .int X3), (4, .int X4), (5, .int X5), (6, .int X6), (7, .int X7), (8, .int X8)] [] M N := by
  intro n
  induction n with
  | zero =>
    intro M N X1 X2 X3 X4 X5 X6 X7 X8 hf
    cases hf
  | succ n ih =>
    intro M N X1 X2 X3 X4 X5 X6 X7 X8 hf
    rw [fX11_tryRow_L71.eq_2] at hf
    refine x_iload hE 8 dX11_tryRow_71 rfl ?_
    refine x_iload_n hE 1 dX11_tryRow_73 rfl rfl ?_
    refine x_bipush hE (nI 13) dX11_tryRow_74 (by decide) ?_
    refine x_imul hE dX11_tryRow_76 ?_
    refine x_icmp_ge hE 117 dX11_tryRow_77 (by decide) hf (fun hf => ?_) (fun hf => ?_)
    · refine x_iload hE 5 dX11_tryRow_117 rfl ?_
      refine x_aload_n hE 0 dX11_tryRow_119 rfl rfl ?_
      refine x_getR hE cl_11 (hE.kd kO_11) (by decide) 3 (64) rfl (by decide) lk_X11_31 dX11_tryRow_120 ?_
      refine x_getR hE cl_10 (hE.kd (kO_10 hI_64)) (by decide) 2 (64 + 15) rfl (by decide) lk_X11_125 dX11_tryRow_123 ?_
      refine x_getI hE cl_3 (hE.kd (kO_3 (hL_10_2 hI_64))) (by decide) 2 rfl (by decide) lk_X11_403 dX11_tryRow_126 ?_
      refine x_mmax hE lk_X11_477 (Nat.le_of_ble_eq_true rfl) dX11_tryRow_129 ?_
      refine x_ltI hf (fun v5 hf => ?_)
      refine x_istore hE (L' := [(5, .int v5), (0, .ref (σ 0)), (1, .int X1), (2, .int X2), (3, .int X3), (4, .int X4), (6, .int X6), (7, .int X7), (8, .int X8)]) dX11_tryRow_132 (by decide) rfl ?_
      refine x_pick [1, 2, 3, 4, 5, 0, 6, 7, 8] (L' := [(0, .ref (σ 0)), (1, .int X1), (2, .int X2), (3, .int X3), (4, .int X4), (5, .int v5), (6, .int X6), (7, .int X7), (8, .int X8)]) rfl ?_
      refine x_iload hE 6 dX11_tryRow_134 rfl ?_
      refine x_aload_n hE 0 dX11_tryRow_136 rfl rfl ?_
      refine x_getR hE cl_11 (hE.kd kO_11) (by decide) 3 (64) rfl (by decide) lk_X11_31 dX11_tryRow_137 ?_
      refine x_getR hE cl_10 (hE.kd (kO_10 hI_64)) (by decide) 1 (64 + 1) rfl (by decide) lk_X11_80 dX11_tryRow_140 ?_
      refine x_getI hE cl_4 (hE.kd (kO_4 (hL_10_1 hI_64))) (by decide) 10 rfl (by decide) lk_X11_400 dX11_tryRow_143 ?_
      refine x_mmin hE lk_X11_482 (Nat.le_of_ble_eq_true rfl) dX11_tryRow_146 ?_
      refine x_ltI hf (fun v6 hf => ?_)
      refine x_istore hE (L' := [(6, .int v6), (0, .ref (σ 0)), (1, .int X1), (2, .int X2), (3, .int X3), (4, .int X4), (5, .int v5), (7, .int X7), (8, .int X8)]) dX11_tryRow_149 (by decide) rfl ?_
      refine x_pick [1, 2, 3, 4, 5, 6, 0, 7, 8] (L' := [(0, .ref (σ 0)), (1, .int X1), (2, .int X2), (3, .int X3), (4, .int X4), (5, .int v5), (6, .int v6), (7, .int X7), (8, .int X8)]) rfl ?_
      refine x_iinc hE 7 (X7 + nI 1) (L' := [(7, .int (X7 + nI 1)), (0, .ref (σ 0)), (1, .int X1), (2, .int X2), (3, .int X3), (4, .int X4), (5, .int v5), (6, .int v6), (8, .int X8)]) dX11_tryRow_151 rfl rfl (by decide) rfl ?_
      refine x_pick [1, 2, 3, 4, 5, 6, 7, 0, 8] (L' := [(0, .ref (σ 0)), (1, .int X1), (2, .int X2), (3, .int X3), (4, .int X4), (5, .int v5), (6, .int v6), (7, .int (X7 + nI 1)), (8, .int X8)]) rfl ?_
      refine x_goto hE 28 dX11_tryRow_154 (by decide) ?_
      refine x_pick [0, 1, 2, 3, 4, 5, 6, 7] (L' := [(0, .ref (σ 0)), (1, .int X1), (2, .int X2), (3, .int X3), (4, .int X4), (5, .int v5), (6, .int v6), (7, .int (X7 + nI 1))]) rfl ?_
      exact hK28 _ _ _ _ _ _ _ _ _ hf
    · refine x_aload_n hE 0 dX11_tryRow_80 rfl rfl ?_
      refine x_getR hE cl_11 (hE.kd kO_11) (by decide) 3 (64) rfl (by decide) lk_X11_31 dX11_tryRow_81 ?_
      refine x_aload_n hE 0 dX11_tryRow_84 rfl rfl ?_
      refine x_iload hE 8 dX11_tryRow_85 rfl ?_
      refine x_bipush hE (nI 13) dX11_tryRow_87 (by decide) ?_
      refine x_icmp_ge hE 96 dX11_tryRow_89 (by decide) hf (fun hf => ?_) (fun hf => ?_)
      · refine x_iload hE 4 dX11_tryRow_96 rfl ?_
        exact wX11_tryRow_J98 hE hr hK28 (fun _ _ _ _ _ _ _ _ _ _ hf => ih _ _ _ _ _ _ _ _ _ _ hf) hf
      · refine x_iload_n hE 3 dX11_tryRow_92 rfl rfl ?_
        refine x_goto hE 98 dX11_tryRow_93 (by decide) ?_
        exact wX11_tryRow_J98 hE hr hK28 (fun _ _ _ _ _ _ _ _ _ _ hf => ih _ _ _ _ _ _ _ _ _ _ hf) hf
def fX11_tryRow_J230 (M : Mc) (X5 : Int32) (X6 : Int32) (Z0 : Int32) (Z1 : Int32) : Option (Mc) := chk Z1 4 (lt (wr M (126) Z1.toNatClampNeg Z0) fun M13 => chk (nI 2) 4 (lt (wr M13 (126) (nI 2).toNatClampNeg X5) fun M14 => chk (nI 3) 4 (lt (wr M14 (126) (nI 3).toNatClampNeg X6) fun M15 => (some (M15)))))
theorem wX11_tryRow_J230 {p : Program} {l : Launch} {e : Env} {s : State} {m : MethodId} {args : Array Value} {below : List Frame} {meth : Method} {c : Code} {Y : Nat → ClassId} {D : va_G} {σ : Nat → Nat} {np b0 : Nat} {r : Mc} {M : Mc} {N : Md} {X5 : Int32} {X6 : Int32} {Z0 : Int32} {Z1 : Int32} (hE : EOK p s m args meth c cX11_tryRow 9 RX11 Y D σ np b0) (hr : meth.sig.returnType = none) (hf : fX11_tryRow_J230 M X5 X6 Z0 Z1 = some r) : Xw p l e (rmD 9) s m args below meth c 9 Y D σ np b0 0 0 (MQ below (QR Y D σ np b0 none r N) args s 0 0 (xA b0)) 230 [(0, .ref (σ 0)), (5, .int X5), (6, .int X6)] [.int Z0, .int Z1, .ref (σ (126))] M N := by
  unfold fX11_tryRow_J230 at hf
  refine x_iast hE (hE.kd kA_126) dX11_tryRow_230 hf (fun M13 hf => ?_)
  refine x_aload_n hE 0 dX11_tryRow_231 rfl rfl ?_
  refine x_getR hE cl_11 (hE.kd kO_11) (by decide) 17 (126) rfl (by decide) lk_X11_69 dX11_tryRow_232 ?_
  refine x_iconst hE (nI 2) dX11_tryRow_235 (by decide) ?_
  refine x_iload hE 1 dX11_tryRow_236 rfl ?_
  refine x_iast hE (hE.kd kA_126) dX11_tryRow_238 hf (fun M14 hf => ?_)
  refine x_aload_n hE 0 dX11_tryRow_239 rfl rfl ?_
  refine x_getR hE cl_11 (hE.kd kO_11) (by decide) 17 (126) rfl (by decide) lk_X11_69 dX11_tryRow_240 ?_
  refine x_iconst hE (nI 3) dX11_tryRow_243 (by decide) ?_
  refine x_iload hE 2 dX11_tryRow_244 rfl ?_
  refine x_iast hE (hE.kd kA_126) dX11_tryRow_246 hf (fun M15 hf => ?_)
  replace hf := Option.some.inj hf
  subst hf
  exact x_vreturn hE hr dX11_tryRow_247
def fX11_tryRow_J207 (M : Mc) (X1 : Int32) (X3 : Int32) (X4 : Int32) (X5 : Int32) (X6 : Int32) : Option (Mc) := chk 0 4 (lt (wr M (126) (0 : Int32).toNatClampNeg X3) fun M12 => (if X1 = (nI 2) then (fX11_tryRow_J230 M12 X5 X6 X4 (nI 1)) else (fX11_tryRow_J230 M12 X5 X6 (-1) (nI 1))))
theorem wX11_tryRow_J207 {p : Program} {l : Launch} {e : Env} {s : State} {m : MethodId} {args : Array Value} {below : List Frame} {meth : Method} {c : Code} {Y : Nat → ClassId} {D : va_G} {σ : Nat → Nat} {np b0 : Nat} {r : Mc} {M : Mc} {N : Md} {X1 : Int32} {X3 : Int32} {X4 : Int32} {X5 : Int32} {X6 : Int32} (hE : EOK p s m args meth c cX11_tryRow 9 RX11 Y D σ np b0) (hr : meth.sig.returnType = none) (hf : fX11_tryRow_J207 M X1 X3 X4 X5 X6 = some r) : Xw p l e (rmD 9) s m args below meth c 9 Y D σ np b0 0 0 (MQ below (QR Y D σ np b0 none r N) args s 0 0 (xA b0)) 207 [(0, .ref (σ 0)), (1, .int X1), (3, .int X3), (4, .int X4), (5, .int X5), (6, .int X6)] [] M N := by
  unfold fX11_tryRow_J207 at hf
  refine x_aload_n hE 0 dX11_tryRow_207 rfl rfl ?_
  refine x_getR hE cl_11 (hE.kd kO_11) (by decide) 17 (126) rfl (by decide) lk_X11_69 dX11_tryRow_208 ?_
  refine x_iconst hE (0 : Int32) dX11_tryRow_211 (by decide) ?_
  refine x_iload_n hE 2 dX11_tryRow_212 rfl rfl ?_
  refine x_iast hE (hE.kd kA_126) dX11_tryRow_213 hf (fun M12 hf => ?_)
  refine x_aload_n hE 0 dX11_tryRow_214 rfl rfl ?_
  refine x_getR hE cl_11 (hE.kd kO_11) (by decide) 17 (126) rfl (by decide) lk_X11_69 dX11_tryRow_215 ?_
  refine x_iconst hE (nI 1) dX11_tryRow_218 (by decide) ?_
  refine x_iload_n hE 1 dX11_tryRow_219 rfl rfl ?_
  refine x_iconst hE (nI 2) dX11_tryRow_220 (by decide) ?_
  refine x_icmp_ne hE 229 dX11_tryRow_221 (by decide) hf (fun hf => ?_) (fun hf => ?_)
  · refine x_iconst hE (-1) dX11_tryRow_229 (by decide) ?_
    refine x_pick [0, 4, 5] (L' := [(0, .ref (σ 0)), (5, .int X5), (6, .int X6)]) rfl ?_
    exact wX11_tryRow_J230 hE hr  hf
  · refine x_iload hE 3 dX11_tryRow_224 rfl ?_
    refine x_goto hE 230 dX11_tryRow_226 (by decide) ?_
    refine x_pick [0, 4, 5] (L' := [(0, .ref (σ 0)), (5, .int X5), (6, .int X6)]) rfl ?_
    exact wX11_tryRow_J230 hE hr  hf
def fX11_tryRow_J195 (M : Mc) (X1 : Int32) (X2 : Int32) (X3 : Int32) (X4 : Int32) (X5 : Int32) (X6 : Int32) (Z0 : Int32) : Option (Mc) := (if X2 ≤ 0 then (fX11_tryRow_J207 M X1 X3 X4 X5 X6) else (if Z0 = 0 then (some (M)) else (fX11_tryRow_J207 M X1 X3 X4 X5 X6)))
theorem wX11_tryRow_J195 {p : Program} {l : Launch} {e : Env} {s : State} {m : MethodId} {args : Array Value} {below : List Frame} {meth : Method} {c : Code} {Y : Nat → ClassId} {D : va_G} {σ : Nat → Nat} {np b0 : Nat} {r : Mc} {M : Mc} {N : Md} {X1 : Int32} {X2 : Int32} {X3 : Int32} {X4 : Int32} {X5 : Int32} {X6 : Int32} {Z0 : Int32} (hE : EOK p s m args meth c cX11_tryRow 9 RX11 Y D σ np b0) (hr : meth.sig.returnType = none) (hf : fX11_tryRow_J195 M X1 X2 X3 X4 X5 X6 Z0 = some r) : Xw p l e (rmD 9) s m args below meth c 9 Y D σ np b0 0 0 (MQ below (QR Y D σ np b0 none r N) args s 0 0 (xA b0)) 195 [(0, .ref (σ 0)), (1, .int X1), (2, .int X2), (3, .int X3), (4, .int X4), (5, .int X5), (6, .int X6)] [.int Z0] M N := by
  unfold fX11_tryRow_J195 at hf
  refine x_istore hE (L' := [(7, .int Z0), (0, .ref (σ 0)), (1, .int X1), (2, .int X2), (3, .int X3), (4, .int X4), (5, .int X5), (6, .int X6)]) dX11_tryRow_195 (by decide) rfl ?_
  refine x_pick [1, 2, 3, 4, 5, 6, 7, 0] (L' := [(0, .ref (σ 0)), (1, .int X1), (2, .int X2), (3, .int X3), (4, .int X4), (5, .int X5), (6, .int X6), (7, .int Z0)]) rfl ?_
  refine x_iload_n hE 2 dX11_tryRow_197 rfl rfl ?_
  refine x_if_le hE 207 dX11_tryRow_198 (by decide) hf (fun hf => ?_) (fun hf => ?_)
  · refine x_pick [0, 1, 3, 4, 5, 6] (L' := [(0, .ref (σ 0)), (1, .int X1), (3, .int X3), (4, .int X4), (5, .int X5), (6, .int X6)]) rfl ?_
    exact wX11_tryRow_J207 hE hr  hf
  · refine x_iload hE 7 dX11_tryRow_201 rfl ?_
    refine x_if_ne hE 207 dX11_tryRow_203 (by decide) hf (fun hf => ?_) (fun hf => ?_)
    · refine x_pick [0, 1, 3, 4, 5, 6] (L' := [(0, .ref (σ 0)), (1, .int X1), (3, .int X3), (4, .int X4), (5, .int X5), (6, .int X6)]) rfl ?_
      exact wX11_tryRow_J207 hE hr  hf
    · replace hf := Option.some.inj hf
      subst hf
      exact x_vreturn hE hr dX11_tryRow_206
def fX11_tryRow_J190 (M : Mc) (X1 : Int32) (X2 : Int32) (X3 : Int32) (X4 : Int32) (X5 : Int32) (X6 : Int32) : Option (Mc) := (fX11_tryRow_J195 M X1 X2 X3 X4 X5 X6 (nI 1))
theorem wX11_tryRow_J190 {p : Program} {l : Launch} {e : Env} {s : State} {m : MethodId} {args : Array Value} {below : List Frame} {meth : Method} {c : Code} {Y : Nat → ClassId} {D : va_G} {σ : Nat → Nat} {np b0 : Nat} {r : Mc} {M : Mc} {N : Md} {X1 : Int32} {X2 : Int32} {X3 : Int32} {X4 : Int32} {X5 : Int32} {X6 : Int32} (hE : EOK p s m args meth c cX11_tryRow 9 RX11 Y D σ np b0) (hr : meth.sig.returnType = none) (hf : fX11_tryRow_J190 M X1 X2 X3 X4 X5 X6 = some r) : Xw p l e (rmD 9) s m args below meth c 9 Y D σ np b0 0 0 (MQ below (QR Y D σ np b0 none r N) args s 0 0 (xA b0)) 190 [(0, .ref (σ 0)), (1, .int X1), (2, .int X2), (3, .int X3), (4, .int X4), (5, .int X5), (6, .int X6)] [] M N := by
  unfold fX11_tryRow_J190 at hf
  refine x_iconst hE (nI 1) dX11_tryRow_190 (by decide) ?_
  refine x_goto hE 195 dX11_tryRow_191 (by decide) ?_
  exact wX11_tryRow_J195 hE hr  hf
def fX11_tryRow_J194 (M : Mc) (X1 : Int32) (X2 : Int32) (X3 : Int32) (X4 : Int32) (X5 : Int32) (X6 : Int32) : Option (Mc) := (fX11_tryRow_J195 M X1 X2 X3 X4 X5 X6 0)
theorem wX11_tryRow_J194 {p : Program} {l : Launch} {e : Env} {s : State} {m : MethodId} {args : Array Value} {below : List Frame} {meth : Method} {c : Code} {Y : Nat → ClassId} {D : va_G} {σ : Nat → Nat} {np b0 : Nat} {r : Mc} {M : Mc} {N : Md} {X1 : Int32} {X2 : Int32} {X3 : Int32} {X4 : Int32} {X5 : Int32} {X6 : Int32} (hE : EOK p s m args meth c cX11_tryRow 9 RX11 Y D σ np b0) (hr : meth.sig.returnType = none) (hf : fX11_tryRow_J194 M X1 X2 X3 X4 X5 X6 = some r) : Xw p l e (rmD 9) s m args below meth c 9 Y D σ np b0 0 0 (MQ below (QR Y D σ np b0 none r N) args s 0 0 (xA b0)) 194 [(0, .ref (σ 0)), (1, .int X1), (2, .int X2), (3, .int X3), (4, .int X4), (5, .int X5), (6, .int X6)] [] M N := by
  unfold fX11_tryRow_J194 at hf
  refine x_iconst hE (0 : Int32) dX11_tryRow_194 (by decide) ?_
  exact wX11_tryRow_J195 hE hr  hf
def fX11_tryRow_J157 (M : Mc) (X1 : Int32) (X2 : Int32) (X3 : Int32) (X4 : Int32) (X5 : Int32) (X6 : Int32) : Option (Mc) := chk (nI 2) (4) ((if X5 < (M (126) (nI 2).toNatClampNeg) then (fX11_tryRow_J190 M X1 X2 X3 X4 X5 X6) else chk (nI 2) (4) ((if X5 = (M (126) (nI 2).toNatClampNeg) then chk (nI 3) (4) ((if X6 ≤ (M (126) (nI 3).toNatClampNeg) then (fX11_tryRow_J194 M X1 X2 X3 X4 X5 X6) else (fX11_tryRow_J190 M X1 X2 X3 X4 X5 X6))) else (fX11_tryRow_J194 M X1 X2 X3 X4 X5 X6)))))
theorem wX11_tryRow_J157 {p : Program} {l : Launch} {e : Env} {s : State} {m : MethodId} {args : Array Value} {below : List Frame} {meth : Method} {c : Code} {Y : Nat → ClassId} {D : va_G} {σ : Nat → Nat} {np b0 : Nat} {r : Mc} {M : Mc} {N : Md} {X1 : Int32} {X2 : Int32} {X3 : Int32} {X4 : Int32} {X5 : Int32} {X6 : Int32} (hE : EOK p s m args meth c cX11_tryRow 9 RX11 Y D σ np b0) (hr : meth.sig.returnType = none) (hf : fX11_tryRow_J157 M X1 X2 X3 X4 X5 X6 = some r) : Xw p l e (rmD 9) s m args below meth c 9 Y D σ np b0 0 0 (MQ below (QR Y D σ np b0 none r N) args s 0 0 (xA b0)) 157 [(0, .ref (σ 0)), (1, .int X1), (2, .int X2), (3, .int X3), (4, .int X4), (5, .int X5), (6, .int X6)] [] M N := by
  unfold fX11_tryRow_J157 at hf
  refine x_iload hE 5 dX11_tryRow_157 rfl ?_
  refine x_aload_n hE 0 dX11_tryRow_159 rfl rfl ?_
  refine x_getR hE cl_11 (hE.kd kO_11) (by decide) 17 (126) rfl (by decide) lk_X11_69 dX11_tryRow_160 ?_
  refine x_iconst hE (nI 2) dX11_tryRow_163 (by decide) ?_
  refine x_iald hE (hE.kd kA_126) dX11_tryRow_164 hf (fun hf => ?_)
  refine x_icmp_lt hE 190 dX11_tryRow_165 (by decide) hf (fun hf => ?_) (fun hf => ?_)
  · exact wX11_tryRow_J190 hE hr  hf
  · refine x_iload hE 5 dX11_tryRow_168 rfl ?_
    refine x_aload_n hE 0 dX11_tryRow_170 rfl rfl ?_
    refine x_getR hE cl_11 (hE.kd kO_11) (by decide) 17 (126) rfl (by decide) lk_X11_69 dX11_tryRow_171 ?_
    refine x_iconst hE (nI 2) dX11_tryRow_174 (by decide) ?_
    refine x_iald hE (hE.kd kA_126) dX11_tryRow_175 hf (fun hf => ?_)
    refine x_icmp_ne hE 194 dX11_tryRow_176 (by decide) hf (fun hf => ?_) (fun hf => ?_)
    · exact wX11_tryRow_J194 hE hr  hf
    · refine x_iload hE 6 dX11_tryRow_179 rfl ?_
      refine x_aload_n hE 0 dX11_tryRow_181 rfl rfl ?_
      refine x_getR hE cl_11 (hE.kd kO_11) (by decide) 17 (126) rfl (by decide) lk_X11_69 dX11_tryRow_182 ?_
      refine x_iconst hE (nI 3) dX11_tryRow_185 (by decide) ?_
      refine x_iald hE (hE.kd kA_126) dX11_tryRow_186 hf (fun hf => ?_)
      refine x_icmp_le hE 194 dX11_tryRow_187 (by decide) hf (fun hf => ?_) (fun hf => ?_)
      · exact wX11_tryRow_J194 hE hr  hf
      · exact wX11_tryRow_J190 hE hr  hf
def fX11_tryRow_L28 : Nat → Mc → Int32 → Int32 → Int32 → Int32 → Int32 → Int32 → Int32 → Option (Mc)
  | 0, _, _, _, _, _, _, _, _ => none
  | n + 1, M, X1, X2, X3, X4, X5, X6, X7 => (if (M 0 16) ≤ X7 then (fX11_tryRow_J157 M X1 X2 X3 X4 X5 X6) else (if (nI 3) ≤ X7 then (fX11_tryRow_J157 M X1 X2 X3 X4 X5 X6) else bnd (fX10_copyFrom M (64) (17)) fun M3 => chk X7 (3) (lt (wr M3 (64) 12 (M3 (125) X7.toNatClampNeg)) fun M4 => (fX11_tryRow_L71 (fun M X0 X1 X2 X3 X4 X5 X6 => fX11_tryRow_L28 n M X0 X1 X2 X3 X4 X5 X6) FU M4 X1 X2 X3 X4 X5 X6 X7 0))))
theorem wX11_tryRow_L28 {p : Program} {l : Launch} {e : Env} {s : State} {m : MethodId} {args : Array Value} {below : List Frame} {meth : Method} {c : Code} {Y : Nat → ClassId} {D : va_G} {σ : Nat → Nat} {np b0 : Nat} {r : Mc} (hE : EOK p s m args meth c cX11_tryRow 9 RX11 Y D σ np b0) (hr : meth.sig.returnType = none) : ∀ (n : Nat) (M : Mc) (N : Md) (X1 : Int32) (X2 : Int32) (X3 : Int32) (X4 : Int32) (X5 : Int32) (X6 : Int32) (X7 : Int32), fX11_tryRow_L28 n M X1 X2 X3 X4 X5 X6 X7 = some r → Xw p l e (rmD 9) s m args below meth c 9 Y D σ np b0 0 0 (MQ below (QR Y D σ np b0 none r N) args s 0 0 (xA b0)) 28 [(0, .ref (σ 0)), (1, .int X1), (2, .int X2), (3, .int X3), (4, .int X4), (5, .int X5), (6, .int X6), (7, .int X7)] [] M N := by
  intro n
  induction n with
  | zero =>
    intro M N X1 X2 X3 X4 X5 X6 X7 hf
    cases hf
  | succ n ih =>
    intro M N X1 X2 X3 X4 X5 X6 X7 hf
    rw [fX11_tryRow_L28.eq_2] at hf
    refine x_iload hE 7 dX11_tryRow_28 rfl ?_
    refine x_aload_n hE 0 dX11_tryRow_30 rfl rfl ?_
    refine x_getI hE cl_11 (hE.kd kO_11) (by decide) 16 rfl (by decide) lk_X11_429 dX11_tryRow_31 ?_
    refine x_icmp_ge hE 157 dX11_tryRow_34 (by decide) hf (fun hf => ?_) (fun hf => ?_)
    · refine x_pick [0, 1, 2, 3, 4, 5, 6] (L' := [(0, .ref (σ 0)), (1, .int X1), (2, .int X2), (3, .int X3), (4, .int X4), (5, .int X5), (6, .int X6)]) rfl ?_
      exact wX11_tryRow_J157 hE hr  hf
    · refine x_iload hE 7 dX11_tryRow_37 rfl ?_
      refine x_iconst hE (nI 3) dX11_tryRow_39 (by decide) ?_
      refine x_icmp_ge hE 157 dX11_tryRow_40 (by decide) hf (fun hf => ?_) (fun hf => ?_)
      · refine x_pick [0, 1, 2, 3, 4, 5, 6] (L' := [(0, .ref (σ 0)), (1, .int X1), (2, .int X2), (3, .int X3), (4, .int X4), (5, .int X5), (6, .int X6)]) rfl ?_
        exact wX11_tryRow_J157 hE hr  hf
      · refine x_aload_n hE 0 dX11_tryRow_43 rfl rfl ?_
        refine x_getR hE cl_11 (hE.kd kO_11) (by decide) 3 (64) rfl (by decide) lk_X11_31 dX11_tryRow_44 ?_
        refine x_aload_n hE 0 dX11_tryRow_47 rfl rfl ?_
        refine x_getR hE cl_11 (hE.kd kO_11) (by decide) 2 (17) rfl (by decide) lk_X11_27 dX11_tryRow_48 ?_
        obtain ⟨M3, hc2, hf⟩ := bnd_some hf
        refine x_callV0 hE [.ref (σ (17))] (rest := []) (c1 := M3) (d1 := N) rfl yokX10_copyFrom yvX10_copyFrom lk_X11_165 rfl cl_10 (hE.kd (kO_10 hI_64)) (by decide) rfl rfl ⟨Nat.le_of_ble_eq_true rfl, Nat.le_of_ble_eq_true rfl⟩ ⟨Nat.zero_le _, Nat.zero_le _⟩ rfl (Nat.le_of_ble_eq_true rfl) dX11_tryRow_51 (mX10_copyFrom l hI_64 hI_17 hc2) ?_
        refine x_aload_n hE 0 dX11_tryRow_54 rfl rfl ?_
        refine x_getR hE cl_11 (hE.kd kO_11) (by decide) 3 (64) rfl (by decide) lk_X11_31 dX11_tryRow_55 ?_
        refine x_aload_n hE 0 dX11_tryRow_58 rfl rfl ?_
        refine x_getR hE cl_11 (hE.kd kO_11) (by decide) 15 (125) rfl (by decide) lk_X11_66 dX11_tryRow_59 ?_
        refine x_iload hE 7 dX11_tryRow_62 rfl ?_
        refine x_iald hE (hE.kd kA_125) dX11_tryRow_64 hf (fun hf => ?_)
        refine x_putI hE cl_10 (hE.kd (kO_10 hI_64)) (by decide) 12 rfl (by decide) lk_X11_471 rfl rfl rfl rfl dX11_tryRow_65 hf (fun M4 hf => ?_)
        refine x_iconst hE (0 : Int32) dX11_tryRow_68 (by decide) ?_
        refine x_istore hE (L' := [(8, .int 0), (0, .ref (σ 0)), (1, .int X1), (2, .int X2), (3, .int X3), (4, .int X4), (5, .int X5), (6, .int X6), (7, .int X7)]) dX11_tryRow_69 (by decide) rfl ?_
        refine x_pick [1, 2, 3, 4, 5, 6, 7, 8, 0] (L' := [(0, .ref (σ 0)), (1, .int X1), (2, .int X2), (3, .int X3), (4, .int X4), (5, .int X5), (6, .int X6), (7, .int X7), (8, .int 0)]) rfl ?_
        exact wX11_tryRow_L71 hE hr (fun _ _ _ _ _ _ _ _ _ hf => ih _ _ _ _ _ _ _ _ _ hf) FU _ _ _ _ _ _ _ _ _ _ hf
def fX11_tryRow_J12 (M : Mc) (X1 : Int32) (X2 : Int32) (Z0 : Int32) : Option (Mc) := lt (irm X2 (nI 3)) fun v1 => (fX11_tryRow_L28 FU M X1 X2 Z0 v1 0 (nI 96) 0)
theorem wX11_tryRow_J12 {p : Program} {l : Launch} {e : Env} {s : State} {m : MethodId} {args : Array Value} {below : List Frame} {meth : Method} {c : Code} {Y : Nat → ClassId} {D : va_G} {σ : Nat → Nat} {np b0 : Nat} {r : Mc} {M : Mc} {N : Md} {X1 : Int32} {X2 : Int32} {Z0 : Int32} (hE : EOK p s m args meth c cX11_tryRow 9 RX11 Y D σ np b0) (hr : meth.sig.returnType = none) (hf : fX11_tryRow_J12 M X1 X2 Z0 = some r) : Xw p l e (rmD 9) s m args below meth c 9 Y D σ np b0 0 0 (MQ below (QR Y D σ np b0 none r N) args s 0 0 (xA b0)) 12 [(0, .ref (σ 0)), (1, .int X1), (2, .int X2)] [.int Z0] M N := by
  unfold fX11_tryRow_J12 at hf
  refine x_istore_n hE (L' := [(3, .int Z0), (0, .ref (σ 0)), (1, .int X1), (2, .int X2)]) dX11_tryRow_12 rfl (by decide) rfl ?_
  refine x_pick [1, 2, 3, 0] (L' := [(0, .ref (σ 0)), (1, .int X1), (2, .int X2), (3, .int Z0)]) rfl ?_
  refine x_iload_n hE 2 dX11_tryRow_13 rfl rfl ?_
  refine x_iconst hE (nI 3) dX11_tryRow_14 (by decide) ?_
  refine x_iremC hE dX11_tryRow_15 (by decide) ?_
  refine x_ltI hf (fun v1 hf => ?_)
  refine x_istore hE (L' := [(4, .int v1), (0, .ref (σ 0)), (1, .int X1), (2, .int X2), (3, .int Z0)]) dX11_tryRow_16 (by decide) rfl ?_
  refine x_pick [1, 2, 3, 4, 0] (L' := [(0, .ref (σ 0)), (1, .int X1), (2, .int X2), (3, .int Z0), (4, .int v1)]) rfl ?_
  refine x_iconst hE (0 : Int32) dX11_tryRow_18 (by decide) ?_
  refine x_istore hE (L' := [(5, .int 0), (0, .ref (σ 0)), (1, .int X1), (2, .int X2), (3, .int Z0), (4, .int v1)]) dX11_tryRow_19 (by decide) rfl ?_
  refine x_pick [1, 2, 3, 4, 5, 0] (L' := [(0, .ref (σ 0)), (1, .int X1), (2, .int X2), (3, .int Z0), (4, .int v1), (5, .int 0)]) rfl ?_
  refine x_bipush hE (nI 96) dX11_tryRow_21 (by decide) ?_
  refine x_istore hE (L' := [(6, .int (nI 96)), (0, .ref (σ 0)), (1, .int X1), (2, .int X2), (3, .int Z0), (4, .int v1), (5, .int 0)]) dX11_tryRow_23 (by decide) rfl ?_
  refine x_pick [1, 2, 3, 4, 5, 6, 0] (L' := [(0, .ref (σ 0)), (1, .int X1), (2, .int X2), (3, .int Z0), (4, .int v1), (5, .int 0), (6, .int (nI 96))]) rfl ?_
  refine x_iconst hE (0 : Int32) dX11_tryRow_25 (by decide) ?_
  refine x_istore hE (L' := [(7, .int 0), (0, .ref (σ 0)), (1, .int X1), (2, .int X2), (3, .int Z0), (4, .int v1), (5, .int 0), (6, .int (nI 96))]) dX11_tryRow_26 (by decide) rfl ?_
  refine x_pick [1, 2, 3, 4, 5, 6, 7, 0] (L' := [(0, .ref (σ 0)), (1, .int X1), (2, .int X2), (3, .int Z0), (4, .int v1), (5, .int 0), (6, .int (nI 96)), (7, .int 0)]) rfl ?_
  exact wX11_tryRow_L28 hE hr  FU _ _ _ _ _ _ _ _ _ hf
def fX11_tryRow (M : Mc) (p0 : Int32) (p1 : Int32) : Option (Mc) := (if p0 = (nI 2) then (fX11_tryRow_J12 M p0 p1 (p1 / (nI 3))) else (fX11_tryRow_J12 M p0 p1 p1))
theorem mX11_tryRow (l : Launch) {Y : Nat → ClassId} {D : va_G} {σ : Nat → Nat} {np b0 : Nat} {M : Mc} {N : Md} {p0 : Int32} {p1 : Int32} {r : Mc} (hf : fX11_tryRow M p0 p1 = some r) : Met l yX11_tryRow (.code yX11_tryRow cX11_tryRow 9 none :: lw_g) (rmD 9) (PR Y D σ np b0 [.ref (σ 0), .int p0, .int p1] M N) (QR Y D σ np b0 none r N) 0 0 (xA b0) := by
  refine x_met (by decide) (Nat.le_of_ble_eq_true rfl) (fun p e s m args below meth c hE hr => ?_)
  unfold fX11_tryRow at hf
  refine x_pick [0, 1, 2] (L' := [(0, .ref (σ 0)), (1, .int p0), (2, .int p1)]) rfl ?_
  refine x_iload_n hE 1 dX11_tryRow_0 rfl rfl ?_
  refine x_iconst hE (nI 2) dX11_tryRow_1 (by decide) ?_
  refine x_icmp_ne hE 11 dX11_tryRow_2 (by decide) hf (fun hf => ?_) (fun hf => ?_)
  · refine x_iload_n hE 2 dX11_tryRow_11 rfl rfl ?_
    exact wX11_tryRow_J12 hE hr  hf
  · refine x_iload_n hE 2 dX11_tryRow_5 rfl rfl ?_
    refine x_iconst hE (nI 3) dX11_tryRow_6 (by decide) ?_
    refine x_idivC hE dX11_tryRow_7 (by decide) ?_
    refine x_goto hE 12 dX11_tryRow_8 (by decide) ?_
    exact wX11_tryRow_J12 hE hr  hf
theorem yokX11_tryRow : YOK yX11_tryRow cX11_tryRow 9 2 none := ⟨mem_g 1900 (by decide +kernel) (by decide +kernel), mem_g 131 (by decide +kernel) (by decide +kernel), by decide +kernel, by decide +kernel, by decide +kernel⟩
theorem yvX11_tryRow : YV yX11_tryRow := ⟨mem_g 1899 (by decide +kernel) (by decide +kernel), mem_g 53 (by decide +kernel) (by decide +kernel)⟩
theorem lk_X11_51 : Cond.fieldLink RX11 51 (TX11 6).1 (TX11 6).2.1 (TX11 6).2.2.1 ∈ lw_g := mem_g 568 (by decide +kernel) (by decide +kernel)
theorem lk_X11_435 : Cond.methodLink RX11 435 yX6_take ∈ lw_g := mem_g 699 (by decide +kernel) (by decide +kernel)
theorem dX11_image_0 : decode cX11_image 0 = .ok (.aload_n 0, 1) := by decide +kernel
theorem dX11_image_1 : decode cX11_image 1 = .ok (.getfield 51, 3) := by decide +kernel
theorem dX11_image_4 : decode cX11_image 4 = .ok (.aload_n 0, 1) := by decide +kernel
theorem dX11_image_5 : decode cX11_image 5 = .ok (.getfield 27, 3) := by decide +kernel
theorem dX11_image_8 : decode cX11_image 8 = .ok (.getfield 80, 3) := by decide +kernel
theorem dX11_image_11 : decode cX11_image 11 = .ok (.aload_n 0, 1) := by decide +kernel
theorem dX11_image_12 : decode cX11_image 12 = .ok (.getfield 27, 3) := by decide +kernel
theorem dX11_image_15 : decode cX11_image 15 = .ok (.getfield 125, 3) := by decide +kernel
theorem dX11_image_18 : decode cX11_image 18 = .ok (.invokevirtual 435, 3) := by decide +kernel
theorem dX11_image_21 : decode cX11_image 21 = .ok (.ireturn, 1) := by decide +kernel
def fX11_image (M : Mc) (N : Md) : Option (Int32 × Mc × Md) := bn3 (fX6_take M N (17 + 1) (17 + 15)) fun v2 M3 N4 => (some (v2, M3, N4))
theorem mX11_image (l : Launch) {Y : Nat → ClassId} {D : va_G} {σ : Nat → Nat} {np b0 : Nat} {M : Mc} {N : Md} {r : Int32 × Mc × Md} (hf : fX11_image M N = some r) : Met l yX11_image (.code yX11_image cX11_image 1 (some .int) :: lw_g) (rmD 4) (PR Y D σ np b0 [.ref (σ 0)] M N) (QR Y D σ np b0 (some (.int r.1)) r.2.1 r.2.2) 0 0 (xA b0) := by
  refine x_met (by decide) (Nat.le_of_ble_eq_true rfl) (fun p e s m args below meth c hE hr => ?_)
  unfold fX11_image at hf
  refine x_pick [0] (L' := [(0, .ref (σ 0))]) rfl ?_
  refine x_aload_n hE 0 dX11_image_0 rfl rfl ?_
  refine x_getR hE cl_11 (hE.kd kO_11) (by decide) 6 (121) rfl (by decide) lk_X11_51 dX11_image_1 ?_
  refine x_aload_n hE 0 dX11_image_4 rfl rfl ?_
  refine x_getR hE cl_11 (hE.kd kO_11) (by decide) 2 (17) rfl (by decide) lk_X11_27 dX11_image_5 ?_
  refine x_getR hE cl_10 (hE.kd (kO_10 hI_17)) (by decide) 1 (17 + 1) rfl (by decide) lk_X11_80 dX11_image_8 ?_
  refine x_aload_n hE 0 dX11_image_11 rfl rfl ?_
  refine x_getR hE cl_11 (hE.kd kO_11) (by decide) 2 (17) rfl (by decide) lk_X11_27 dX11_image_12 ?_
  refine x_getR hE cl_10 (hE.kd (kO_10 hI_17)) (by decide) 2 (17 + 15) rfl (by decide) lk_X11_125 dX11_image_15 ?_
  obtain ⟨⟨v2, M3, N4⟩, hc1, hf⟩ := bn3_some hf
  refine x_callV1 hE [.ref (σ (17 + 1)), .ref (σ (17 + 15))] (rest := []) (v := .int v2) (c1 := M3) (d1 := N4) rfl yokX6_take yvX6_take lk_X11_435 rfl cl_6 (hE.kd kO_6) (by decide) rfl rfl ⟨Nat.le_of_ble_eq_true rfl, Nat.le_of_ble_eq_true rfl⟩ ⟨Nat.zero_le _, Nat.zero_le _⟩ rfl (Nat.le_of_ble_eq_true rfl) dX11_image_18 (mX6_take l (hL_10_1 hI_17) (hL_10_2 hI_17) hc1) ?_
  replace hf := Option.some.inj hf
  subst hf
  exact x_ireturn hE (v := v2) hr rfl dX11_image_21
theorem yokX11_image : YOK yX11_image cX11_image 1 0 (some .int) := ⟨mem_g 698 (by decide +kernel) (by decide +kernel), mem_g 131 (by decide +kernel) (by decide +kernel), by decide +kernel, by decide +kernel, by decide +kernel⟩
theorem yvX11_image : YV yX11_image := ⟨mem_g 696 (by decide +kernel) (by decide +kernel), mem_g 697 (by decide +kernel) (by decide +kernel)⟩
theorem lk_X11_439 : Cond.methodLink RX11 439 yX6_at ∈ lw_g := mem_g 736 (by decide +kernel) (by decide +kernel)
theorem dX11_number_0 : decode cX11_number 0 = .ok (.aload_n 0, 1) := by decide +kernel
theorem dX11_number_1 : decode cX11_number 1 = .ok (.getfield 51, 3) := by decide +kernel
theorem dX11_number_4 : decode cX11_number 4 = .ok (.iload_n 1, 1) := by decide +kernel
theorem dX11_number_5 : decode cX11_number 5 = .ok (.invokevirtual 439, 3) := by decide +kernel
theorem dX11_number_8 : decode cX11_number 8 = .ok (.ireturn, 1) := by decide +kernel
def fX11_number (M : Mc) (p0 : Int32) : Option (Int32) := bnd (fX6_at M p0) fun v2 => (some (v2))
theorem mX11_number (l : Launch) {Y : Nat → ClassId} {D : va_G} {σ : Nat → Nat} {np b0 : Nat} {M : Mc} {N : Md} {p0 : Int32} {r : Int32} (hf : fX11_number M p0 = some r) : Met l yX11_number (.code yX11_number cX11_number 2 (some .int) :: lw_g) (rmD 3) (PR Y D σ np b0 [.ref (σ 0), .int p0] M N) (QR Y D σ np b0 (some (.int r)) M N) 0 0 (xA b0) := by
  refine x_met (by decide) (Nat.le_of_ble_eq_true rfl) (fun p e s m args below meth c hE hr => ?_)
  unfold fX11_number at hf
  refine x_pick [0, 1] (L' := [(0, .ref (σ 0)), (1, .int p0)]) rfl ?_
  refine x_aload_n hE 0 dX11_number_0 rfl rfl ?_
  refine x_getR hE cl_11 (hE.kd kO_11) (by decide) 6 (121) rfl (by decide) lk_X11_51 dX11_number_1 ?_
  refine x_iload_n hE 1 dX11_number_4 rfl rfl ?_
  obtain ⟨v2, hc1, hf⟩ := bnd_some hf
  refine x_callV1 hE [.int p0] (rest := []) (v := .int v2) (c1 := M) (d1 := N) rfl yokX6_at yvX6_at lk_X11_439 rfl cl_6 (hE.kd kO_6) (by decide) rfl rfl ⟨Nat.le_of_ble_eq_true rfl, Nat.le_of_ble_eq_true rfl⟩ ⟨Nat.zero_le _, Nat.zero_le _⟩ rfl (Nat.le_of_ble_eq_true rfl) dX11_number_5 (mX6_at l hc1) ?_
  replace hf := Option.some.inj hf
  subst hf
  exact x_ireturn hE (v := v2) hr rfl dX11_number_8
theorem yokX11_number : YOK yX11_number cX11_number 2 1 (some .int) := ⟨mem_g 735 (by decide +kernel) (by decide +kernel), mem_g 131 (by decide +kernel) (by decide +kernel), by decide +kernel, by decide +kernel, by decide +kernel⟩
theorem yvX11_number : YV yX11_number := ⟨mem_g 733 (by decide +kernel) (by decide +kernel), mem_g 734 (by decide +kernel) (by decide +kernel)⟩
theorem lk_X11_442 : Cond.methodLink RX11 442 yX6_alter ∈ lw_g := mem_g 745 (by decide +kernel) (by decide +kernel)
theorem dX11_tear_0 : decode cX11_tear 0 = .ok (.aload_n 0, 1) := by decide +kernel
theorem dX11_tear_1 : decode cX11_tear 1 = .ok (.getfield 51, 3) := by decide +kernel
theorem dX11_tear_4 : decode cX11_tear 4 = .ok (.iload_n 1, 1) := by decide +kernel
theorem dX11_tear_5 : decode cX11_tear 5 = .ok (.iload_n 2, 1) := by decide +kernel
theorem dX11_tear_6 : decode cX11_tear 6 = .ok (.invokevirtual 442, 3) := by decide +kernel
theorem dX11_tear_9 : decode cX11_tear 9 = .ok (.ireturn, 1) := by decide +kernel
def fX11_tear (M : Mc) (p0 : Int32) (p1 : Int32) : Option (Int32 × Mc) := bn2 (fX6_alter M p0 p1) fun v2 M3 => (some (v2, M3))
theorem mX11_tear (l : Launch) {Y : Nat → ClassId} {D : va_G} {σ : Nat → Nat} {np b0 : Nat} {M : Mc} {N : Md} {p0 : Int32} {p1 : Int32} {r : Int32 × Mc} (hf : fX11_tear M p0 p1 = some r) : Met l yX11_tear (.code yX11_tear cX11_tear 3 (some .int) :: lw_g) (rmD 3) (PR Y D σ np b0 [.ref (σ 0), .int p0, .int p1] M N) (QR Y D σ np b0 (some (.int r.1)) r.2 N) 0 0 (xA b0) := by
  refine x_met (by decide) (Nat.le_of_ble_eq_true rfl) (fun p e s m args below meth c hE hr => ?_)
  unfold fX11_tear at hf
  refine x_pick [0, 1, 2] (L' := [(0, .ref (σ 0)), (1, .int p0), (2, .int p1)]) rfl ?_
  refine x_aload_n hE 0 dX11_tear_0 rfl rfl ?_
  refine x_getR hE cl_11 (hE.kd kO_11) (by decide) 6 (121) rfl (by decide) lk_X11_51 dX11_tear_1 ?_
  refine x_iload_n hE 1 dX11_tear_4 rfl rfl ?_
  refine x_iload_n hE 2 dX11_tear_5 rfl rfl ?_
  obtain ⟨⟨v2, M3⟩, hc1, hf⟩ := bn2_some hf
  refine x_callV1 hE [.int p0, .int p1] (rest := []) (v := .int v2) (c1 := M3) (d1 := N) rfl yokX6_alter yvX6_alter lk_X11_442 rfl cl_6 (hE.kd kO_6) (by decide) rfl rfl ⟨Nat.le_of_ble_eq_true rfl, Nat.le_of_ble_eq_true rfl⟩ ⟨Nat.zero_le _, Nat.zero_le _⟩ rfl (Nat.le_of_ble_eq_true rfl) dX11_tear_6 (mX6_alter l hc1) ?_
  replace hf := Option.some.inj hf
  subst hf
  exact x_ireturn hE (v := v2) hr rfl dX11_tear_9
theorem yokX11_tear : YOK yX11_tear cX11_tear 3 2 (some .int) := ⟨mem_g 744 (by decide +kernel) (by decide +kernel), mem_g 131 (by decide +kernel) (by decide +kernel), by decide +kernel, by decide +kernel, by decide +kernel⟩
theorem yvX11_tear : YV yX11_tear := ⟨mem_g 742 (by decide +kernel) (by decide +kernel), mem_g 743 (by decide +kernel) (by decide +kernel)⟩
theorem lk_X11_445 : Cond.methodLink RX11 445 yX6_verdict ∈ lw_g := mem_g 753 (by decide +kernel) (by decide +kernel)
theorem dX11_check_0 : decode cX11_check 0 = .ok (.aload_n 0, 1) := by decide +kernel
theorem dX11_check_1 : decode cX11_check 1 = .ok (.getfield 51, 3) := by decide +kernel
theorem dX11_check_4 : decode cX11_check 4 = .ok (.invokevirtual 445, 3) := by decide +kernel
theorem dX11_check_7 : decode cX11_check 7 = .ok (.ireturn, 1) := by decide +kernel
def fX11_check (M : Mc) (N : Md) : Option (Int32) := bnd (fX6_verdict M N) fun v2 => (some (v2))
theorem mX11_check (l : Launch) {Y : Nat → ClassId} {D : va_G} {σ : Nat → Nat} {np b0 : Nat} {M : Mc} {N : Md} {r : Int32} (hf : fX11_check M N = some r) : Met l yX11_check (.code yX11_check cX11_check 1 (some .int) :: lw_g) (rmD 3) (PR Y D σ np b0 [.ref (σ 0)] M N) (QR Y D σ np b0 (some (.int r)) M N) 0 0 (xA b0) := by
  refine x_met (by decide) (Nat.le_of_ble_eq_true rfl) (fun p e s m args below meth c hE hr => ?_)
  unfold fX11_check at hf
  refine x_pick [0] (L' := [(0, .ref (σ 0))]) rfl ?_
  refine x_aload_n hE 0 dX11_check_0 rfl rfl ?_
  refine x_getR hE cl_11 (hE.kd kO_11) (by decide) 6 (121) rfl (by decide) lk_X11_51 dX11_check_1 ?_
  obtain ⟨v2, hc1, hf⟩ := bnd_some hf
  refine x_callV1 hE [] (rest := []) (v := .int v2) (c1 := M) (d1 := N) rfl yokX6_verdict yvX6_verdict lk_X11_445 rfl cl_6 (hE.kd kO_6) (by decide) rfl rfl ⟨Nat.le_of_ble_eq_true rfl, Nat.le_of_ble_eq_true rfl⟩ ⟨Nat.zero_le _, Nat.zero_le _⟩ rfl (Nat.le_of_ble_eq_true rfl) dX11_check_4 (mX6_verdict l hc1) ?_
  replace hf := Option.some.inj hf
  subst hf
  exact x_ireturn hE (v := v2) hr rfl dX11_check_7
theorem yokX11_check : YOK yX11_check cX11_check 1 0 (some .int) := ⟨mem_g 752 (by decide +kernel) (by decide +kernel), mem_g 131 (by decide +kernel) (by decide +kernel), by decide +kernel, by decide +kernel, by decide +kernel⟩
theorem yvX11_check : YV yX11_check := ⟨mem_g 750 (by decide +kernel) (by decide +kernel), mem_g 751 (by decide +kernel) (by decide +kernel)⟩
theorem lk_X11_412 : Cond.fieldLink RX11 412 (TX3 1).1 (TX3 1).2.1 (TX3 1).2.2.1 ∈ lw_g := mem_g 261 (by decide +kernel) (by decide +kernel)
theorem lk_X11_406 : Cond.fieldLink RX11 406 (TX10 7).1 (TX10 7).2.1 (TX10 7).2.2.1 ∈ lw_g := mem_g 425 (by decide +kernel) (by decide +kernel)
theorem lk_X11_259 : Cond.fieldLink RX11 259 (TX10 8).1 (TX10 8).2.1 (TX10 8).2.2.1 ∈ lw_g := mem_g 428 (by decide +kernel) (by decide +kernel)
theorem lk_X11_293 : Cond.fieldLink RX11 293 (TX2 1).1 (TX2 1).2.1 (TX2 1).2.2.1 ∈ lw_g := mem_g 367 (by decide +kernel) (by decide +kernel)
theorem lk_X11_363 : Cond.fieldLink RX11 363 (TX10 4).1 (TX10 4).2.1 (TX10 4).2.2.1 ∈ lw_g := mem_g 416 (by decide +kernel) (by decide +kernel)
theorem lk_X11_448 : Cond.fieldLink RX11 448 (TX1 0).1 (TX1 0).2.1 (TX1 0).2.2.1 ∈ lw_g := mem_g 339 (by decide +kernel) (by decide +kernel)
theorem lk_X11_142 : Cond.fieldLink RX11 142 (TX10 3).1 (TX10 3).2.1 (TX10 3).2.2.1 ∈ lw_g := mem_g 414 (by decide +kernel) (by decide +kernel)
theorem lk_X11_449 : Cond.fieldLink RX11 449 (TX5 0).1 (TX5 0).2.1 (TX5 0).2.2.1 ∈ lw_g := mem_g 316 (by decide +kernel) (by decide +kernel)
theorem lk_X11_450 : Cond.fieldLink RX11 450 (TX3 3).1 (TX3 3).2.1 (TX3 3).2.2.1 ∈ lw_g := mem_g 266 (by decide +kernel) (by decide +kernel)
theorem lk_X11_367 : Cond.fieldLink RX11 367 (TX1 1).1 (TX1 1).2.1 (TX1 1).2.2.1 ∈ lw_g := mem_g 341 (by decide +kernel) (by decide +kernel)
theorem lk_X11_453 : Cond.fieldLink RX11 453 (TX9 2).1 (TX9 2).2.1 (TX9 2).2.2.1 ∈ lw_g := mem_g 488 (by decide +kernel) (by decide +kernel)
theorem dX11_count_0 : decode cX11_count 0 = .ok (.iload_n 1, 1) := by decide +kernel
theorem dX11_count_1 : decode cX11_count 1 = .ok (.tableswitch 216 0 14 #[75, 83, 94, 105, 116, 124, 132, 143, 154, 159, 170, 181, 192, 203, 208], 75) := by decide +kernel
theorem dX11_count_76 : decode cX11_count 76 = .ok (.aload_n 0, 1) := by decide +kernel
theorem dX11_count_77 : decode cX11_count 77 = .ok (.getfield 27, 3) := by decide +kernel
theorem dX11_count_80 : decode cX11_count 80 = .ok (.getfield 232, 3) := by decide +kernel
theorem dX11_count_83 : decode cX11_count 83 = .ok (.ireturn, 1) := by decide +kernel
theorem dX11_count_84 : decode cX11_count 84 = .ok (.aload_n 0, 1) := by decide +kernel
theorem dX11_count_85 : decode cX11_count 85 = .ok (.getfield 27, 3) := by decide +kernel
theorem dX11_count_88 : decode cX11_count 88 = .ok (.getfield 125, 3) := by decide +kernel
theorem dX11_count_91 : decode cX11_count 91 = .ok (.getfield 129, 3) := by decide +kernel
theorem dX11_count_94 : decode cX11_count 94 = .ok (.ireturn, 1) := by decide +kernel
theorem dX11_count_95 : decode cX11_count 95 = .ok (.aload_n 0, 1) := by decide +kernel
theorem dX11_count_96 : decode cX11_count 96 = .ok (.getfield 27, 3) := by decide +kernel
theorem dX11_count_99 : decode cX11_count 99 = .ok (.getfield 125, 3) := by decide +kernel
theorem dX11_count_102 : decode cX11_count 102 = .ok (.getfield 412, 3) := by decide +kernel
theorem dX11_count_105 : decode cX11_count 105 = .ok (.ireturn, 1) := by decide +kernel
theorem dX11_count_106 : decode cX11_count 106 = .ok (.aload_n 0, 1) := by decide +kernel
theorem dX11_count_107 : decode cX11_count 107 = .ok (.getfield 27, 3) := by decide +kernel
theorem dX11_count_110 : decode cX11_count 110 = .ok (.getfield 80, 3) := by decide +kernel
theorem dX11_count_113 : decode cX11_count 113 = .ok (.getfield 400, 3) := by decide +kernel
theorem dX11_count_116 : decode cX11_count 116 = .ok (.ireturn, 1) := by decide +kernel
theorem dX11_count_117 : decode cX11_count 117 = .ok (.aload_n 0, 1) := by decide +kernel
theorem dX11_count_118 : decode cX11_count 118 = .ok (.getfield 27, 3) := by decide +kernel
theorem dX11_count_121 : decode cX11_count 121 = .ok (.getfield 406, 3) := by decide +kernel
theorem dX11_count_124 : decode cX11_count 124 = .ok (.ireturn, 1) := by decide +kernel
theorem dX11_count_125 : decode cX11_count 125 = .ok (.aload_n 0, 1) := by decide +kernel
theorem dX11_count_126 : decode cX11_count 126 = .ok (.getfield 27, 3) := by decide +kernel
theorem dX11_count_129 : decode cX11_count 129 = .ok (.getfield 259, 3) := by decide +kernel
theorem dX11_count_132 : decode cX11_count 132 = .ok (.ireturn, 1) := by decide +kernel
theorem dX11_count_133 : decode cX11_count 133 = .ok (.aload_n 0, 1) := by decide +kernel
theorem dX11_count_134 : decode cX11_count 134 = .ok (.getfield 27, 3) := by decide +kernel
theorem dX11_count_137 : decode cX11_count 137 = .ok (.getfield 125, 3) := by decide +kernel
theorem dX11_count_140 : decode cX11_count 140 = .ok (.getfield 403, 3) := by decide +kernel
theorem dX11_count_143 : decode cX11_count 143 = .ok (.ireturn, 1) := by decide +kernel
theorem dX11_count_144 : decode cX11_count 144 = .ok (.aload_n 0, 1) := by decide +kernel
theorem dX11_count_145 : decode cX11_count 145 = .ok (.getfield 27, 3) := by decide +kernel
theorem dX11_count_148 : decode cX11_count 148 = .ok (.getfield 289, 3) := by decide +kernel
theorem dX11_count_151 : decode cX11_count 151 = .ok (.getfield 293, 3) := by decide +kernel
theorem dX11_count_154 : decode cX11_count 154 = .ok (.ireturn, 1) := by decide +kernel
theorem dX11_count_155 : decode cX11_count 155 = .ok (.aload_n 0, 1) := by decide +kernel
theorem dX11_count_156 : decode cX11_count 156 = .ok (.getfield 348, 3) := by decide +kernel
theorem dX11_count_159 : decode cX11_count 159 = .ok (.ireturn, 1) := by decide +kernel
theorem dX11_count_160 : decode cX11_count 160 = .ok (.aload_n 0, 1) := by decide +kernel
theorem dX11_count_161 : decode cX11_count 161 = .ok (.getfield 27, 3) := by decide +kernel
theorem dX11_count_164 : decode cX11_count 164 = .ok (.getfield 363, 3) := by decide +kernel
theorem dX11_count_167 : decode cX11_count 167 = .ok (.getfield 448, 3) := by decide +kernel
theorem dX11_count_170 : decode cX11_count 170 = .ok (.ireturn, 1) := by decide +kernel
theorem dX11_count_171 : decode cX11_count 171 = .ok (.aload_n 0, 1) := by decide +kernel
theorem dX11_count_172 : decode cX11_count 172 = .ok (.getfield 27, 3) := by decide +kernel
theorem dX11_count_175 : decode cX11_count 175 = .ok (.getfield 142, 3) := by decide +kernel
theorem dX11_count_178 : decode cX11_count 178 = .ok (.getfield 449, 3) := by decide +kernel
theorem dX11_count_181 : decode cX11_count 181 = .ok (.ireturn, 1) := by decide +kernel
theorem dX11_count_182 : decode cX11_count 182 = .ok (.aload_n 0, 1) := by decide +kernel
theorem dX11_count_183 : decode cX11_count 183 = .ok (.getfield 27, 3) := by decide +kernel
theorem dX11_count_186 : decode cX11_count 186 = .ok (.getfield 125, 3) := by decide +kernel
theorem dX11_count_189 : decode cX11_count 189 = .ok (.getfield 450, 3) := by decide +kernel
theorem dX11_count_192 : decode cX11_count 192 = .ok (.ireturn, 1) := by decide +kernel
theorem dX11_count_193 : decode cX11_count 193 = .ok (.aload_n 0, 1) := by decide +kernel
theorem dX11_count_194 : decode cX11_count 194 = .ok (.getfield 27, 3) := by decide +kernel
theorem dX11_count_197 : decode cX11_count 197 = .ok (.getfield 363, 3) := by decide +kernel
theorem dX11_count_200 : decode cX11_count 200 = .ok (.getfield 367, 3) := by decide +kernel
theorem dX11_count_203 : decode cX11_count 203 = .ok (.ireturn, 1) := by decide +kernel
theorem dX11_count_204 : decode cX11_count 204 = .ok (.aload_n 0, 1) := by decide +kernel
theorem dX11_count_205 : decode cX11_count 205 = .ok (.getfield 283, 3) := by decide +kernel
theorem dX11_count_208 : decode cX11_count 208 = .ok (.ireturn, 1) := by decide +kernel
theorem dX11_count_209 : decode cX11_count 209 = .ok (.aload_n 0, 1) := by decide +kernel
theorem dX11_count_210 : decode cX11_count 210 = .ok (.getfield 37, 3) := by decide +kernel
theorem dX11_count_213 : decode cX11_count 213 = .ok (.getfield 453, 3) := by decide +kernel
theorem dX11_count_216 : decode cX11_count 216 = .ok (.ireturn, 1) := by decide +kernel
theorem dX11_count_217 : decode cX11_count 217 = .ok (.iconst (-1), 1) := by decide +kernel
theorem dX11_count_218 : decode cX11_count 218 = .ok (.ireturn, 1) := by decide +kernel
def fX11_count (M : Mc) (p0 : Int32) : Option (Int32) := (if p0 = 0 then (some ((M (17) 6))) else if p0 = nI 1 then (some ((M (17 + 15) 0))) else if p0 = nI 2 then (some ((M (17 + 15) 1))) else if p0 = nI 3 then (some ((M (17 + 1) 10))) else if p0 = nI 4 then (some ((M (17) 7))) else if p0 = nI 5 then (some ((M (17) 8))) else if p0 = nI 6 then (some ((M (17 + 15) 2))) else if p0 = nI 7 then (some ((M (17 + 37) 1))) else if p0 = nI 8 then (some ((M 0 10))) else if p0 = nI 9 then (some ((M (17 + 32) 0))) else if p0 = nI 10 then (some ((M (17 + 27) 0))) else if p0 = nI 11 then (some ((M (17 + 15) 3))) else if p0 = nI 12 then (some ((M (17 + 32) 1))) else if p0 = nI 13 then (some ((M 0 8))) else if p0 = nI 14 then (some ((M (111) 2))) else (some ((-1))))
theorem mX11_count (l : Launch) {Y : Nat → ClassId} {D : va_G} {σ : Nat → Nat} {np b0 : Nat} {M : Mc} {N : Md} {p0 : Int32} {r : Int32} (hf : fX11_count M p0 = some r) : Met l yX11_count (.code yX11_count cX11_count 2 (some .int) :: lw_g) (rmD 1) (PR Y D σ np b0 [.ref (σ 0), .int p0] M N) (QR Y D σ np b0 (some (.int r)) M N) 0 0 (xA b0) := by
  refine x_met (by decide) (Nat.le_of_ble_eq_true rfl) (fun p e s m args below meth c hE hr => ?_)
  unfold fX11_count at hf
  refine x_pick [0, 1] (L' := [(0, .ref (σ 0)), (1, .int p0)]) rfl ?_
  refine x_iload_n hE 1 dX11_count_0 rfl rfl ?_
  refine x_swi (0) hf (fun hsw hf => ?_) (fun hsw0 hf => ?_)
  · refine x_tabI hE 76 dX11_count_1 hsw (by decide) (by decide) rfl (by decide) ?_
    refine x_aload_n hE 0 dX11_count_76 rfl rfl ?_
    refine x_getR hE cl_11 (hE.kd kO_11) (by decide) 2 (17) rfl (by decide) lk_X11_27 dX11_count_77 ?_
    refine x_getI hE cl_10 (hE.kd (kO_10 hI_17)) (by decide) 6 rfl (by decide) lk_X11_232 dX11_count_80 ?_
    replace hf := Option.some.inj hf
    subst hf
    exact x_ireturn hE (v := M (17) 6) hr rfl dX11_count_83
  refine x_swi (nI 1) hf (fun hsw hf => ?_) (fun hsw1 hf => ?_)
  · refine x_tabI hE 84 dX11_count_1 hsw (by decide) (by decide) rfl (by decide) ?_
    refine x_aload_n hE 0 dX11_count_84 rfl rfl ?_
    refine x_getR hE cl_11 (hE.kd kO_11) (by decide) 2 (17) rfl (by decide) lk_X11_27 dX11_count_85 ?_
    refine x_getR hE cl_10 (hE.kd (kO_10 hI_17)) (by decide) 2 (17 + 15) rfl (by decide) lk_X11_125 dX11_count_88 ?_
    refine x_getI hE cl_3 (hE.kd (kO_3 (hL_10_2 hI_17))) (by decide) 0 rfl (by decide) lk_X11_129 dX11_count_91 ?_
    replace hf := Option.some.inj hf
    subst hf
    exact x_ireturn hE (v := M (17 + 15) 0) hr rfl dX11_count_94
  refine x_swi (nI 2) hf (fun hsw hf => ?_) (fun hsw2 hf => ?_)
  · refine x_tabI hE 95 dX11_count_1 hsw (by decide) (by decide) rfl (by decide) ?_
    refine x_aload_n hE 0 dX11_count_95 rfl rfl ?_
    refine x_getR hE cl_11 (hE.kd kO_11) (by decide) 2 (17) rfl (by decide) lk_X11_27 dX11_count_96 ?_
    refine x_getR hE cl_10 (hE.kd (kO_10 hI_17)) (by decide) 2 (17 + 15) rfl (by decide) lk_X11_125 dX11_count_99 ?_
    refine x_getI hE cl_3 (hE.kd (kO_3 (hL_10_2 hI_17))) (by decide) 1 rfl (by decide) lk_X11_412 dX11_count_102 ?_
    replace hf := Option.some.inj hf
    subst hf
    exact x_ireturn hE (v := M (17 + 15) 1) hr rfl dX11_count_105
  refine x_swi (nI 3) hf (fun hsw hf => ?_) (fun hsw3 hf => ?_)
  · refine x_tabI hE 106 dX11_count_1 hsw (by decide) (by decide) rfl (by decide) ?_
    refine x_aload_n hE 0 dX11_count_106 rfl rfl ?_
    refine x_getR hE cl_11 (hE.kd kO_11) (by decide) 2 (17) rfl (by decide) lk_X11_27 dX11_count_107 ?_
    refine x_getR hE cl_10 (hE.kd (kO_10 hI_17)) (by decide) 1 (17 + 1) rfl (by decide) lk_X11_80 dX11_count_110 ?_
    refine x_getI hE cl_4 (hE.kd (kO_4 (hL_10_1 hI_17))) (by decide) 10 rfl (by decide) lk_X11_400 dX11_count_113 ?_
    replace hf := Option.some.inj hf
    subst hf
    exact x_ireturn hE (v := M (17 + 1) 10) hr rfl dX11_count_116
  refine x_swi (nI 4) hf (fun hsw hf => ?_) (fun hsw4 hf => ?_)
  · refine x_tabI hE 117 dX11_count_1 hsw (by decide) (by decide) rfl (by decide) ?_
    refine x_aload_n hE 0 dX11_count_117 rfl rfl ?_
    refine x_getR hE cl_11 (hE.kd kO_11) (by decide) 2 (17) rfl (by decide) lk_X11_27 dX11_count_118 ?_
    refine x_getI hE cl_10 (hE.kd (kO_10 hI_17)) (by decide) 7 rfl (by decide) lk_X11_406 dX11_count_121 ?_
    replace hf := Option.some.inj hf
    subst hf
    exact x_ireturn hE (v := M (17) 7) hr rfl dX11_count_124
  refine x_swi (nI 5) hf (fun hsw hf => ?_) (fun hsw5 hf => ?_)
  · refine x_tabI hE 125 dX11_count_1 hsw (by decide) (by decide) rfl (by decide) ?_
    refine x_aload_n hE 0 dX11_count_125 rfl rfl ?_
    refine x_getR hE cl_11 (hE.kd kO_11) (by decide) 2 (17) rfl (by decide) lk_X11_27 dX11_count_126 ?_
    refine x_getI hE cl_10 (hE.kd (kO_10 hI_17)) (by decide) 8 rfl (by decide) lk_X11_259 dX11_count_129 ?_
    replace hf := Option.some.inj hf
    subst hf
    exact x_ireturn hE (v := M (17) 8) hr rfl dX11_count_132
  refine x_swi (nI 6) hf (fun hsw hf => ?_) (fun hsw6 hf => ?_)
  · refine x_tabI hE 133 dX11_count_1 hsw (by decide) (by decide) rfl (by decide) ?_
    refine x_aload_n hE 0 dX11_count_133 rfl rfl ?_
    refine x_getR hE cl_11 (hE.kd kO_11) (by decide) 2 (17) rfl (by decide) lk_X11_27 dX11_count_134 ?_
    refine x_getR hE cl_10 (hE.kd (kO_10 hI_17)) (by decide) 2 (17 + 15) rfl (by decide) lk_X11_125 dX11_count_137 ?_
    refine x_getI hE cl_3 (hE.kd (kO_3 (hL_10_2 hI_17))) (by decide) 2 rfl (by decide) lk_X11_403 dX11_count_140 ?_
    replace hf := Option.some.inj hf
    subst hf
    exact x_ireturn hE (v := M (17 + 15) 2) hr rfl dX11_count_143
  refine x_swi (nI 7) hf (fun hsw hf => ?_) (fun hsw7 hf => ?_)
  · refine x_tabI hE 144 dX11_count_1 hsw (by decide) (by decide) rfl (by decide) ?_
    refine x_aload_n hE 0 dX11_count_144 rfl rfl ?_
    refine x_getR hE cl_11 (hE.kd kO_11) (by decide) 2 (17) rfl (by decide) lk_X11_27 dX11_count_145 ?_
    refine x_getR hE cl_10 (hE.kd (kO_10 hI_17)) (by decide) 5 (17 + 37) rfl (by decide) lk_X11_289 dX11_count_148 ?_
    refine x_getI hE cl_2 (hE.kd (kO_2 (hL_10_5 hI_17))) (by decide) 1 rfl (by decide) lk_X11_293 dX11_count_151 ?_
    replace hf := Option.some.inj hf
    subst hf
    exact x_ireturn hE (v := M (17 + 37) 1) hr rfl dX11_count_154
  refine x_swi (nI 8) hf (fun hsw hf => ?_) (fun hsw8 hf => ?_)
  · refine x_tabI hE 155 dX11_count_1 hsw (by decide) (by decide) rfl (by decide) ?_
    refine x_aload_n hE 0 dX11_count_155 rfl rfl ?_
    refine x_getI hE cl_11 (hE.kd kO_11) (by decide) 10 rfl (by decide) lk_X11_348 dX11_count_156 ?_
    replace hf := Option.some.inj hf
    subst hf
    exact x_ireturn hE (v := M 0 10) hr rfl dX11_count_159
  refine x_swi (nI 9) hf (fun hsw hf => ?_) (fun hsw9 hf => ?_)
  · refine x_tabI hE 160 dX11_count_1 hsw (by decide) (by decide) rfl (by decide) ?_
    refine x_aload_n hE 0 dX11_count_160 rfl rfl ?_
    refine x_getR hE cl_11 (hE.kd kO_11) (by decide) 2 (17) rfl (by decide) lk_X11_27 dX11_count_161 ?_
    refine x_getR hE cl_10 (hE.kd (kO_10 hI_17)) (by decide) 4 (17 + 32) rfl (by decide) lk_X11_363 dX11_count_164 ?_
    refine x_getI hE cl_1 (hE.kd (kO_1 (hL_10_4 hI_17))) (by decide) 0 rfl (by decide) lk_X11_448 dX11_count_167 ?_
    replace hf := Option.some.inj hf
    subst hf
    exact x_ireturn hE (v := M (17 + 32) 0) hr rfl dX11_count_170
  refine x_swi (nI 10) hf (fun hsw hf => ?_) (fun hsw10 hf => ?_)
  · refine x_tabI hE 171 dX11_count_1 hsw (by decide) (by decide) rfl (by decide) ?_
    refine x_aload_n hE 0 dX11_count_171 rfl rfl ?_
    refine x_getR hE cl_11 (hE.kd kO_11) (by decide) 2 (17) rfl (by decide) lk_X11_27 dX11_count_172 ?_
    refine x_getR hE cl_10 (hE.kd (kO_10 hI_17)) (by decide) 3 (17 + 27) rfl (by decide) lk_X11_142 dX11_count_175 ?_
    refine x_getI hE cl_5 (hE.kd (kO_5 (hL_10_3 hI_17))) (by decide) 0 rfl (by decide) lk_X11_449 dX11_count_178 ?_
    replace hf := Option.some.inj hf
    subst hf
    exact x_ireturn hE (v := M (17 + 27) 0) hr rfl dX11_count_181
  refine x_swi (nI 11) hf (fun hsw hf => ?_) (fun hsw11 hf => ?_)
  · refine x_tabI hE 182 dX11_count_1 hsw (by decide) (by decide) rfl (by decide) ?_
    refine x_aload_n hE 0 dX11_count_182 rfl rfl ?_
    refine x_getR hE cl_11 (hE.kd kO_11) (by decide) 2 (17) rfl (by decide) lk_X11_27 dX11_count_183 ?_
    refine x_getR hE cl_10 (hE.kd (kO_10 hI_17)) (by decide) 2 (17 + 15) rfl (by decide) lk_X11_125 dX11_count_186 ?_
    refine x_getI hE cl_3 (hE.kd (kO_3 (hL_10_2 hI_17))) (by decide) 3 rfl (by decide) lk_X11_450 dX11_count_189 ?_
    replace hf := Option.some.inj hf
    subst hf
    exact x_ireturn hE (v := M (17 + 15) 3) hr rfl dX11_count_192
  refine x_swi (nI 12) hf (fun hsw hf => ?_) (fun hsw12 hf => ?_)
  · refine x_tabI hE 193 dX11_count_1 hsw (by decide) (by decide) rfl (by decide) ?_
    refine x_aload_n hE 0 dX11_count_193 rfl rfl ?_
    refine x_getR hE cl_11 (hE.kd kO_11) (by decide) 2 (17) rfl (by decide) lk_X11_27 dX11_count_194 ?_
    refine x_getR hE cl_10 (hE.kd (kO_10 hI_17)) (by decide) 4 (17 + 32) rfl (by decide) lk_X11_363 dX11_count_197 ?_
    refine x_getI hE cl_1 (hE.kd (kO_1 (hL_10_4 hI_17))) (by decide) 1 rfl (by decide) lk_X11_367 dX11_count_200 ?_
    replace hf := Option.some.inj hf
    subst hf
    exact x_ireturn hE (v := M (17 + 32) 1) hr rfl dX11_count_203
  refine x_swi (nI 13) hf (fun hsw hf => ?_) (fun hsw13 hf => ?_)
  · refine x_tabI hE 204 dX11_count_1 hsw (by decide) (by decide) rfl (by decide) ?_
    refine x_aload_n hE 0 dX11_count_204 rfl rfl ?_
    refine x_getI hE cl_11 (hE.kd kO_11) (by decide) 8 rfl (by decide) lk_X11_283 dX11_count_205 ?_
    replace hf := Option.some.inj hf
    subst hf
    exact x_ireturn hE (v := M 0 8) hr rfl dX11_count_208
  refine x_swi (nI 14) hf (fun hsw hf => ?_) (fun hsw14 hf => ?_)
  · refine x_tabI hE 209 dX11_count_1 hsw (by decide) (by decide) rfl (by decide) ?_
    refine x_aload_n hE 0 dX11_count_209 rfl rfl ?_
    refine x_getR hE cl_11 (hE.kd kO_11) (by decide) 4 (111) rfl (by decide) lk_X11_37 dX11_count_210 ?_
    refine x_getI hE cl_9 (hE.kd kO_9) (by decide) 2 rfl (by decide) lk_X11_453 dX11_count_213 ?_
    replace hf := Option.some.inj hf
    subst hf
    exact x_ireturn hE (v := M (111) 2) hr rfl dX11_count_216
  refine x_tabO hE 217 dX11_count_1 (x_out 15 rfl (fun k hk => match k, hk with | 0, _ => x_ne hsw0 (by decide) | 1, _ => x_ne hsw1 (by decide) | 2, _ => x_ne hsw2 (by decide) | 3, _ => x_ne hsw3 (by decide) | 4, _ => x_ne hsw4 (by decide) | 5, _ => x_ne hsw5 (by decide) | 6, _ => x_ne hsw6 (by decide) | 7, _ => x_ne hsw7 (by decide) | 8, _ => x_ne hsw8 (by decide) | 9, _ => x_ne hsw9 (by decide) | 10, _ => x_ne hsw10 (by decide) | 11, _ => x_ne hsw11 (by decide) | 12, _ => x_ne hsw12 (by decide) | 13, _ => x_ne hsw13 (by decide) | 14, _ => x_ne hsw14 (by decide) | k + 15, hk => absurd hk (by omega))) (by decide) ?_
  refine x_iconst hE (-1) dX11_count_217 (by decide) ?_
  replace hf := Option.some.inj hf
  subst hf
  exact x_ireturn hE (v := (-1)) hr rfl dX11_count_218
theorem yokX11_count : YOK yX11_count cX11_count 2 1 (some .int) := ⟨mem_g 760 (by decide +kernel) (by decide +kernel), mem_g 131 (by decide +kernel) (by decide +kernel), by decide +kernel, by decide +kernel, by decide +kernel⟩
theorem yvX11_count : YV yX11_count := ⟨mem_g 758 (by decide +kernel) (by decide +kernel), mem_g 759 (by decide +kernel) (by decide +kernel)⟩
