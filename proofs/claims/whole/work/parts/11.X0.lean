theorem lk_X0_23 : Cond.methodLinkNest RX0 23 yX11_inside "SettlerColony" ∈ lw_nw := mem_n 643 (by decide +kernel) rfl
theorem lk_X0_16 : Cond.fieldLink RX0 16 (TX0 1).1 (TX0 1).2.1 (TX0 1).2.2.1 ∈ lw_g := mem_g 174 (by decide +kernel) (by decide +kernel)
theorem lk_X0_11 : Cond.fieldLink RX0 11 (TX0 0).1 (TX0 0).2.1 (TX0 0).2.2.1 ∈ lw_g := mem_g 173 (by decide +kernel) (by decide +kernel)
theorem dX0_tell_0 : decode cX0_tell 0 = .ok (.iload_n 1, 1) := by decide +kernel
theorem dX0_tell_1 : decode cX0_tell 1 = .ok (.iconst 4, 1) := by decide +kernel
theorem dX0_tell_2 : decode cX0_tell 2 = .ok (.invokestatic 23, 3) := by decide +kernel
theorem dX0_tell_5 : decode cX0_tell 5 = .ok (.ifCond .eq 21, 3) := by decide +kernel
theorem dX0_tell_8 : decode cX0_tell 8 = .ok (.iload_n 3, 1) := by decide +kernel
theorem dX0_tell_9 : decode cX0_tell 9 = .ok (.ifCond .lt 17, 3) := by decide +kernel
theorem dX0_tell_12 : decode cX0_tell 12 = .ok (.iload_n 3, 1) := by decide +kernel
theorem dX0_tell_13 : decode cX0_tell 13 = .ok (.sipush 1000, 3) := by decide +kernel
theorem dX0_tell_16 : decode cX0_tell 16 = .ok (.aload_n 0, 1) := by decide +kernel
theorem dX0_tell_17 : decode cX0_tell 17 = .ok (.getfield 16, 3) := by decide +kernel
theorem dX0_tell_20 : decode cX0_tell 20 = .ok (.iload_n 1, 1) := by decide +kernel
theorem dX0_tell_21 : decode cX0_tell 21 = .ok (.iaload, 1) := by decide +kernel
theorem dX0_tell_22 : decode cX0_tell 22 = .ok (.isub, 1) := by decide +kernel
theorem dX0_tell_23 : decode cX0_tell 23 = .ok (.if_icmp .le 5, 3) := by decide +kernel
theorem dX0_tell_26 : decode cX0_tell 26 = .ok (.iconst (-1), 1) := by decide +kernel
theorem dX0_tell_27 : decode cX0_tell 27 = .ok (.ireturn, 1) := by decide +kernel
theorem dX0_tell_28 : decode cX0_tell 28 = .ok (.iconst 0, 1) := by decide +kernel
theorem dX0_tell_29 : decode cX0_tell 29 = .ok (.istore 4, 2) := by decide +kernel
theorem dX0_tell_31 : decode cX0_tell 31 = .ok (.iload 4, 2) := by decide +kernel
theorem dX0_tell_33 : decode cX0_tell 33 = .ok (.iload_n 3, 1) := by decide +kernel
theorem dX0_tell_34 : decode cX0_tell 34 = .ok (.if_icmp .ge 48, 3) := by decide +kernel
theorem dX0_tell_37 : decode cX0_tell 37 = .ok (.aload_n 0, 1) := by decide +kernel
theorem dX0_tell_38 : decode cX0_tell 38 = .ok (.getfield 16, 3) := by decide +kernel
theorem dX0_tell_41 : decode cX0_tell 41 = .ok (.iload_n 1, 1) := by decide +kernel
theorem dX0_tell_42 : decode cX0_tell 42 = .ok (.iaload, 1) := by decide +kernel
theorem dX0_tell_43 : decode cX0_tell 43 = .ok (.sipush 1000, 3) := by decide +kernel
theorem dX0_tell_46 : decode cX0_tell 46 = .ok (.invokestatic 23, 3) := by decide +kernel
theorem dX0_tell_49 : decode cX0_tell 49 = .ok (.ifCond .eq 33, 3) := by decide +kernel
theorem dX0_tell_52 : decode cX0_tell 52 = .ok (.aload_n 0, 1) := by decide +kernel
theorem dX0_tell_53 : decode cX0_tell 53 = .ok (.getfield 11, 3) := by decide +kernel
theorem dX0_tell_56 : decode cX0_tell 56 = .ok (.iload_n 1, 1) := by decide +kernel
theorem dX0_tell_57 : decode cX0_tell 57 = .ok (.aaload, 1) := by decide +kernel
theorem dX0_tell_58 : decode cX0_tell 58 = .ok (.aload_n 0, 1) := by decide +kernel
theorem dX0_tell_59 : decode cX0_tell 59 = .ok (.getfield 16, 3) := by decide +kernel
theorem dX0_tell_62 : decode cX0_tell 62 = .ok (.iload_n 1, 1) := by decide +kernel
theorem dX0_tell_63 : decode cX0_tell 63 = .ok (.iaload, 1) := by decide +kernel
theorem dX0_tell_64 : decode cX0_tell 64 = .ok (.iload_n 2, 1) := by decide +kernel
theorem dX0_tell_65 : decode cX0_tell 65 = .ok (.iastore, 1) := by decide +kernel
theorem dX0_tell_66 : decode cX0_tell 66 = .ok (.aload_n 0, 1) := by decide +kernel
theorem dX0_tell_67 : decode cX0_tell 67 = .ok (.getfield 16, 3) := by decide +kernel
theorem dX0_tell_70 : decode cX0_tell 70 = .ok (.iload_n 1, 1) := by decide +kernel
theorem dX0_tell_71 : decode cX0_tell 71 = .ok (.dup2, 1) := by decide +kernel
theorem dX0_tell_72 : decode cX0_tell 72 = .ok (.iaload, 1) := by decide +kernel
theorem dX0_tell_73 : decode cX0_tell 73 = .ok (.iconst 1, 1) := by decide +kernel
theorem dX0_tell_74 : decode cX0_tell 74 = .ok (.iadd, 1) := by decide +kernel
theorem dX0_tell_75 : decode cX0_tell 75 = .ok (.iastore, 1) := by decide +kernel
theorem dX0_tell_76 : decode cX0_tell 76 = .ok (.iinc 4 1, 3) := by decide +kernel
theorem dX0_tell_79 : decode cX0_tell 79 = .ok (.goto (-48), 3) := by decide +kernel
theorem dX0_tell_82 : decode cX0_tell 82 = .ok (.aload_n 0, 1) := by decide +kernel
theorem dX0_tell_83 : decode cX0_tell 83 = .ok (.getfield 16, 3) := by decide +kernel
theorem dX0_tell_86 : decode cX0_tell 86 = .ok (.iload_n 1, 1) := by decide +kernel
theorem dX0_tell_87 : decode cX0_tell 87 = .ok (.iaload, 1) := by decide +kernel
theorem dX0_tell_88 : decode cX0_tell 88 = .ok (.ireturn, 1) := by decide +kernel
theorem wX0_tell_L31 {p : Program} {l : Launch} {e : Env} {s : State} {m : MethodId} {args : Array Value} {below : List Frame} {meth : Method} {c : Code} {Y : Nat → ClassId} {D : va_G} {σ : Nat → Nat} {np b0 : Nat} {r : Int32 × Mc} (hE : EOK p s m args meth c cX0_tell 5 RX0 Y D σ np b0) (hr : meth.sig.returnType = (some .int)) : ∀ (n : Nat) (M : Mc) (N : Md) (X1 : Int32) (X2 : Int32) (X3 : Int32) (X4 : Int32), fX0_tell_L31 n M X1 X2 X3 X4 = some r → Xw p l e (rmD 2) s m args below meth c 5 Y D σ np b0 0 0 (MQ below (QR Y D σ np b0 (some (.int r.1)) r.2 N) args s 0 0 (xA b0)) 31 [(0, .ref (σ (1))), (1, .int X1), (2, .int X2), (3, .int X3), (4, .int X4)] [] M N := by
  intro n
  induction n with
  | zero =>
    intro M N X1 X2 X3 X4 hf
    cases hf
  | succ n ih =>
    intro M N X1 X2 X3 X4 hf
    rw [fX0_tell_L31.eq_2] at hf
    refine x_iload hE 4 dX0_tell_31 rfl ?_
    refine x_iload_n hE 3 dX0_tell_33 rfl rfl ?_
    refine x_icmp_ge hE 82 dX0_tell_34 (by decide) hf (fun hf => ?_) (fun hf => ?_)
    · refine x_aload_n hE 0 dX0_tell_82 rfl rfl ?_
      refine x_getR hE cl_0 (hE.kd kO_0) (by decide) 1 (7) rfl (by decide) lk_X0_16 dX0_tell_83 ?_
      refine x_iload_n hE 1 dX0_tell_86 rfl rfl ?_
      refine x_iald hE (hE.kd kA_7) dX0_tell_87 hf (fun hf => ?_)
      replace hf := Option.some.inj hf
      subst hf
      exact x_ireturn hE (v := M (7) X1.toNatClampNeg) hr rfl dX0_tell_88
    · refine x_aload_n hE 0 dX0_tell_37 rfl rfl ?_
      refine x_getR hE cl_0 (hE.kd kO_0) (by decide) 1 (7) rfl (by decide) lk_X0_16 dX0_tell_38 ?_
      refine x_iload_n hE 1 dX0_tell_41 rfl rfl ?_
      refine x_iald hE (hE.kd kA_7) dX0_tell_42 hf (fun hf => ?_)
      refine x_sipush hE (nI 1000) dX0_tell_43 (by decide) ?_
      obtain ⟨v4, hc3, hf⟩ := bnd_some hf
      refine x_callSN1 hE [.int (M (7) X1.toNatClampNeg), .int (nI 1000)] (rest := []) (v := .int v4) (c1 := M) (d1 := N) rfl yokX11_inside ysX11_inside lk_X0_23 rfl rfl ⟨Nat.le_of_ble_eq_true rfl, Nat.le_of_ble_eq_true rfl⟩ ⟨Nat.zero_le _, Nat.zero_le _⟩ rfl (Nat.le_of_ble_eq_true rfl) dX0_tell_46 (mX11_inside l hc3) ?_
      refine x_if_eq hE 82 dX0_tell_49 (by decide) hf (fun hf => ?_) (fun hf => ?_)
      · refine x_aload_n hE 0 dX0_tell_82 rfl rfl ?_
        refine x_getR hE cl_0 (hE.kd kO_0) (by decide) 1 (7) rfl (by decide) lk_X0_16 dX0_tell_83 ?_
        refine x_iload_n hE 1 dX0_tell_86 rfl rfl ?_
        refine x_iald hE (hE.kd kA_7) dX0_tell_87 hf (fun hf => ?_)
        replace hf := Option.some.inj hf
        subst hf
        exact x_ireturn hE (v := M (7) X1.toNatClampNeg) hr rfl dX0_tell_88
      · refine x_aload_n hE 0 dX0_tell_52 rfl rfl ?_
        refine x_getR hE cl_0 (hE.kd kO_0) (by decide) 0 (2) rfl (by decide) lk_X0_11 dX0_tell_53 ?_
        refine x_iload_n hE 1 dX0_tell_56 rfl rfl ?_
        have hi5 := (chk_some hf).1
        refine x_aldR hE (hE.kd kA_2) dX0_tell_57 hf (fun hf => ?_)
        refine x_aload_n hE 0 dX0_tell_58 rfl rfl ?_
        refine x_getR hE cl_0 (hE.kd kO_0) (by decide) 1 (7) rfl (by decide) lk_X0_16 dX0_tell_59 ?_
        refine x_iload_n hE 1 dX0_tell_62 rfl rfl ?_
        refine x_iald hE (hE.kd kA_7) dX0_tell_63 hf (fun hf => ?_)
        refine x_iload_n hE 2 dX0_tell_64 rfl rfl ?_
        refine x_iast hE (hE.kd (kR_2 hi5)) dX0_tell_65 hf (fun M6 hf => ?_)
        refine x_aload_n hE 0 dX0_tell_66 rfl rfl ?_
        refine x_getR hE cl_0 (hE.kd kO_0) (by decide) 1 (7) rfl (by decide) lk_X0_16 dX0_tell_67 ?_
        refine x_iload_n hE 1 dX0_tell_70 rfl rfl ?_
        refine x_dup2 hE dX0_tell_71 rfl rfl ?_
        refine x_iald hE (hE.kd kA_7) dX0_tell_72 hf (fun hf => ?_)
        refine x_iconst hE (nI 1) dX0_tell_73 (by decide) ?_
        refine x_iadd hE dX0_tell_74 ?_
        refine x_iast hE (hE.kd kA_7) dX0_tell_75 hf (fun M7 hf => ?_)
        refine x_iinc hE 4 (X4 + nI 1) (L' := [(4, .int (X4 + nI 1)), (0, .ref (σ (1))), (1, .int X1), (2, .int X2), (3, .int X3)]) dX0_tell_76 rfl rfl (by decide) rfl ?_
        refine x_pick [1, 2, 3, 4, 0] (L' := [(0, .ref (σ (1))), (1, .int X1), (2, .int X2), (3, .int X3), (4, .int (X4 + nI 1))]) rfl ?_
        refine x_goto hE 31 dX0_tell_79 (by decide) ?_
        exact ih _ _ _ _ _ _ hf
theorem mX0_tell (l : Launch) {Y : Nat → ClassId} {D : va_G} {σ : Nat → Nat} {np b0 : Nat} {M : Mc} {N : Md} {p0 : Int32} {p1 : Int32} {p2 : Int32} {r : Int32 × Mc} (hf : fX0_tell M p0 p1 p2 = some r) : Met l yX0_tell (.code yX0_tell cX0_tell 5 (some .int) :: lw_g) (rmD 2) (PR Y D σ np b0 [.ref (σ (1)), .int p0, .int p1, .int p2] M N) (QR Y D σ np b0 (some (.int r.1)) r.2 N) 0 0 (xA b0) := by
  refine x_met (by decide) (Nat.le_of_ble_eq_true rfl) (fun p e s m args below meth c hE hr => ?_)
  unfold fX0_tell at hf
  refine x_pick [0, 1, 2, 3] (L' := [(0, .ref (σ (1))), (1, .int p0), (2, .int p1), (3, .int p2)]) rfl ?_
  refine x_iload_n hE 1 dX0_tell_0 rfl rfl ?_
  refine x_iconst hE (nI 4) dX0_tell_1 (by decide) ?_
  obtain ⟨v2, hc1, hf⟩ := bnd_some hf
  refine x_callSN1 hE [.int p0, .int (nI 4)] (rest := []) (v := .int v2) (c1 := M) (d1 := N) rfl yokX11_inside ysX11_inside lk_X0_23 rfl rfl ⟨Nat.le_of_ble_eq_true rfl, Nat.le_of_ble_eq_true rfl⟩ ⟨Nat.zero_le _, Nat.zero_le _⟩ rfl (Nat.le_of_ble_eq_true rfl) dX0_tell_2 (mX11_inside l hc1) ?_
  refine x_if_eq hE 26 dX0_tell_5 (by decide) hf (fun hf => ?_) (fun hf => ?_)
  · refine x_iconst hE (-1) dX0_tell_26 (by decide) ?_
    replace hf := Option.some.inj hf
    subst hf
    exact x_ireturn hE (v := (-1)) hr rfl dX0_tell_27
  · refine x_iload_n hE 3 dX0_tell_8 rfl rfl ?_
    refine x_if_lt hE 26 dX0_tell_9 (by decide) hf (fun hf => ?_) (fun hf => ?_)
    · refine x_iconst hE (-1) dX0_tell_26 (by decide) ?_
      replace hf := Option.some.inj hf
      subst hf
      exact x_ireturn hE (v := (-1)) hr rfl dX0_tell_27
    · refine x_iload_n hE 3 dX0_tell_12 rfl rfl ?_
      refine x_sipush hE (nI 1000) dX0_tell_13 (by decide) ?_
      refine x_aload_n hE 0 dX0_tell_16 rfl rfl ?_
      refine x_getR hE cl_0 (hE.kd kO_0) (by decide) 1 (7) rfl (by decide) lk_X0_16 dX0_tell_17 ?_
      refine x_iload_n hE 1 dX0_tell_20 rfl rfl ?_
      refine x_iald hE (hE.kd kA_7) dX0_tell_21 hf (fun hf => ?_)
      refine x_isub hE dX0_tell_22 ?_
      refine x_icmp_le hE 28 dX0_tell_23 (by decide) hf (fun hf => ?_) (fun hf => ?_)
      · refine x_iconst hE (0 : Int32) dX0_tell_28 (by decide) ?_
        refine x_istore hE (L' := [(4, .int 0), (0, .ref (σ (1))), (1, .int p0), (2, .int p1), (3, .int p2)]) dX0_tell_29 (by decide) rfl ?_
        refine x_pick [1, 2, 3, 4, 0] (L' := [(0, .ref (σ (1))), (1, .int p0), (2, .int p1), (3, .int p2), (4, .int 0)]) rfl ?_
        exact wX0_tell_L31 hE hr  FU _ _ _ _ _ _ hf
      · refine x_iconst hE (-1) dX0_tell_26 (by decide) ?_
        replace hf := Option.some.inj hf
        subst hf
        exact x_ireturn hE (v := (-1)) hr rfl dX0_tell_27
theorem yokX0_tell : YOK yX0_tell cX0_tell 5 3 (some .int) := ⟨mem_g 872 (by decide +kernel) (by decide +kernel), mem_g 132 (by decide +kernel) (by decide +kernel), by decide +kernel, by decide +kernel, by decide +kernel⟩
theorem yvX0_tell : YV yX0_tell := ⟨mem_g 870 (by decide +kernel) (by decide +kernel), mem_g 871 (by decide +kernel) (by decide +kernel)⟩
theorem dX0_isTold_0 : decode cX0_isTold 0 = .ok (.iload_n 1, 1) := by decide +kernel
theorem dX0_isTold_1 : decode cX0_isTold 1 = .ok (.iconst 4, 1) := by decide +kernel
theorem dX0_isTold_2 : decode cX0_isTold 2 = .ok (.invokestatic 23, 3) := by decide +kernel
theorem dX0_isTold_5 : decode cX0_isTold 5 = .ok (.ifCond .eq 27, 3) := by decide +kernel
theorem dX0_isTold_8 : decode cX0_isTold 8 = .ok (.iload_n 2, 1) := by decide +kernel
theorem dX0_isTold_9 : decode cX0_isTold 9 = .ok (.sipush 1000, 3) := by decide +kernel
theorem dX0_isTold_12 : decode cX0_isTold 12 = .ok (.invokestatic 23, 3) := by decide +kernel
theorem dX0_isTold_15 : decode cX0_isTold 15 = .ok (.ifCond .eq 17, 3) := by decide +kernel
theorem dX0_isTold_18 : decode cX0_isTold 18 = .ok (.iload_n 2, 1) := by decide +kernel
theorem dX0_isTold_19 : decode cX0_isTold 19 = .ok (.aload_n 0, 1) := by decide +kernel
theorem dX0_isTold_20 : decode cX0_isTold 20 = .ok (.getfield 16, 3) := by decide +kernel
theorem dX0_isTold_23 : decode cX0_isTold 23 = .ok (.iload_n 1, 1) := by decide +kernel
theorem dX0_isTold_24 : decode cX0_isTold 24 = .ok (.iaload, 1) := by decide +kernel
theorem dX0_isTold_25 : decode cX0_isTold 25 = .ok (.if_icmp .ge 7, 3) := by decide +kernel
theorem dX0_isTold_28 : decode cX0_isTold 28 = .ok (.iconst 1, 1) := by decide +kernel
theorem dX0_isTold_29 : decode cX0_isTold 29 = .ok (.goto 4, 3) := by decide +kernel
theorem dX0_isTold_32 : decode cX0_isTold 32 = .ok (.iconst 0, 1) := by decide +kernel
theorem dX0_isTold_33 : decode cX0_isTold 33 = .ok (.ireturn, 1) := by decide +kernel
theorem mX0_isTold (l : Launch) {Y : Nat → ClassId} {D : va_G} {σ : Nat → Nat} {np b0 : Nat} {M : Mc} {N : Md} {p0 : Int32} {p1 : Int32} {r : Int32} (hf : fX0_isTold M p0 p1 = some r) : Met l yX0_isTold (.code yX0_isTold cX0_isTold 3 (some .boolean) :: lw_g) (rmD 2) (PR Y D σ np b0 [.ref (σ (1)), .int p0, .int p1] M N) (QR Y D σ np b0 (some (.int r)) M N) 0 0 (xA b0) := by
  refine x_met (by decide) (Nat.le_of_ble_eq_true rfl) (fun p e s m args below meth c hE hr => ?_)
  unfold fX0_isTold at hf
  refine x_pick [0, 1, 2] (L' := [(0, .ref (σ (1))), (1, .int p0), (2, .int p1)]) rfl ?_
  refine x_iload_n hE 1 dX0_isTold_0 rfl rfl ?_
  refine x_iconst hE (nI 4) dX0_isTold_1 (by decide) ?_
  obtain ⟨v2, hc1, hf⟩ := bnd_some hf
  refine x_callSN1 hE [.int p0, .int (nI 4)] (rest := []) (v := .int v2) (c1 := M) (d1 := N) rfl yokX11_inside ysX11_inside lk_X0_23 rfl rfl ⟨Nat.le_of_ble_eq_true rfl, Nat.le_of_ble_eq_true rfl⟩ ⟨Nat.zero_le _, Nat.zero_le _⟩ rfl (Nat.le_of_ble_eq_true rfl) dX0_isTold_2 (mX11_inside l hc1) ?_
  refine x_if_eq hE 32 dX0_isTold_5 (by decide) hf (fun hf => ?_) (fun hf => ?_)
  · refine x_iconst hE (0 : Int32) dX0_isTold_32 (by decide) ?_
    replace hf := Option.some.inj hf
    subst hf
    exact x_ireturn hE (v := 0) hr rfl dX0_isTold_33
  · refine x_iload_n hE 2 dX0_isTold_8 rfl rfl ?_
    refine x_sipush hE (nI 1000) dX0_isTold_9 (by decide) ?_
    obtain ⟨v4, hc3, hf⟩ := bnd_some hf
    refine x_callSN1 hE [.int p1, .int (nI 1000)] (rest := []) (v := .int v4) (c1 := M) (d1 := N) rfl yokX11_inside ysX11_inside lk_X0_23 rfl rfl ⟨Nat.le_of_ble_eq_true rfl, Nat.le_of_ble_eq_true rfl⟩ ⟨Nat.zero_le _, Nat.zero_le _⟩ rfl (Nat.le_of_ble_eq_true rfl) dX0_isTold_12 (mX11_inside l hc3) ?_
    refine x_if_eq hE 32 dX0_isTold_15 (by decide) hf (fun hf => ?_) (fun hf => ?_)
    · refine x_iconst hE (0 : Int32) dX0_isTold_32 (by decide) ?_
      replace hf := Option.some.inj hf
      subst hf
      exact x_ireturn hE (v := 0) hr rfl dX0_isTold_33
    · refine x_iload_n hE 2 dX0_isTold_18 rfl rfl ?_
      refine x_aload_n hE 0 dX0_isTold_19 rfl rfl ?_
      refine x_getR hE cl_0 (hE.kd kO_0) (by decide) 1 (7) rfl (by decide) lk_X0_16 dX0_isTold_20 ?_
      refine x_iload_n hE 1 dX0_isTold_23 rfl rfl ?_
      refine x_iald hE (hE.kd kA_7) dX0_isTold_24 hf (fun hf => ?_)
      refine x_icmp_ge hE 32 dX0_isTold_25 (by decide) hf (fun hf => ?_) (fun hf => ?_)
      · refine x_iconst hE (0 : Int32) dX0_isTold_32 (by decide) ?_
        replace hf := Option.some.inj hf
        subst hf
        exact x_ireturn hE (v := 0) hr rfl dX0_isTold_33
      · refine x_iconst hE (nI 1) dX0_isTold_28 (by decide) ?_
        refine x_goto hE 33 dX0_isTold_29 (by decide) ?_
        replace hf := Option.some.inj hf
        subst hf
        exact x_ireturn hE (v := nI 1) hr rfl dX0_isTold_33
theorem yokX0_isTold : YOK yX0_isTold cX0_isTold 3 2 (some .boolean) := ⟨mem_g 894 (by decide +kernel) (by decide +kernel), mem_g 132 (by decide +kernel) (by decide +kernel), by decide +kernel, by decide +kernel, by decide +kernel⟩
theorem yvX0_isTold : YV yX0_isTold := ⟨mem_g 893 (by decide +kernel) (by decide +kernel), mem_g 6 (by decide +kernel) (by decide +kernel)⟩
theorem lk_X0_27 : Cond.methodLink RX0 27 yX0_isTold ∈ lw_g := mem_g 891 (by decide +kernel) (by decide +kernel)
theorem dX0_isNumber_0 : decode cX0_isNumber 0 = .ok (.aload_n 0, 1) := by decide +kernel
theorem dX0_isNumber_1 : decode cX0_isNumber 1 = .ok (.iload_n 1, 1) := by decide +kernel
theorem dX0_isNumber_2 : decode cX0_isNumber 2 = .ok (.iload_n 2, 1) := by decide +kernel
theorem dX0_isNumber_3 : decode cX0_isNumber 3 = .ok (.invokevirtual 27, 3) := by decide +kernel
theorem dX0_isNumber_6 : decode cX0_isNumber 6 = .ok (.ifCond .eq 19, 3) := by decide +kernel
theorem dX0_isNumber_9 : decode cX0_isNumber 9 = .ok (.aload_n 0, 1) := by decide +kernel
theorem dX0_isNumber_10 : decode cX0_isNumber 10 = .ok (.getfield 11, 3) := by decide +kernel
theorem dX0_isNumber_13 : decode cX0_isNumber 13 = .ok (.iload_n 1, 1) := by decide +kernel
theorem dX0_isNumber_14 : decode cX0_isNumber 14 = .ok (.aaload, 1) := by decide +kernel
theorem dX0_isNumber_15 : decode cX0_isNumber 15 = .ok (.iload_n 2, 1) := by decide +kernel
theorem dX0_isNumber_16 : decode cX0_isNumber 16 = .ok (.iaload, 1) := by decide +kernel
theorem dX0_isNumber_17 : decode cX0_isNumber 17 = .ok (.iconst (-1), 1) := by decide +kernel
theorem dX0_isNumber_18 : decode cX0_isNumber 18 = .ok (.if_icmp .eq 7, 3) := by decide +kernel
theorem dX0_isNumber_21 : decode cX0_isNumber 21 = .ok (.iconst 1, 1) := by decide +kernel
theorem dX0_isNumber_22 : decode cX0_isNumber 22 = .ok (.goto 4, 3) := by decide +kernel
theorem dX0_isNumber_25 : decode cX0_isNumber 25 = .ok (.iconst 0, 1) := by decide +kernel
theorem dX0_isNumber_26 : decode cX0_isNumber 26 = .ok (.ireturn, 1) := by decide +kernel
theorem mX0_isNumber (l : Launch) {Y : Nat → ClassId} {D : va_G} {σ : Nat → Nat} {np b0 : Nat} {M : Mc} {N : Md} {p0 : Int32} {p1 : Int32} {r : Int32} (hf : fX0_isNumber M p0 p1 = some r) : Met l yX0_isNumber (.code yX0_isNumber cX0_isNumber 3 (some .boolean) :: lw_g) (rmD 3) (PR Y D σ np b0 [.ref (σ (1)), .int p0, .int p1] M N) (QR Y D σ np b0 (some (.int r)) M N) 0 0 (xA b0) := by
  refine x_met (by decide) (Nat.le_of_ble_eq_true rfl) (fun p e s m args below meth c hE hr => ?_)
  unfold fX0_isNumber at hf
  refine x_pick [0, 1, 2] (L' := [(0, .ref (σ (1))), (1, .int p0), (2, .int p1)]) rfl ?_
  refine x_aload_n hE 0 dX0_isNumber_0 rfl rfl ?_
  refine x_iload_n hE 1 dX0_isNumber_1 rfl rfl ?_
  refine x_iload_n hE 2 dX0_isNumber_2 rfl rfl ?_
  obtain ⟨v2, hc1, hf⟩ := bnd_some hf
  refine x_callV1 hE [.int p0, .int p1] (rest := []) (v := .int v2) (c1 := M) (d1 := N) rfl yokX0_isTold yvX0_isTold lk_X0_27 rfl cl_0 (hE.kd kO_0) (by decide) rfl rfl ⟨Nat.le_of_ble_eq_true rfl, Nat.le_of_ble_eq_true rfl⟩ ⟨Nat.zero_le _, Nat.zero_le _⟩ rfl (Nat.le_of_ble_eq_true rfl) dX0_isNumber_3 (mX0_isTold l hc1) ?_
  refine x_if_eq hE 25 dX0_isNumber_6 (by decide) hf (fun hf => ?_) (fun hf => ?_)
  · refine x_iconst hE (0 : Int32) dX0_isNumber_25 (by decide) ?_
    replace hf := Option.some.inj hf
    subst hf
    exact x_ireturn hE (v := 0) hr rfl dX0_isNumber_26
  · refine x_aload_n hE 0 dX0_isNumber_9 rfl rfl ?_
    refine x_getR hE cl_0 (hE.kd kO_0) (by decide) 0 (2) rfl (by decide) lk_X0_11 dX0_isNumber_10 ?_
    refine x_iload_n hE 1 dX0_isNumber_13 rfl rfl ?_
    have hi3 := (chk_some hf).1
    refine x_aldR hE (hE.kd kA_2) dX0_isNumber_14 hf (fun hf => ?_)
    refine x_iload_n hE 2 dX0_isNumber_15 rfl rfl ?_
    refine x_iald hE (hE.kd (kR_2 hi3)) dX0_isNumber_16 hf (fun hf => ?_)
    refine x_iconst hE (-1) dX0_isNumber_17 (by decide) ?_
    refine x_icmp_eq hE 25 dX0_isNumber_18 (by decide) hf (fun hf => ?_) (fun hf => ?_)
    · refine x_iconst hE (0 : Int32) dX0_isNumber_25 (by decide) ?_
      replace hf := Option.some.inj hf
      subst hf
      exact x_ireturn hE (v := 0) hr rfl dX0_isNumber_26
    · refine x_iconst hE (nI 1) dX0_isNumber_21 (by decide) ?_
      refine x_goto hE 26 dX0_isNumber_22 (by decide) ?_
      replace hf := Option.some.inj hf
      subst hf
      exact x_ireturn hE (v := nI 1) hr rfl dX0_isNumber_26
theorem yokX0_isNumber : YOK yX0_isNumber cX0_isNumber 3 2 (some .boolean) := ⟨mem_g 898 (by decide +kernel) (by decide +kernel), mem_g 132 (by decide +kernel) (by decide +kernel), by decide +kernel, by decide +kernel, by decide +kernel⟩
theorem yvX0_isNumber : YV yX0_isNumber := ⟨mem_g 897 (by decide +kernel) (by decide +kernel), mem_g 7 (by decide +kernel) (by decide +kernel)⟩
theorem lk_X0_30 : Cond.methodLink RX0 30 yX0_isNumber ∈ lw_g := mem_g 895 (by decide +kernel) (by decide +kernel)
theorem dX0_rainAt_0 : decode cX0_rainAt 0 = .ok (.aload_n 0, 1) := by decide +kernel
theorem dX0_rainAt_1 : decode cX0_rainAt 1 = .ok (.iload_n 1, 1) := by decide +kernel
theorem dX0_rainAt_2 : decode cX0_rainAt 2 = .ok (.iload_n 2, 1) := by decide +kernel
theorem dX0_rainAt_3 : decode cX0_rainAt 3 = .ok (.invokevirtual 27, 3) := by decide +kernel
theorem dX0_rainAt_6 : decode cX0_rainAt 6 = .ok (.ifCond .ne 6, 3) := by decide +kernel
theorem dX0_rainAt_9 : decode cX0_rainAt 9 = .ok (.bipush 10, 2) := by decide +kernel
theorem dX0_rainAt_11 : decode cX0_rainAt 11 = .ok (.ireturn, 1) := by decide +kernel
theorem dX0_rainAt_12 : decode cX0_rainAt 12 = .ok (.aload_n 0, 1) := by decide +kernel
theorem dX0_rainAt_13 : decode cX0_rainAt 13 = .ok (.getfield 11, 3) := by decide +kernel
theorem dX0_rainAt_16 : decode cX0_rainAt 16 = .ok (.iload_n 1, 1) := by decide +kernel
theorem dX0_rainAt_17 : decode cX0_rainAt 17 = .ok (.aaload, 1) := by decide +kernel
theorem dX0_rainAt_18 : decode cX0_rainAt 18 = .ok (.iload_n 2, 1) := by decide +kernel
theorem dX0_rainAt_19 : decode cX0_rainAt 19 = .ok (.iaload, 1) := by decide +kernel
theorem dX0_rainAt_20 : decode cX0_rainAt 20 = .ok (.iconst (-1), 1) := by decide +kernel
theorem dX0_rainAt_21 : decode cX0_rainAt 21 = .ok (.if_icmp .eq 12, 3) := by decide +kernel
theorem dX0_rainAt_24 : decode cX0_rainAt 24 = .ok (.aload_n 0, 1) := by decide +kernel
theorem dX0_rainAt_25 : decode cX0_rainAt 25 = .ok (.getfield 11, 3) := by decide +kernel
theorem dX0_rainAt_28 : decode cX0_rainAt 28 = .ok (.iload_n 1, 1) := by decide +kernel
theorem dX0_rainAt_29 : decode cX0_rainAt 29 = .ok (.aaload, 1) := by decide +kernel
theorem dX0_rainAt_30 : decode cX0_rainAt 30 = .ok (.iload_n 2, 1) := by decide +kernel
theorem dX0_rainAt_31 : decode cX0_rainAt 31 = .ok (.iaload, 1) := by decide +kernel
theorem dX0_rainAt_32 : decode cX0_rainAt 32 = .ok (.ireturn, 1) := by decide +kernel
theorem dX0_rainAt_33 : decode cX0_rainAt 33 = .ok (.aload_n 0, 1) := by decide +kernel
theorem dX0_rainAt_34 : decode cX0_rainAt 34 = .ok (.iload_n 1, 1) := by decide +kernel
theorem dX0_rainAt_35 : decode cX0_rainAt 35 = .ok (.iconst 1, 1) := by decide +kernel
theorem dX0_rainAt_36 : decode cX0_rainAt 36 = .ok (.isub, 1) := by decide +kernel
theorem dX0_rainAt_37 : decode cX0_rainAt 37 = .ok (.iload_n 2, 1) := by decide +kernel
theorem dX0_rainAt_38 : decode cX0_rainAt 38 = .ok (.invokevirtual 30, 3) := by decide +kernel
theorem dX0_rainAt_41 : decode cX0_rainAt 41 = .ok (.istore_n 3, 1) := by decide +kernel
theorem dX0_rainAt_42 : decode cX0_rainAt 42 = .ok (.aload_n 0, 1) := by decide +kernel
theorem dX0_rainAt_43 : decode cX0_rainAt 43 = .ok (.iload_n 1, 1) := by decide +kernel
theorem dX0_rainAt_44 : decode cX0_rainAt 44 = .ok (.iconst 1, 1) := by decide +kernel
theorem dX0_rainAt_45 : decode cX0_rainAt 45 = .ok (.iadd, 1) := by decide +kernel
theorem dX0_rainAt_46 : decode cX0_rainAt 46 = .ok (.iload_n 2, 1) := by decide +kernel
theorem dX0_rainAt_47 : decode cX0_rainAt 47 = .ok (.invokevirtual 30, 3) := by decide +kernel
theorem dX0_rainAt_50 : decode cX0_rainAt 50 = .ok (.istore 4, 2) := by decide +kernel
theorem dX0_rainAt_52 : decode cX0_rainAt 52 = .ok (.iload_n 3, 1) := by decide +kernel
theorem dX0_rainAt_53 : decode cX0_rainAt 53 = .ok (.ifCond .eq 32, 3) := by decide +kernel
theorem dX0_rainAt_56 : decode cX0_rainAt 56 = .ok (.iload 4, 2) := by decide +kernel
theorem dX0_rainAt_58 : decode cX0_rainAt 58 = .ok (.ifCond .eq 27, 3) := by decide +kernel
theorem dX0_rainAt_61 : decode cX0_rainAt 61 = .ok (.aload_n 0, 1) := by decide +kernel
theorem dX0_rainAt_62 : decode cX0_rainAt 62 = .ok (.getfield 11, 3) := by decide +kernel
theorem dX0_rainAt_65 : decode cX0_rainAt 65 = .ok (.iload_n 1, 1) := by decide +kernel
theorem dX0_rainAt_66 : decode cX0_rainAt 66 = .ok (.iconst 1, 1) := by decide +kernel
theorem dX0_rainAt_67 : decode cX0_rainAt 67 = .ok (.isub, 1) := by decide +kernel
theorem dX0_rainAt_68 : decode cX0_rainAt 68 = .ok (.aaload, 1) := by decide +kernel
theorem dX0_rainAt_69 : decode cX0_rainAt 69 = .ok (.iload_n 2, 1) := by decide +kernel
theorem dX0_rainAt_70 : decode cX0_rainAt 70 = .ok (.iaload, 1) := by decide +kernel
theorem dX0_rainAt_71 : decode cX0_rainAt 71 = .ok (.aload_n 0, 1) := by decide +kernel
theorem dX0_rainAt_72 : decode cX0_rainAt 72 = .ok (.getfield 11, 3) := by decide +kernel
theorem dX0_rainAt_75 : decode cX0_rainAt 75 = .ok (.iload_n 1, 1) := by decide +kernel
theorem dX0_rainAt_76 : decode cX0_rainAt 76 = .ok (.iconst 1, 1) := by decide +kernel
theorem dX0_rainAt_77 : decode cX0_rainAt 77 = .ok (.iadd, 1) := by decide +kernel
theorem dX0_rainAt_78 : decode cX0_rainAt 78 = .ok (.aaload, 1) := by decide +kernel
theorem dX0_rainAt_79 : decode cX0_rainAt 79 = .ok (.iload_n 2, 1) := by decide +kernel
theorem dX0_rainAt_80 : decode cX0_rainAt 80 = .ok (.iaload, 1) := by decide +kernel
theorem dX0_rainAt_81 : decode cX0_rainAt 81 = .ok (.iadd, 1) := by decide +kernel
theorem dX0_rainAt_82 : decode cX0_rainAt 82 = .ok (.iconst 2, 1) := by decide +kernel
theorem dX0_rainAt_83 : decode cX0_rainAt 83 = .ok (.idiv, 1) := by decide +kernel
theorem dX0_rainAt_84 : decode cX0_rainAt 84 = .ok (.ireturn, 1) := by decide +kernel
theorem dX0_rainAt_85 : decode cX0_rainAt 85 = .ok (.iload_n 3, 1) := by decide +kernel
theorem dX0_rainAt_86 : decode cX0_rainAt 86 = .ok (.ifCond .eq 14, 3) := by decide +kernel
theorem dX0_rainAt_89 : decode cX0_rainAt 89 = .ok (.aload_n 0, 1) := by decide +kernel
theorem dX0_rainAt_90 : decode cX0_rainAt 90 = .ok (.getfield 11, 3) := by decide +kernel
theorem dX0_rainAt_93 : decode cX0_rainAt 93 = .ok (.iload_n 1, 1) := by decide +kernel
theorem dX0_rainAt_94 : decode cX0_rainAt 94 = .ok (.iconst 1, 1) := by decide +kernel
theorem dX0_rainAt_95 : decode cX0_rainAt 95 = .ok (.isub, 1) := by decide +kernel
theorem dX0_rainAt_96 : decode cX0_rainAt 96 = .ok (.aaload, 1) := by decide +kernel
theorem dX0_rainAt_97 : decode cX0_rainAt 97 = .ok (.iload_n 2, 1) := by decide +kernel
theorem dX0_rainAt_98 : decode cX0_rainAt 98 = .ok (.iaload, 1) := by decide +kernel
theorem dX0_rainAt_99 : decode cX0_rainAt 99 = .ok (.ireturn, 1) := by decide +kernel
theorem dX0_rainAt_100 : decode cX0_rainAt 100 = .ok (.iload 4, 2) := by decide +kernel
theorem dX0_rainAt_102 : decode cX0_rainAt 102 = .ok (.ifCond .eq 16, 3) := by decide +kernel
theorem dX0_rainAt_105 : decode cX0_rainAt 105 = .ok (.aload_n 0, 1) := by decide +kernel
theorem dX0_rainAt_106 : decode cX0_rainAt 106 = .ok (.getfield 11, 3) := by decide +kernel
theorem dX0_rainAt_109 : decode cX0_rainAt 109 = .ok (.iload_n 1, 1) := by decide +kernel
theorem dX0_rainAt_110 : decode cX0_rainAt 110 = .ok (.iconst 1, 1) := by decide +kernel
theorem dX0_rainAt_111 : decode cX0_rainAt 111 = .ok (.iadd, 1) := by decide +kernel
theorem dX0_rainAt_112 : decode cX0_rainAt 112 = .ok (.aaload, 1) := by decide +kernel
theorem dX0_rainAt_113 : decode cX0_rainAt 113 = .ok (.iload_n 2, 1) := by decide +kernel
theorem dX0_rainAt_114 : decode cX0_rainAt 114 = .ok (.iaload, 1) := by decide +kernel
theorem dX0_rainAt_115 : decode cX0_rainAt 115 = .ok (.goto 4, 3) := by decide +kernel
theorem dX0_rainAt_118 : decode cX0_rainAt 118 = .ok (.iconst 0, 1) := by decide +kernel
theorem dX0_rainAt_119 : decode cX0_rainAt 119 = .ok (.ireturn, 1) := by decide +kernel
theorem wX0_rainAt_J85 {p : Program} {l : Launch} {e : Env} {s : State} {m : MethodId} {args : Array Value} {below : List Frame} {meth : Method} {c : Code} {Y : Nat → ClassId} {D : va_G} {σ : Nat → Nat} {np b0 : Nat} {r : Int32} {M : Mc} {N : Md} {X1 : Int32} {X2 : Int32} {X3 : Int32} {X4 : Int32} (hE : EOK p s m args meth c cX0_rainAt 5 RX0 Y D σ np b0) (hr : meth.sig.returnType = (some .int)) (hf : fX0_rainAt_J85 M X1 X2 X3 X4 = some r) : Xw p l e (rmD 4) s m args below meth c 5 Y D σ np b0 0 0 (MQ below (QR Y D σ np b0 (some (.int r)) M N) args s 0 0 (xA b0)) 85 [(0, .ref (σ (1))), (1, .int X1), (2, .int X2), (3, .int X3), (4, .int X4)] [] M N := by
  unfold fX0_rainAt_J85 at hf
  refine x_iload_n hE 3 dX0_rainAt_85 rfl rfl ?_
  refine x_if_eq hE 100 dX0_rainAt_86 (by decide) hf (fun hf => ?_) (fun hf => ?_)
  · refine x_iload hE 4 dX0_rainAt_100 rfl ?_
    refine x_if_eq hE 118 dX0_rainAt_102 (by decide) hf (fun hf => ?_) (fun hf => ?_)
    · refine x_iconst hE (0 : Int32) dX0_rainAt_118 (by decide) ?_
      replace hf := Option.some.inj hf
      subst hf
      exact x_ireturn hE (v := 0) hr rfl dX0_rainAt_119
    · refine x_aload_n hE 0 dX0_rainAt_105 rfl rfl ?_
      refine x_getR hE cl_0 (hE.kd kO_0) (by decide) 0 (2) rfl (by decide) lk_X0_11 dX0_rainAt_106 ?_
      refine x_iload_n hE 1 dX0_rainAt_109 rfl rfl ?_
      refine x_iconst hE (nI 1) dX0_rainAt_110 (by decide) ?_
      refine x_iadd hE dX0_rainAt_111 ?_
      have hi11 := (chk_some hf).1
      refine x_aldR hE (hE.kd kA_2) dX0_rainAt_112 hf (fun hf => ?_)
      refine x_iload_n hE 2 dX0_rainAt_113 rfl rfl ?_
      refine x_iald hE (hE.kd (kR_2 hi11)) dX0_rainAt_114 hf (fun hf => ?_)
      refine x_goto hE 119 dX0_rainAt_115 (by decide) ?_
      replace hf := Option.some.inj hf
      subst hf
      exact x_ireturn hE (v := M (2 + 1 + (X1 + (nI 1)).toNatClampNeg) X2.toNatClampNeg) hr rfl dX0_rainAt_119
  · refine x_aload_n hE 0 dX0_rainAt_89 rfl rfl ?_
    refine x_getR hE cl_0 (hE.kd kO_0) (by decide) 0 (2) rfl (by decide) lk_X0_11 dX0_rainAt_90 ?_
    refine x_iload_n hE 1 dX0_rainAt_93 rfl rfl ?_
    refine x_iconst hE (nI 1) dX0_rainAt_94 (by decide) ?_
    refine x_isub hE dX0_rainAt_95 ?_
    have hi12 := (chk_some hf).1
    refine x_aldR hE (hE.kd kA_2) dX0_rainAt_96 hf (fun hf => ?_)
    refine x_iload_n hE 2 dX0_rainAt_97 rfl rfl ?_
    refine x_iald hE (hE.kd (kR_2 hi12)) dX0_rainAt_98 hf (fun hf => ?_)
    replace hf := Option.some.inj hf
    subst hf
    exact x_ireturn hE (v := M (2 + 1 + (X1 - (nI 1)).toNatClampNeg) X2.toNatClampNeg) hr rfl dX0_rainAt_99
theorem mX0_rainAt (l : Launch) {Y : Nat → ClassId} {D : va_G} {σ : Nat → Nat} {np b0 : Nat} {M : Mc} {N : Md} {p0 : Int32} {p1 : Int32} {r : Int32} (hf : fX0_rainAt M p0 p1 = some r) : Met l yX0_rainAt (.code yX0_rainAt cX0_rainAt 5 (some .int) :: lw_g) (rmD 4) (PR Y D σ np b0 [.ref (σ (1)), .int p0, .int p1] M N) (QR Y D σ np b0 (some (.int r)) M N) 0 0 (xA b0) := by
  refine x_met (by decide) (Nat.le_of_ble_eq_true rfl) (fun p e s m args below meth c hE hr => ?_)
  unfold fX0_rainAt at hf
  refine x_pick [0, 1, 2] (L' := [(0, .ref (σ (1))), (1, .int p0), (2, .int p1)]) rfl ?_
  refine x_aload_n hE 0 dX0_rainAt_0 rfl rfl ?_
  refine x_iload_n hE 1 dX0_rainAt_1 rfl rfl ?_
  refine x_iload_n hE 2 dX0_rainAt_2 rfl rfl ?_
  obtain ⟨v2, hc1, hf⟩ := bnd_some hf
  refine x_callV1 hE [.int p0, .int p1] (rest := []) (v := .int v2) (c1 := M) (d1 := N) rfl yokX0_isTold yvX0_isTold lk_X0_27 rfl cl_0 (hE.kd kO_0) (by decide) rfl rfl ⟨Nat.le_of_ble_eq_true rfl, Nat.le_of_ble_eq_true rfl⟩ ⟨Nat.zero_le _, Nat.zero_le _⟩ rfl (Nat.le_of_ble_eq_true rfl) dX0_rainAt_3 (mX0_isTold l hc1) ?_
  refine x_if_ne hE 12 dX0_rainAt_6 (by decide) hf (fun hf => ?_) (fun hf => ?_)
  · refine x_aload_n hE 0 dX0_rainAt_12 rfl rfl ?_
    refine x_getR hE cl_0 (hE.kd kO_0) (by decide) 0 (2) rfl (by decide) lk_X0_11 dX0_rainAt_13 ?_
    refine x_iload_n hE 1 dX0_rainAt_16 rfl rfl ?_
    have hi3 := (chk_some hf).1
    refine x_aldR hE (hE.kd kA_2) dX0_rainAt_17 hf (fun hf => ?_)
    refine x_iload_n hE 2 dX0_rainAt_18 rfl rfl ?_
    refine x_iald hE (hE.kd (kR_2 hi3)) dX0_rainAt_19 hf (fun hf => ?_)
    refine x_iconst hE (-1) dX0_rainAt_20 (by decide) ?_
    refine x_icmp_eq hE 33 dX0_rainAt_21 (by decide) hf (fun hf => ?_) (fun hf => ?_)
    · refine x_aload_n hE 0 dX0_rainAt_33 rfl rfl ?_
      refine x_iload_n hE 1 dX0_rainAt_34 rfl rfl ?_
      refine x_iconst hE (nI 1) dX0_rainAt_35 (by decide) ?_
      refine x_isub hE dX0_rainAt_36 ?_
      refine x_iload_n hE 2 dX0_rainAt_37 rfl rfl ?_
      obtain ⟨v5, hc4, hf⟩ := bnd_some hf
      refine x_callV1 hE [.int (p0 - (nI 1)), .int p1] (rest := []) (v := .int v5) (c1 := M) (d1 := N) rfl yokX0_isNumber yvX0_isNumber lk_X0_30 rfl cl_0 (hE.kd kO_0) (by decide) rfl rfl ⟨Nat.le_of_ble_eq_true rfl, Nat.le_of_ble_eq_true rfl⟩ ⟨Nat.zero_le _, Nat.zero_le _⟩ rfl (Nat.le_of_ble_eq_true rfl) dX0_rainAt_38 (mX0_isNumber l hc4) ?_
      refine x_istore_n hE (L' := [(3, .int v5), (0, .ref (σ (1))), (1, .int p0), (2, .int p1)]) dX0_rainAt_41 rfl (by decide) rfl ?_
      refine x_pick [1, 2, 3, 0] (L' := [(0, .ref (σ (1))), (1, .int p0), (2, .int p1), (3, .int v5)]) rfl ?_
      refine x_aload_n hE 0 dX0_rainAt_42 rfl rfl ?_
      refine x_iload_n hE 1 dX0_rainAt_43 rfl rfl ?_
      refine x_iconst hE (nI 1) dX0_rainAt_44 (by decide) ?_
      refine x_iadd hE dX0_rainAt_45 ?_
      refine x_iload_n hE 2 dX0_rainAt_46 rfl rfl ?_
      obtain ⟨v7, hc6, hf⟩ := bnd_some hf
      refine x_callV1 hE [.int (p0 + (nI 1)), .int p1] (rest := []) (v := .int v7) (c1 := M) (d1 := N) rfl yokX0_isNumber yvX0_isNumber lk_X0_30 rfl cl_0 (hE.kd kO_0) (by decide) rfl rfl ⟨Nat.le_of_ble_eq_true rfl, Nat.le_of_ble_eq_true rfl⟩ ⟨Nat.zero_le _, Nat.zero_le _⟩ rfl (Nat.le_of_ble_eq_true rfl) dX0_rainAt_47 (mX0_isNumber l hc6) ?_
      refine x_istore hE (L' := [(4, .int v7), (0, .ref (σ (1))), (1, .int p0), (2, .int p1), (3, .int v5)]) dX0_rainAt_50 (by decide) rfl ?_
      refine x_pick [1, 2, 3, 4, 0] (L' := [(0, .ref (σ (1))), (1, .int p0), (2, .int p1), (3, .int v5), (4, .int v7)]) rfl ?_
      refine x_iload_n hE 3 dX0_rainAt_52 rfl rfl ?_
      refine x_if_eq hE 85 dX0_rainAt_53 (by decide) hf (fun hf => ?_) (fun hf => ?_)
      · exact wX0_rainAt_J85 hE hr  hf
      · refine x_iload hE 4 dX0_rainAt_56 rfl ?_
        refine x_if_eq hE 85 dX0_rainAt_58 (by decide) hf (fun hf => ?_) (fun hf => ?_)
        · exact wX0_rainAt_J85 hE hr  hf
        · refine x_aload_n hE 0 dX0_rainAt_61 rfl rfl ?_
          refine x_getR hE cl_0 (hE.kd kO_0) (by decide) 0 (2) rfl (by decide) lk_X0_11 dX0_rainAt_62 ?_
          refine x_iload_n hE 1 dX0_rainAt_65 rfl rfl ?_
          refine x_iconst hE (nI 1) dX0_rainAt_66 (by decide) ?_
          refine x_isub hE dX0_rainAt_67 ?_
          have hi8 := (chk_some hf).1
          refine x_aldR hE (hE.kd kA_2) dX0_rainAt_68 hf (fun hf => ?_)
          refine x_iload_n hE 2 dX0_rainAt_69 rfl rfl ?_
          refine x_iald hE (hE.kd (kR_2 hi8)) dX0_rainAt_70 hf (fun hf => ?_)
          refine x_aload_n hE 0 dX0_rainAt_71 rfl rfl ?_
          refine x_getR hE cl_0 (hE.kd kO_0) (by decide) 0 (2) rfl (by decide) lk_X0_11 dX0_rainAt_72 ?_
          refine x_iload_n hE 1 dX0_rainAt_75 rfl rfl ?_
          refine x_iconst hE (nI 1) dX0_rainAt_76 (by decide) ?_
          refine x_iadd hE dX0_rainAt_77 ?_
          have hi9 := (chk_some hf).1
          refine x_aldR hE (hE.kd kA_2) dX0_rainAt_78 hf (fun hf => ?_)
          refine x_iload_n hE 2 dX0_rainAt_79 rfl rfl ?_
          refine x_iald hE (hE.kd (kR_2 hi9)) dX0_rainAt_80 hf (fun hf => ?_)
          refine x_iadd hE dX0_rainAt_81 ?_
          refine x_iconst hE (nI 2) dX0_rainAt_82 (by decide) ?_
          refine x_idivC hE dX0_rainAt_83 (by decide) ?_
          replace hf := Option.some.inj hf
          subst hf
          exact x_ireturn hE (v := ((M (2 + 1 + (p0 - (nI 1)).toNatClampNeg) p1.toNatClampNeg) + (M (2 + 1 + (p0 + (nI 1)).toNatClampNeg) p1.toNatClampNeg)) / (nI 2)) hr rfl dX0_rainAt_84
    · refine x_aload_n hE 0 dX0_rainAt_24 rfl rfl ?_
      refine x_getR hE cl_0 (hE.kd kO_0) (by decide) 0 (2) rfl (by decide) lk_X0_11 dX0_rainAt_25 ?_
      refine x_iload_n hE 1 dX0_rainAt_28 rfl rfl ?_
      have hi10 := (chk_some hf).1
      refine x_aldR hE (hE.kd kA_2) dX0_rainAt_29 hf (fun hf => ?_)
      refine x_iload_n hE 2 dX0_rainAt_30 rfl rfl ?_
      refine x_iald hE (hE.kd (kR_2 hi10)) dX0_rainAt_31 hf (fun hf => ?_)
      replace hf := Option.some.inj hf
      subst hf
      exact x_ireturn hE (v := M (2 + 1 + p0.toNatClampNeg) p1.toNatClampNeg) hr rfl dX0_rainAt_32
  · refine x_bipush hE (nI 10) dX0_rainAt_9 (by decide) ?_
    replace hf := Option.some.inj hf
    subst hf
    exact x_ireturn hE (v := nI 10) hr rfl dX0_rainAt_11
theorem yokX0_rainAt : YOK yX0_rainAt cX0_rainAt 5 2 (some .int) := ⟨mem_g 890 (by decide +kernel) (by decide +kernel), mem_g 132 (by decide +kernel) (by decide +kernel), by decide +kernel, by decide +kernel, by decide +kernel⟩
theorem yvX0_rainAt : YV yX0_rainAt := ⟨mem_g 888 (by decide +kernel) (by decide +kernel), mem_g 889 (by decide +kernel) (by decide +kernel)⟩
theorem lk_X0_33 : Cond.fieldLink RX0 33 (TX10 6).1 (TX10 6).2.1 (TX10 6).2.2.1 ∈ lw_g := mem_g 418 (by decide +kernel) (by decide +kernel)
theorem lk_X0_20 : Cond.fieldLink RX0 20 (TX0 2).1 (TX0 2).2.1 (TX0 2).2.2.1 ∈ lw_g := mem_g 175 (by decide +kernel) (by decide +kernel)
theorem lk_X0_39 : Cond.fieldLink RX0 39 (TX10 2).1 (TX10 2).2.1 (TX10 2).2.2.1 ∈ lw_g := mem_g 408 (by decide +kernel) (by decide +kernel)
theorem lk_X0_43 : Cond.fieldLink RX0 43 (TX3 1).1 (TX3 1).2.1 (TX3 1).2.2.1 ∈ lw_g := mem_g 257 (by decide +kernel) (by decide +kernel)
theorem lk_X0_48 : Cond.fieldLink RX0 48 (TX10 1).1 (TX10 1).2.1 (TX10 1).2.2.1 ∈ lw_g := mem_g 406 (by decide +kernel) (by decide +kernel)
theorem lk_X0_52 : Cond.fieldLink RX0 52 (TX4 9).1 (TX4 9).2.1 (TX4 9).2.2.1 ∈ lw_g := mem_g 212 (by decide +kernel) (by decide +kernel)
theorem lk_X0_57 : Cond.fieldLink RX0 57 (TX10 7).1 (TX10 7).2.1 (TX10 7).2.2.1 ∈ lw_g := mem_g 421 (by decide +kernel) (by decide +kernel)
theorem lk_X0_60 : Cond.fieldLink RX0 60 (TX10 8).1 (TX10 8).2.1 (TX10 8).2.2.1 ∈ lw_g := mem_g 424 (by decide +kernel) (by decide +kernel)
theorem lk_X0_63 : Cond.fieldLink RX0 63 (TX3 2).1 (TX3 2).2.1 (TX3 2).2.2.1 ∈ lw_g := mem_g 260 (by decide +kernel) (by decide +kernel)
theorem lk_X0_66 : Cond.fieldLink RX0 66 (TX10 9).1 (TX10 9).2.1 (TX10 9).2.2.1 ∈ lw_g := mem_g 427 (by decide +kernel) (by decide +kernel)
theorem lk_X0_69 : Cond.fieldLink RX0 69 (TX10 5).1 (TX10 5).2.1 (TX10 5).2.2.1 ∈ lw_g := mem_g 415 (by decide +kernel) (by decide +kernel)
theorem lk_X0_73 : Cond.fieldLink RX0 73 (TX2 2).1 (TX2 2).2.1 (TX2 2).2.2.1 ∈ lw_g := mem_g 367 (by decide +kernel) (by decide +kernel)
theorem dX0_write_0 : decode cX0_write 0 = .ok (.aload_n 1, 1) := by decide +kernel
theorem dX0_write_1 : decode cX0_write 1 = .ok (.ifnull 18, 3) := by decide +kernel
theorem dX0_write_4 : decode cX0_write 4 = .ok (.aload_n 1, 1) := by decide +kernel
theorem dX0_write_5 : decode cX0_write 5 = .ok (.getfield 33, 3) := by decide +kernel
theorem dX0_write_8 : decode cX0_write 8 = .ok (.iconst 1, 1) := by decide +kernel
theorem dX0_write_9 : decode cX0_write 9 = .ok (.isub, 1) := by decide +kernel
theorem dX0_write_10 : decode cX0_write 10 = .ok (.sipush 1000, 3) := by decide +kernel
theorem dX0_write_13 : decode cX0_write 13 = .ok (.invokestatic 23, 3) := by decide +kernel
theorem dX0_write_16 : decode cX0_write 16 = .ok (.ifCond .ne 4, 3) := by decide +kernel
theorem dX0_write_19 : decode cX0_write 19 = .ok (.return_, 1) := by decide +kernel
theorem dX0_write_20 : decode cX0_write 20 = .ok (.aload_n 1, 1) := by decide +kernel
theorem dX0_write_21 : decode cX0_write 21 = .ok (.getfield 33, 3) := by decide +kernel
theorem dX0_write_24 : decode cX0_write 24 = .ok (.iconst 1, 1) := by decide +kernel
theorem dX0_write_25 : decode cX0_write 25 = .ok (.isub, 1) := by decide +kernel
theorem dX0_write_26 : decode cX0_write 26 = .ok (.istore_n 2, 1) := by decide +kernel
theorem dX0_write_27 : decode cX0_write 27 = .ok (.aload_n 0, 1) := by decide +kernel
theorem dX0_write_28 : decode cX0_write 28 = .ok (.getfield 20, 3) := by decide +kernel
theorem dX0_write_31 : decode cX0_write 31 = .ok (.iconst 0, 1) := by decide +kernel
theorem dX0_write_32 : decode cX0_write 32 = .ok (.aaload, 1) := by decide +kernel
theorem dX0_write_33 : decode cX0_write 33 = .ok (.iload_n 2, 1) := by decide +kernel
theorem dX0_write_34 : decode cX0_write 34 = .ok (.aload_n 1, 1) := by decide +kernel
theorem dX0_write_35 : decode cX0_write 35 = .ok (.getfield 39, 3) := by decide +kernel
theorem dX0_write_38 : decode cX0_write 38 = .ok (.getfield 43, 3) := by decide +kernel
theorem dX0_write_41 : decode cX0_write 41 = .ok (.iastore, 1) := by decide +kernel
theorem dX0_write_42 : decode cX0_write 42 = .ok (.aload_n 0, 1) := by decide +kernel
theorem dX0_write_43 : decode cX0_write 43 = .ok (.getfield 20, 3) := by decide +kernel
theorem dX0_write_46 : decode cX0_write 46 = .ok (.iconst 1, 1) := by decide +kernel
theorem dX0_write_47 : decode cX0_write 47 = .ok (.aaload, 1) := by decide +kernel
theorem dX0_write_48 : decode cX0_write 48 = .ok (.iload_n 2, 1) := by decide +kernel
theorem dX0_write_49 : decode cX0_write 49 = .ok (.aload_n 1, 1) := by decide +kernel
theorem dX0_write_50 : decode cX0_write 50 = .ok (.getfield 48, 3) := by decide +kernel
theorem dX0_write_53 : decode cX0_write 53 = .ok (.getfield 52, 3) := by decide +kernel
theorem dX0_write_56 : decode cX0_write 56 = .ok (.iastore, 1) := by decide +kernel
theorem dX0_write_57 : decode cX0_write 57 = .ok (.aload_n 0, 1) := by decide +kernel
theorem dX0_write_58 : decode cX0_write 58 = .ok (.getfield 20, 3) := by decide +kernel
theorem dX0_write_61 : decode cX0_write 61 = .ok (.iconst 2, 1) := by decide +kernel
theorem dX0_write_62 : decode cX0_write 62 = .ok (.aaload, 1) := by decide +kernel
theorem dX0_write_63 : decode cX0_write 63 = .ok (.iload_n 2, 1) := by decide +kernel
theorem dX0_write_64 : decode cX0_write 64 = .ok (.aload_n 1, 1) := by decide +kernel
theorem dX0_write_65 : decode cX0_write 65 = .ok (.getfield 57, 3) := by decide +kernel
theorem dX0_write_68 : decode cX0_write 68 = .ok (.iastore, 1) := by decide +kernel
theorem dX0_write_69 : decode cX0_write 69 = .ok (.aload_n 0, 1) := by decide +kernel
theorem dX0_write_70 : decode cX0_write 70 = .ok (.getfield 20, 3) := by decide +kernel
theorem dX0_write_73 : decode cX0_write 73 = .ok (.iconst 3, 1) := by decide +kernel
theorem dX0_write_74 : decode cX0_write 74 = .ok (.aaload, 1) := by decide +kernel
theorem dX0_write_75 : decode cX0_write 75 = .ok (.iload_n 2, 1) := by decide +kernel
theorem dX0_write_76 : decode cX0_write 76 = .ok (.aload_n 1, 1) := by decide +kernel
theorem dX0_write_77 : decode cX0_write 77 = .ok (.getfield 60, 3) := by decide +kernel
theorem dX0_write_80 : decode cX0_write 80 = .ok (.iastore, 1) := by decide +kernel
theorem dX0_write_81 : decode cX0_write 81 = .ok (.aload_n 0, 1) := by decide +kernel
theorem dX0_write_82 : decode cX0_write 82 = .ok (.getfield 20, 3) := by decide +kernel
theorem dX0_write_85 : decode cX0_write 85 = .ok (.iconst 4, 1) := by decide +kernel
theorem dX0_write_86 : decode cX0_write 86 = .ok (.aaload, 1) := by decide +kernel
theorem dX0_write_87 : decode cX0_write 87 = .ok (.iload_n 2, 1) := by decide +kernel
theorem dX0_write_88 : decode cX0_write 88 = .ok (.aload_n 1, 1) := by decide +kernel
theorem dX0_write_89 : decode cX0_write 89 = .ok (.getfield 39, 3) := by decide +kernel
theorem dX0_write_92 : decode cX0_write 92 = .ok (.getfield 63, 3) := by decide +kernel
theorem dX0_write_95 : decode cX0_write 95 = .ok (.iastore, 1) := by decide +kernel
theorem dX0_write_96 : decode cX0_write 96 = .ok (.aload_n 0, 1) := by decide +kernel
theorem dX0_write_97 : decode cX0_write 97 = .ok (.getfield 20, 3) := by decide +kernel
theorem dX0_write_100 : decode cX0_write 100 = .ok (.iconst 5, 1) := by decide +kernel
theorem dX0_write_101 : decode cX0_write 101 = .ok (.aaload, 1) := by decide +kernel
theorem dX0_write_102 : decode cX0_write 102 = .ok (.iload_n 2, 1) := by decide +kernel
theorem dX0_write_103 : decode cX0_write 103 = .ok (.aload_n 1, 1) := by decide +kernel
theorem dX0_write_104 : decode cX0_write 104 = .ok (.getfield 66, 3) := by decide +kernel
theorem dX0_write_107 : decode cX0_write 107 = .ok (.iastore, 1) := by decide +kernel
theorem dX0_write_108 : decode cX0_write 108 = .ok (.aload_n 0, 1) := by decide +kernel
theorem dX0_write_109 : decode cX0_write 109 = .ok (.getfield 20, 3) := by decide +kernel
theorem dX0_write_112 : decode cX0_write 112 = .ok (.bipush 6, 2) := by decide +kernel
theorem dX0_write_114 : decode cX0_write 114 = .ok (.aaload, 1) := by decide +kernel
theorem dX0_write_115 : decode cX0_write 115 = .ok (.iload_n 2, 1) := by decide +kernel
theorem dX0_write_116 : decode cX0_write 116 = .ok (.aload_n 1, 1) := by decide +kernel
theorem dX0_write_117 : decode cX0_write 117 = .ok (.getfield 69, 3) := by decide +kernel
theorem dX0_write_120 : decode cX0_write 120 = .ok (.getfield 73, 3) := by decide +kernel
theorem dX0_write_123 : decode cX0_write 123 = .ok (.iastore, 1) := by decide +kernel
theorem dX0_write_124 : decode cX0_write 124 = .ok (.return_, 1) := by decide +kernel
theorem mX0_write (l : Launch) {Y : Nat → ClassId} {D : va_G} {σ : Nat → Nat} {np b0 : Nat} {M : Mc} {N : Md} {w : Nat} {r : Mc} (hw : is10 w) (hf : fX0_write M w = some r) : Met l yX0_write (.code yX0_write cX0_write 3 none :: lw_g) (rmD 2) (PR Y D σ np b0 [.ref (σ (1)), .ref (σ w)] M N) (QR Y D σ np b0 none r N) 0 0 (xA b0) := by
  refine x_met (by decide) (Nat.le_of_ble_eq_true rfl) (fun p e s m args below meth c hE hr => ?_)
  unfold fX0_write at hf
  refine x_pick [0, 1] (L' := [(0, .ref (σ (1))), (1, .ref (σ w))]) rfl ?_
  refine x_aload_n hE 1 dX0_write_0 rfl rfl ?_
  refine x_ifnull hE dX0_write_1 ?_
  refine x_aload_n hE 1 dX0_write_4 rfl rfl ?_
  refine x_getI hE cl_10 (hE.kd (kO_10 hw)) (by decide) 6 rfl (by decide) lk_X0_33 dX0_write_5 ?_
  refine x_iconst hE (nI 1) dX0_write_8 (by decide) ?_
  refine x_isub hE dX0_write_9 ?_
  refine x_sipush hE (nI 1000) dX0_write_10 (by decide) ?_
  obtain ⟨v2, hc1, hf⟩ := bnd_some hf
  refine x_callSN1 hE [.int ((M w 6) - (nI 1)), .int (nI 1000)] (rest := []) (v := .int v2) (c1 := M) (d1 := N) rfl yokX11_inside ysX11_inside lk_X0_23 rfl rfl ⟨Nat.le_of_ble_eq_true rfl, Nat.le_of_ble_eq_true rfl⟩ ⟨Nat.zero_le _, Nat.zero_le _⟩ rfl (Nat.le_of_ble_eq_true rfl) dX0_write_13 (mX11_inside l hc1) ?_
  refine x_if_ne hE 20 dX0_write_16 (by decide) hf (fun hf => ?_) (fun hf => ?_)
  · refine x_aload_n hE 1 dX0_write_20 rfl rfl ?_
    refine x_getI hE cl_10 (hE.kd (kO_10 hw)) (by decide) 6 rfl (by decide) lk_X0_33 dX0_write_21 ?_
    refine x_iconst hE (nI 1) dX0_write_24 (by decide) ?_
    refine x_isub hE dX0_write_25 ?_
    refine x_ltI hf (fun v3 hf => ?_)
    refine x_istore_n hE (L' := [(2, .int v3), (0, .ref (σ (1))), (1, .ref (σ w))]) dX0_write_26 rfl (by decide) rfl ?_
    refine x_pick [1, 2, 0] (L' := [(0, .ref (σ (1))), (1, .ref (σ w)), (2, .int v3)]) rfl ?_
    refine x_aload_n hE 0 dX0_write_27 rfl rfl ?_
    refine x_getR hE cl_0 (hE.kd kO_0) (by decide) 2 (8) rfl (by decide) lk_X0_20 dX0_write_28 ?_
    refine x_iconst hE (0 : Int32) dX0_write_31 (by decide) ?_
    have hi4 := (chk_some hf).1
    refine x_aldR hE (hE.kd kA_8) dX0_write_32 hf (fun hf => ?_)
    refine x_iload_n hE 2 dX0_write_33 rfl rfl ?_
    refine x_aload_n hE 1 dX0_write_34 rfl rfl ?_
    refine x_getR hE cl_10 (hE.kd (kO_10 hw)) (by decide) 2 (w + 15) rfl (by decide) lk_X0_39 dX0_write_35 ?_
    refine x_getI hE cl_3 (hE.kd (kO_3 (hL_10_2 hw))) (by decide) 1 rfl (by decide) lk_X0_43 dX0_write_38 ?_
    refine x_iast hE (hE.kd (kR_8 hi4)) dX0_write_41 hf (fun M5 hf => ?_)
    refine x_aload_n hE 0 dX0_write_42 rfl rfl ?_
    refine x_getR hE cl_0 (hE.kd kO_0) (by decide) 2 (8) rfl (by decide) lk_X0_20 dX0_write_43 ?_
    refine x_iconst hE (nI 1) dX0_write_46 (by decide) ?_
    have hi6 := (chk_some hf).1
    refine x_aldR hE (hE.kd kA_8) dX0_write_47 hf (fun hf => ?_)
    refine x_iload_n hE 2 dX0_write_48 rfl rfl ?_
    refine x_aload_n hE 1 dX0_write_49 rfl rfl ?_
    refine x_getR hE cl_10 (hE.kd (kO_10 hw)) (by decide) 1 (w + 1) rfl (by decide) lk_X0_48 dX0_write_50 ?_
    refine x_getI hE cl_4 (hE.kd (kO_4 (hL_10_1 hw))) (by decide) 9 rfl (by decide) lk_X0_52 dX0_write_53 ?_
    refine x_iast hE (hE.kd (kR_8 hi6)) dX0_write_56 hf (fun M7 hf => ?_)
    refine x_aload_n hE 0 dX0_write_57 rfl rfl ?_
    refine x_getR hE cl_0 (hE.kd kO_0) (by decide) 2 (8) rfl (by decide) lk_X0_20 dX0_write_58 ?_
    refine x_iconst hE (nI 2) dX0_write_61 (by decide) ?_
    have hi8 := (chk_some hf).1
    refine x_aldR hE (hE.kd kA_8) dX0_write_62 hf (fun hf => ?_)
    refine x_iload_n hE 2 dX0_write_63 rfl rfl ?_
    refine x_aload_n hE 1 dX0_write_64 rfl rfl ?_
    refine x_getI hE cl_10 (hE.kd (kO_10 hw)) (by decide) 7 rfl (by decide) lk_X0_57 dX0_write_65 ?_
    refine x_iast hE (hE.kd (kR_8 hi8)) dX0_write_68 hf (fun M9 hf => ?_)
    refine x_aload_n hE 0 dX0_write_69 rfl rfl ?_
    refine x_getR hE cl_0 (hE.kd kO_0) (by decide) 2 (8) rfl (by decide) lk_X0_20 dX0_write_70 ?_
    refine x_iconst hE (nI 3) dX0_write_73 (by decide) ?_
    have hi10 := (chk_some hf).1
    refine x_aldR hE (hE.kd kA_8) dX0_write_74 hf (fun hf => ?_)
    refine x_iload_n hE 2 dX0_write_75 rfl rfl ?_
    refine x_aload_n hE 1 dX0_write_76 rfl rfl ?_
    refine x_getI hE cl_10 (hE.kd (kO_10 hw)) (by decide) 8 rfl (by decide) lk_X0_60 dX0_write_77 ?_
    refine x_iast hE (hE.kd (kR_8 hi10)) dX0_write_80 hf (fun M11 hf => ?_)
    refine x_aload_n hE 0 dX0_write_81 rfl rfl ?_
    refine x_getR hE cl_0 (hE.kd kO_0) (by decide) 2 (8) rfl (by decide) lk_X0_20 dX0_write_82 ?_
    refine x_iconst hE (nI 4) dX0_write_85 (by decide) ?_
    have hi12 := (chk_some hf).1
    refine x_aldR hE (hE.kd kA_8) dX0_write_86 hf (fun hf => ?_)
    refine x_iload_n hE 2 dX0_write_87 rfl rfl ?_
    refine x_aload_n hE 1 dX0_write_88 rfl rfl ?_
    refine x_getR hE cl_10 (hE.kd (kO_10 hw)) (by decide) 2 (w + 15) rfl (by decide) lk_X0_39 dX0_write_89 ?_
    refine x_getI hE cl_3 (hE.kd (kO_3 (hL_10_2 hw))) (by decide) 2 rfl (by decide) lk_X0_63 dX0_write_92 ?_
    refine x_iast hE (hE.kd (kR_8 hi12)) dX0_write_95 hf (fun M13 hf => ?_)
    refine x_aload_n hE 0 dX0_write_96 rfl rfl ?_
    refine x_getR hE cl_0 (hE.kd kO_0) (by decide) 2 (8) rfl (by decide) lk_X0_20 dX0_write_97 ?_
    refine x_iconst hE (nI 5) dX0_write_100 (by decide) ?_
    have hi14 := (chk_some hf).1
    refine x_aldR hE (hE.kd kA_8) dX0_write_101 hf (fun hf => ?_)
    refine x_iload_n hE 2 dX0_write_102 rfl rfl ?_
    refine x_aload_n hE 1 dX0_write_103 rfl rfl ?_
    refine x_getI hE cl_10 (hE.kd (kO_10 hw)) (by decide) 9 rfl (by decide) lk_X0_66 dX0_write_104 ?_
    refine x_iast hE (hE.kd (kR_8 hi14)) dX0_write_107 hf (fun M15 hf => ?_)
    refine x_aload_n hE 0 dX0_write_108 rfl rfl ?_
    refine x_getR hE cl_0 (hE.kd kO_0) (by decide) 2 (8) rfl (by decide) lk_X0_20 dX0_write_109 ?_
    refine x_bipush hE (nI 6) dX0_write_112 (by decide) ?_
    have hi16 := (chk_some hf).1
    refine x_aldR hE (hE.kd kA_8) dX0_write_114 hf (fun hf => ?_)
    refine x_iload_n hE 2 dX0_write_115 rfl rfl ?_
    refine x_aload_n hE 1 dX0_write_116 rfl rfl ?_
    refine x_getR hE cl_10 (hE.kd (kO_10 hw)) (by decide) 5 (w + 37) rfl (by decide) lk_X0_69 dX0_write_117 ?_
    refine x_getI hE cl_2 (hE.kd (kO_2 (hL_10_5 hw))) (by decide) 2 rfl (by decide) lk_X0_73 dX0_write_120 ?_
    refine x_iast hE (hE.kd (kR_8 hi16)) dX0_write_123 hf (fun M17 hf => ?_)
    replace hf := Option.some.inj hf
    subst hf
    exact x_vreturn hE hr dX0_write_124
  · replace hf := Option.some.inj hf
    subst hf
    exact x_vreturn hE hr dX0_write_19
theorem yokX0_write : YOK yX0_write cX0_write 3 1 none := ⟨mem_g 1844 (by decide +kernel) (by decide +kernel), mem_g 132 (by decide +kernel) (by decide +kernel), by decide +kernel, by decide +kernel, by decide +kernel⟩
theorem yvX0_write : YV yX0_write := ⟨mem_g 1842 (by decide +kernel) (by decide +kernel), mem_g 1843 (by decide +kernel) (by decide +kernel)⟩
theorem dX0_rowOf_0 : decode cX0_rowOf 0 = .ok (.iload_n 2, 1) := by decide +kernel
theorem dX0_rowOf_1 : decode cX0_rowOf 1 = .ok (.bipush 7, 2) := by decide +kernel
theorem dX0_rowOf_3 : decode cX0_rowOf 3 = .ok (.invokestatic 23, 3) := by decide +kernel
theorem dX0_rowOf_6 : decode cX0_rowOf 6 = .ok (.ifCond .eq 24, 3) := by decide +kernel
theorem dX0_rowOf_9 : decode cX0_rowOf 9 = .ok (.iload_n 1, 1) := by decide +kernel
theorem dX0_rowOf_10 : decode cX0_rowOf 10 = .ok (.sipush 1000, 3) := by decide +kernel
theorem dX0_rowOf_13 : decode cX0_rowOf 13 = .ok (.invokestatic 23, 3) := by decide +kernel
theorem dX0_rowOf_16 : decode cX0_rowOf 16 = .ok (.ifCond .eq 14, 3) := by decide +kernel
theorem dX0_rowOf_19 : decode cX0_rowOf 19 = .ok (.aload_n 0, 1) := by decide +kernel
theorem dX0_rowOf_20 : decode cX0_rowOf 20 = .ok (.getfield 20, 3) := by decide +kernel
theorem dX0_rowOf_23 : decode cX0_rowOf 23 = .ok (.iload_n 2, 1) := by decide +kernel
theorem dX0_rowOf_24 : decode cX0_rowOf 24 = .ok (.aaload, 1) := by decide +kernel
theorem dX0_rowOf_25 : decode cX0_rowOf 25 = .ok (.iload_n 1, 1) := by decide +kernel
theorem dX0_rowOf_26 : decode cX0_rowOf 26 = .ok (.iaload, 1) := by decide +kernel
theorem dX0_rowOf_27 : decode cX0_rowOf 27 = .ok (.goto 4, 3) := by decide +kernel
theorem dX0_rowOf_30 : decode cX0_rowOf 30 = .ok (.iconst 0, 1) := by decide +kernel
theorem dX0_rowOf_31 : decode cX0_rowOf 31 = .ok (.ireturn, 1) := by decide +kernel
theorem mX0_rowOf (l : Launch) {Y : Nat → ClassId} {D : va_G} {σ : Nat → Nat} {np b0 : Nat} {M : Mc} {N : Md} {p0 : Int32} {p1 : Int32} {r : Int32} (hf : fX0_rowOf M p0 p1 = some r) : Met l yX0_rowOf (.code yX0_rowOf cX0_rowOf 3 (some .int) :: lw_g) (rmD 2) (PR Y D σ np b0 [.ref (σ (1)), .int p0, .int p1] M N) (QR Y D σ np b0 (some (.int r)) M N) 0 0 (xA b0) := by
  refine x_met (by decide) (Nat.le_of_ble_eq_true rfl) (fun p e s m args below meth c hE hr => ?_)
  unfold fX0_rowOf at hf
  refine x_pick [0, 1, 2] (L' := [(0, .ref (σ (1))), (1, .int p0), (2, .int p1)]) rfl ?_
  refine x_iload_n hE 2 dX0_rowOf_0 rfl rfl ?_
  refine x_bipush hE (nI 7) dX0_rowOf_1 (by decide) ?_
  obtain ⟨v2, hc1, hf⟩ := bnd_some hf
  refine x_callSN1 hE [.int p1, .int (nI 7)] (rest := []) (v := .int v2) (c1 := M) (d1 := N) rfl yokX11_inside ysX11_inside lk_X0_23 rfl rfl ⟨Nat.le_of_ble_eq_true rfl, Nat.le_of_ble_eq_true rfl⟩ ⟨Nat.zero_le _, Nat.zero_le _⟩ rfl (Nat.le_of_ble_eq_true rfl) dX0_rowOf_3 (mX11_inside l hc1) ?_
  refine x_if_eq hE 30 dX0_rowOf_6 (by decide) hf (fun hf => ?_) (fun hf => ?_)
  · refine x_iconst hE (0 : Int32) dX0_rowOf_30 (by decide) ?_
    replace hf := Option.some.inj hf
    subst hf
    exact x_ireturn hE (v := 0) hr rfl dX0_rowOf_31
  · refine x_iload_n hE 1 dX0_rowOf_9 rfl rfl ?_
    refine x_sipush hE (nI 1000) dX0_rowOf_10 (by decide) ?_
    obtain ⟨v4, hc3, hf⟩ := bnd_some hf
    refine x_callSN1 hE [.int p0, .int (nI 1000)] (rest := []) (v := .int v4) (c1 := M) (d1 := N) rfl yokX11_inside ysX11_inside lk_X0_23 rfl rfl ⟨Nat.le_of_ble_eq_true rfl, Nat.le_of_ble_eq_true rfl⟩ ⟨Nat.zero_le _, Nat.zero_le _⟩ rfl (Nat.le_of_ble_eq_true rfl) dX0_rowOf_13 (mX11_inside l hc3) ?_
    refine x_if_eq hE 30 dX0_rowOf_16 (by decide) hf (fun hf => ?_) (fun hf => ?_)
    · refine x_iconst hE (0 : Int32) dX0_rowOf_30 (by decide) ?_
      replace hf := Option.some.inj hf
      subst hf
      exact x_ireturn hE (v := 0) hr rfl dX0_rowOf_31
    · refine x_aload_n hE 0 dX0_rowOf_19 rfl rfl ?_
      refine x_getR hE cl_0 (hE.kd kO_0) (by decide) 2 (8) rfl (by decide) lk_X0_20 dX0_rowOf_20 ?_
      refine x_iload_n hE 2 dX0_rowOf_23 rfl rfl ?_
      have hi5 := (chk_some hf).1
      refine x_aldR hE (hE.kd kA_8) dX0_rowOf_24 hf (fun hf => ?_)
      refine x_iload_n hE 1 dX0_rowOf_25 rfl rfl ?_
      refine x_iald hE (hE.kd (kR_8 hi5)) dX0_rowOf_26 hf (fun hf => ?_)
      refine x_goto hE 31 dX0_rowOf_27 (by decide) ?_
      replace hf := Option.some.inj hf
      subst hf
      exact x_ireturn hE (v := M (8 + 1 + p1.toNatClampNeg) p0.toNatClampNeg) hr rfl dX0_rowOf_31
theorem yokX0_rowOf : YOK yX0_rowOf cX0_rowOf 3 2 (some .int) := ⟨mem_g 642 (by decide +kernel) (by decide +kernel), mem_g 132 (by decide +kernel) (by decide +kernel), by decide +kernel, by decide +kernel, by decide +kernel⟩
theorem yvX0_rowOf : YV yX0_rowOf := ⟨mem_g 640 (by decide +kernel) (by decide +kernel), mem_g 641 (by decide +kernel) (by decide +kernel)⟩
