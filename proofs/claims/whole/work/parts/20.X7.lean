theorem lk_X7_77 : Cond.methodLinkNest RX7 77 yX11_inside "SettlerColony" ∈ lw_nw := mem_n 1331 (by decide +kernel) rfl
theorem dX7_byteAt_0 : decode cX7_byteAt 0 = .ok (.iload_n 2, 1) := by decide +kernel
theorem dX7_byteAt_1 : decode cX7_byteAt 1 = .ok (.iload_n 1, 1) := by decide +kernel
theorem dX7_byteAt_2 : decode cX7_byteAt 2 = .ok (.invokestatic 77, 3) := by decide +kernel
theorem dX7_byteAt_5 : decode cX7_byteAt 5 = .ok (.ifCond .eq 18, 3) := by decide +kernel
theorem dX7_byteAt_8 : decode cX7_byteAt 8 = .ok (.iload_n 2, 1) := by decide +kernel
theorem dX7_byteAt_9 : decode cX7_byteAt 9 = .ok (.aload_n 0, 1) := by decide +kernel
theorem dX7_byteAt_10 : decode cX7_byteAt 10 = .ok (.arraylength, 1) := by decide +kernel
theorem dX7_byteAt_11 : decode cX7_byteAt 11 = .ok (.invokestatic 77, 3) := by decide +kernel
theorem dX7_byteAt_14 : decode cX7_byteAt 14 = .ok (.ifCond .eq 9, 3) := by decide +kernel
theorem dX7_byteAt_17 : decode cX7_byteAt 17 = .ok (.aload_n 0, 1) := by decide +kernel
theorem dX7_byteAt_18 : decode cX7_byteAt 18 = .ok (.iload_n 2, 1) := by decide +kernel
theorem dX7_byteAt_19 : decode cX7_byteAt 19 = .ok (.iaload, 1) := by decide +kernel
theorem dX7_byteAt_20 : decode cX7_byteAt 20 = .ok (.goto 4, 3) := by decide +kernel
theorem dX7_byteAt_23 : decode cX7_byteAt 23 = .ok (.iconst (-1), 1) := by decide +kernel
theorem dX7_byteAt_24 : decode cX7_byteAt 24 = .ok (.ireturn, 1) := by decide +kernel
def fX7_byteAt (M : Mc) (p0 : Int32) (p1 : Int32) : Option (Int32) := bnd (fX11_inside p1 p0) fun v2 => (if v2 = 0 then (some ((-1))) else bnd (fX11_inside p1 (nI 300)) fun v4 => (if v4 = 0 then (some ((-1))) else chk p1 (300) ((some ((M (123) p1.toNatClampNeg))))))
theorem mX7_byteAt (l : Launch) {Y : Nat → ClassId} {D : va_G} {σ : Nat → Nat} {np b0 : Nat} {M : Mc} {N : Md} {p0 : Int32} {p1 : Int32} {r : Int32} (hf : fX7_byteAt M p0 p1 = some r) : Met l yX7_byteAt (.code yX7_byteAt cX7_byteAt 3 (some .int) :: lw_g) (rmD 2) (PR Y D σ np b0 [.ref (σ (123)), .int p0, .int p1] M N) (QR Y D σ np b0 (some (.int r)) M N) 0 0 (xA b0) := by
  refine x_met (by decide) (Nat.le_of_ble_eq_true rfl) (fun p e s m args below meth c hE hr => ?_)
  unfold fX7_byteAt at hf
  refine x_pick [0, 1, 2] (L' := [(0, .ref (σ (123))), (1, .int p0), (2, .int p1)]) rfl ?_
  refine x_iload_n hE 2 dX7_byteAt_0 rfl rfl ?_
  refine x_iload_n hE 1 dX7_byteAt_1 rfl rfl ?_
  obtain ⟨v2, hc1, hf⟩ := bnd_some hf
  refine x_callSN1 hE [.int p1, .int p0] (rest := []) (v := .int v2) (c1 := M) (d1 := N) rfl yokX11_inside ysX11_inside lk_X7_77 rfl rfl ⟨Nat.le_of_ble_eq_true rfl, Nat.le_of_ble_eq_true rfl⟩ ⟨Nat.zero_le _, Nat.zero_le _⟩ rfl (Nat.le_of_ble_eq_true rfl) dX7_byteAt_2 (mX11_inside l hc1) ?_
  refine x_if_eq hE 23 dX7_byteAt_5 (by decide) hf (fun hf => ?_) (fun hf => ?_)
  · refine x_iconst hE (-1) dX7_byteAt_23 (by decide) ?_
    replace hf := Option.some.inj hf
    subst hf
    exact x_ireturn hE (v := (-1)) hr rfl dX7_byteAt_24
  · refine x_iload_n hE 2 dX7_byteAt_8 rfl rfl ?_
    refine x_aload_n hE 0 dX7_byteAt_9 rfl rfl ?_
    refine x_alen hE (nI 300) (hE.kd kA_123) (Or.inl rfl) rfl dX7_byteAt_10 ?_
    obtain ⟨v4, hc3, hf⟩ := bnd_some hf
    refine x_callSN1 hE [.int p1, .int (nI 300)] (rest := []) (v := .int v4) (c1 := M) (d1 := N) rfl yokX11_inside ysX11_inside lk_X7_77 rfl rfl ⟨Nat.le_of_ble_eq_true rfl, Nat.le_of_ble_eq_true rfl⟩ ⟨Nat.zero_le _, Nat.zero_le _⟩ rfl (Nat.le_of_ble_eq_true rfl) dX7_byteAt_11 (mX11_inside l hc3) ?_
    refine x_if_eq hE 23 dX7_byteAt_14 (by decide) hf (fun hf => ?_) (fun hf => ?_)
    · refine x_iconst hE (-1) dX7_byteAt_23 (by decide) ?_
      replace hf := Option.some.inj hf
      subst hf
      exact x_ireturn hE (v := (-1)) hr rfl dX7_byteAt_24
    · refine x_aload_n hE 0 dX7_byteAt_17 rfl rfl ?_
      refine x_iload_n hE 2 dX7_byteAt_18 rfl rfl ?_
      refine x_iald hE (hE.kd kA_123) dX7_byteAt_19 hf (fun hf => ?_)
      refine x_goto hE 24 dX7_byteAt_20 (by decide) ?_
      replace hf := Option.some.inj hf
      subst hf
      exact x_ireturn hE (v := M (123) p1.toNatClampNeg) hr rfl dX7_byteAt_24
theorem yokX7_byteAt : YOK yX7_byteAt cX7_byteAt 3 3 (some .int) := ⟨mem_g 1334 (by decide +kernel) (by decide +kernel), mem_g 141 (by decide +kernel) (by decide +kernel), by decide +kernel, by decide +kernel, by decide +kernel⟩
theorem ysX7_byteAt : Cond.static yX7_byteAt ∈ lw_g := mem_g 1333 (by decide +kernel) (by decide +kernel)
theorem dX7_isLetter_0 : decode cX7_isLetter 0 = .ok (.iload_n 0, 1) := by decide +kernel
theorem dX7_isLetter_1 : decode cX7_isLetter 1 = .ok (.bipush 97, 2) := by decide +kernel
theorem dX7_isLetter_3 : decode cX7_isLetter 3 = .ok (.if_icmp .lt 13, 3) := by decide +kernel
theorem dX7_isLetter_6 : decode cX7_isLetter 6 = .ok (.iload_n 0, 1) := by decide +kernel
theorem dX7_isLetter_7 : decode cX7_isLetter 7 = .ok (.bipush 122, 2) := by decide +kernel
theorem dX7_isLetter_9 : decode cX7_isLetter 9 = .ok (.if_icmp .gt 7, 3) := by decide +kernel
theorem dX7_isLetter_12 : decode cX7_isLetter 12 = .ok (.iconst 1, 1) := by decide +kernel
theorem dX7_isLetter_13 : decode cX7_isLetter 13 = .ok (.goto 4, 3) := by decide +kernel
theorem dX7_isLetter_16 : decode cX7_isLetter 16 = .ok (.iconst 0, 1) := by decide +kernel
theorem dX7_isLetter_17 : decode cX7_isLetter 17 = .ok (.ireturn, 1) := by decide +kernel
def fX7_isLetter (p0 : Int32) : Option (Int32) := (if p0 < (nI 97) then (some (0)) else (if (nI 122) < p0 then (some (0)) else (some ((nI 1)))))
theorem mX7_isLetter (l : Launch) {Y : Nat → ClassId} {D : va_G} {σ : Nat → Nat} {np b0 : Nat} {M : Mc} {N : Md} {p0 : Int32} {r : Int32} (hf : fX7_isLetter p0 = some r) : Met l yX7_isLetter (.code yX7_isLetter cX7_isLetter 1 (some .boolean) :: lw_g) (rmD 1) (PR Y D σ np b0 [.int p0] M N) (QR Y D σ np b0 (some (.int r)) M N) 0 0 (xA b0) := by
  refine x_met (by decide) (Nat.le_of_ble_eq_true rfl) (fun p e s m args below meth c hE hr => ?_)
  unfold fX7_isLetter at hf
  refine x_pick [0] (L' := [(0, .int p0)]) rfl ?_
  refine x_iload_n hE 0 dX7_isLetter_0 rfl rfl ?_
  refine x_bipush hE (nI 97) dX7_isLetter_1 (by decide) ?_
  refine x_icmp_lt hE 16 dX7_isLetter_3 (by decide) hf (fun hf => ?_) (fun hf => ?_)
  · refine x_iconst hE (0 : Int32) dX7_isLetter_16 (by decide) ?_
    replace hf := Option.some.inj hf
    subst hf
    exact x_ireturn hE (v := 0) hr rfl dX7_isLetter_17
  · refine x_iload_n hE 0 dX7_isLetter_6 rfl rfl ?_
    refine x_bipush hE (nI 122) dX7_isLetter_7 (by decide) ?_
    refine x_icmp_gt hE 16 dX7_isLetter_9 (by decide) hf (fun hf => ?_) (fun hf => ?_)
    · refine x_iconst hE (0 : Int32) dX7_isLetter_16 (by decide) ?_
      replace hf := Option.some.inj hf
      subst hf
      exact x_ireturn hE (v := 0) hr rfl dX7_isLetter_17
    · refine x_iconst hE (nI 1) dX7_isLetter_12 (by decide) ?_
      refine x_goto hE 17 dX7_isLetter_13 (by decide) ?_
      replace hf := Option.some.inj hf
      subst hf
      exact x_ireturn hE (v := nI 1) hr rfl dX7_isLetter_17
theorem yokX7_isLetter : YOK yX7_isLetter cX7_isLetter 1 1 (some .boolean) := ⟨mem_g 1337 (by decide +kernel) (by decide +kernel), mem_g 141 (by decide +kernel) (by decide +kernel), by decide +kernel, by decide +kernel, by decide +kernel⟩
theorem ysX7_isLetter : Cond.static yX7_isLetter ∈ lw_g := mem_g 1336 (by decide +kernel) (by decide +kernel)
theorem dX7_isDigit_0 : decode cX7_isDigit 0 = .ok (.iload_n 0, 1) := by decide +kernel
theorem dX7_isDigit_1 : decode cX7_isDigit 1 = .ok (.bipush 48, 2) := by decide +kernel
theorem dX7_isDigit_3 : decode cX7_isDigit 3 = .ok (.if_icmp .lt 13, 3) := by decide +kernel
theorem dX7_isDigit_6 : decode cX7_isDigit 6 = .ok (.iload_n 0, 1) := by decide +kernel
theorem dX7_isDigit_7 : decode cX7_isDigit 7 = .ok (.bipush 57, 2) := by decide +kernel
theorem dX7_isDigit_9 : decode cX7_isDigit 9 = .ok (.if_icmp .gt 7, 3) := by decide +kernel
theorem dX7_isDigit_12 : decode cX7_isDigit 12 = .ok (.iconst 1, 1) := by decide +kernel
theorem dX7_isDigit_13 : decode cX7_isDigit 13 = .ok (.goto 4, 3) := by decide +kernel
theorem dX7_isDigit_16 : decode cX7_isDigit 16 = .ok (.iconst 0, 1) := by decide +kernel
theorem dX7_isDigit_17 : decode cX7_isDigit 17 = .ok (.ireturn, 1) := by decide +kernel
def fX7_isDigit (p0 : Int32) : Option (Int32) := (if p0 < (nI 48) then (some (0)) else (if (nI 57) < p0 then (some (0)) else (some ((nI 1)))))
theorem mX7_isDigit (l : Launch) {Y : Nat → ClassId} {D : va_G} {σ : Nat → Nat} {np b0 : Nat} {M : Mc} {N : Md} {p0 : Int32} {r : Int32} (hf : fX7_isDigit p0 = some r) : Met l yX7_isDigit (.code yX7_isDigit cX7_isDigit 1 (some .boolean) :: lw_g) (rmD 1) (PR Y D σ np b0 [.int p0] M N) (QR Y D σ np b0 (some (.int r)) M N) 0 0 (xA b0) := by
  refine x_met (by decide) (Nat.le_of_ble_eq_true rfl) (fun p e s m args below meth c hE hr => ?_)
  unfold fX7_isDigit at hf
  refine x_pick [0] (L' := [(0, .int p0)]) rfl ?_
  refine x_iload_n hE 0 dX7_isDigit_0 rfl rfl ?_
  refine x_bipush hE (nI 48) dX7_isDigit_1 (by decide) ?_
  refine x_icmp_lt hE 16 dX7_isDigit_3 (by decide) hf (fun hf => ?_) (fun hf => ?_)
  · refine x_iconst hE (0 : Int32) dX7_isDigit_16 (by decide) ?_
    replace hf := Option.some.inj hf
    subst hf
    exact x_ireturn hE (v := 0) hr rfl dX7_isDigit_17
  · refine x_iload_n hE 0 dX7_isDigit_6 rfl rfl ?_
    refine x_bipush hE (nI 57) dX7_isDigit_7 (by decide) ?_
    refine x_icmp_gt hE 16 dX7_isDigit_9 (by decide) hf (fun hf => ?_) (fun hf => ?_)
    · refine x_iconst hE (0 : Int32) dX7_isDigit_16 (by decide) ?_
      replace hf := Option.some.inj hf
      subst hf
      exact x_ireturn hE (v := 0) hr rfl dX7_isDigit_17
    · refine x_iconst hE (nI 1) dX7_isDigit_12 (by decide) ?_
      refine x_goto hE 17 dX7_isDigit_13 (by decide) ?_
      replace hf := Option.some.inj hf
      subst hf
      exact x_ireturn hE (v := nI 1) hr rfl dX7_isDigit_17
theorem yokX7_isDigit : YOK yX7_isDigit cX7_isDigit 1 1 (some .boolean) := ⟨mem_g 1396 (by decide +kernel) (by decide +kernel), mem_g 141 (by decide +kernel) (by decide +kernel), by decide +kernel, by decide +kernel, by decide +kernel⟩
theorem ysX7_isDigit : Cond.static yX7_isDigit ∈ lw_g := mem_g 1395 (by decide +kernel) (by decide +kernel)
theorem lk_X7_11 : Cond.fieldLink RX7 11 (TX7 0).1 (TX7 0).2.1 (TX7 0).2.2.1 ∈ lw_g := mem_g 505 (by decide +kernel) (by decide +kernel)
theorem lk_X7_81 : Cond.methodLink RX7 81 yX7_byteAt ∈ lw_g := mem_g 1332 (by decide +kernel) (by decide +kernel)
theorem lk_X7_93 : Cond.methodLink RX7 93 yX7_isDigit ∈ lw_g := mem_g 1394 (by decide +kernel) (by decide +kernel)
theorem lk_X7_99 : Cond.methodLink RX7 99 Lib.Math.min.name ∈ lw_g := mem_g 1401 (by decide +kernel) (by decide +kernel)
theorem lk_X7_18 : Cond.fieldLink RX7 18 (TX7 2).1 (TX7 2).2.1 (TX7 2).2.2.1 ∈ lw_g := mem_g 507 (by decide +kernel) (by decide +kernel)
theorem dX7_takeNumber_0 : decode cX7_takeNumber 0 = .ok (.iload 4, 2) := by decide +kernel
theorem dX7_takeNumber_2 : decode cX7_takeNumber 2 = .ok (.aload_n 0, 1) := by decide +kernel
theorem dX7_takeNumber_3 : decode cX7_takeNumber 3 = .ok (.getfield 11, 3) := by decide +kernel
theorem dX7_takeNumber_6 : decode cX7_takeNumber 6 = .ok (.arraylength, 1) := by decide +kernel
theorem dX7_takeNumber_7 : decode cX7_takeNumber 7 = .ok (.invokestatic 77, 3) := by decide +kernel
theorem dX7_takeNumber_10 : decode cX7_takeNumber 10 = .ok (.ifCond .ne 5, 3) := by decide +kernel
theorem dX7_takeNumber_13 : decode cX7_takeNumber 13 = .ok (.iload_n 2, 1) := by decide +kernel
theorem dX7_takeNumber_14 : decode cX7_takeNumber 14 = .ok (.ireturn, 1) := by decide +kernel
theorem dX7_takeNumber_15 : decode cX7_takeNumber 15 = .ok (.iload_n 3, 1) := by decide +kernel
theorem dX7_takeNumber_16 : decode cX7_takeNumber 16 = .ok (.istore 5, 2) := by decide +kernel
theorem dX7_takeNumber_18 : decode cX7_takeNumber 18 = .ok (.iconst 0, 1) := by decide +kernel
theorem dX7_takeNumber_19 : decode cX7_takeNumber 19 = .ok (.istore 6, 2) := by decide +kernel
theorem dX7_takeNumber_21 : decode cX7_takeNumber 21 = .ok (.iconst 0, 1) := by decide +kernel
theorem dX7_takeNumber_22 : decode cX7_takeNumber 22 = .ok (.istore 7, 2) := by decide +kernel
theorem dX7_takeNumber_24 : decode cX7_takeNumber 24 = .ok (.iload 7, 2) := by decide +kernel
theorem dX7_takeNumber_26 : decode cX7_takeNumber 26 = .ok (.iload_n 2, 1) := by decide +kernel
theorem dX7_takeNumber_27 : decode cX7_takeNumber 27 = .ok (.if_icmp .ge 49, 3) := by decide +kernel
theorem dX7_takeNumber_30 : decode cX7_takeNumber 30 = .ok (.aload_n 1, 1) := by decide +kernel
theorem dX7_takeNumber_31 : decode cX7_takeNumber 31 = .ok (.iload_n 2, 1) := by decide +kernel
theorem dX7_takeNumber_32 : decode cX7_takeNumber 32 = .ok (.iload 5, 2) := by decide +kernel
theorem dX7_takeNumber_34 : decode cX7_takeNumber 34 = .ok (.invokestatic 81, 3) := by decide +kernel
theorem dX7_takeNumber_37 : decode cX7_takeNumber 37 = .ok (.invokestatic 93, 3) := by decide +kernel
theorem dX7_takeNumber_40 : decode cX7_takeNumber 40 = .ok (.ifCond .eq 36, 3) := by decide +kernel
theorem dX7_takeNumber_43 : decode cX7_takeNumber 43 = .ok (.sipush 10000, 3) := by decide +kernel
theorem dX7_takeNumber_46 : decode cX7_takeNumber 46 = .ok (.iload 6, 2) := by decide +kernel
theorem dX7_takeNumber_48 : decode cX7_takeNumber 48 = .ok (.bipush 10, 2) := by decide +kernel
theorem dX7_takeNumber_50 : decode cX7_takeNumber 50 = .ok (.imul, 1) := by decide +kernel
theorem dX7_takeNumber_51 : decode cX7_takeNumber 51 = .ok (.aload_n 1, 1) := by decide +kernel
theorem dX7_takeNumber_52 : decode cX7_takeNumber 52 = .ok (.iload_n 2, 1) := by decide +kernel
theorem dX7_takeNumber_53 : decode cX7_takeNumber 53 = .ok (.iload 5, 2) := by decide +kernel
theorem dX7_takeNumber_55 : decode cX7_takeNumber 55 = .ok (.invokestatic 81, 3) := by decide +kernel
theorem dX7_takeNumber_58 : decode cX7_takeNumber 58 = .ok (.iadd, 1) := by decide +kernel
theorem dX7_takeNumber_59 : decode cX7_takeNumber 59 = .ok (.bipush 48, 2) := by decide +kernel
theorem dX7_takeNumber_61 : decode cX7_takeNumber 61 = .ok (.isub, 1) := by decide +kernel
theorem dX7_takeNumber_62 : decode cX7_takeNumber 62 = .ok (.invokestatic 99, 3) := by decide +kernel
theorem dX7_takeNumber_65 : decode cX7_takeNumber 65 = .ok (.istore 6, 2) := by decide +kernel
theorem dX7_takeNumber_67 : decode cX7_takeNumber 67 = .ok (.iinc 5 1, 3) := by decide +kernel
theorem dX7_takeNumber_70 : decode cX7_takeNumber 70 = .ok (.iinc 7 1, 3) := by decide +kernel
theorem dX7_takeNumber_73 : decode cX7_takeNumber 73 = .ok (.goto (-49), 3) := by decide +kernel
theorem dX7_takeNumber_76 : decode cX7_takeNumber 76 = .ok (.aload_n 0, 1) := by decide +kernel
theorem dX7_takeNumber_77 : decode cX7_takeNumber 77 = .ok (.getfield 11, 3) := by decide +kernel
theorem dX7_takeNumber_80 : decode cX7_takeNumber 80 = .ok (.iload 4, 2) := by decide +kernel
theorem dX7_takeNumber_82 : decode cX7_takeNumber 82 = .ok (.sipush 300, 3) := by decide +kernel
theorem dX7_takeNumber_85 : decode cX7_takeNumber 85 = .ok (.iastore, 1) := by decide +kernel
theorem dX7_takeNumber_86 : decode cX7_takeNumber 86 = .ok (.aload_n 0, 1) := by decide +kernel
theorem dX7_takeNumber_87 : decode cX7_takeNumber 87 = .ok (.getfield 18, 3) := by decide +kernel
theorem dX7_takeNumber_90 : decode cX7_takeNumber 90 = .ok (.iload 4, 2) := by decide +kernel
theorem dX7_takeNumber_92 : decode cX7_takeNumber 92 = .ok (.iload 6, 2) := by decide +kernel
theorem dX7_takeNumber_94 : decode cX7_takeNumber 94 = .ok (.iastore, 1) := by decide +kernel
theorem dX7_takeNumber_95 : decode cX7_takeNumber 95 = .ok (.iload 5, 2) := by decide +kernel
theorem dX7_takeNumber_97 : decode cX7_takeNumber 97 = .ok (.ireturn, 1) := by decide +kernel
def fX7_takeNumber_J76 (M : Mc) (X4 : Int32) (X5 : Int32) (X6 : Int32) : Option (Int32 × Mc) := chk X4 301 (lt (wr M (115) X4.toNatClampNeg (nI 300)) fun M10 => chk X4 301 (lt (wr M10 (117) X4.toNatClampNeg X6) fun M11 => (some (X5, M11))))
theorem wX7_takeNumber_J76 {p : Program} {l : Launch} {e : Env} {s : State} {m : MethodId} {args : Array Value} {below : List Frame} {meth : Method} {c : Code} {Y : Nat → ClassId} {D : va_G} {σ : Nat → Nat} {np b0 : Nat} {r : Int32 × Mc} {M : Mc} {N : Md} {X4 : Int32} {X5 : Int32} {X6 : Int32} (hE : EOK p s m args meth c cX7_takeNumber 8 RX7 Y D σ np b0) (hr : meth.sig.returnType = (some .int)) (hf : fX7_takeNumber_J76 M X4 X5 X6 = some r) : Xw p l e (rmD 4) s m args below meth c 8 Y D σ np b0 0 0 (MQ below (QR Y D σ np b0 (some (.int r.1)) r.2 N) args s 0 0 (xA b0)) 76 [(0, .ref (σ (114))), (4, .int X4), (5, .int X5), (6, .int X6)] [] M N := by
  unfold fX7_takeNumber_J76 at hf
  refine x_aload_n hE 0 dX7_takeNumber_76 rfl rfl ?_
  refine x_getR hE cl_7 (hE.kd kO_7) (by decide) 0 (115) rfl (by decide) lk_X7_11 dX7_takeNumber_77 ?_
  refine x_iload hE 1 dX7_takeNumber_80 rfl ?_
  refine x_sipush hE (nI 300) dX7_takeNumber_82 (by decide) ?_
  refine x_iast hE (hE.kd kA_115) dX7_takeNumber_85 hf (fun M10 hf => ?_)
  refine x_aload_n hE 0 dX7_takeNumber_86 rfl rfl ?_
  refine x_getR hE cl_7 (hE.kd kO_7) (by decide) 2 (117) rfl (by decide) lk_X7_18 dX7_takeNumber_87 ?_
  refine x_iload hE 1 dX7_takeNumber_90 rfl ?_
  refine x_iload hE 3 dX7_takeNumber_92 rfl ?_
  refine x_iast hE (hE.kd kA_117) dX7_takeNumber_94 hf (fun M11 hf => ?_)
  refine x_iload hE 2 dX7_takeNumber_95 rfl ?_
  replace hf := Option.some.inj hf
  subst hf
  exact x_ireturn hE (v := X5) hr rfl dX7_takeNumber_97
def fX7_takeNumber_L24 : Nat → Mc → Int32 → Int32 → Int32 → Int32 → Int32 → Option (Int32 × Mc)
  | 0, _, _, _, _, _, _ => none
  | n + 1, M, X2, X4, X5, X6, X7 => (if X2 ≤ X7 then (fX7_takeNumber_J76 M X4 X5 X6) else bnd (fX7_byteAt M X2 X5) fun v4 => bnd (fX7_isDigit v4) fun v6 => (if v6 = 0 then (fX7_takeNumber_J76 M X4 X5 X6) else bnd (fX7_byteAt M X2 X5) fun v8 => lt (xmin (nI 10000) (((X6 * (nI 10)) + v8) - (nI 48))) fun v9 => (fX7_takeNumber_L24 n M X2 X4 (X5 + nI 1) v9 (X7 + nI 1))))
theorem wX7_takeNumber_L24 {p : Program} {l : Launch} {e : Env} {s : State} {m : MethodId} {args : Array Value} {below : List Frame} {meth : Method} {c : Code} {Y : Nat → ClassId} {D : va_G} {σ : Nat → Nat} {np b0 : Nat} {r : Int32 × Mc} (hE : EOK p s m args meth c cX7_takeNumber 8 RX7 Y D σ np b0) (hr : meth.sig.returnType = (some .int)) : ∀ (n : Nat) (M : Mc) (N : Md) (X2 : Int32) (X4 : Int32) (X5 : Int32) (X6 : Int32) (X7 : Int32), fX7_takeNumber_L24 n M X2 X4 X5 X6 X7 = some r → Xw p l e (rmD 4) s m args below meth c 8 Y D σ np b0 0 0 (MQ below (QR Y D σ np b0 (some (.int r.1)) r.2 N) args s 0 0 (xA b0)) 24 [(0, .ref (σ (114))), (1, .ref (σ (123))), (2, .int X2), (4, .int X4), (5, .int X5), (6, .int X6), (7, .int X7)] [] M N := by
  intro n
  induction n with
  | zero =>
    intro M N X2 X4 X5 X6 X7 hf
    cases hf
  | succ n ih =>
    intro M N X2 X4 X5 X6 X7 hf
    rw [fX7_takeNumber_L24.eq_2] at hf
    refine x_iload hE 6 dX7_takeNumber_24 rfl ?_
    refine x_iload_n hE 2 dX7_takeNumber_26 rfl rfl ?_
    refine x_icmp_ge hE 76 dX7_takeNumber_27 (by decide) hf (fun hf => ?_) (fun hf => ?_)
    · refine x_pick [0, 3, 4, 5] (L' := [(0, .ref (σ (114))), (4, .int X4), (5, .int X5), (6, .int X6)]) rfl ?_
      exact wX7_takeNumber_J76 hE hr  hf
    · refine x_aload_n hE 1 dX7_takeNumber_30 rfl rfl ?_
      refine x_iload_n hE 2 dX7_takeNumber_31 rfl rfl ?_
      refine x_iload hE 4 dX7_takeNumber_32 rfl ?_
      obtain ⟨v4, hc3, hf⟩ := bnd_some hf
      refine x_callS1 hE [.ref (σ (123)), .int X2, .int X5] (rest := []) (v := .int v4) (c1 := M) (d1 := N) rfl yokX7_byteAt ysX7_byteAt lk_X7_81 rfl rfl ⟨Nat.le_of_ble_eq_true rfl, Nat.le_of_ble_eq_true rfl⟩ ⟨Nat.zero_le _, Nat.zero_le _⟩ rfl (Nat.le_of_ble_eq_true rfl) dX7_takeNumber_34 (mX7_byteAt l hc3) ?_
      obtain ⟨v6, hc5, hf⟩ := bnd_some hf
      refine x_callS1 hE [.int v4] (rest := []) (v := .int v6) (c1 := M) (d1 := N) rfl yokX7_isDigit ysX7_isDigit lk_X7_93 rfl rfl ⟨Nat.le_of_ble_eq_true rfl, Nat.le_of_ble_eq_true rfl⟩ ⟨Nat.zero_le _, Nat.zero_le _⟩ rfl (Nat.le_of_ble_eq_true rfl) dX7_takeNumber_37 (mX7_isDigit l hc5) ?_
      refine x_if_eq hE 76 dX7_takeNumber_40 (by decide) hf (fun hf => ?_) (fun hf => ?_)
      · refine x_pick [0, 3, 4, 5] (L' := [(0, .ref (σ (114))), (4, .int X4), (5, .int X5), (6, .int X6)]) rfl ?_
        exact wX7_takeNumber_J76 hE hr  hf
      · refine x_sipush hE (nI 10000) dX7_takeNumber_43 (by decide) ?_
        refine x_iload hE 5 dX7_takeNumber_46 rfl ?_
        refine x_bipush hE (nI 10) dX7_takeNumber_48 (by decide) ?_
        refine x_imul hE dX7_takeNumber_50 ?_
        refine x_aload_n hE 1 dX7_takeNumber_51 rfl rfl ?_
        refine x_iload_n hE 2 dX7_takeNumber_52 rfl rfl ?_
        refine x_iload hE 4 dX7_takeNumber_53 rfl ?_
        obtain ⟨v8, hc7, hf⟩ := bnd_some hf
        refine x_callS1 hE [.ref (σ (123)), .int X2, .int X5] (rest := [.int (X6 * (nI 10)), .int (nI 10000)]) (v := .int v8) (c1 := M) (d1 := N) rfl yokX7_byteAt ysX7_byteAt lk_X7_81 rfl rfl ⟨Nat.le_of_ble_eq_true rfl, Nat.le_of_ble_eq_true rfl⟩ ⟨Nat.zero_le _, Nat.zero_le _⟩ rfl (Nat.le_of_ble_eq_true rfl) dX7_takeNumber_55 (mX7_byteAt l hc7) ?_
        refine x_iadd hE dX7_takeNumber_58 ?_
        refine x_bipush hE (nI 48) dX7_takeNumber_59 (by decide) ?_
        refine x_isub hE dX7_takeNumber_61 ?_
        refine x_mmin hE lk_X7_99 (Nat.le_of_ble_eq_true rfl) dX7_takeNumber_62 ?_
        refine x_ltI hf (fun v9 hf => ?_)
        refine x_istore hE (L' := [(6, .int v9), (0, .ref (σ (114))), (1, .ref (σ (123))), (2, .int X2), (4, .int X4), (5, .int X5), (7, .int X7)]) dX7_takeNumber_65 (by decide) rfl ?_
        refine x_pick [1, 2, 3, 4, 5, 0, 6] (L' := [(0, .ref (σ (114))), (1, .ref (σ (123))), (2, .int X2), (4, .int X4), (5, .int X5), (6, .int v9), (7, .int X7)]) rfl ?_
        refine x_iinc hE 4 (X5 + nI 1) (L' := [(5, .int (X5 + nI 1)), (0, .ref (σ (114))), (1, .ref (σ (123))), (2, .int X2), (4, .int X4), (6, .int v9), (7, .int X7)]) dX7_takeNumber_67 rfl rfl (by decide) rfl ?_
        refine x_pick [1, 2, 3, 4, 0, 5, 6] (L' := [(0, .ref (σ (114))), (1, .ref (σ (123))), (2, .int X2), (4, .int X4), (5, .int (X5 + nI 1)), (6, .int v9), (7, .int X7)]) rfl ?_
        refine x_iinc hE 6 (X7 + nI 1) (L' := [(7, .int (X7 + nI 1)), (0, .ref (σ (114))), (1, .ref (σ (123))), (2, .int X2), (4, .int X4), (5, .int (X5 + nI 1)), (6, .int v9)]) dX7_takeNumber_70 rfl rfl (by decide) rfl ?_
        refine x_pick [1, 2, 3, 4, 5, 6, 0] (L' := [(0, .ref (σ (114))), (1, .ref (σ (123))), (2, .int X2), (4, .int X4), (5, .int (X5 + nI 1)), (6, .int v9), (7, .int (X7 + nI 1))]) rfl ?_
        refine x_goto hE 24 dX7_takeNumber_73 (by decide) ?_
        exact ih _ _ _ _ _ _ _ hf
def fX7_takeNumber (M : Mc) (p0 : Int32) (p1 : Int32) (p2 : Int32) : Option (Int32 × Mc) := bnd (fX11_inside p2 (nI 301)) fun v2 => (if v2 = 0 then (some (p0, M)) else (fX7_takeNumber_L24 FU M p0 p2 p1 0 0))
theorem mX7_takeNumber (l : Launch) {Y : Nat → ClassId} {D : va_G} {σ : Nat → Nat} {np b0 : Nat} {M : Mc} {N : Md} {p0 : Int32} {p1 : Int32} {p2 : Int32} {r : Int32 × Mc} (hf : fX7_takeNumber M p0 p1 p2 = some r) : Met l yX7_takeNumber (.code yX7_takeNumber cX7_takeNumber 8 (some .int) :: lw_g) (rmD 4) (PR Y D σ np b0 [.ref (σ (114)), .ref (σ (123)), .int p0, .int p1, .int p2] M N) (QR Y D σ np b0 (some (.int r.1)) r.2 N) 0 0 (xA b0) := by
  refine x_met (by decide) (Nat.le_of_ble_eq_true rfl) (fun p e s m args below meth c hE hr => ?_)
  unfold fX7_takeNumber at hf
  refine x_pick [0, 1, 2, 3, 4] (L' := [(0, .ref (σ (114))), (1, .ref (σ (123))), (2, .int p0), (3, .int p1), (4, .int p2)]) rfl ?_
  refine x_iload hE 4 dX7_takeNumber_0 rfl ?_
  refine x_aload_n hE 0 dX7_takeNumber_2 rfl rfl ?_
  refine x_getR hE cl_7 (hE.kd kO_7) (by decide) 0 (115) rfl (by decide) lk_X7_11 dX7_takeNumber_3 ?_
  refine x_alen hE (nI 301) (hE.kd kA_115) (Or.inl rfl) rfl dX7_takeNumber_6 ?_
  obtain ⟨v2, hc1, hf⟩ := bnd_some hf
  refine x_callSN1 hE [.int p2, .int (nI 301)] (rest := []) (v := .int v2) (c1 := M) (d1 := N) rfl yokX11_inside ysX11_inside lk_X7_77 rfl rfl ⟨Nat.le_of_ble_eq_true rfl, Nat.le_of_ble_eq_true rfl⟩ ⟨Nat.zero_le _, Nat.zero_le _⟩ rfl (Nat.le_of_ble_eq_true rfl) dX7_takeNumber_7 (mX11_inside l hc1) ?_
  refine x_if_ne hE 15 dX7_takeNumber_10 (by decide) hf (fun hf => ?_) (fun hf => ?_)
  · refine x_iload_n hE 3 dX7_takeNumber_15 rfl rfl ?_
    refine x_istore hE (L' := [(5, .int p1), (0, .ref (σ (114))), (1, .ref (σ (123))), (2, .int p0), (3, .int p1), (4, .int p2)]) dX7_takeNumber_16 (by decide) rfl ?_
    refine x_pick [1, 2, 3, 4, 5, 0] (L' := [(0, .ref (σ (114))), (1, .ref (σ (123))), (2, .int p0), (3, .int p1), (4, .int p2), (5, .int p1)]) rfl ?_
    refine x_iconst hE (0 : Int32) dX7_takeNumber_18 (by decide) ?_
    refine x_istore hE (L' := [(6, .int 0), (0, .ref (σ (114))), (1, .ref (σ (123))), (2, .int p0), (3, .int p1), (4, .int p2), (5, .int p1)]) dX7_takeNumber_19 (by decide) rfl ?_
    refine x_pick [1, 2, 3, 4, 5, 6, 0] (L' := [(0, .ref (σ (114))), (1, .ref (σ (123))), (2, .int p0), (3, .int p1), (4, .int p2), (5, .int p1), (6, .int 0)]) rfl ?_
    refine x_iconst hE (0 : Int32) dX7_takeNumber_21 (by decide) ?_
    refine x_istore hE (L' := [(7, .int 0), (0, .ref (σ (114))), (1, .ref (σ (123))), (2, .int p0), (3, .int p1), (4, .int p2), (5, .int p1), (6, .int 0)]) dX7_takeNumber_22 (by decide) rfl ?_
    refine x_pick [1, 2, 3, 4, 5, 6, 7, 0] (L' := [(0, .ref (σ (114))), (1, .ref (σ (123))), (2, .int p0), (3, .int p1), (4, .int p2), (5, .int p1), (6, .int 0), (7, .int 0)]) rfl ?_
    refine x_pick [0, 1, 2, 4, 5, 6, 7] (L' := [(0, .ref (σ (114))), (1, .ref (σ (123))), (2, .int p0), (4, .int p2), (5, .int p1), (6, .int 0), (7, .int 0)]) rfl ?_
    exact wX7_takeNumber_L24 hE hr  FU _ _ _ _ _ _ _ hf
  · refine x_iload_n hE 2 dX7_takeNumber_13 rfl rfl ?_
    replace hf := Option.some.inj hf
    subst hf
    exact x_ireturn hE (v := p0) hr rfl dX7_takeNumber_14
theorem yokX7_takeNumber : YOK yX7_takeNumber cX7_takeNumber 8 4 (some .int) := ⟨mem_g 1400 (by decide +kernel) (by decide +kernel), mem_g 141 (by decide +kernel) (by decide +kernel), by decide +kernel, by decide +kernel, by decide +kernel⟩
theorem yvX7_takeNumber : YV yX7_takeNumber := ⟨mem_g 1399 (by decide +kernel) (by decide +kernel), mem_g 16 (by decide +kernel) (by decide +kernel)⟩
theorem lk_X7_41 : Cond.fieldLink RX7 41 (TX7 5).1 (TX7 5).2.1 (TX7 5).2.2.1 ∈ lw_g := mem_g 510 (by decide +kernel) (by decide +kernel)
theorem lk_X7_34 : Cond.fieldLink RX7 34 (TX7 3).1 (TX7 3).2.1 (TX7 3).2.2.1 ∈ lw_g := mem_g 508 (by decide +kernel) (by decide +kernel)
theorem lk_X7_15 : Cond.fieldLink RX7 15 (TX7 1).1 (TX7 1).2.1 (TX7 1).2.2.1 ∈ lw_g := mem_g 506 (by decide +kernel) (by decide +kernel)
theorem lk_X7_44 : Cond.fieldLink RX7 44 (TX7 6).1 (TX7 6).2.1 (TX7 6).2.2.1 ∈ lw_g := mem_g 511 (by decide +kernel) (by decide +kernel)
theorem lk_X7_38 : Cond.fieldLink RX7 38 (TX7 4).1 (TX7 4).2.1 (TX7 4).2.2.1 ∈ lw_g := mem_g 509 (by decide +kernel) (by decide +kernel)
theorem dX7_fail_0 : decode cX7_fail 0 = .ok (.aload_n 0, 1) := by decide +kernel
theorem dX7_fail_1 : decode cX7_fail 1 = .ok (.getfield 41, 3) := by decide +kernel
theorem dX7_fail_4 : decode cX7_fail 4 = .ok (.ifCond .eq 4, 3) := by decide +kernel
theorem dX7_fail_7 : decode cX7_fail 7 = .ok (.return_, 1) := by decide +kernel
theorem dX7_fail_8 : decode cX7_fail 8 = .ok (.aload_n 0, 1) := by decide +kernel
theorem dX7_fail_9 : decode cX7_fail 9 = .ok (.iload_n 1, 1) := by decide +kernel
theorem dX7_fail_10 : decode cX7_fail 10 = .ok (.putfield 41, 3) := by decide +kernel
theorem dX7_fail_13 : decode cX7_fail 13 = .ok (.aload_n 0, 1) := by decide +kernel
theorem dX7_fail_14 : decode cX7_fail 14 = .ok (.aload_n 0, 1) := by decide +kernel
theorem dX7_fail_15 : decode cX7_fail 15 = .ok (.getfield 34, 3) := by decide +kernel
theorem dX7_fail_18 : decode cX7_fail 18 = .ok (.aload_n 0, 1) := by decide +kernel
theorem dX7_fail_19 : decode cX7_fail 19 = .ok (.getfield 15, 3) := by decide +kernel
theorem dX7_fail_22 : decode cX7_fail 22 = .ok (.arraylength, 1) := by decide +kernel
theorem dX7_fail_23 : decode cX7_fail 23 = .ok (.invokestatic 77, 3) := by decide +kernel
theorem dX7_fail_26 : decode cX7_fail 26 = .ok (.ifCond .eq 15, 3) := by decide +kernel
theorem dX7_fail_29 : decode cX7_fail 29 = .ok (.aload_n 0, 1) := by decide +kernel
theorem dX7_fail_30 : decode cX7_fail 30 = .ok (.getfield 15, 3) := by decide +kernel
theorem dX7_fail_33 : decode cX7_fail 33 = .ok (.aload_n 0, 1) := by decide +kernel
theorem dX7_fail_34 : decode cX7_fail 34 = .ok (.getfield 34, 3) := by decide +kernel
theorem dX7_fail_37 : decode cX7_fail 37 = .ok (.iaload, 1) := by decide +kernel
theorem dX7_fail_38 : decode cX7_fail 38 = .ok (.goto 4, 3) := by decide +kernel
theorem dX7_fail_41 : decode cX7_fail 41 = .ok (.iconst (-1), 1) := by decide +kernel
theorem dX7_fail_42 : decode cX7_fail 42 = .ok (.putfield 44, 3) := by decide +kernel
theorem dX7_fail_45 : decode cX7_fail 45 = .ok (.aload_n 0, 1) := by decide +kernel
theorem dX7_fail_46 : decode cX7_fail 46 = .ok (.sipush 302, 3) := by decide +kernel
theorem dX7_fail_49 : decode cX7_fail 49 = .ok (.putfield 38, 3) := by decide +kernel
theorem dX7_fail_52 : decode cX7_fail 52 = .ok (.return_, 1) := by decide +kernel
def fX7_fail_J42 (M : Mc) (Z0 : Int32) : Option (Mc) := lt (wr M (114) 6 Z0) fun M4 => lt (wr M4 (114) 4 (nI 302)) fun M5 => (some (M5))
theorem wX7_fail_J42 {p : Program} {l : Launch} {e : Env} {s : State} {m : MethodId} {args : Array Value} {below : List Frame} {meth : Method} {c : Code} {Y : Nat → ClassId} {D : va_G} {σ : Nat → Nat} {np b0 : Nat} {r : Mc} {M : Mc} {N : Md} {Z0 : Int32} (hE : EOK p s m args meth c cX7_fail 2 RX7 Y D σ np b0) (hr : meth.sig.returnType = none) (hf : fX7_fail_J42 M Z0 = some r) : Xw p l e (rmD 2) s m args below meth c 2 Y D σ np b0 0 0 (MQ below (QR Y D σ np b0 none r N) args s 0 0 (xA b0)) 42 [(0, .ref (σ (114)))] [.int Z0, .ref (σ (114))] M N := by
  unfold fX7_fail_J42 at hf
  refine x_putI hE cl_7 (hE.kd kO_7) (by decide) 6 rfl (by decide) lk_X7_44 rfl rfl rfl rfl dX7_fail_42 hf (fun M4 hf => ?_)
  refine x_aload_n hE 0 dX7_fail_45 rfl rfl ?_
  refine x_sipush hE (nI 302) dX7_fail_46 (by decide) ?_
  refine x_putI hE cl_7 (hE.kd kO_7) (by decide) 4 rfl (by decide) lk_X7_38 rfl rfl rfl rfl dX7_fail_49 hf (fun M5 hf => ?_)
  replace hf := Option.some.inj hf
  subst hf
  exact x_vreturn hE hr dX7_fail_52
def fX7_fail (M : Mc) (p0 : Int32) : Option (Mc) := (if (M (114) 5) = 0 then lt (wr M (114) 5 p0) fun M1 => bnd (fX11_inside (M1 (114) 3) (nI 301)) fun v3 => (if v3 = 0 then (fX7_fail_J42 M1 (-1)) else chk (M1 (114) 3) (301) ((fX7_fail_J42 M1 (M1 (116) (M1 (114) 3).toNatClampNeg)))) else (some (M)))
theorem mX7_fail (l : Launch) {Y : Nat → ClassId} {D : va_G} {σ : Nat → Nat} {np b0 : Nat} {M : Mc} {N : Md} {p0 : Int32} {r : Mc} (hf : fX7_fail M p0 = some r) : Met l yX7_fail (.code yX7_fail cX7_fail 2 none :: lw_g) (rmD 2) (PR Y D σ np b0 [.ref (σ (114)), .int p0] M N) (QR Y D σ np b0 none r N) 0 0 (xA b0) := by
  refine x_met (by decide) (Nat.le_of_ble_eq_true rfl) (fun p e s m args below meth c hE hr => ?_)
  unfold fX7_fail at hf
  refine x_pick [0, 1] (L' := [(0, .ref (σ (114))), (1, .int p0)]) rfl ?_
  refine x_aload_n hE 0 dX7_fail_0 rfl rfl ?_
  refine x_getI hE cl_7 (hE.kd kO_7) (by decide) 5 rfl (by decide) lk_X7_41 dX7_fail_1 ?_
  refine x_if_eq hE 8 dX7_fail_4 (by decide) hf (fun hf => ?_) (fun hf => ?_)
  · refine x_aload_n hE 0 dX7_fail_8 rfl rfl ?_
    refine x_iload_n hE 1 dX7_fail_9 rfl rfl ?_
    refine x_putI hE cl_7 (hE.kd kO_7) (by decide) 5 rfl (by decide) lk_X7_41 rfl rfl rfl rfl dX7_fail_10 hf (fun M1 hf => ?_)
    refine x_aload_n hE 0 dX7_fail_13 rfl rfl ?_
    refine x_aload_n hE 0 dX7_fail_14 rfl rfl ?_
    refine x_getI hE cl_7 (hE.kd kO_7) (by decide) 3 rfl (by decide) lk_X7_34 dX7_fail_15 ?_
    refine x_aload_n hE 0 dX7_fail_18 rfl rfl ?_
    refine x_getR hE cl_7 (hE.kd kO_7) (by decide) 1 (116) rfl (by decide) lk_X7_15 dX7_fail_19 ?_
    refine x_alen hE (nI 301) (hE.kd kA_116) (Or.inl rfl) rfl dX7_fail_22 ?_
    obtain ⟨v3, hc2, hf⟩ := bnd_some hf
    refine x_callSN1 hE [.int (M1 (114) 3), .int (nI 301)] (rest := [.ref (σ (114))]) (v := .int v3) (c1 := M1) (d1 := N) rfl yokX11_inside ysX11_inside lk_X7_77 rfl rfl ⟨Nat.le_of_ble_eq_true rfl, Nat.le_of_ble_eq_true rfl⟩ ⟨Nat.zero_le _, Nat.zero_le _⟩ rfl (Nat.le_of_ble_eq_true rfl) dX7_fail_23 (mX11_inside l hc2) ?_
    refine x_if_eq hE 41 dX7_fail_26 (by decide) hf (fun hf => ?_) (fun hf => ?_)
    · refine x_iconst hE (-1) dX7_fail_41 (by decide) ?_
      refine x_pick [0] (L' := [(0, .ref (σ (114)))]) rfl ?_
      exact wX7_fail_J42 hE hr  hf
    · refine x_aload_n hE 0 dX7_fail_29 rfl rfl ?_
      refine x_getR hE cl_7 (hE.kd kO_7) (by decide) 1 (116) rfl (by decide) lk_X7_15 dX7_fail_30 ?_
      refine x_aload_n hE 0 dX7_fail_33 rfl rfl ?_
      refine x_getI hE cl_7 (hE.kd kO_7) (by decide) 3 rfl (by decide) lk_X7_34 dX7_fail_34 ?_
      refine x_iald hE (hE.kd kA_116) dX7_fail_37 hf (fun hf => ?_)
      refine x_goto hE 42 dX7_fail_38 (by decide) ?_
      refine x_pick [0] (L' := [(0, .ref (σ (114)))]) rfl ?_
      exact wX7_fail_J42 hE hr  hf
  · replace hf := Option.some.inj hf
    subst hf
    exact x_vreturn hE hr dX7_fail_7
theorem yokX7_fail : YOK yX7_fail cX7_fail 2 1 none := ⟨mem_g 1410 (by decide +kernel) (by decide +kernel), mem_g 141 (by decide +kernel) (by decide +kernel), by decide +kernel, by decide +kernel, by decide +kernel⟩
theorem yvX7_fail : YV yX7_fail := ⟨mem_g 1409 (by decide +kernel) (by decide +kernel), mem_g 18 (by decide +kernel) (by decide +kernel)⟩
theorem dX7_goOn_0 : decode cX7_goOn 0 = .ok (.aload_n 0, 1) := by decide +kernel
theorem dX7_goOn_1 : decode cX7_goOn 1 = .ok (.getfield 41, 3) := by decide +kernel
theorem dX7_goOn_4 : decode cX7_goOn 4 = .ok (.ifCond .ne 20, 3) := by decide +kernel
theorem dX7_goOn_7 : decode cX7_goOn 7 = .ok (.aload_n 0, 1) := by decide +kernel
theorem dX7_goOn_8 : decode cX7_goOn 8 = .ok (.getfield 34, 3) := by decide +kernel
theorem dX7_goOn_11 : decode cX7_goOn 11 = .ok (.iconst 1, 1) := by decide +kernel
theorem dX7_goOn_12 : decode cX7_goOn 12 = .ok (.iadd, 1) := by decide +kernel
theorem dX7_goOn_13 : decode cX7_goOn 13 = .ok (.aload_n 0, 1) := by decide +kernel
theorem dX7_goOn_14 : decode cX7_goOn 14 = .ok (.getfield 11, 3) := by decide +kernel
theorem dX7_goOn_17 : decode cX7_goOn 17 = .ok (.arraylength, 1) := by decide +kernel
theorem dX7_goOn_18 : decode cX7_goOn 18 = .ok (.invokestatic 77, 3) := by decide +kernel
theorem dX7_goOn_21 : decode cX7_goOn 21 = .ok (.ifCond .ne 4, 3) := by decide +kernel
theorem dX7_goOn_24 : decode cX7_goOn 24 = .ok (.return_, 1) := by decide +kernel
theorem dX7_goOn_25 : decode cX7_goOn 25 = .ok (.aload_n 0, 1) := by decide +kernel
theorem dX7_goOn_26 : decode cX7_goOn 26 = .ok (.dup, 1) := by decide +kernel
theorem dX7_goOn_27 : decode cX7_goOn 27 = .ok (.getfield 34, 3) := by decide +kernel
theorem dX7_goOn_30 : decode cX7_goOn 30 = .ok (.iconst 1, 1) := by decide +kernel
theorem dX7_goOn_31 : decode cX7_goOn 31 = .ok (.iadd, 1) := by decide +kernel
theorem dX7_goOn_32 : decode cX7_goOn 32 = .ok (.putfield 34, 3) := by decide +kernel
theorem dX7_goOn_35 : decode cX7_goOn 35 = .ok (.aload_n 0, 1) := by decide +kernel
theorem dX7_goOn_36 : decode cX7_goOn 36 = .ok (.aload_n 0, 1) := by decide +kernel
theorem dX7_goOn_37 : decode cX7_goOn 37 = .ok (.getfield 11, 3) := by decide +kernel
theorem dX7_goOn_40 : decode cX7_goOn 40 = .ok (.aload_n 0, 1) := by decide +kernel
theorem dX7_goOn_41 : decode cX7_goOn 41 = .ok (.getfield 34, 3) := by decide +kernel
theorem dX7_goOn_44 : decode cX7_goOn 44 = .ok (.iaload, 1) := by decide +kernel
theorem dX7_goOn_45 : decode cX7_goOn 45 = .ok (.putfield 38, 3) := by decide +kernel
theorem dX7_goOn_48 : decode cX7_goOn 48 = .ok (.return_, 1) := by decide +kernel
def fX7_goOn (M : Mc) : Option (Mc) := (if (M (114) 5) = 0 then bnd (fX11_inside ((M (114) 3) + (nI 1)) (nI 301)) fun v2 => (if v2 = 0 then (some (M)) else lt (wr M (114) 3 ((M (114) 3) + (nI 1))) fun M3 => chk (M3 (114) 3) (301) (lt (wr M3 (114) 4 (M3 (115) (M3 (114) 3).toNatClampNeg)) fun M4 => (some (M4)))) else (some (M)))
theorem mX7_goOn (l : Launch) {Y : Nat → ClassId} {D : va_G} {σ : Nat → Nat} {np b0 : Nat} {M : Mc} {N : Md} {r : Mc} (hf : fX7_goOn M = some r) : Met l yX7_goOn (.code yX7_goOn cX7_goOn 1 none :: lw_g) (rmD 2) (PR Y D σ np b0 [.ref (σ (114))] M N) (QR Y D σ np b0 none r N) 0 0 (xA b0) := by
  refine x_met (by decide) (Nat.le_of_ble_eq_true rfl) (fun p e s m args below meth c hE hr => ?_)
  unfold fX7_goOn at hf
  refine x_pick [0] (L' := [(0, .ref (σ (114)))]) rfl ?_
  refine x_aload_n hE 0 dX7_goOn_0 rfl rfl ?_
  refine x_getI hE cl_7 (hE.kd kO_7) (by decide) 5 rfl (by decide) lk_X7_41 dX7_goOn_1 ?_
  refine x_if_ne hE 24 dX7_goOn_4 (by decide) hf (fun hf => ?_) (fun hf => ?_)
  · replace hf := Option.some.inj hf
    subst hf
    exact x_vreturn hE hr dX7_goOn_24
  · refine x_aload_n hE 0 dX7_goOn_7 rfl rfl ?_
    refine x_getI hE cl_7 (hE.kd kO_7) (by decide) 3 rfl (by decide) lk_X7_34 dX7_goOn_8 ?_
    refine x_iconst hE (nI 1) dX7_goOn_11 (by decide) ?_
    refine x_iadd hE dX7_goOn_12 ?_
    refine x_aload_n hE 0 dX7_goOn_13 rfl rfl ?_
    refine x_getR hE cl_7 (hE.kd kO_7) (by decide) 0 (115) rfl (by decide) lk_X7_11 dX7_goOn_14 ?_
    refine x_alen hE (nI 301) (hE.kd kA_115) (Or.inl rfl) rfl dX7_goOn_17 ?_
    obtain ⟨v2, hc1, hf⟩ := bnd_some hf
    refine x_callSN1 hE [.int ((M (114) 3) + (nI 1)), .int (nI 301)] (rest := []) (v := .int v2) (c1 := M) (d1 := N) rfl yokX11_inside ysX11_inside lk_X7_77 rfl rfl ⟨Nat.le_of_ble_eq_true rfl, Nat.le_of_ble_eq_true rfl⟩ ⟨Nat.zero_le _, Nat.zero_le _⟩ rfl (Nat.le_of_ble_eq_true rfl) dX7_goOn_18 (mX11_inside l hc1) ?_
    refine x_if_ne hE 25 dX7_goOn_21 (by decide) hf (fun hf => ?_) (fun hf => ?_)
    · refine x_aload_n hE 0 dX7_goOn_25 rfl rfl ?_
      refine x_dup hE dX7_goOn_26 rfl ?_
      refine x_getI hE cl_7 (hE.kd kO_7) (by decide) 3 rfl (by decide) lk_X7_34 dX7_goOn_27 ?_
      refine x_iconst hE (nI 1) dX7_goOn_30 (by decide) ?_
      refine x_iadd hE dX7_goOn_31 ?_
      refine x_putI hE cl_7 (hE.kd kO_7) (by decide) 3 rfl (by decide) lk_X7_34 rfl rfl rfl rfl dX7_goOn_32 hf (fun M3 hf => ?_)
      refine x_aload_n hE 0 dX7_goOn_35 rfl rfl ?_
      refine x_aload_n hE 0 dX7_goOn_36 rfl rfl ?_
      refine x_getR hE cl_7 (hE.kd kO_7) (by decide) 0 (115) rfl (by decide) lk_X7_11 dX7_goOn_37 ?_
      refine x_aload_n hE 0 dX7_goOn_40 rfl rfl ?_
      refine x_getI hE cl_7 (hE.kd kO_7) (by decide) 3 rfl (by decide) lk_X7_34 dX7_goOn_41 ?_
      refine x_iald hE (hE.kd kA_115) dX7_goOn_44 hf (fun hf => ?_)
      refine x_putI hE cl_7 (hE.kd kO_7) (by decide) 4 rfl (by decide) lk_X7_38 rfl rfl rfl rfl dX7_goOn_45 hf (fun M4 hf => ?_)
      replace hf := Option.some.inj hf
      subst hf
      exact x_vreturn hE hr dX7_goOn_48
    · replace hf := Option.some.inj hf
      subst hf
      exact x_vreturn hE hr dX7_goOn_24
theorem yokX7_goOn : YOK yX7_goOn cX7_goOn 1 0 none := ⟨mem_g 1418 (by decide +kernel) (by decide +kernel), mem_g 141 (by decide +kernel) (by decide +kernel), by decide +kernel, by decide +kernel, by decide +kernel⟩
theorem yvX7_goOn : YV yX7_goOn := ⟨mem_g 1417 (by decide +kernel) (by decide +kernel), mem_g 20 (by decide +kernel) (by decide +kernel)⟩
theorem lk_X7_121 : Cond.methodLink RX7 121 yX7_goOn ∈ lw_g := mem_g 1415 (by decide +kernel) (by decide +kernel)
theorem lk_X7_50 : Cond.fieldLink RX7 50 (TX7 11).1 (TX7 11).2.1 (TX7 11).2.2.1 ∈ lw_g := mem_g 517 (by decide +kernel) (by decide +kernel)
theorem lk_X7_124 : Cond.methodLink RX7 124 yX7_fail ∈ lw_g := mem_g 1407 (by decide +kernel) (by decide +kernel)
theorem dX7_readUndo_0 : decode cX7_readUndo 0 = .ok (.aload_n 0, 1) := by decide +kernel
theorem dX7_readUndo_1 : decode cX7_readUndo 1 = .ok (.invokevirtual 121, 3) := by decide +kernel
theorem dX7_readUndo_4 : decode cX7_readUndo 4 = .ok (.aload_n 0, 1) := by decide +kernel
theorem dX7_readUndo_5 : decode cX7_readUndo 5 = .ok (.aload_n 0, 1) := by decide +kernel
theorem dX7_readUndo_6 : decode cX7_readUndo 6 = .ok (.getfield 38, 3) := by decide +kernel
theorem dX7_readUndo_9 : decode cX7_readUndo 9 = .ok (.sipush 410, 3) := by decide +kernel
theorem dX7_readUndo_12 : decode cX7_readUndo 12 = .ok (.if_icmp .ne 7, 3) := by decide +kernel
theorem dX7_readUndo_15 : decode cX7_readUndo 15 = .ok (.iconst 1, 1) := by decide +kernel
theorem dX7_readUndo_16 : decode cX7_readUndo 16 = .ok (.goto 4, 3) := by decide +kernel
theorem dX7_readUndo_19 : decode cX7_readUndo 19 = .ok (.iconst 0, 1) := by decide +kernel
theorem dX7_readUndo_20 : decode cX7_readUndo 20 = .ok (.putfield 50, 3) := by decide +kernel
theorem dX7_readUndo_23 : decode cX7_readUndo 23 = .ok (.aload_n 0, 1) := by decide +kernel
theorem dX7_readUndo_24 : decode cX7_readUndo 24 = .ok (.getfield 38, 3) := by decide +kernel
theorem dX7_readUndo_27 : decode cX7_readUndo 27 = .ok (.sipush 409, 3) := by decide +kernel
theorem dX7_readUndo_30 : decode cX7_readUndo 30 = .ok (.if_icmp .eq 13, 3) := by decide +kernel
theorem dX7_readUndo_33 : decode cX7_readUndo 33 = .ok (.aload_n 0, 1) := by decide +kernel
theorem dX7_readUndo_34 : decode cX7_readUndo 34 = .ok (.getfield 38, 3) := by decide +kernel
theorem dX7_readUndo_37 : decode cX7_readUndo 37 = .ok (.sipush 410, 3) := by decide +kernel
theorem dX7_readUndo_40 : decode cX7_readUndo 40 = .ok (.if_icmp .ne 10, 3) := by decide +kernel
theorem dX7_readUndo_43 : decode cX7_readUndo 43 = .ok (.aload_n 0, 1) := by decide +kernel
theorem dX7_readUndo_44 : decode cX7_readUndo 44 = .ok (.invokevirtual 121, 3) := by decide +kernel
theorem dX7_readUndo_47 : decode cX7_readUndo 47 = .ok (.goto 8, 3) := by decide +kernel
theorem dX7_readUndo_50 : decode cX7_readUndo 50 = .ok (.aload_n 0, 1) := by decide +kernel
theorem dX7_readUndo_51 : decode cX7_readUndo 51 = .ok (.iconst 1, 1) := by decide +kernel
theorem dX7_readUndo_52 : decode cX7_readUndo 52 = .ok (.invokevirtual 124, 3) := by decide +kernel
theorem dX7_readUndo_55 : decode cX7_readUndo 55 = .ok (.return_, 1) := by decide +kernel
def fX7_readUndo_J43 (M : Mc) : Option (Mc) := bnd (fX7_goOn M) fun M7 => (some (M7))
theorem wX7_readUndo_J43 {p : Program} {l : Launch} {e : Env} {s : State} {m : MethodId} {args : Array Value} {below : List Frame} {meth : Method} {c : Code} {Y : Nat → ClassId} {D : va_G} {σ : Nat → Nat} {np b0 : Nat} {r : Mc} {M : Mc} {N : Md} (hE : EOK p s m args meth c cX7_readUndo 1 RX7 Y D σ np b0) (hr : meth.sig.returnType = none) (hf : fX7_readUndo_J43 M = some r) : Xw p l e (rmD 3) s m args below meth c 1 Y D σ np b0 0 0 (MQ below (QR Y D σ np b0 none r N) args s 0 0 (xA b0)) 43 [(0, .ref (σ (114)))] [] M N := by
  unfold fX7_readUndo_J43 at hf
  refine x_aload_n hE 0 dX7_readUndo_43 rfl rfl ?_
  obtain ⟨M7, hc6, hf⟩ := bnd_some hf
  refine x_callV0 hE [] (rest := []) (c1 := M7) (d1 := N) rfl yokX7_goOn yvX7_goOn lk_X7_121 rfl cl_7 (hE.kd kO_7) (by decide) rfl rfl ⟨Nat.le_of_ble_eq_true rfl, Nat.le_of_ble_eq_true rfl⟩ ⟨Nat.zero_le _, Nat.zero_le _⟩ rfl (Nat.le_of_ble_eq_true rfl) dX7_readUndo_44 (mX7_goOn l hc6) ?_
  refine x_goto hE 55 dX7_readUndo_47 (by decide) ?_
  replace hf := Option.some.inj hf
  subst hf
  exact x_vreturn hE hr dX7_readUndo_55
def fX7_readUndo_J20 (M : Mc) (Z0 : Int32) : Option (Mc) := chp (isZ Z0) (lt (wr M (114) 11 Z0) fun M3 => (if (M3 (114) 4) = (nI 409) then (fX7_readUndo_J43 M3) else (if (M3 (114) 4) = (nI 410) then (fX7_readUndo_J43 M3) else bnd (fX7_fail M3 (nI 1)) fun M5 => (some (M5)))))
theorem wX7_readUndo_J20 {p : Program} {l : Launch} {e : Env} {s : State} {m : MethodId} {args : Array Value} {below : List Frame} {meth : Method} {c : Code} {Y : Nat → ClassId} {D : va_G} {σ : Nat → Nat} {np b0 : Nat} {r : Mc} {M : Mc} {N : Md} {Z0 : Int32} (hE : EOK p s m args meth c cX7_readUndo 1 RX7 Y D σ np b0) (hr : meth.sig.returnType = none) (hf : fX7_readUndo_J20 M Z0 = some r) : Xw p l e (rmD 3) s m args below meth c 1 Y D σ np b0 0 0 (MQ below (QR Y D σ np b0 none r N) args s 0 0 (xA b0)) 20 [(0, .ref (σ (114)))] [.int Z0, .ref (σ (114))] M N := by
  unfold fX7_readUndo_J20 at hf
  have hz := (chp_some hf).1
  replace hf := (chp_some hf).2
  refine x_putI hE cl_7 (hE.kd kO_7) (by decide) 11 rfl (by decide) lk_X7_50 rfl rfl (nar_Z hz) (fit_Z hz) dX7_readUndo_20 hf (fun M3 hf => ?_)
  refine x_aload_n hE 0 dX7_readUndo_23 rfl rfl ?_
  refine x_getI hE cl_7 (hE.kd kO_7) (by decide) 4 rfl (by decide) lk_X7_38 dX7_readUndo_24 ?_
  refine x_sipush hE (nI 409) dX7_readUndo_27 (by decide) ?_
  refine x_icmp_eq hE 43 dX7_readUndo_30 (by decide) hf (fun hf => ?_) (fun hf => ?_)
  · exact wX7_readUndo_J43 hE hr  hf
  · refine x_aload_n hE 0 dX7_readUndo_33 rfl rfl ?_
    refine x_getI hE cl_7 (hE.kd kO_7) (by decide) 4 rfl (by decide) lk_X7_38 dX7_readUndo_34 ?_
    refine x_sipush hE (nI 410) dX7_readUndo_37 (by decide) ?_
    refine x_icmp_ne hE 50 dX7_readUndo_40 (by decide) hf (fun hf => ?_) (fun hf => ?_)
    · refine x_aload_n hE 0 dX7_readUndo_50 rfl rfl ?_
      refine x_iconst hE (nI 1) dX7_readUndo_51 (by decide) ?_
      obtain ⟨M5, hc4, hf⟩ := bnd_some hf
      refine x_callV0 hE [.int (nI 1)] (rest := []) (c1 := M5) (d1 := N) rfl yokX7_fail yvX7_fail lk_X7_124 rfl cl_7 (hE.kd kO_7) (by decide) rfl rfl ⟨Nat.le_of_ble_eq_true rfl, Nat.le_of_ble_eq_true rfl⟩ ⟨Nat.zero_le _, Nat.zero_le _⟩ rfl (Nat.le_of_ble_eq_true rfl) dX7_readUndo_52 (mX7_fail l hc4) ?_
      replace hf := Option.some.inj hf
      subst hf
      exact x_vreturn hE hr dX7_readUndo_55
    · exact wX7_readUndo_J43 hE hr  hf
def fX7_readUndo (M : Mc) : Option (Mc) := bnd (fX7_goOn M) fun M2 => (if (M2 (114) 4) = (nI 410) then (fX7_readUndo_J20 M2 (nI 1)) else (fX7_readUndo_J20 M2 0))
theorem mX7_readUndo (l : Launch) {Y : Nat → ClassId} {D : va_G} {σ : Nat → Nat} {np b0 : Nat} {M : Mc} {N : Md} {r : Mc} (hf : fX7_readUndo M = some r) : Met l yX7_readUndo (.code yX7_readUndo cX7_readUndo 1 none :: lw_g) (rmD 3) (PR Y D σ np b0 [.ref (σ (114))] M N) (QR Y D σ np b0 none r N) 0 0 (xA b0) := by
  refine x_met (by decide) (Nat.le_of_ble_eq_true rfl) (fun p e s m args below meth c hE hr => ?_)
  unfold fX7_readUndo at hf
  refine x_pick [0] (L' := [(0, .ref (σ (114)))]) rfl ?_
  refine x_aload_n hE 0 dX7_readUndo_0 rfl rfl ?_
  obtain ⟨M2, hc1, hf⟩ := bnd_some hf
  refine x_callV0 hE [] (rest := []) (c1 := M2) (d1 := N) rfl yokX7_goOn yvX7_goOn lk_X7_121 rfl cl_7 (hE.kd kO_7) (by decide) rfl rfl ⟨Nat.le_of_ble_eq_true rfl, Nat.le_of_ble_eq_true rfl⟩ ⟨Nat.zero_le _, Nat.zero_le _⟩ rfl (Nat.le_of_ble_eq_true rfl) dX7_readUndo_1 (mX7_goOn l hc1) ?_
  refine x_aload_n hE 0 dX7_readUndo_4 rfl rfl ?_
  refine x_aload_n hE 0 dX7_readUndo_5 rfl rfl ?_
  refine x_getI hE cl_7 (hE.kd kO_7) (by decide) 4 rfl (by decide) lk_X7_38 dX7_readUndo_6 ?_
  refine x_sipush hE (nI 410) dX7_readUndo_9 (by decide) ?_
  refine x_icmp_ne hE 19 dX7_readUndo_12 (by decide) hf (fun hf => ?_) (fun hf => ?_)
  · refine x_iconst hE (0 : Int32) dX7_readUndo_19 (by decide) ?_
    exact wX7_readUndo_J20 hE hr  hf
  · refine x_iconst hE (nI 1) dX7_readUndo_15 (by decide) ?_
    refine x_goto hE 20 dX7_readUndo_16 (by decide) ?_
    exact wX7_readUndo_J20 hE hr  hf
theorem yokX7_readUndo : YOK yX7_readUndo cX7_readUndo 1 0 none := ⟨mem_g 1414 (by decide +kernel) (by decide +kernel), mem_g 141 (by decide +kernel) (by decide +kernel), by decide +kernel, by decide +kernel, by decide +kernel⟩
theorem yvX7_readUndo : YV yX7_readUndo := ⟨mem_g 1413 (by decide +kernel) (by decide +kernel), mem_g 19 (by decide +kernel) (by decide +kernel)⟩
theorem dX7_expect_0 : decode cX7_expect 0 = .ok (.aload_n 0, 1) := by decide +kernel
theorem dX7_expect_1 : decode cX7_expect 1 = .ok (.getfield 38, 3) := by decide +kernel
theorem dX7_expect_4 : decode cX7_expect 4 = .ok (.iload_n 1, 1) := by decide +kernel
theorem dX7_expect_5 : decode cX7_expect 5 = .ok (.if_icmp .ne 10, 3) := by decide +kernel
theorem dX7_expect_8 : decode cX7_expect 8 = .ok (.aload_n 0, 1) := by decide +kernel
theorem dX7_expect_9 : decode cX7_expect 9 = .ok (.invokevirtual 121, 3) := by decide +kernel
theorem dX7_expect_12 : decode cX7_expect 12 = .ok (.goto 8, 3) := by decide +kernel
theorem dX7_expect_15 : decode cX7_expect 15 = .ok (.aload_n 0, 1) := by decide +kernel
theorem dX7_expect_16 : decode cX7_expect 16 = .ok (.iconst 1, 1) := by decide +kernel
theorem dX7_expect_17 : decode cX7_expect 17 = .ok (.invokevirtual 124, 3) := by decide +kernel
theorem dX7_expect_20 : decode cX7_expect 20 = .ok (.return_, 1) := by decide +kernel
def fX7_expect (M : Mc) (p0 : Int32) : Option (Mc) := (if (M (114) 4) = p0 then bnd (fX7_goOn M) fun M4 => (some (M4)) else bnd (fX7_fail M (nI 1)) fun M2 => (some (M2)))
theorem mX7_expect (l : Launch) {Y : Nat → ClassId} {D : va_G} {σ : Nat → Nat} {np b0 : Nat} {M : Mc} {N : Md} {p0 : Int32} {r : Mc} (hf : fX7_expect M p0 = some r) : Met l yX7_expect (.code yX7_expect cX7_expect 2 none :: lw_g) (rmD 3) (PR Y D σ np b0 [.ref (σ (114)), .int p0] M N) (QR Y D σ np b0 none r N) 0 0 (xA b0) := by
  refine x_met (by decide) (Nat.le_of_ble_eq_true rfl) (fun p e s m args below meth c hE hr => ?_)
  unfold fX7_expect at hf
  refine x_pick [0, 1] (L' := [(0, .ref (σ (114))), (1, .int p0)]) rfl ?_
  refine x_aload_n hE 0 dX7_expect_0 rfl rfl ?_
  refine x_getI hE cl_7 (hE.kd kO_7) (by decide) 4 rfl (by decide) lk_X7_38 dX7_expect_1 ?_
  refine x_iload_n hE 1 dX7_expect_4 rfl rfl ?_
  refine x_icmp_ne hE 15 dX7_expect_5 (by decide) hf (fun hf => ?_) (fun hf => ?_)
  · refine x_aload_n hE 0 dX7_expect_15 rfl rfl ?_
    refine x_iconst hE (nI 1) dX7_expect_16 (by decide) ?_
    obtain ⟨M2, hc1, hf⟩ := bnd_some hf
    refine x_callV0 hE [.int (nI 1)] (rest := []) (c1 := M2) (d1 := N) rfl yokX7_fail yvX7_fail lk_X7_124 rfl cl_7 (hE.kd kO_7) (by decide) rfl rfl ⟨Nat.le_of_ble_eq_true rfl, Nat.le_of_ble_eq_true rfl⟩ ⟨Nat.zero_le _, Nat.zero_le _⟩ rfl (Nat.le_of_ble_eq_true rfl) dX7_expect_17 (mX7_fail l hc1) ?_
    replace hf := Option.some.inj hf
    subst hf
    exact x_vreturn hE hr dX7_expect_20
  · refine x_aload_n hE 0 dX7_expect_8 rfl rfl ?_
    obtain ⟨M4, hc3, hf⟩ := bnd_some hf
    refine x_callV0 hE [] (rest := []) (c1 := M4) (d1 := N) rfl yokX7_goOn yvX7_goOn lk_X7_121 rfl cl_7 (hE.kd kO_7) (by decide) rfl rfl ⟨Nat.le_of_ble_eq_true rfl, Nat.le_of_ble_eq_true rfl⟩ ⟨Nat.zero_le _, Nat.zero_le _⟩ rfl (Nat.le_of_ble_eq_true rfl) dX7_expect_9 (mX7_goOn l hc3) ?_
    refine x_goto hE 20 dX7_expect_12 (by decide) ?_
    replace hf := Option.some.inj hf
    subst hf
    exact x_vreturn hE hr dX7_expect_20
theorem yokX7_expect : YOK yX7_expect cX7_expect 2 1 none := ⟨mem_g 1426 (by decide +kernel) (by decide +kernel), mem_g 141 (by decide +kernel) (by decide +kernel), by decide +kernel, by decide +kernel, by decide +kernel⟩
theorem yvX7_expect : YV yX7_expect := ⟨mem_g 1425 (by decide +kernel) (by decide +kernel), mem_g 22 (by decide +kernel) (by decide +kernel)⟩
theorem lk_X7_47 : Cond.fieldLink RX7 47 (TX7 8).1 (TX7 8).2.1 (TX7 8).2.2.1 ∈ lw_g := mem_g 514 (by decide +kernel) (by decide +kernel)
theorem lk_X7_21 : Cond.fieldLink RX7 21 (TX7 7).1 (TX7 7).2.1 (TX7 7).2.2.1 ∈ lw_g := mem_g 513 (by decide +kernel) (by decide +kernel)
theorem dX7_put_0 : decode cX7_put 0 = .ok (.aload_n 0, 1) := by decide +kernel
theorem dX7_put_1 : decode cX7_put 1 = .ok (.getfield 41, 3) := by decide +kernel
theorem dX7_put_4 : decode cX7_put 4 = .ok (.ifCond .ne 18, 3) := by decide +kernel
theorem dX7_put_7 : decode cX7_put 7 = .ok (.aload_n 0, 1) := by decide +kernel
theorem dX7_put_8 : decode cX7_put 8 = .ok (.getfield 47, 3) := by decide +kernel
theorem dX7_put_11 : decode cX7_put 11 = .ok (.aload_n 0, 1) := by decide +kernel
theorem dX7_put_12 : decode cX7_put 12 = .ok (.getfield 21, 3) := by decide +kernel
theorem dX7_put_15 : decode cX7_put 15 = .ok (.arraylength, 1) := by decide +kernel
theorem dX7_put_16 : decode cX7_put 16 = .ok (.invokestatic 77, 3) := by decide +kernel
theorem dX7_put_19 : decode cX7_put 19 = .ok (.ifCond .ne 4, 3) := by decide +kernel
theorem dX7_put_22 : decode cX7_put 22 = .ok (.return_, 1) := by decide +kernel
theorem dX7_put_23 : decode cX7_put 23 = .ok (.aload_n 0, 1) := by decide +kernel
theorem dX7_put_24 : decode cX7_put 24 = .ok (.getfield 21, 3) := by decide +kernel
theorem dX7_put_27 : decode cX7_put 27 = .ok (.aload_n 0, 1) := by decide +kernel
theorem dX7_put_28 : decode cX7_put 28 = .ok (.getfield 47, 3) := by decide +kernel
theorem dX7_put_31 : decode cX7_put 31 = .ok (.iload_n 1, 1) := by decide +kernel
theorem dX7_put_32 : decode cX7_put 32 = .ok (.iastore, 1) := by decide +kernel
theorem dX7_put_33 : decode cX7_put 33 = .ok (.aload_n 0, 1) := by decide +kernel
theorem dX7_put_34 : decode cX7_put 34 = .ok (.dup, 1) := by decide +kernel
theorem dX7_put_35 : decode cX7_put 35 = .ok (.getfield 47, 3) := by decide +kernel
theorem dX7_put_38 : decode cX7_put 38 = .ok (.iconst 1, 1) := by decide +kernel
theorem dX7_put_39 : decode cX7_put 39 = .ok (.iadd, 1) := by decide +kernel
theorem dX7_put_40 : decode cX7_put 40 = .ok (.putfield 47, 3) := by decide +kernel
theorem dX7_put_43 : decode cX7_put 43 = .ok (.return_, 1) := by decide +kernel
def fX7_put (M : Mc) (p0 : Int32) : Option (Mc) := (if (M (114) 5) = 0 then bnd (fX11_inside (M (114) 8) (nI 300)) fun v2 => (if v2 = 0 then (some (M)) else chk (M (114) 8) 300 (lt (wr M (118) (M (114) 8).toNatClampNeg p0) fun M3 => lt (wr M3 (114) 8 ((M3 (114) 8) + (nI 1))) fun M4 => (some (M4)))) else (some (M)))
theorem mX7_put (l : Launch) {Y : Nat → ClassId} {D : va_G} {σ : Nat → Nat} {np b0 : Nat} {M : Mc} {N : Md} {p0 : Int32} {r : Mc} (hf : fX7_put M p0 = some r) : Met l yX7_put (.code yX7_put cX7_put 2 none :: lw_g) (rmD 2) (PR Y D σ np b0 [.ref (σ (114)), .int p0] M N) (QR Y D σ np b0 none r N) 0 0 (xA b0) := by
  refine x_met (by decide) (Nat.le_of_ble_eq_true rfl) (fun p e s m args below meth c hE hr => ?_)
  unfold fX7_put at hf
  refine x_pick [0, 1] (L' := [(0, .ref (σ (114))), (1, .int p0)]) rfl ?_
  refine x_aload_n hE 0 dX7_put_0 rfl rfl ?_
  refine x_getI hE cl_7 (hE.kd kO_7) (by decide) 5 rfl (by decide) lk_X7_41 dX7_put_1 ?_
  refine x_if_ne hE 22 dX7_put_4 (by decide) hf (fun hf => ?_) (fun hf => ?_)
  · replace hf := Option.some.inj hf
    subst hf
    exact x_vreturn hE hr dX7_put_22
  · refine x_aload_n hE 0 dX7_put_7 rfl rfl ?_
    refine x_getI hE cl_7 (hE.kd kO_7) (by decide) 8 rfl (by decide) lk_X7_47 dX7_put_8 ?_
    refine x_aload_n hE 0 dX7_put_11 rfl rfl ?_
    refine x_getR hE cl_7 (hE.kd kO_7) (by decide) 7 (118) rfl (by decide) lk_X7_21 dX7_put_12 ?_
    refine x_alen hE (nI 300) (hE.kd kA_118) (Or.inl rfl) rfl dX7_put_15 ?_
    obtain ⟨v2, hc1, hf⟩ := bnd_some hf
    refine x_callSN1 hE [.int (M (114) 8), .int (nI 300)] (rest := []) (v := .int v2) (c1 := M) (d1 := N) rfl yokX11_inside ysX11_inside lk_X7_77 rfl rfl ⟨Nat.le_of_ble_eq_true rfl, Nat.le_of_ble_eq_true rfl⟩ ⟨Nat.zero_le _, Nat.zero_le _⟩ rfl (Nat.le_of_ble_eq_true rfl) dX7_put_16 (mX11_inside l hc1) ?_
    refine x_if_ne hE 23 dX7_put_19 (by decide) hf (fun hf => ?_) (fun hf => ?_)
    · refine x_aload_n hE 0 dX7_put_23 rfl rfl ?_
      refine x_getR hE cl_7 (hE.kd kO_7) (by decide) 7 (118) rfl (by decide) lk_X7_21 dX7_put_24 ?_
      refine x_aload_n hE 0 dX7_put_27 rfl rfl ?_
      refine x_getI hE cl_7 (hE.kd kO_7) (by decide) 8 rfl (by decide) lk_X7_47 dX7_put_28 ?_
      refine x_iload_n hE 1 dX7_put_31 rfl rfl ?_
      refine x_iast hE (hE.kd kA_118) dX7_put_32 hf (fun M3 hf => ?_)
      refine x_aload_n hE 0 dX7_put_33 rfl rfl ?_
      refine x_dup hE dX7_put_34 rfl ?_
      refine x_getI hE cl_7 (hE.kd kO_7) (by decide) 8 rfl (by decide) lk_X7_47 dX7_put_35 ?_
      refine x_iconst hE (nI 1) dX7_put_38 (by decide) ?_
      refine x_iadd hE dX7_put_39 ?_
      refine x_putI hE cl_7 (hE.kd kO_7) (by decide) 8 rfl (by decide) lk_X7_47 rfl rfl rfl rfl dX7_put_40 hf (fun M4 hf => ?_)
      replace hf := Option.some.inj hf
      subst hf
      exact x_vreturn hE hr dX7_put_43
    · replace hf := Option.some.inj hf
      subst hf
      exact x_vreturn hE hr dX7_put_22
theorem yokX7_put : YOK yX7_put cX7_put 2 1 none := ⟨mem_g 1446 (by decide +kernel) (by decide +kernel), mem_g 141 (by decide +kernel) (by decide +kernel), by decide +kernel, by decide +kernel, by decide +kernel⟩
theorem yvX7_put : YV yX7_put := ⟨mem_g 1445 (by decide +kernel) (by decide +kernel), mem_g 27 (by decide +kernel) (by decide +kernel)⟩
theorem lk_X7_142 : Cond.methodLink RX7 142 yX7_put ∈ lw_g := mem_g 1443 (by decide +kernel) (by decide +kernel)
theorem dX7_readNumber_0 : decode cX7_readNumber 0 = .ok (.aload_n 0, 1) := by decide +kernel
theorem dX7_readNumber_1 : decode cX7_readNumber 1 = .ok (.getfield 34, 3) := by decide +kernel
theorem dX7_readNumber_4 : decode cX7_readNumber 4 = .ok (.aload_n 0, 1) := by decide +kernel
theorem dX7_readNumber_5 : decode cX7_readNumber 5 = .ok (.getfield 18, 3) := by decide +kernel
theorem dX7_readNumber_8 : decode cX7_readNumber 8 = .ok (.arraylength, 1) := by decide +kernel
theorem dX7_readNumber_9 : decode cX7_readNumber 9 = .ok (.invokestatic 77, 3) := by decide +kernel
theorem dX7_readNumber_12 : decode cX7_readNumber 12 = .ok (.ifCond .eq 15, 3) := by decide +kernel
theorem dX7_readNumber_15 : decode cX7_readNumber 15 = .ok (.aload_n 0, 1) := by decide +kernel
theorem dX7_readNumber_16 : decode cX7_readNumber 16 = .ok (.getfield 18, 3) := by decide +kernel
theorem dX7_readNumber_19 : decode cX7_readNumber 19 = .ok (.aload_n 0, 1) := by decide +kernel
theorem dX7_readNumber_20 : decode cX7_readNumber 20 = .ok (.getfield 34, 3) := by decide +kernel
theorem dX7_readNumber_23 : decode cX7_readNumber 23 = .ok (.iaload, 1) := by decide +kernel
theorem dX7_readNumber_24 : decode cX7_readNumber 24 = .ok (.goto 4, 3) := by decide +kernel
theorem dX7_readNumber_27 : decode cX7_readNumber 27 = .ok (.iconst 0, 1) := by decide +kernel
theorem dX7_readNumber_28 : decode cX7_readNumber 28 = .ok (.istore_n 1, 1) := by decide +kernel
theorem dX7_readNumber_29 : decode cX7_readNumber 29 = .ok (.iload_n 1, 1) := by decide +kernel
theorem dX7_readNumber_30 : decode cX7_readNumber 30 = .ok (.sipush 9999, 3) := by decide +kernel
theorem dX7_readNumber_33 : decode cX7_readNumber 33 = .ok (.if_icmp .le 8, 3) := by decide +kernel
theorem dX7_readNumber_36 : decode cX7_readNumber 36 = .ok (.aload_n 0, 1) := by decide +kernel
theorem dX7_readNumber_37 : decode cX7_readNumber 37 = .ok (.iconst 2, 1) := by decide +kernel
theorem dX7_readNumber_38 : decode cX7_readNumber 38 = .ok (.invokevirtual 124, 3) := by decide +kernel
theorem dX7_readNumber_41 : decode cX7_readNumber 41 = .ok (.aload_n 0, 1) := by decide +kernel
theorem dX7_readNumber_42 : decode cX7_readNumber 42 = .ok (.iload_n 1, 1) := by decide +kernel
theorem dX7_readNumber_43 : decode cX7_readNumber 43 = .ok (.invokevirtual 142, 3) := by decide +kernel
theorem dX7_readNumber_46 : decode cX7_readNumber 46 = .ok (.aload_n 0, 1) := by decide +kernel
theorem dX7_readNumber_47 : decode cX7_readNumber 47 = .ok (.invokevirtual 121, 3) := by decide +kernel
theorem dX7_readNumber_50 : decode cX7_readNumber 50 = .ok (.return_, 1) := by decide +kernel
def fX7_readNumber_J41 (M : Mc) (X1 : Int32) : Option (Mc) := bnd (fX7_put M X1) fun M6 => bnd (fX7_goOn M6) fun M8 => (some (M8))
theorem wX7_readNumber_J41 {p : Program} {l : Launch} {e : Env} {s : State} {m : MethodId} {args : Array Value} {below : List Frame} {meth : Method} {c : Code} {Y : Nat → ClassId} {D : va_G} {σ : Nat → Nat} {np b0 : Nat} {r : Mc} {M : Mc} {N : Md} {X1 : Int32} (hE : EOK p s m args meth c cX7_readNumber 2 RX7 Y D σ np b0) (hr : meth.sig.returnType = none) (hf : fX7_readNumber_J41 M X1 = some r) : Xw p l e (rmD 3) s m args below meth c 2 Y D σ np b0 0 0 (MQ below (QR Y D σ np b0 none r N) args s 0 0 (xA b0)) 41 [(0, .ref (σ (114))), (1, .int X1)] [] M N := by
  unfold fX7_readNumber_J41 at hf
  refine x_aload_n hE 0 dX7_readNumber_41 rfl rfl ?_
  refine x_iload_n hE 1 dX7_readNumber_42 rfl rfl ?_
  obtain ⟨M6, hc5, hf⟩ := bnd_some hf
  refine x_callV0 hE [.int X1] (rest := []) (c1 := M6) (d1 := N) rfl yokX7_put yvX7_put lk_X7_142 rfl cl_7 (hE.kd kO_7) (by decide) rfl rfl ⟨Nat.le_of_ble_eq_true rfl, Nat.le_of_ble_eq_true rfl⟩ ⟨Nat.zero_le _, Nat.zero_le _⟩ rfl (Nat.le_of_ble_eq_true rfl) dX7_readNumber_43 (mX7_put l hc5) ?_
  refine x_aload_n hE 0 dX7_readNumber_46 rfl rfl ?_
  obtain ⟨M8, hc7, hf⟩ := bnd_some hf
  refine x_callV0 hE [] (rest := []) (c1 := M8) (d1 := N) rfl yokX7_goOn yvX7_goOn lk_X7_121 rfl cl_7 (hE.kd kO_7) (by decide) rfl rfl ⟨Nat.le_of_ble_eq_true rfl, Nat.le_of_ble_eq_true rfl⟩ ⟨Nat.zero_le _, Nat.zero_le _⟩ rfl (Nat.le_of_ble_eq_true rfl) dX7_readNumber_47 (mX7_goOn l hc7) ?_
  replace hf := Option.some.inj hf
  subst hf
  exact x_vreturn hE hr dX7_readNumber_50
def fX7_readNumber_J28 (M : Mc) (Z0 : Int32) : Option (Mc) := (if Z0 ≤ (nI 9999) then (fX7_readNumber_J41 M Z0) else bnd (fX7_fail M (nI 2)) fun M4 => (fX7_readNumber_J41 M4 Z0))
theorem wX7_readNumber_J28 {p : Program} {l : Launch} {e : Env} {s : State} {m : MethodId} {args : Array Value} {below : List Frame} {meth : Method} {c : Code} {Y : Nat → ClassId} {D : va_G} {σ : Nat → Nat} {np b0 : Nat} {r : Mc} {M : Mc} {N : Md} {Z0 : Int32} (hE : EOK p s m args meth c cX7_readNumber 2 RX7 Y D σ np b0) (hr : meth.sig.returnType = none) (hf : fX7_readNumber_J28 M Z0 = some r) : Xw p l e (rmD 3) s m args below meth c 2 Y D σ np b0 0 0 (MQ below (QR Y D σ np b0 none r N) args s 0 0 (xA b0)) 28 [(0, .ref (σ (114)))] [.int Z0] M N := by
  unfold fX7_readNumber_J28 at hf
  refine x_istore_n hE (L' := [(1, .int Z0), (0, .ref (σ (114)))]) dX7_readNumber_28 rfl (by decide) rfl ?_
  refine x_pick [1, 0] (L' := [(0, .ref (σ (114))), (1, .int Z0)]) rfl ?_
  refine x_iload_n hE 1 dX7_readNumber_29 rfl rfl ?_
  refine x_sipush hE (nI 9999) dX7_readNumber_30 (by decide) ?_
  refine x_icmp_le hE 41 dX7_readNumber_33 (by decide) hf (fun hf => ?_) (fun hf => ?_)
  · exact wX7_readNumber_J41 hE hr  hf
  · refine x_aload_n hE 0 dX7_readNumber_36 rfl rfl ?_
    refine x_iconst hE (nI 2) dX7_readNumber_37 (by decide) ?_
    obtain ⟨M4, hc3, hf⟩ := bnd_some hf
    refine x_callV0 hE [.int (nI 2)] (rest := []) (c1 := M4) (d1 := N) rfl yokX7_fail yvX7_fail lk_X7_124 rfl cl_7 (hE.kd kO_7) (by decide) rfl rfl ⟨Nat.le_of_ble_eq_true rfl, Nat.le_of_ble_eq_true rfl⟩ ⟨Nat.zero_le _, Nat.zero_le _⟩ rfl (Nat.le_of_ble_eq_true rfl) dX7_readNumber_38 (mX7_fail l hc3) ?_
    exact wX7_readNumber_J41 hE hr  hf
def fX7_readNumber (M : Mc) : Option (Mc) := bnd (fX11_inside (M (114) 3) (nI 301)) fun v2 => (if v2 = 0 then (fX7_readNumber_J28 M 0) else chk (M (114) 3) (301) ((fX7_readNumber_J28 M (M (117) (M (114) 3).toNatClampNeg))))
theorem mX7_readNumber (l : Launch) {Y : Nat → ClassId} {D : va_G} {σ : Nat → Nat} {np b0 : Nat} {M : Mc} {N : Md} {r : Mc} (hf : fX7_readNumber M = some r) : Met l yX7_readNumber (.code yX7_readNumber cX7_readNumber 2 none :: lw_g) (rmD 3) (PR Y D σ np b0 [.ref (σ (114))] M N) (QR Y D σ np b0 none r N) 0 0 (xA b0) := by
  refine x_met (by decide) (Nat.le_of_ble_eq_true rfl) (fun p e s m args below meth c hE hr => ?_)
  unfold fX7_readNumber at hf
  refine x_pick [0] (L' := [(0, .ref (σ (114)))]) rfl ?_
  refine x_aload_n hE 0 dX7_readNumber_0 rfl rfl ?_
  refine x_getI hE cl_7 (hE.kd kO_7) (by decide) 3 rfl (by decide) lk_X7_34 dX7_readNumber_1 ?_
  refine x_aload_n hE 0 dX7_readNumber_4 rfl rfl ?_
  refine x_getR hE cl_7 (hE.kd kO_7) (by decide) 2 (117) rfl (by decide) lk_X7_18 dX7_readNumber_5 ?_
  refine x_alen hE (nI 301) (hE.kd kA_117) (Or.inl rfl) rfl dX7_readNumber_8 ?_
  obtain ⟨v2, hc1, hf⟩ := bnd_some hf
  refine x_callSN1 hE [.int (M (114) 3), .int (nI 301)] (rest := []) (v := .int v2) (c1 := M) (d1 := N) rfl yokX11_inside ysX11_inside lk_X7_77 rfl rfl ⟨Nat.le_of_ble_eq_true rfl, Nat.le_of_ble_eq_true rfl⟩ ⟨Nat.zero_le _, Nat.zero_le _⟩ rfl (Nat.le_of_ble_eq_true rfl) dX7_readNumber_9 (mX11_inside l hc1) ?_
  refine x_if_eq hE 27 dX7_readNumber_12 (by decide) hf (fun hf => ?_) (fun hf => ?_)
  · refine x_iconst hE (0 : Int32) dX7_readNumber_27 (by decide) ?_
    exact wX7_readNumber_J28 hE hr  hf
  · refine x_aload_n hE 0 dX7_readNumber_15 rfl rfl ?_
    refine x_getR hE cl_7 (hE.kd kO_7) (by decide) 2 (117) rfl (by decide) lk_X7_18 dX7_readNumber_16 ?_
    refine x_aload_n hE 0 dX7_readNumber_19 rfl rfl ?_
    refine x_getI hE cl_7 (hE.kd kO_7) (by decide) 3 rfl (by decide) lk_X7_34 dX7_readNumber_20 ?_
    refine x_iald hE (hE.kd kA_117) dX7_readNumber_23 hf (fun hf => ?_)
    refine x_goto hE 28 dX7_readNumber_24 (by decide) ?_
    exact wX7_readNumber_J28 hE hr  hf
theorem yokX7_readNumber : YOK yX7_readNumber cX7_readNumber 2 0 none := ⟨mem_g 1442 (by decide +kernel) (by decide +kernel), mem_g 141 (by decide +kernel) (by decide +kernel), by decide +kernel, by decide +kernel, by decide +kernel⟩
theorem yvX7_readNumber : YV yX7_readNumber := ⟨mem_g 1441 (by decide +kernel) (by decide +kernel), mem_g 26 (by decide +kernel) (by decide +kernel)⟩
theorem dX7_openWith_0 : decode cX7_openWith 0 = .ok (.aload_n 0, 1) := by decide +kernel
theorem dX7_openWith_1 : decode cX7_openWith 1 = .ok (.getfield 38, 3) := by decide +kernel
theorem dX7_openWith_4 : decode cX7_openWith 4 = .ok (.iload_n 1, 1) := by decide +kernel
theorem dX7_openWith_5 : decode cX7_openWith 5 = .ok (.if_icmp .eq 11, 3) := by decide +kernel
theorem dX7_openWith_8 : decode cX7_openWith 8 = .ok (.aload_n 0, 1) := by decide +kernel
theorem dX7_openWith_9 : decode cX7_openWith 9 = .ok (.iconst 1, 1) := by decide +kernel
theorem dX7_openWith_10 : decode cX7_openWith 10 = .ok (.invokevirtual 124, 3) := by decide +kernel
theorem dX7_openWith_13 : decode cX7_openWith 13 = .ok (.goto 21, 3) := by decide +kernel
theorem dX7_openWith_16 : decode cX7_openWith 16 = .ok (.iload_n 2, 1) := by decide +kernel
theorem dX7_openWith_17 : decode cX7_openWith 17 = .ok (.bipush 8, 2) := by decide +kernel
theorem dX7_openWith_19 : decode cX7_openWith 19 = .ok (.if_icmp .lt 11, 3) := by decide +kernel
theorem dX7_openWith_22 : decode cX7_openWith 22 = .ok (.aload_n 0, 1) := by decide +kernel
theorem dX7_openWith_23 : decode cX7_openWith 23 = .ok (.iconst 3, 1) := by decide +kernel
theorem dX7_openWith_24 : decode cX7_openWith 24 = .ok (.invokevirtual 124, 3) := by decide +kernel
theorem dX7_openWith_27 : decode cX7_openWith 27 = .ok (.goto 7, 3) := by decide +kernel
theorem dX7_openWith_30 : decode cX7_openWith 30 = .ok (.aload_n 0, 1) := by decide +kernel
theorem dX7_openWith_31 : decode cX7_openWith 31 = .ok (.invokevirtual 121, 3) := by decide +kernel
theorem dX7_openWith_34 : decode cX7_openWith 34 = .ok (.return_, 1) := by decide +kernel
def fX7_openWith (M : Mc) (p0 : Int32) (p1 : Int32) : Option (Mc) := (if (M (114) 4) = p0 then (if p1 < (nI 8) then bnd (fX7_goOn M) fun M2 => (some (M2)) else bnd (fX7_fail M (nI 3)) fun M4 => (some (M4))) else bnd (fX7_fail M (nI 1)) fun M6 => (some (M6)))
theorem mX7_openWith (l : Launch) {Y : Nat → ClassId} {D : va_G} {σ : Nat → Nat} {np b0 : Nat} {M : Mc} {N : Md} {p0 : Int32} {p1 : Int32} {r : Mc} (hf : fX7_openWith M p0 p1 = some r) : Met l yX7_openWith (.code yX7_openWith cX7_openWith 3 none :: lw_g) (rmD 3) (PR Y D σ np b0 [.ref (σ (114)), .int p0, .int p1] M N) (QR Y D σ np b0 none r N) 0 0 (xA b0) := by
  refine x_met (by decide) (Nat.le_of_ble_eq_true rfl) (fun p e s m args below meth c hE hr => ?_)
  unfold fX7_openWith at hf
  refine x_pick [0, 1, 2] (L' := [(0, .ref (σ (114))), (1, .int p0), (2, .int p1)]) rfl ?_
  refine x_aload_n hE 0 dX7_openWith_0 rfl rfl ?_
  refine x_getI hE cl_7 (hE.kd kO_7) (by decide) 4 rfl (by decide) lk_X7_38 dX7_openWith_1 ?_
  refine x_iload_n hE 1 dX7_openWith_4 rfl rfl ?_
  refine x_icmp_eq hE 16 dX7_openWith_5 (by decide) hf (fun hf => ?_) (fun hf => ?_)
  · refine x_iload_n hE 2 dX7_openWith_16 rfl rfl ?_
    refine x_bipush hE (nI 8) dX7_openWith_17 (by decide) ?_
    refine x_icmp_lt hE 30 dX7_openWith_19 (by decide) hf (fun hf => ?_) (fun hf => ?_)
    · refine x_aload_n hE 0 dX7_openWith_30 rfl rfl ?_
      obtain ⟨M2, hc1, hf⟩ := bnd_some hf
      refine x_callV0 hE [] (rest := []) (c1 := M2) (d1 := N) rfl yokX7_goOn yvX7_goOn lk_X7_121 rfl cl_7 (hE.kd kO_7) (by decide) rfl rfl ⟨Nat.le_of_ble_eq_true rfl, Nat.le_of_ble_eq_true rfl⟩ ⟨Nat.zero_le _, Nat.zero_le _⟩ rfl (Nat.le_of_ble_eq_true rfl) dX7_openWith_31 (mX7_goOn l hc1) ?_
      replace hf := Option.some.inj hf
      subst hf
      exact x_vreturn hE hr dX7_openWith_34
    · refine x_aload_n hE 0 dX7_openWith_22 rfl rfl ?_
      refine x_iconst hE (nI 3) dX7_openWith_23 (by decide) ?_
      obtain ⟨M4, hc3, hf⟩ := bnd_some hf
      refine x_callV0 hE [.int (nI 3)] (rest := []) (c1 := M4) (d1 := N) rfl yokX7_fail yvX7_fail lk_X7_124 rfl cl_7 (hE.kd kO_7) (by decide) rfl rfl ⟨Nat.le_of_ble_eq_true rfl, Nat.le_of_ble_eq_true rfl⟩ ⟨Nat.zero_le _, Nat.zero_le _⟩ rfl (Nat.le_of_ble_eq_true rfl) dX7_openWith_24 (mX7_fail l hc3) ?_
      refine x_goto hE 34 dX7_openWith_27 (by decide) ?_
      replace hf := Option.some.inj hf
      subst hf
      exact x_vreturn hE hr dX7_openWith_34
  · refine x_aload_n hE 0 dX7_openWith_8 rfl rfl ?_
    refine x_iconst hE (nI 1) dX7_openWith_9 (by decide) ?_
    obtain ⟨M6, hc5, hf⟩ := bnd_some hf
    refine x_callV0 hE [.int (nI 1)] (rest := []) (c1 := M6) (d1 := N) rfl yokX7_fail yvX7_fail lk_X7_124 rfl cl_7 (hE.kd kO_7) (by decide) rfl rfl ⟨Nat.le_of_ble_eq_true rfl, Nat.le_of_ble_eq_true rfl⟩ ⟨Nat.zero_le _, Nat.zero_le _⟩ rfl (Nat.le_of_ble_eq_true rfl) dX7_openWith_10 (mX7_fail l hc5) ?_
    refine x_goto hE 34 dX7_openWith_13 (by decide) ?_
    replace hf := Option.some.inj hf
    subst hf
    exact x_vreturn hE hr dX7_openWith_34
theorem yokX7_openWith : YOK yX7_openWith cX7_openWith 3 2 none := ⟨mem_g 1450 (by decide +kernel) (by decide +kernel), mem_g 141 (by decide +kernel) (by decide +kernel), by decide +kernel, by decide +kernel, by decide +kernel⟩
theorem yvX7_openWith : YV yX7_openWith := ⟨mem_g 1449 (by decide +kernel) (by decide +kernel), mem_g 28 (by decide +kernel) (by decide +kernel)⟩
