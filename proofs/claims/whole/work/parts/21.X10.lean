theorem lk_X10_12 : Cond.fieldLink RX10 12 (TX10 1).1 (TX10 1).2.1 (TX10 1).2.2.1 ∈ lw_g := mem_g 404 (by decide +kernel) (by decide +kernel)
theorem lk_X10_68 : Cond.methodLink RX10 68 yX4_copyFrom ∈ lw_g := mem_g 1037 (by decide +kernel) (by decide +kernel)
theorem lk_X10_21 : Cond.fieldLink RX10 21 (TX10 2).1 (TX10 2).2.1 (TX10 2).2.2.1 ∈ lw_g := mem_g 407 (by decide +kernel) (by decide +kernel)
theorem lk_X10_72 : Cond.methodLink RX10 72 yX3_copyFrom ∈ lw_g := mem_g 1044 (by decide +kernel) (by decide +kernel)
theorem lk_X10_28 : Cond.fieldLink RX10 28 (TX10 3).1 (TX10 3).2.1 (TX10 3).2.2.1 ∈ lw_g := mem_g 410 (by decide +kernel) (by decide +kernel)
theorem lk_X10_75 : Cond.methodLink RX10 75 yX5_copyFrom ∈ lw_g := mem_g 1049 (by decide +kernel) (by decide +kernel)
theorem lk_X10_35 : Cond.fieldLink RX10 35 (TX10 4).1 (TX10 4).2.1 (TX10 4).2.2.1 ∈ lw_g := mem_g 412 (by decide +kernel) (by decide +kernel)
theorem lk_X10_78 : Cond.methodLink RX10 78 yX1_copyFrom ∈ lw_g := mem_g 1054 (by decide +kernel) (by decide +kernel)
theorem lk_X10_64 : Cond.fieldLink RX10 64 (TX10 5).1 (TX10 5).2.1 (TX10 5).2.2.1 ∈ lw_g := mem_g 414 (by decide +kernel) (by decide +kernel)
theorem lk_X10_81 : Cond.methodLink RX10 81 yX2_copyFrom ∈ lw_g := mem_g 1059 (by decide +kernel) (by decide +kernel)
theorem lk_X10_84 : Cond.fieldLink RX10 84 (TX10 6).1 (TX10 6).2.1 (TX10 6).2.2.1 ∈ lw_g := mem_g 417 (by decide +kernel) (by decide +kernel)
theorem lk_X10_39 : Cond.fieldLink RX10 39 (TX10 7).1 (TX10 7).2.1 (TX10 7).2.2.1 ∈ lw_g := mem_g 420 (by decide +kernel) (by decide +kernel)
theorem lk_X10_43 : Cond.fieldLink RX10 43 (TX10 8).1 (TX10 8).2.1 (TX10 8).2.2.1 ∈ lw_g := mem_g 423 (by decide +kernel) (by decide +kernel)
theorem lk_X10_87 : Cond.fieldLink RX10 87 (TX10 9).1 (TX10 9).2.1 (TX10 9).2.2.1 ∈ lw_g := mem_g 426 (by decide +kernel) (by decide +kernel)
theorem lk_X10_90 : Cond.fieldLink RX10 90 (TX10 10).1 (TX10 10).2.1 (TX10 10).2.2.1 ∈ lw_g := mem_g 428 (by decide +kernel) (by decide +kernel)
theorem lk_X10_46 : Cond.fieldLink RX10 46 (TX10 11).1 (TX10 11).2.1 (TX10 11).2.2.1 ∈ lw_g := mem_g 430 (by decide +kernel) (by decide +kernel)
theorem lk_X10_49 : Cond.fieldLink RX10 49 (TX10 12).1 (TX10 12).2.1 (TX10 12).2.2.1 ∈ lw_g := mem_g 432 (by decide +kernel) (by decide +kernel)
theorem dX10_copyFrom_0 : decode cX10_copyFrom 0 = .ok (.aload_n 1, 1) := by decide +kernel
theorem dX10_copyFrom_1 : decode cX10_copyFrom 1 = .ok (.ifnonnull 4, 3) := by decide +kernel
theorem dX10_copyFrom_4 : decode cX10_copyFrom 4 = .ok (.return_, 1) := by decide +kernel
theorem dX10_copyFrom_5 : decode cX10_copyFrom 5 = .ok (.aload_n 0, 1) := by decide +kernel
theorem dX10_copyFrom_6 : decode cX10_copyFrom 6 = .ok (.getfield 12, 3) := by decide +kernel
theorem dX10_copyFrom_9 : decode cX10_copyFrom 9 = .ok (.aload_n 1, 1) := by decide +kernel
theorem dX10_copyFrom_10 : decode cX10_copyFrom 10 = .ok (.getfield 12, 3) := by decide +kernel
theorem dX10_copyFrom_13 : decode cX10_copyFrom 13 = .ok (.invokevirtual 68, 3) := by decide +kernel
theorem dX10_copyFrom_16 : decode cX10_copyFrom 16 = .ok (.aload_n 0, 1) := by decide +kernel
theorem dX10_copyFrom_17 : decode cX10_copyFrom 17 = .ok (.getfield 21, 3) := by decide +kernel
theorem dX10_copyFrom_20 : decode cX10_copyFrom 20 = .ok (.aload_n 1, 1) := by decide +kernel
theorem dX10_copyFrom_21 : decode cX10_copyFrom 21 = .ok (.getfield 21, 3) := by decide +kernel
theorem dX10_copyFrom_24 : decode cX10_copyFrom 24 = .ok (.invokevirtual 72, 3) := by decide +kernel
theorem dX10_copyFrom_27 : decode cX10_copyFrom 27 = .ok (.aload_n 0, 1) := by decide +kernel
theorem dX10_copyFrom_28 : decode cX10_copyFrom 28 = .ok (.getfield 28, 3) := by decide +kernel
theorem dX10_copyFrom_31 : decode cX10_copyFrom 31 = .ok (.aload_n 1, 1) := by decide +kernel
theorem dX10_copyFrom_32 : decode cX10_copyFrom 32 = .ok (.getfield 28, 3) := by decide +kernel
theorem dX10_copyFrom_35 : decode cX10_copyFrom 35 = .ok (.invokevirtual 75, 3) := by decide +kernel
theorem dX10_copyFrom_38 : decode cX10_copyFrom 38 = .ok (.aload_n 0, 1) := by decide +kernel
theorem dX10_copyFrom_39 : decode cX10_copyFrom 39 = .ok (.getfield 35, 3) := by decide +kernel
theorem dX10_copyFrom_42 : decode cX10_copyFrom 42 = .ok (.aload_n 1, 1) := by decide +kernel
theorem dX10_copyFrom_43 : decode cX10_copyFrom 43 = .ok (.getfield 35, 3) := by decide +kernel
theorem dX10_copyFrom_46 : decode cX10_copyFrom 46 = .ok (.invokevirtual 78, 3) := by decide +kernel
theorem dX10_copyFrom_49 : decode cX10_copyFrom 49 = .ok (.aload_n 0, 1) := by decide +kernel
theorem dX10_copyFrom_50 : decode cX10_copyFrom 50 = .ok (.getfield 64, 3) := by decide +kernel
theorem dX10_copyFrom_53 : decode cX10_copyFrom 53 = .ok (.aload_n 1, 1) := by decide +kernel
theorem dX10_copyFrom_54 : decode cX10_copyFrom 54 = .ok (.getfield 64, 3) := by decide +kernel
theorem dX10_copyFrom_57 : decode cX10_copyFrom 57 = .ok (.invokevirtual 81, 3) := by decide +kernel
theorem dX10_copyFrom_60 : decode cX10_copyFrom 60 = .ok (.aload_n 0, 1) := by decide +kernel
theorem dX10_copyFrom_61 : decode cX10_copyFrom 61 = .ok (.aload_n 1, 1) := by decide +kernel
theorem dX10_copyFrom_62 : decode cX10_copyFrom 62 = .ok (.getfield 84, 3) := by decide +kernel
theorem dX10_copyFrom_65 : decode cX10_copyFrom 65 = .ok (.putfield 84, 3) := by decide +kernel
theorem dX10_copyFrom_68 : decode cX10_copyFrom 68 = .ok (.aload_n 0, 1) := by decide +kernel
theorem dX10_copyFrom_69 : decode cX10_copyFrom 69 = .ok (.aload_n 1, 1) := by decide +kernel
theorem dX10_copyFrom_70 : decode cX10_copyFrom 70 = .ok (.getfield 39, 3) := by decide +kernel
theorem dX10_copyFrom_73 : decode cX10_copyFrom 73 = .ok (.putfield 39, 3) := by decide +kernel
theorem dX10_copyFrom_76 : decode cX10_copyFrom 76 = .ok (.aload_n 0, 1) := by decide +kernel
theorem dX10_copyFrom_77 : decode cX10_copyFrom 77 = .ok (.aload_n 1, 1) := by decide +kernel
theorem dX10_copyFrom_78 : decode cX10_copyFrom 78 = .ok (.getfield 43, 3) := by decide +kernel
theorem dX10_copyFrom_81 : decode cX10_copyFrom 81 = .ok (.putfield 43, 3) := by decide +kernel
theorem dX10_copyFrom_84 : decode cX10_copyFrom 84 = .ok (.aload_n 0, 1) := by decide +kernel
theorem dX10_copyFrom_85 : decode cX10_copyFrom 85 = .ok (.aload_n 1, 1) := by decide +kernel
theorem dX10_copyFrom_86 : decode cX10_copyFrom 86 = .ok (.getfield 87, 3) := by decide +kernel
theorem dX10_copyFrom_89 : decode cX10_copyFrom 89 = .ok (.putfield 87, 3) := by decide +kernel
theorem dX10_copyFrom_92 : decode cX10_copyFrom 92 = .ok (.aload_n 0, 1) := by decide +kernel
theorem dX10_copyFrom_93 : decode cX10_copyFrom 93 = .ok (.iconst 0, 1) := by decide +kernel
theorem dX10_copyFrom_94 : decode cX10_copyFrom 94 = .ok (.putfield 90, 3) := by decide +kernel
theorem dX10_copyFrom_97 : decode cX10_copyFrom 97 = .ok (.aload_n 0, 1) := by decide +kernel
theorem dX10_copyFrom_98 : decode cX10_copyFrom 98 = .ok (.iconst (-1), 1) := by decide +kernel
theorem dX10_copyFrom_99 : decode cX10_copyFrom 99 = .ok (.putfield 46, 3) := by decide +kernel
theorem dX10_copyFrom_102 : decode cX10_copyFrom 102 = .ok (.aload_n 0, 1) := by decide +kernel
theorem dX10_copyFrom_103 : decode cX10_copyFrom 103 = .ok (.iconst (-1), 1) := by decide +kernel
theorem dX10_copyFrom_104 : decode cX10_copyFrom 104 = .ok (.putfield 49, 3) := by decide +kernel
theorem dX10_copyFrom_107 : decode cX10_copyFrom 107 = .ok (.return_, 1) := by decide +kernel
theorem mX10_copyFrom (l : Launch) {Y : Nat → ClassId} {D : va_G} {σ : Nat → Nat} {np b0 : Nat} {M : Mc} {N : Md} {w : Nat} {w2 : Nat} {r : Mc} (hw : is10 w) (hw2 : is10 w2) (hf : fX10_copyFrom M w w2 = some r) : Met l yX10_copyFrom (.code yX10_copyFrom cX10_copyFrom 2 none :: lw_g) (rmD 5) (PR Y D σ np b0 [.ref (σ w), .ref (σ w2)] M N) (QR Y D σ np b0 none r N) 0 0 (xA b0) := by
  refine x_met (by decide) (Nat.le_of_ble_eq_true rfl) (fun p e s m args below meth c hE hr => ?_)
  unfold fX10_copyFrom at hf
  refine x_pick [0, 1] (L' := [(0, .ref (σ w)), (1, .ref (σ w2))]) rfl ?_
  refine x_aload_n hE 1 dX10_copyFrom_0 rfl rfl ?_
  refine x_ifnonnull hE 5 dX10_copyFrom_1 (by decide) ?_
  refine x_aload_n hE 0 dX10_copyFrom_5 rfl rfl ?_
  refine x_getR hE cl_10 (hE.kd (kO_10 hw)) (by decide) 1 (w + 1) rfl (by decide) lk_X10_12 dX10_copyFrom_6 ?_
  refine x_aload_n hE 1 dX10_copyFrom_9 rfl rfl ?_
  refine x_getR hE cl_10 (hE.kd (kO_10 hw2)) (by decide) 1 (w2 + 1) rfl (by decide) lk_X10_12 dX10_copyFrom_10 ?_
  obtain ⟨M2, hc1, hf⟩ := bnd_some hf
  refine x_callV0 hE [.ref (σ (w2 + 1))] (rest := []) (c1 := M2) (d1 := N) rfl yokX4_copyFrom yvX4_copyFrom lk_X10_68 rfl cl_4 (hE.kd (kO_4 (hL_10_1 hw))) (by decide) rfl rfl ⟨Nat.le_of_ble_eq_true rfl, Nat.le_of_ble_eq_true rfl⟩ ⟨Nat.zero_le _, Nat.zero_le _⟩ rfl (Nat.le_of_ble_eq_true rfl) dX10_copyFrom_13 (mX4_copyFrom l (hL_10_1 hw) (hL_10_1 hw2) hc1) ?_
  refine x_aload_n hE 0 dX10_copyFrom_16 rfl rfl ?_
  refine x_getR hE cl_10 (hE.kd (kO_10 hw)) (by decide) 2 (w + 15) rfl (by decide) lk_X10_21 dX10_copyFrom_17 ?_
  refine x_aload_n hE 1 dX10_copyFrom_20 rfl rfl ?_
  refine x_getR hE cl_10 (hE.kd (kO_10 hw2)) (by decide) 2 (w2 + 15) rfl (by decide) lk_X10_21 dX10_copyFrom_21 ?_
  obtain ⟨M4, hc3, hf⟩ := bnd_some hf
  refine x_callV0 hE [.ref (σ (w2 + 15))] (rest := []) (c1 := M4) (d1 := N) rfl yokX3_copyFrom yvX3_copyFrom lk_X10_72 rfl cl_3 (hE.kd (kO_3 (hL_10_2 hw))) (by decide) rfl rfl ⟨Nat.le_of_ble_eq_true rfl, Nat.le_of_ble_eq_true rfl⟩ ⟨Nat.zero_le _, Nat.zero_le _⟩ rfl (Nat.le_of_ble_eq_true rfl) dX10_copyFrom_24 (mX3_copyFrom l (hL_10_2 hw) (hL_10_2 hw2) hc3) ?_
  refine x_aload_n hE 0 dX10_copyFrom_27 rfl rfl ?_
  refine x_getR hE cl_10 (hE.kd (kO_10 hw)) (by decide) 3 (w + 27) rfl (by decide) lk_X10_28 dX10_copyFrom_28 ?_
  refine x_aload_n hE 1 dX10_copyFrom_31 rfl rfl ?_
  refine x_getR hE cl_10 (hE.kd (kO_10 hw2)) (by decide) 3 (w2 + 27) rfl (by decide) lk_X10_28 dX10_copyFrom_32 ?_
  obtain ⟨M6, hc5, hf⟩ := bnd_some hf
  refine x_callV0 hE [.ref (σ (w2 + 27))] (rest := []) (c1 := M6) (d1 := N) rfl yokX5_copyFrom yvX5_copyFrom lk_X10_75 rfl cl_5 (hE.kd (kO_5 (hL_10_3 hw))) (by decide) rfl rfl ⟨Nat.le_of_ble_eq_true rfl, Nat.le_of_ble_eq_true rfl⟩ ⟨Nat.zero_le _, Nat.zero_le _⟩ rfl (Nat.le_of_ble_eq_true rfl) dX10_copyFrom_35 (mX5_copyFrom l (hL_10_3 hw) (hL_10_3 hw2) hc5) ?_
  refine x_aload_n hE 0 dX10_copyFrom_38 rfl rfl ?_
  refine x_getR hE cl_10 (hE.kd (kO_10 hw)) (by decide) 4 (w + 32) rfl (by decide) lk_X10_35 dX10_copyFrom_39 ?_
  refine x_aload_n hE 1 dX10_copyFrom_42 rfl rfl ?_
  refine x_getR hE cl_10 (hE.kd (kO_10 hw2)) (by decide) 4 (w2 + 32) rfl (by decide) lk_X10_35 dX10_copyFrom_43 ?_
  obtain ⟨M8, hc7, hf⟩ := bnd_some hf
  refine x_callV0 hE [.ref (σ (w2 + 32))] (rest := []) (c1 := M8) (d1 := N) rfl yokX1_copyFrom yvX1_copyFrom lk_X10_78 rfl cl_1 (hE.kd (kO_1 (hL_10_4 hw))) (by decide) rfl rfl ⟨Nat.le_of_ble_eq_true rfl, Nat.le_of_ble_eq_true rfl⟩ ⟨Nat.zero_le _, Nat.zero_le _⟩ rfl (Nat.le_of_ble_eq_true rfl) dX10_copyFrom_46 (mX1_copyFrom l (hL_10_4 hw) (hL_10_4 hw2) hc7) ?_
  refine x_aload_n hE 0 dX10_copyFrom_49 rfl rfl ?_
  refine x_getR hE cl_10 (hE.kd (kO_10 hw)) (by decide) 5 (w + 37) rfl (by decide) lk_X10_64 dX10_copyFrom_50 ?_
  refine x_aload_n hE 1 dX10_copyFrom_53 rfl rfl ?_
  refine x_getR hE cl_10 (hE.kd (kO_10 hw2)) (by decide) 5 (w2 + 37) rfl (by decide) lk_X10_64 dX10_copyFrom_54 ?_
  obtain ⟨M10, hc9, hf⟩ := bnd_some hf
  refine x_callV0 hE [.ref (σ (w2 + 37))] (rest := []) (c1 := M10) (d1 := N) rfl yokX2_copyFrom yvX2_copyFrom lk_X10_81 rfl cl_2 (hE.kd (kO_2 (hL_10_5 hw))) (by decide) rfl rfl ⟨Nat.le_of_ble_eq_true rfl, Nat.le_of_ble_eq_true rfl⟩ ⟨Nat.zero_le _, Nat.zero_le _⟩ rfl (Nat.le_of_ble_eq_true rfl) dX10_copyFrom_57 (mX2_copyFrom l (hL_10_5 hw) (hL_10_5 hw2) hc9) ?_
  refine x_aload_n hE 0 dX10_copyFrom_60 rfl rfl ?_
  refine x_aload_n hE 1 dX10_copyFrom_61 rfl rfl ?_
  refine x_getI hE cl_10 (hE.kd (kO_10 hw2)) (by decide) 6 rfl (by decide) lk_X10_84 dX10_copyFrom_62 ?_
  refine x_putI hE cl_10 (hE.kd (kO_10 hw)) (by decide) 6 rfl (by decide) lk_X10_84 rfl rfl rfl rfl dX10_copyFrom_65 hf (fun M11 hf => ?_)
  refine x_aload_n hE 0 dX10_copyFrom_68 rfl rfl ?_
  refine x_aload_n hE 1 dX10_copyFrom_69 rfl rfl ?_
  refine x_getI hE cl_10 (hE.kd (kO_10 hw2)) (by decide) 7 rfl (by decide) lk_X10_39 dX10_copyFrom_70 ?_
  refine x_putI hE cl_10 (hE.kd (kO_10 hw)) (by decide) 7 rfl (by decide) lk_X10_39 rfl rfl rfl rfl dX10_copyFrom_73 hf (fun M12 hf => ?_)
  refine x_aload_n hE 0 dX10_copyFrom_76 rfl rfl ?_
  refine x_aload_n hE 1 dX10_copyFrom_77 rfl rfl ?_
  refine x_getI hE cl_10 (hE.kd (kO_10 hw2)) (by decide) 8 rfl (by decide) lk_X10_43 dX10_copyFrom_78 ?_
  refine x_putI hE cl_10 (hE.kd (kO_10 hw)) (by decide) 8 rfl (by decide) lk_X10_43 rfl rfl rfl rfl dX10_copyFrom_81 hf (fun M13 hf => ?_)
  refine x_aload_n hE 0 dX10_copyFrom_84 rfl rfl ?_
  refine x_aload_n hE 1 dX10_copyFrom_85 rfl rfl ?_
  refine x_getI hE cl_10 (hE.kd (kO_10 hw2)) (by decide) 9 rfl (by decide) lk_X10_87 dX10_copyFrom_86 ?_
  refine x_putI hE cl_10 (hE.kd (kO_10 hw)) (by decide) 9 rfl (by decide) lk_X10_87 rfl rfl rfl rfl dX10_copyFrom_89 hf (fun M14 hf => ?_)
  refine x_aload_n hE 0 dX10_copyFrom_92 rfl rfl ?_
  refine x_iconst hE (0 : Int32) dX10_copyFrom_93 (by decide) ?_
  refine x_putI hE cl_10 (hE.kd (kO_10 hw)) (by decide) 10 rfl (by decide) lk_X10_90 rfl rfl rfl rfl dX10_copyFrom_94 hf (fun M15 hf => ?_)
  refine x_aload_n hE 0 dX10_copyFrom_97 rfl rfl ?_
  refine x_iconst hE (-1) dX10_copyFrom_98 (by decide) ?_
  refine x_putI hE cl_10 (hE.kd (kO_10 hw)) (by decide) 11 rfl (by decide) lk_X10_46 rfl rfl rfl rfl dX10_copyFrom_99 hf (fun M16 hf => ?_)
  refine x_aload_n hE 0 dX10_copyFrom_102 rfl rfl ?_
  refine x_iconst hE (-1) dX10_copyFrom_103 (by decide) ?_
  refine x_putI hE cl_10 (hE.kd (kO_10 hw)) (by decide) 12 rfl (by decide) lk_X10_49 rfl rfl rfl rfl dX10_copyFrom_104 hf (fun M17 hf => ?_)
  replace hf := Option.some.inj hf
  subst hf
  exact x_vreturn hE hr dX10_copyFrom_107
theorem yokX10_copyFrom : YOK yX10_copyFrom cX10_copyFrom 2 1 none := ⟨mem_g 1036 (by decide +kernel) (by decide +kernel), mem_g 133 (by decide +kernel) (by decide +kernel), by decide +kernel, by decide +kernel, by decide +kernel⟩
theorem yvX10_copyFrom : YV yX10_copyFrom := ⟨mem_g 1034 (by decide +kernel) (by decide +kernel), mem_g 1035 (by decide +kernel) (by decide +kernel)⟩
theorem lk_X10_93 : Cond.fieldLink RX10 93 (TX2 2).1 (TX2 2).2.1 (TX2 2).2.2.1 ∈ lw_g := mem_g 366 (by decide +kernel) (by decide +kernel)
theorem lk_X10_96 : Cond.fieldLink RX10 96 (TX4 9).1 (TX4 9).2.1 (TX4 9).2.2.1 ∈ lw_g := mem_g 211 (by decide +kernel) (by decide +kernel)
theorem lk_X10_99 : Cond.fieldLink RX10 99 (TX3 1).1 (TX3 1).2.1 (TX3 1).2.2.1 ∈ lw_g := mem_g 256 (by decide +kernel) (by decide +kernel)
theorem lk_X10_102 : Cond.methodLink RX10 102 yX2_meaning ∈ lw_g := mem_g 1176 (by decide +kernel) (by decide +kernel)
theorem dX10_meaning_0 : decode cX10_meaning 0 = .ok (.aload_n 0, 1) := by decide +kernel
theorem dX10_meaning_1 : decode cX10_meaning 1 = .ok (.getfield 64, 3) := by decide +kernel
theorem dX10_meaning_4 : decode cX10_meaning 4 = .ok (.aload_n 0, 1) := by decide +kernel
theorem dX10_meaning_5 : decode cX10_meaning 5 = .ok (.getfield 64, 3) := by decide +kernel
theorem dX10_meaning_8 : decode cX10_meaning 8 = .ok (.getfield 93, 3) := by decide +kernel
theorem dX10_meaning_11 : decode cX10_meaning 11 = .ok (.iload_n 1, 1) := by decide +kernel
theorem dX10_meaning_12 : decode cX10_meaning 12 = .ok (.aload_n 0, 1) := by decide +kernel
theorem dX10_meaning_13 : decode cX10_meaning 13 = .ok (.getfield 84, 3) := by decide +kernel
theorem dX10_meaning_16 : decode cX10_meaning 16 = .ok (.aload_n 0, 1) := by decide +kernel
theorem dX10_meaning_17 : decode cX10_meaning 17 = .ok (.getfield 12, 3) := by decide +kernel
theorem dX10_meaning_20 : decode cX10_meaning 20 = .ok (.getfield 96, 3) := by decide +kernel
theorem dX10_meaning_23 : decode cX10_meaning 23 = .ok (.aload_n 0, 1) := by decide +kernel
theorem dX10_meaning_24 : decode cX10_meaning 24 = .ok (.getfield 21, 3) := by decide +kernel
theorem dX10_meaning_27 : decode cX10_meaning 27 = .ok (.getfield 99, 3) := by decide +kernel
theorem dX10_meaning_30 : decode cX10_meaning 30 = .ok (.iload_n 2, 1) := by decide +kernel
theorem dX10_meaning_31 : decode cX10_meaning 31 = .ok (.invokevirtual 102, 3) := by decide +kernel
theorem dX10_meaning_34 : decode cX10_meaning 34 = .ok (.ireturn, 1) := by decide +kernel
theorem mX10_meaning (l : Launch) {Y : Nat → ClassId} {D : va_G} {σ : Nat → Nat} {np b0 : Nat} {M : Mc} {N : Md} {w : Nat} {p0 : Int32} {p1 : Int32} {r : Int32 × Mc} (hw : is10 w) (hf : fX10_meaning M w p0 p1 = some r) : Met l yX10_meaning (.code yX10_meaning cX10_meaning 3 (some .int) :: lw_g) (rmD 4) (PR Y D σ np b0 [.ref (σ w), .int p0, .int p1] M N) (QR Y D σ np b0 (some (.int r.1)) r.2 N) 0 0 (xA b0) := by
  refine x_met (by decide) (Nat.le_of_ble_eq_true rfl) (fun p e s m args below meth c hE hr => ?_)
  unfold fX10_meaning at hf
  refine x_pick [0, 1, 2] (L' := [(0, .ref (σ w)), (1, .int p0), (2, .int p1)]) rfl ?_
  refine x_aload_n hE 0 dX10_meaning_0 rfl rfl ?_
  refine x_getR hE cl_10 (hE.kd (kO_10 hw)) (by decide) 5 (w + 37) rfl (by decide) lk_X10_64 dX10_meaning_1 ?_
  refine x_aload_n hE 0 dX10_meaning_4 rfl rfl ?_
  refine x_getR hE cl_10 (hE.kd (kO_10 hw)) (by decide) 5 (w + 37) rfl (by decide) lk_X10_64 dX10_meaning_5 ?_
  refine x_getI hE cl_2 (hE.kd (kO_2 (hL_10_5 hw))) (by decide) 2 rfl (by decide) lk_X10_93 dX10_meaning_8 ?_
  refine x_iload_n hE 1 dX10_meaning_11 rfl rfl ?_
  refine x_aload_n hE 0 dX10_meaning_12 rfl rfl ?_
  refine x_getI hE cl_10 (hE.kd (kO_10 hw)) (by decide) 6 rfl (by decide) lk_X10_84 dX10_meaning_13 ?_
  refine x_aload_n hE 0 dX10_meaning_16 rfl rfl ?_
  refine x_getR hE cl_10 (hE.kd (kO_10 hw)) (by decide) 1 (w + 1) rfl (by decide) lk_X10_12 dX10_meaning_17 ?_
  refine x_getI hE cl_4 (hE.kd (kO_4 (hL_10_1 hw))) (by decide) 9 rfl (by decide) lk_X10_96 dX10_meaning_20 ?_
  refine x_aload_n hE 0 dX10_meaning_23 rfl rfl ?_
  refine x_getR hE cl_10 (hE.kd (kO_10 hw)) (by decide) 2 (w + 15) rfl (by decide) lk_X10_21 dX10_meaning_24 ?_
  refine x_getI hE cl_3 (hE.kd (kO_3 (hL_10_2 hw))) (by decide) 1 rfl (by decide) lk_X10_99 dX10_meaning_27 ?_
  refine x_iload_n hE 2 dX10_meaning_30 rfl rfl ?_
  obtain ⟨⟨v2, M3⟩, hc1, hf⟩ := bn2_some hf
  refine x_callV1 hE [.int (M (w + 37) 2), .int p0, .int (M w 6), .int (M (w + 1) 9), .int (M (w + 15) 1), .int p1] (rest := []) (v := .int v2) (c1 := M3) (d1 := N) rfl yokX2_meaning yvX2_meaning lk_X10_102 rfl cl_2 (hE.kd (kO_2 (hL_10_5 hw))) (by decide) rfl rfl ⟨Nat.le_of_ble_eq_true rfl, Nat.le_of_ble_eq_true rfl⟩ ⟨Nat.zero_le _, Nat.zero_le _⟩ rfl (Nat.le_of_ble_eq_true rfl) dX10_meaning_31 (mX2_meaning l (hL_10_5 hw) hc1) ?_
  replace hf := Option.some.inj hf
  subst hf
  exact x_ireturn hE (v := v2) hr rfl dX10_meaning_34
theorem yokX10_meaning : YOK yX10_meaning cX10_meaning 3 2 (some .int) := ⟨mem_g 1175 (by decide +kernel) (by decide +kernel), mem_g 133 (by decide +kernel) (by decide +kernel), by decide +kernel, by decide +kernel, by decide +kernel⟩
theorem yvX10_meaning : YV yX10_meaning := ⟨mem_g 1173 (by decide +kernel) (by decide +kernel), mem_g 1174 (by decide +kernel) (by decide +kernel)⟩
theorem lk_X10_106 : Cond.methodLink RX10 106 yX4_soilOf ∈ lw_g := mem_g 1168 (by decide +kernel) (by decide +kernel)
theorem lk_X10_110 : Cond.methodLink RX10 110 yX10_meaning ∈ lw_g := mem_g 1172 (by decide +kernel) (by decide +kernel)
theorem dX10_priceOf_0 : decode cX10_priceOf 0 = .ok (.aload_n 0, 1) := by decide +kernel
theorem dX10_priceOf_1 : decode cX10_priceOf 1 = .ok (.iconst 0, 1) := by decide +kernel
theorem dX10_priceOf_2 : decode cX10_priceOf 2 = .ok (.aload_n 0, 1) := by decide +kernel
theorem dX10_priceOf_3 : decode cX10_priceOf 3 = .ok (.getfield 12, 3) := by decide +kernel
theorem dX10_priceOf_6 : decode cX10_priceOf 6 = .ok (.iload_n 1, 1) := by decide +kernel
theorem dX10_priceOf_7 : decode cX10_priceOf 7 = .ok (.invokevirtual 106, 3) := by decide +kernel
theorem dX10_priceOf_10 : decode cX10_priceOf 10 = .ok (.invokevirtual 110, 3) := by decide +kernel
theorem dX10_priceOf_13 : decode cX10_priceOf 13 = .ok (.ireturn, 1) := by decide +kernel
theorem mX10_priceOf (l : Launch) {Y : Nat → ClassId} {D : va_G} {σ : Nat → Nat} {np b0 : Nat} {M : Mc} {N : Md} {w : Nat} {p0 : Int32} {r : Int32 × Mc} (hw : is10 w) (hf : fX10_priceOf M w p0 = some r) : Met l yX10_priceOf (.code yX10_priceOf cX10_priceOf 2 (some .int) :: lw_g) (rmD 5) (PR Y D σ np b0 [.ref (σ w), .int p0] M N) (QR Y D σ np b0 (some (.int r.1)) r.2 N) 0 0 (xA b0) := by
  refine x_met (by decide) (Nat.le_of_ble_eq_true rfl) (fun p e s m args below meth c hE hr => ?_)
  unfold fX10_priceOf at hf
  refine x_pick [0, 1] (L' := [(0, .ref (σ w)), (1, .int p0)]) rfl ?_
  refine x_aload_n hE 0 dX10_priceOf_0 rfl rfl ?_
  refine x_iconst hE (0 : Int32) dX10_priceOf_1 (by decide) ?_
  refine x_aload_n hE 0 dX10_priceOf_2 rfl rfl ?_
  refine x_getR hE cl_10 (hE.kd (kO_10 hw)) (by decide) 1 (w + 1) rfl (by decide) lk_X10_12 dX10_priceOf_3 ?_
  refine x_iload_n hE 1 dX10_priceOf_6 rfl rfl ?_
  obtain ⟨v2, hc1, hf⟩ := bnd_some hf
  refine x_callV1 hE [.int p0] (rest := [.int 0, .ref (σ w)]) (v := .int v2) (c1 := M) (d1 := N) rfl yokX4_soilOf yvX4_soilOf lk_X10_106 rfl cl_4 (hE.kd (kO_4 (hL_10_1 hw))) (by decide) rfl rfl ⟨Nat.le_of_ble_eq_true rfl, Nat.le_of_ble_eq_true rfl⟩ ⟨Nat.zero_le _, Nat.zero_le _⟩ rfl (Nat.le_of_ble_eq_true rfl) dX10_priceOf_7 (mX4_soilOf l (hL_10_1 hw) hc1) ?_
  obtain ⟨⟨v4, M5⟩, hc3, hf⟩ := bn2_some hf
  refine x_callV1 hE [.int 0, .int v2] (rest := []) (v := .int v4) (c1 := M5) (d1 := N) rfl yokX10_meaning yvX10_meaning lk_X10_110 rfl cl_10 (hE.kd (kO_10 hw)) (by decide) rfl rfl ⟨Nat.le_of_ble_eq_true rfl, Nat.le_of_ble_eq_true rfl⟩ ⟨Nat.zero_le _, Nat.zero_le _⟩ rfl (Nat.le_of_ble_eq_true rfl) dX10_priceOf_10 (mX10_meaning l hw hc3) ?_
  replace hf := Option.some.inj hf
  subst hf
  exact x_ireturn hE (v := v4) hr rfl dX10_priceOf_13
theorem yokX10_priceOf : YOK yX10_priceOf cX10_priceOf 2 1 (some .int) := ⟨mem_g 1167 (by decide +kernel) (by decide +kernel), mem_g 133 (by decide +kernel) (by decide +kernel), by decide +kernel, by decide +kernel, by decide +kernel⟩
theorem yvX10_priceOf : YV yX10_priceOf := ⟨mem_g 1165 (by decide +kernel) (by decide +kernel), mem_g 1166 (by decide +kernel) (by decide +kernel)⟩
theorem lk_X10_113 : Cond.methodLink RX10 113 yX2_teller ∈ lw_g := mem_g 1185 (by decide +kernel) (by decide +kernel)
theorem lk_X10_116 : Cond.methodLink RX10 116 yX3_spend ∈ lw_g := mem_g 1186 (by decide +kernel) (by decide +kernel)
theorem lk_X10_120 : Cond.methodLink RX10 120 yX4_giveFarm ∈ lw_g := mem_g 1190 (by decide +kernel) (by decide +kernel)
theorem lk_X10_124 : Cond.methodLink RX10 124 yX3_gainFarm ∈ lw_g := mem_g 1194 (by decide +kernel) (by decide +kernel)
theorem dX10_sell_0 : decode cX10_sell 0 = .ok (.aload_n 0, 1) := by decide +kernel
theorem dX10_sell_1 : decode cX10_sell 1 = .ok (.getfield 46, 3) := by decide +kernel
theorem dX10_sell_4 : decode cX10_sell 4 = .ok (.istore 4, 2) := by decide +kernel
theorem dX10_sell_6 : decode cX10_sell 6 = .ok (.iload 4, 2) := by decide +kernel
theorem dX10_sell_8 : decode cX10_sell 8 = .ok (.iconst (-1), 1) := by decide +kernel
theorem dX10_sell_9 : decode cX10_sell 9 = .ok (.if_icmp .ne 39, 3) := by decide +kernel
theorem dX10_sell_12 : decode cX10_sell 12 = .ok (.aload_n 0, 1) := by decide +kernel
theorem dX10_sell_13 : decode cX10_sell 13 = .ok (.getfield 64, 3) := by decide +kernel
theorem dX10_sell_16 : decode cX10_sell 16 = .ok (.aload_n 0, 1) := by decide +kernel
theorem dX10_sell_17 : decode cX10_sell 17 = .ok (.getfield 64, 3) := by decide +kernel
theorem dX10_sell_20 : decode cX10_sell 20 = .ok (.getfield 93, 3) := by decide +kernel
theorem dX10_sell_23 : decode cX10_sell 23 = .ok (.iconst 1, 1) := by decide +kernel
theorem dX10_sell_24 : decode cX10_sell 24 = .ok (.aload_n 0, 1) := by decide +kernel
theorem dX10_sell_25 : decode cX10_sell 25 = .ok (.getfield 84, 3) := by decide +kernel
theorem dX10_sell_28 : decode cX10_sell 28 = .ok (.aload_n 0, 1) := by decide +kernel
theorem dX10_sell_29 : decode cX10_sell 29 = .ok (.getfield 12, 3) := by decide +kernel
theorem dX10_sell_32 : decode cX10_sell 32 = .ok (.getfield 96, 3) := by decide +kernel
theorem dX10_sell_35 : decode cX10_sell 35 = .ok (.aload_n 0, 1) := by decide +kernel
theorem dX10_sell_36 : decode cX10_sell 36 = .ok (.getfield 21, 3) := by decide +kernel
theorem dX10_sell_39 : decode cX10_sell 39 = .ok (.getfield 99, 3) := by decide +kernel
theorem dX10_sell_42 : decode cX10_sell 42 = .ok (.iconst 0, 1) := by decide +kernel
theorem dX10_sell_43 : decode cX10_sell 43 = .ok (.invokevirtual 102, 3) := by decide +kernel
theorem dX10_sell_46 : decode cX10_sell 46 = .ok (.istore 4, 2) := by decide +kernel
theorem dX10_sell_48 : decode cX10_sell 48 = .ok (.aload_n 0, 1) := by decide +kernel
theorem dX10_sell_49 : decode cX10_sell 49 = .ok (.getfield 90, 3) := by decide +kernel
theorem dX10_sell_52 : decode cX10_sell 52 = .ok (.ifCond .le 7, 3) := by decide +kernel
theorem dX10_sell_55 : decode cX10_sell 55 = .ok (.iconst (-1), 1) := by decide +kernel
theorem dX10_sell_56 : decode cX10_sell 56 = .ok (.goto 18, 3) := by decide +kernel
theorem dX10_sell_59 : decode cX10_sell 59 = .ok (.aload_n 0, 1) := by decide +kernel
theorem dX10_sell_60 : decode cX10_sell 60 = .ok (.getfield 64, 3) := by decide +kernel
theorem dX10_sell_63 : decode cX10_sell 63 = .ok (.aload_n 0, 1) := by decide +kernel
theorem dX10_sell_64 : decode cX10_sell 64 = .ok (.getfield 64, 3) := by decide +kernel
theorem dX10_sell_67 : decode cX10_sell 67 = .ok (.getfield 93, 3) := by decide +kernel
theorem dX10_sell_70 : decode cX10_sell 70 = .ok (.iconst 0, 1) := by decide +kernel
theorem dX10_sell_71 : decode cX10_sell 71 = .ok (.invokevirtual 113, 3) := by decide +kernel
theorem dX10_sell_74 : decode cX10_sell 74 = .ok (.istore 5, 2) := by decide +kernel
theorem dX10_sell_76 : decode cX10_sell 76 = .ok (.iload_n 3, 1) := by decide +kernel
theorem dX10_sell_77 : decode cX10_sell 77 = .ok (.iload 4, 2) := by decide +kernel
theorem dX10_sell_79 : decode cX10_sell 79 = .ok (.imul, 1) := by decide +kernel
theorem dX10_sell_80 : decode cX10_sell 80 = .ok (.bipush 100, 2) := by decide +kernel
theorem dX10_sell_82 : decode cX10_sell 82 = .ok (.idiv, 1) := by decide +kernel
theorem dX10_sell_83 : decode cX10_sell 83 = .ok (.istore 6, 2) := by decide +kernel
theorem dX10_sell_85 : decode cX10_sell 85 = .ok (.aload_n 0, 1) := by decide +kernel
theorem dX10_sell_86 : decode cX10_sell 86 = .ok (.getfield 21, 3) := by decide +kernel
theorem dX10_sell_89 : decode cX10_sell 89 = .ok (.iload_n 1, 1) := by decide +kernel
theorem dX10_sell_90 : decode cX10_sell 90 = .ok (.iload_n 3, 1) := by decide +kernel
theorem dX10_sell_91 : decode cX10_sell 91 = .ok (.invokevirtual 116, 3) := by decide +kernel
theorem dX10_sell_94 : decode cX10_sell 94 = .ok (.aload_n 0, 1) := by decide +kernel
theorem dX10_sell_95 : decode cX10_sell 95 = .ok (.dup, 1) := by decide +kernel
theorem dX10_sell_96 : decode cX10_sell 96 = .ok (.getfield 87, 3) := by decide +kernel
theorem dX10_sell_99 : decode cX10_sell 99 = .ok (.iload 6, 2) := by decide +kernel
theorem dX10_sell_101 : decode cX10_sell 101 = .ok (.iadd, 1) := by decide +kernel
theorem dX10_sell_102 : decode cX10_sell 102 = .ok (.putfield 87, 3) := by decide +kernel
theorem dX10_sell_105 : decode cX10_sell 105 = .ok (.aload_n 0, 1) := by decide +kernel
theorem dX10_sell_106 : decode cX10_sell 106 = .ok (.dup, 1) := by decide +kernel
theorem dX10_sell_107 : decode cX10_sell 107 = .ok (.getfield 43, 3) := by decide +kernel
theorem dX10_sell_110 : decode cX10_sell 110 = .ok (.iload_n 3, 1) := by decide +kernel
theorem dX10_sell_111 : decode cX10_sell 111 = .ok (.iload 6, 2) := by decide +kernel
theorem dX10_sell_113 : decode cX10_sell 113 = .ok (.isub, 1) := by decide +kernel
theorem dX10_sell_114 : decode cX10_sell 114 = .ok (.iadd, 1) := by decide +kernel
theorem dX10_sell_115 : decode cX10_sell 115 = .ok (.putfield 43, 3) := by decide +kernel
theorem dX10_sell_118 : decode cX10_sell 118 = .ok (.aload_n 0, 1) := by decide +kernel
theorem dX10_sell_119 : decode cX10_sell 119 = .ok (.getfield 12, 3) := by decide +kernel
theorem dX10_sell_122 : decode cX10_sell 122 = .ok (.iload_n 2, 1) := by decide +kernel
theorem dX10_sell_123 : decode cX10_sell 123 = .ok (.iconst 3, 1) := by decide +kernel
theorem dX10_sell_124 : decode cX10_sell 124 = .ok (.iload_n 1, 1) := by decide +kernel
theorem dX10_sell_125 : decode cX10_sell 125 = .ok (.iload_n 3, 1) := by decide +kernel
theorem dX10_sell_126 : decode cX10_sell 126 = .ok (.iload 5, 2) := by decide +kernel
theorem dX10_sell_128 : decode cX10_sell 128 = .ok (.invokevirtual 120, 3) := by decide +kernel
theorem dX10_sell_131 : decode cX10_sell 131 = .ok (.aload_n 0, 1) := by decide +kernel
theorem dX10_sell_132 : decode cX10_sell 132 = .ok (.getfield 21, 3) := by decide +kernel
theorem dX10_sell_135 : decode cX10_sell 135 = .ok (.iload_n 1, 1) := by decide +kernel
theorem dX10_sell_136 : decode cX10_sell 136 = .ok (.invokevirtual 124, 3) := by decide +kernel
theorem dX10_sell_139 : decode cX10_sell 139 = .ok (.return_, 1) := by decide +kernel
theorem wX10_sell_J74 {p : Program} {l : Launch} {e : Env} {s : State} {m : MethodId} {args : Array Value} {below : List Frame} {meth : Method} {c : Code} {Y : Nat → ClassId} {D : va_G} {σ : Nat → Nat} {np b0 : Nat} {w : Nat} {r : Mc} {M : Mc} {N : Md} {X1 : Int32} {X2 : Int32} {X3 : Int32} {X4 : Int32} {Z0 : Int32} (hE : EOK p s m args meth c cX10_sell 7 RX10 Y D σ np b0) (hr : meth.sig.returnType = none) (hw : is10 w) (hf : fX10_sell_J74 w M X1 X2 X3 X4 Z0 = some r) : Xw p l e (rmD 4) s m args below meth c 7 Y D σ np b0 0 0 (MQ below (QR Y D σ np b0 none r N) args s 0 0 (xA b0)) 74 [(0, .ref (σ w)), (1, .int X1), (2, .int X2), (3, .int X3), (4, .int X4)] [.int Z0] M N := by
  unfold fX10_sell_J74 at hf
  refine x_istore hE (L' := [(5, .int Z0), (0, .ref (σ w)), (1, .int X1), (2, .int X2), (3, .int X3), (4, .int X4)]) dX10_sell_74 (by decide) rfl ?_
  refine x_pick [1, 2, 3, 4, 5, 0] (L' := [(0, .ref (σ w)), (1, .int X1), (2, .int X2), (3, .int X3), (4, .int X4), (5, .int Z0)]) rfl ?_
  refine x_iload_n hE 3 dX10_sell_76 rfl rfl ?_
  refine x_iload hE 4 dX10_sell_77 rfl ?_
  refine x_imul hE dX10_sell_79 ?_
  refine x_bipush hE (nI 100) dX10_sell_80 (by decide) ?_
  refine x_idivC hE dX10_sell_82 (by decide) ?_
  refine x_ltI hf (fun v7 hf => ?_)
  refine x_istore hE (L' := [(6, .int v7), (0, .ref (σ w)), (1, .int X1), (2, .int X2), (3, .int X3), (4, .int X4), (5, .int Z0)]) dX10_sell_83 (by decide) rfl ?_
  refine x_pick [1, 2, 3, 4, 5, 6, 0] (L' := [(0, .ref (σ w)), (1, .int X1), (2, .int X2), (3, .int X3), (4, .int X4), (5, .int Z0), (6, .int v7)]) rfl ?_
  refine x_aload_n hE 0 dX10_sell_85 rfl rfl ?_
  refine x_getR hE cl_10 (hE.kd (kO_10 hw)) (by decide) 2 (w + 15) rfl (by decide) lk_X10_21 dX10_sell_86 ?_
  refine x_iload_n hE 1 dX10_sell_89 rfl rfl ?_
  refine x_iload_n hE 3 dX10_sell_90 rfl rfl ?_
  obtain ⟨M9, hc8, hf⟩ := bnd_some hf
  refine x_callV0 hE [.int X1, .int X3] (rest := []) (c1 := M9) (d1 := N) rfl yokX3_spend yvX3_spend lk_X10_116 rfl cl_3 (hE.kd (kO_3 (hL_10_2 hw))) (by decide) rfl rfl ⟨Nat.le_of_ble_eq_true rfl, Nat.le_of_ble_eq_true rfl⟩ ⟨Nat.zero_le _, Nat.zero_le _⟩ rfl (Nat.le_of_ble_eq_true rfl) dX10_sell_91 (mX3_spend l (hL_10_2 hw) hc8) ?_
  refine x_aload_n hE 0 dX10_sell_94 rfl rfl ?_
  refine x_dup hE dX10_sell_95 rfl ?_
  refine x_getI hE cl_10 (hE.kd (kO_10 hw)) (by decide) 9 rfl (by decide) lk_X10_87 dX10_sell_96 ?_
  refine x_iload hE 6 dX10_sell_99 rfl ?_
  refine x_iadd hE dX10_sell_101 ?_
  refine x_putI hE cl_10 (hE.kd (kO_10 hw)) (by decide) 9 rfl (by decide) lk_X10_87 rfl rfl rfl rfl dX10_sell_102 hf (fun M10 hf => ?_)
  refine x_aload_n hE 0 dX10_sell_105 rfl rfl ?_
  refine x_dup hE dX10_sell_106 rfl ?_
  refine x_getI hE cl_10 (hE.kd (kO_10 hw)) (by decide) 8 rfl (by decide) lk_X10_43 dX10_sell_107 ?_
  refine x_iload_n hE 3 dX10_sell_110 rfl rfl ?_
  refine x_iload hE 6 dX10_sell_111 rfl ?_
  refine x_isub hE dX10_sell_113 ?_
  refine x_iadd hE dX10_sell_114 ?_
  refine x_putI hE cl_10 (hE.kd (kO_10 hw)) (by decide) 8 rfl (by decide) lk_X10_43 rfl rfl rfl rfl dX10_sell_115 hf (fun M11 hf => ?_)
  refine x_aload_n hE 0 dX10_sell_118 rfl rfl ?_
  refine x_getR hE cl_10 (hE.kd (kO_10 hw)) (by decide) 1 (w + 1) rfl (by decide) lk_X10_12 dX10_sell_119 ?_
  refine x_iload_n hE 2 dX10_sell_122 rfl rfl ?_
  refine x_iconst hE (nI 3) dX10_sell_123 (by decide) ?_
  refine x_iload_n hE 1 dX10_sell_124 rfl rfl ?_
  refine x_iload_n hE 3 dX10_sell_125 rfl rfl ?_
  refine x_iload hE 5 dX10_sell_126 rfl ?_
  obtain ⟨M13, hc12, hf⟩ := bnd_some hf
  refine x_callV0 hE [.int X2, .int (nI 3), .int X1, .int X3, .int Z0] (rest := []) (c1 := M13) (d1 := N) rfl yokX4_giveFarm yvX4_giveFarm lk_X10_120 rfl cl_4 (hE.kd (kO_4 (hL_10_1 hw))) (by decide) rfl rfl ⟨Nat.le_of_ble_eq_true rfl, Nat.le_of_ble_eq_true rfl⟩ ⟨Nat.zero_le _, Nat.zero_le _⟩ rfl (Nat.le_of_ble_eq_true rfl) dX10_sell_128 (mX4_giveFarm l (hL_10_1 hw) hc12) ?_
  refine x_aload_n hE 0 dX10_sell_131 rfl rfl ?_
  refine x_getR hE cl_10 (hE.kd (kO_10 hw)) (by decide) 2 (w + 15) rfl (by decide) lk_X10_21 dX10_sell_132 ?_
  refine x_iload_n hE 1 dX10_sell_135 rfl rfl ?_
  obtain ⟨M15, hc14, hf⟩ := bnd_some hf
  refine x_callV0 hE [.int X1] (rest := []) (c1 := M15) (d1 := N) rfl yokX3_gainFarm yvX3_gainFarm lk_X10_124 rfl cl_3 (hE.kd (kO_3 (hL_10_2 hw))) (by decide) rfl rfl ⟨Nat.le_of_ble_eq_true rfl, Nat.le_of_ble_eq_true rfl⟩ ⟨Nat.zero_le _, Nat.zero_le _⟩ rfl (Nat.le_of_ble_eq_true rfl) dX10_sell_136 (mX3_gainFarm l (hL_10_2 hw) hc14) ?_
  replace hf := Option.some.inj hf
  subst hf
  exact x_vreturn hE hr dX10_sell_139
theorem wX10_sell_J48 {p : Program} {l : Launch} {e : Env} {s : State} {m : MethodId} {args : Array Value} {below : List Frame} {meth : Method} {c : Code} {Y : Nat → ClassId} {D : va_G} {σ : Nat → Nat} {np b0 : Nat} {w : Nat} {r : Mc} {M : Mc} {N : Md} {X1 : Int32} {X2 : Int32} {X3 : Int32} {X4 : Int32} (hE : EOK p s m args meth c cX10_sell 7 RX10 Y D σ np b0) (hr : meth.sig.returnType = none) (hw : is10 w) (hf : fX10_sell_J48 w M X1 X2 X3 X4 = some r) : Xw p l e (rmD 4) s m args below meth c 7 Y D σ np b0 0 0 (MQ below (QR Y D σ np b0 none r N) args s 0 0 (xA b0)) 48 [(0, .ref (σ w)), (1, .int X1), (2, .int X2), (3, .int X3), (4, .int X4)] [] M N := by
  unfold fX10_sell_J48 at hf
  refine x_aload_n hE 0 dX10_sell_48 rfl rfl ?_
  refine x_getI hE cl_10 (hE.kd (kO_10 hw)) (by decide) 10 rfl (by decide) lk_X10_90 dX10_sell_49 ?_
  refine x_if_le hE 59 dX10_sell_52 (by decide) hf (fun hf => ?_) (fun hf => ?_)
  · refine x_aload_n hE 0 dX10_sell_59 rfl rfl ?_
    refine x_getR hE cl_10 (hE.kd (kO_10 hw)) (by decide) 5 (w + 37) rfl (by decide) lk_X10_64 dX10_sell_60 ?_
    refine x_aload_n hE 0 dX10_sell_63 rfl rfl ?_
    refine x_getR hE cl_10 (hE.kd (kO_10 hw)) (by decide) 5 (w + 37) rfl (by decide) lk_X10_64 dX10_sell_64 ?_
    refine x_getI hE cl_2 (hE.kd (kO_2 (hL_10_5 hw))) (by decide) 2 rfl (by decide) lk_X10_93 dX10_sell_67 ?_
    refine x_iconst hE (0 : Int32) dX10_sell_70 (by decide) ?_
    obtain ⟨v6, hc5, hf⟩ := bnd_some hf
    refine x_callV1 hE [.int (M (w + 37) 2), .int 0] (rest := []) (v := .int v6) (c1 := M) (d1 := N) rfl yokX2_teller yvX2_teller lk_X10_113 rfl cl_2 (hE.kd (kO_2 (hL_10_5 hw))) (by decide) rfl rfl ⟨Nat.le_of_ble_eq_true rfl, Nat.le_of_ble_eq_true rfl⟩ ⟨Nat.zero_le _, Nat.zero_le _⟩ rfl (Nat.le_of_ble_eq_true rfl) dX10_sell_71 (mX2_teller l (hL_10_5 hw) hc5) ?_
    exact wX10_sell_J74 hE hr hw hf
  · refine x_iconst hE (-1) dX10_sell_55 (by decide) ?_
    refine x_goto hE 74 dX10_sell_56 (by decide) ?_
    exact wX10_sell_J74 hE hr hw hf
theorem mX10_sell (l : Launch) {Y : Nat → ClassId} {D : va_G} {σ : Nat → Nat} {np b0 : Nat} {M : Mc} {N : Md} {w : Nat} {p0 : Int32} {p1 : Int32} {p2 : Int32} {r : Mc} (hw : is10 w) (hf : fX10_sell M w p0 p1 p2 = some r) : Met l yX10_sell (.code yX10_sell cX10_sell 7 none :: lw_g) (rmD 4) (PR Y D σ np b0 [.ref (σ w), .int p0, .int p1, .int p2] M N) (QR Y D σ np b0 none r N) 0 0 (xA b0) := by
  refine x_met (by decide) (Nat.le_of_ble_eq_true rfl) (fun p e s m args below meth c hE hr => ?_)
  unfold fX10_sell at hf
  refine x_pick [0, 1, 2, 3] (L' := [(0, .ref (σ w)), (1, .int p0), (2, .int p1), (3, .int p2)]) rfl ?_
  refine x_aload_n hE 0 dX10_sell_0 rfl rfl ?_
  refine x_getI hE cl_10 (hE.kd (kO_10 hw)) (by decide) 11 rfl (by decide) lk_X10_46 dX10_sell_1 ?_
  refine x_ltI hf (fun v1 hf => ?_)
  refine x_istore hE (L' := [(4, .int v1), (0, .ref (σ w)), (1, .int p0), (2, .int p1), (3, .int p2)]) dX10_sell_4 (by decide) rfl ?_
  refine x_pick [1, 2, 3, 4, 0] (L' := [(0, .ref (σ w)), (1, .int p0), (2, .int p1), (3, .int p2), (4, .int v1)]) rfl ?_
  refine x_iload hE 4 dX10_sell_6 rfl ?_
  refine x_iconst hE (-1) dX10_sell_8 (by decide) ?_
  refine x_icmp_ne hE 48 dX10_sell_9 (by decide) hf (fun hf => ?_) (fun hf => ?_)
  · exact wX10_sell_J48 hE hr hw hf
  · refine x_aload_n hE 0 dX10_sell_12 rfl rfl ?_
    refine x_getR hE cl_10 (hE.kd (kO_10 hw)) (by decide) 5 (w + 37) rfl (by decide) lk_X10_64 dX10_sell_13 ?_
    refine x_aload_n hE 0 dX10_sell_16 rfl rfl ?_
    refine x_getR hE cl_10 (hE.kd (kO_10 hw)) (by decide) 5 (w + 37) rfl (by decide) lk_X10_64 dX10_sell_17 ?_
    refine x_getI hE cl_2 (hE.kd (kO_2 (hL_10_5 hw))) (by decide) 2 rfl (by decide) lk_X10_93 dX10_sell_20 ?_
    refine x_iconst hE (nI 1) dX10_sell_23 (by decide) ?_
    refine x_aload_n hE 0 dX10_sell_24 rfl rfl ?_
    refine x_getI hE cl_10 (hE.kd (kO_10 hw)) (by decide) 6 rfl (by decide) lk_X10_84 dX10_sell_25 ?_
    refine x_aload_n hE 0 dX10_sell_28 rfl rfl ?_
    refine x_getR hE cl_10 (hE.kd (kO_10 hw)) (by decide) 1 (w + 1) rfl (by decide) lk_X10_12 dX10_sell_29 ?_
    refine x_getI hE cl_4 (hE.kd (kO_4 (hL_10_1 hw))) (by decide) 9 rfl (by decide) lk_X10_96 dX10_sell_32 ?_
    refine x_aload_n hE 0 dX10_sell_35 rfl rfl ?_
    refine x_getR hE cl_10 (hE.kd (kO_10 hw)) (by decide) 2 (w + 15) rfl (by decide) lk_X10_21 dX10_sell_36 ?_
    refine x_getI hE cl_3 (hE.kd (kO_3 (hL_10_2 hw))) (by decide) 1 rfl (by decide) lk_X10_99 dX10_sell_39 ?_
    refine x_iconst hE (0 : Int32) dX10_sell_42 (by decide) ?_
    obtain ⟨⟨v3, M4⟩, hc2, hf⟩ := bn2_some hf
    refine x_callV1 hE [.int (M (w + 37) 2), .int (nI 1), .int (M w 6), .int (M (w + 1) 9), .int (M (w + 15) 1), .int 0] (rest := []) (v := .int v3) (c1 := M4) (d1 := N) rfl yokX2_meaning yvX2_meaning lk_X10_102 rfl cl_2 (hE.kd (kO_2 (hL_10_5 hw))) (by decide) rfl rfl ⟨Nat.le_of_ble_eq_true rfl, Nat.le_of_ble_eq_true rfl⟩ ⟨Nat.zero_le _, Nat.zero_le _⟩ rfl (Nat.le_of_ble_eq_true rfl) dX10_sell_43 (mX2_meaning l (hL_10_5 hw) hc2) ?_
    refine x_istore hE (L' := [(4, .int v3), (0, .ref (σ w)), (1, .int p0), (2, .int p1), (3, .int p2)]) dX10_sell_46 (by decide) rfl ?_
    refine x_pick [1, 2, 3, 4, 0] (L' := [(0, .ref (σ w)), (1, .int p0), (2, .int p1), (3, .int p2), (4, .int v3)]) rfl ?_
    exact wX10_sell_J48 hE hr hw hf
theorem yokX10_sell : YOK yX10_sell cX10_sell 7 3 none := ⟨mem_g 1184 (by decide +kernel) (by decide +kernel), mem_g 133 (by decide +kernel) (by decide +kernel), by decide +kernel, by decide +kernel, by decide +kernel⟩
theorem yvX10_sell : YV yX10_sell := ⟨mem_g 1182 (by decide +kernel) (by decide +kernel), mem_g 1183 (by decide +kernel) (by decide +kernel)⟩
theorem lk_X10_192 : Cond.methodLink RX10 192 yX4_ownerOf ∈ lw_g := mem_g 1705 (by decide +kernel) (by decide +kernel)
theorem lk_X10_195 : Cond.methodLink RX10 195 yX4_paidFor ∈ lw_g := mem_g 1706 (by decide +kernel) (by decide +kernel)
theorem lk_X10_198 : Cond.methodLink RX10 198 yX4_open ∈ lw_g := mem_g 1710 (by decide +kernel) (by decide +kernel)
theorem lk_X10_201 : Cond.methodLink RX10 201 yX3_earn ∈ lw_g := mem_g 1711 (by decide +kernel) (by decide +kernel)
theorem lk_X10_204 : Cond.methodLink RX10 204 yX3_loseFarm ∈ lw_g := mem_g 1717 (by decide +kernel) (by decide +kernel)
theorem dX10_takeBack_0 : decode cX10_takeBack 0 = .ok (.aload_n 0, 1) := by decide +kernel
theorem dX10_takeBack_1 : decode cX10_takeBack 1 = .ok (.getfield 12, 3) := by decide +kernel
theorem dX10_takeBack_4 : decode cX10_takeBack 4 = .ok (.iload_n 1, 1) := by decide +kernel
theorem dX10_takeBack_5 : decode cX10_takeBack 5 = .ok (.invokevirtual 192, 3) := by decide +kernel
theorem dX10_takeBack_8 : decode cX10_takeBack 8 = .ok (.istore_n 2, 1) := by decide +kernel
theorem dX10_takeBack_9 : decode cX10_takeBack 9 = .ok (.aload_n 0, 1) := by decide +kernel
theorem dX10_takeBack_10 : decode cX10_takeBack 10 = .ok (.getfield 12, 3) := by decide +kernel
theorem dX10_takeBack_13 : decode cX10_takeBack 13 = .ok (.iload_n 1, 1) := by decide +kernel
theorem dX10_takeBack_14 : decode cX10_takeBack 14 = .ok (.invokevirtual 195, 3) := by decide +kernel
theorem dX10_takeBack_17 : decode cX10_takeBack 17 = .ok (.istore_n 3, 1) := by decide +kernel
theorem dX10_takeBack_18 : decode cX10_takeBack 18 = .ok (.aload_n 0, 1) := by decide +kernel
theorem dX10_takeBack_19 : decode cX10_takeBack 19 = .ok (.getfield 12, 3) := by decide +kernel
theorem dX10_takeBack_22 : decode cX10_takeBack 22 = .ok (.iload_n 1, 1) := by decide +kernel
theorem dX10_takeBack_23 : decode cX10_takeBack 23 = .ok (.invokevirtual 198, 3) := by decide +kernel
theorem dX10_takeBack_26 : decode cX10_takeBack 26 = .ok (.aload_n 0, 1) := by decide +kernel
theorem dX10_takeBack_27 : decode cX10_takeBack 27 = .ok (.getfield 21, 3) := by decide +kernel
theorem dX10_takeBack_30 : decode cX10_takeBack 30 = .ok (.iload_n 2, 1) := by decide +kernel
theorem dX10_takeBack_31 : decode cX10_takeBack 31 = .ok (.iload_n 3, 1) := by decide +kernel
theorem dX10_takeBack_32 : decode cX10_takeBack 32 = .ok (.invokevirtual 201, 3) := by decide +kernel
theorem dX10_takeBack_35 : decode cX10_takeBack 35 = .ok (.aload_n 0, 1) := by decide +kernel
theorem dX10_takeBack_36 : decode cX10_takeBack 36 = .ok (.getfield 21, 3) := by decide +kernel
theorem dX10_takeBack_39 : decode cX10_takeBack 39 = .ok (.iload_n 2, 1) := by decide +kernel
theorem dX10_takeBack_40 : decode cX10_takeBack 40 = .ok (.invokevirtual 204, 3) := by decide +kernel
theorem dX10_takeBack_43 : decode cX10_takeBack 43 = .ok (.aload_n 0, 1) := by decide +kernel
theorem dX10_takeBack_44 : decode cX10_takeBack 44 = .ok (.dup, 1) := by decide +kernel
theorem dX10_takeBack_45 : decode cX10_takeBack 45 = .ok (.getfield 43, 3) := by decide +kernel
theorem dX10_takeBack_48 : decode cX10_takeBack 48 = .ok (.iload_n 3, 1) := by decide +kernel
theorem dX10_takeBack_49 : decode cX10_takeBack 49 = .ok (.isub, 1) := by decide +kernel
theorem dX10_takeBack_50 : decode cX10_takeBack 50 = .ok (.putfield 43, 3) := by decide +kernel
theorem dX10_takeBack_53 : decode cX10_takeBack 53 = .ok (.return_, 1) := by decide +kernel
theorem mX10_takeBack (l : Launch) {Y : Nat → ClassId} {D : va_G} {σ : Nat → Nat} {np b0 : Nat} {M : Mc} {N : Md} {w : Nat} {p0 : Int32} {r : Mc} (hw : is10 w) (hf : fX10_takeBack M w p0 = some r) : Met l yX10_takeBack (.code yX10_takeBack cX10_takeBack 4 none :: lw_g) (rmD 3) (PR Y D σ np b0 [.ref (σ w), .int p0] M N) (QR Y D σ np b0 none r N) 0 0 (xA b0) := by
  refine x_met (by decide) (Nat.le_of_ble_eq_true rfl) (fun p e s m args below meth c hE hr => ?_)
  unfold fX10_takeBack at hf
  refine x_pick [0, 1] (L' := [(0, .ref (σ w)), (1, .int p0)]) rfl ?_
  refine x_aload_n hE 0 dX10_takeBack_0 rfl rfl ?_
  refine x_getR hE cl_10 (hE.kd (kO_10 hw)) (by decide) 1 (w + 1) rfl (by decide) lk_X10_12 dX10_takeBack_1 ?_
  refine x_iload_n hE 1 dX10_takeBack_4 rfl rfl ?_
  obtain ⟨v2, hc1, hf⟩ := bnd_some hf
  refine x_callV1 hE [.int p0] (rest := []) (v := .int v2) (c1 := M) (d1 := N) rfl yokX4_ownerOf yvX4_ownerOf lk_X10_192 rfl cl_4 (hE.kd (kO_4 (hL_10_1 hw))) (by decide) rfl rfl ⟨Nat.le_of_ble_eq_true rfl, Nat.le_of_ble_eq_true rfl⟩ ⟨Nat.zero_le _, Nat.zero_le _⟩ rfl (Nat.le_of_ble_eq_true rfl) dX10_takeBack_5 (mX4_ownerOf l (hL_10_1 hw) hc1) ?_
  refine x_istore_n hE (L' := [(2, .int v2), (0, .ref (σ w)), (1, .int p0)]) dX10_takeBack_8 rfl (by decide) rfl ?_
  refine x_pick [1, 2, 0] (L' := [(0, .ref (σ w)), (1, .int p0), (2, .int v2)]) rfl ?_
  refine x_aload_n hE 0 dX10_takeBack_9 rfl rfl ?_
  refine x_getR hE cl_10 (hE.kd (kO_10 hw)) (by decide) 1 (w + 1) rfl (by decide) lk_X10_12 dX10_takeBack_10 ?_
  refine x_iload_n hE 1 dX10_takeBack_13 rfl rfl ?_
  obtain ⟨v4, hc3, hf⟩ := bnd_some hf
  refine x_callV1 hE [.int p0] (rest := []) (v := .int v4) (c1 := M) (d1 := N) rfl yokX4_paidFor yvX4_paidFor lk_X10_195 rfl cl_4 (hE.kd (kO_4 (hL_10_1 hw))) (by decide) rfl rfl ⟨Nat.le_of_ble_eq_true rfl, Nat.le_of_ble_eq_true rfl⟩ ⟨Nat.zero_le _, Nat.zero_le _⟩ rfl (Nat.le_of_ble_eq_true rfl) dX10_takeBack_14 (mX4_paidFor l (hL_10_1 hw) hc3) ?_
  refine x_istore_n hE (L' := [(3, .int v4), (0, .ref (σ w)), (1, .int p0), (2, .int v2)]) dX10_takeBack_17 rfl (by decide) rfl ?_
  refine x_pick [1, 2, 3, 0] (L' := [(0, .ref (σ w)), (1, .int p0), (2, .int v2), (3, .int v4)]) rfl ?_
  refine x_aload_n hE 0 dX10_takeBack_18 rfl rfl ?_
  refine x_getR hE cl_10 (hE.kd (kO_10 hw)) (by decide) 1 (w + 1) rfl (by decide) lk_X10_12 dX10_takeBack_19 ?_
  refine x_iload_n hE 1 dX10_takeBack_22 rfl rfl ?_
  obtain ⟨M6, hc5, hf⟩ := bnd_some hf
  refine x_callV0 hE [.int p0] (rest := []) (c1 := M6) (d1 := N) rfl yokX4_open yvX4_open lk_X10_198 rfl cl_4 (hE.kd (kO_4 (hL_10_1 hw))) (by decide) rfl rfl ⟨Nat.le_of_ble_eq_true rfl, Nat.le_of_ble_eq_true rfl⟩ ⟨Nat.zero_le _, Nat.zero_le _⟩ rfl (Nat.le_of_ble_eq_true rfl) dX10_takeBack_23 (mX4_open l (hL_10_1 hw) hc5) ?_
  refine x_aload_n hE 0 dX10_takeBack_26 rfl rfl ?_
  refine x_getR hE cl_10 (hE.kd (kO_10 hw)) (by decide) 2 (w + 15) rfl (by decide) lk_X10_21 dX10_takeBack_27 ?_
  refine x_iload_n hE 2 dX10_takeBack_30 rfl rfl ?_
  refine x_iload_n hE 3 dX10_takeBack_31 rfl rfl ?_
  obtain ⟨M8, hc7, hf⟩ := bnd_some hf
  refine x_callV0 hE [.int v2, .int v4] (rest := []) (c1 := M8) (d1 := N) rfl yokX3_earn yvX3_earn lk_X10_201 rfl cl_3 (hE.kd (kO_3 (hL_10_2 hw))) (by decide) rfl rfl ⟨Nat.le_of_ble_eq_true rfl, Nat.le_of_ble_eq_true rfl⟩ ⟨Nat.zero_le _, Nat.zero_le _⟩ rfl (Nat.le_of_ble_eq_true rfl) dX10_takeBack_32 (mX3_earn l (hL_10_2 hw) hc7) ?_
  refine x_aload_n hE 0 dX10_takeBack_35 rfl rfl ?_
  refine x_getR hE cl_10 (hE.kd (kO_10 hw)) (by decide) 2 (w + 15) rfl (by decide) lk_X10_21 dX10_takeBack_36 ?_
  refine x_iload_n hE 2 dX10_takeBack_39 rfl rfl ?_
  obtain ⟨M10, hc9, hf⟩ := bnd_some hf
  refine x_callV0 hE [.int v2] (rest := []) (c1 := M10) (d1 := N) rfl yokX3_loseFarm yvX3_loseFarm lk_X10_204 rfl cl_3 (hE.kd (kO_3 (hL_10_2 hw))) (by decide) rfl rfl ⟨Nat.le_of_ble_eq_true rfl, Nat.le_of_ble_eq_true rfl⟩ ⟨Nat.zero_le _, Nat.zero_le _⟩ rfl (Nat.le_of_ble_eq_true rfl) dX10_takeBack_40 (mX3_loseFarm l (hL_10_2 hw) hc9) ?_
  refine x_aload_n hE 0 dX10_takeBack_43 rfl rfl ?_
  refine x_dup hE dX10_takeBack_44 rfl ?_
  refine x_getI hE cl_10 (hE.kd (kO_10 hw)) (by decide) 8 rfl (by decide) lk_X10_43 dX10_takeBack_45 ?_
  refine x_iload_n hE 3 dX10_takeBack_48 rfl rfl ?_
  refine x_isub hE dX10_takeBack_49 ?_
  refine x_putI hE cl_10 (hE.kd (kO_10 hw)) (by decide) 8 rfl (by decide) lk_X10_43 rfl rfl rfl rfl dX10_takeBack_50 hf (fun M11 hf => ?_)
  replace hf := Option.some.inj hf
  subst hf
  exact x_vreturn hE hr dX10_takeBack_53
theorem yokX10_takeBack : YOK yX10_takeBack cX10_takeBack 4 1 none := ⟨mem_g 1704 (by decide +kernel) (by decide +kernel), mem_g 133 (by decide +kernel) (by decide +kernel), by decide +kernel, by decide +kernel, by decide +kernel⟩
theorem yvX10_takeBack : YV yX10_takeBack := ⟨mem_g 1703 (by decide +kernel) (by decide +kernel), mem_g 41 (by decide +kernel) (by decide +kernel)⟩
theorem lk_X10_186 : Cond.methodLink RX10 186 yX4_isBoughtBy ∈ lw_g := mem_g 1697 (by decide +kernel) (by decide +kernel)
theorem lk_X10_189 : Cond.methodLink RX10 189 yX10_takeBack ∈ lw_g := mem_g 1701 (by decide +kernel) (by decide +kernel)
theorem dX10_undoSales_0 : decode cX10_undoSales 0 = .ok (.iconst 0, 1) := by decide +kernel
theorem dX10_undoSales_1 : decode cX10_undoSales 1 = .ok (.istore_n 2, 1) := by decide +kernel
theorem dX10_undoSales_2 : decode cX10_undoSales 2 = .ok (.iload_n 2, 1) := by decide +kernel
theorem dX10_undoSales_3 : decode cX10_undoSales 3 = .ok (.bipush 96, 2) := by decide +kernel
theorem dX10_undoSales_5 : decode cX10_undoSales 5 = .ok (.if_icmp .ge 26, 3) := by decide +kernel
theorem dX10_undoSales_8 : decode cX10_undoSales 8 = .ok (.aload_n 0, 1) := by decide +kernel
theorem dX10_undoSales_9 : decode cX10_undoSales 9 = .ok (.getfield 12, 3) := by decide +kernel
theorem dX10_undoSales_12 : decode cX10_undoSales 12 = .ok (.iload_n 2, 1) := by decide +kernel
theorem dX10_undoSales_13 : decode cX10_undoSales 13 = .ok (.iload_n 1, 1) := by decide +kernel
theorem dX10_undoSales_14 : decode cX10_undoSales 14 = .ok (.invokevirtual 186, 3) := by decide +kernel
theorem dX10_undoSales_17 : decode cX10_undoSales 17 = .ok (.ifCond .eq 8, 3) := by decide +kernel
theorem dX10_undoSales_20 : decode cX10_undoSales 20 = .ok (.aload_n 0, 1) := by decide +kernel
theorem dX10_undoSales_21 : decode cX10_undoSales 21 = .ok (.iload_n 2, 1) := by decide +kernel
theorem dX10_undoSales_22 : decode cX10_undoSales 22 = .ok (.invokevirtual 189, 3) := by decide +kernel
theorem dX10_undoSales_25 : decode cX10_undoSales 25 = .ok (.iinc 2 1, 3) := by decide +kernel
theorem dX10_undoSales_28 : decode cX10_undoSales 28 = .ok (.goto (-26), 3) := by decide +kernel
theorem dX10_undoSales_31 : decode cX10_undoSales 31 = .ok (.return_, 1) := by decide +kernel
theorem wX10_undoSales_J25 {p : Program} {l : Launch} {e : Env} {s : State} {m : MethodId} {args : Array Value} {below : List Frame} {meth : Method} {c : Code} {Y : Nat → ClassId} {D : va_G} {σ : Nat → Nat} {np b0 : Nat} {w : Nat} {r : Mc} {K2 : Mc → Int32 → Int32 → Option (Mc)} {M : Mc} {N : Md} {X1 : Int32} {X2 : Int32} (hE : EOK p s m args meth c cX10_undoSales 3 RX10 Y D σ np b0) (hr : meth.sig.returnType = none) (hw : is10 w) (hK2 : ∀ (M : Mc) (N : Md) (X1 : Int32) (X2 : Int32), K2 M X1 X2 = some r → Xw p l e (rmD 4) s m args below meth c 3 Y D σ np b0 0 0 (MQ below (QR Y D σ np b0 none r N) args s 0 0 (xA b0)) 2 [(0, .ref (σ w)), (1, .int X1), (2, .int X2)] [] M N) (hf : fX10_undoSales_J25 w K2 M X1 X2 = some r) : Xw p l e (rmD 4) s m args below meth c 3 Y D σ np b0 0 0 (MQ below (QR Y D σ np b0 none r N) args s 0 0 (xA b0)) 25 [(0, .ref (σ w)), (1, .int X1), (2, .int X2)] [] M N := by
  unfold fX10_undoSales_J25 at hf
  refine x_iinc hE 2 (X2 + nI 1) (L' := [(2, .int (X2 + nI 1)), (0, .ref (σ w)), (1, .int X1)]) dX10_undoSales_25 rfl rfl (by decide) rfl ?_
  refine x_pick [1, 2, 0] (L' := [(0, .ref (σ w)), (1, .int X1), (2, .int (X2 + nI 1))]) rfl ?_
  refine x_goto hE 2 dX10_undoSales_28 (by decide) ?_
  exact hK2 _ _ _ _ hf
theorem wX10_undoSales_L2 {p : Program} {l : Launch} {e : Env} {s : State} {m : MethodId} {args : Array Value} {below : List Frame} {meth : Method} {c : Code} {Y : Nat → ClassId} {D : va_G} {σ : Nat → Nat} {np b0 : Nat} {w : Nat} {r : Mc} (hE : EOK p s m args meth c cX10_undoSales 3 RX10 Y D σ np b0) (hr : meth.sig.returnType = none) (hw : is10 w) : ∀ (n : Nat) (M : Mc) (N : Md) (X1 : Int32) (X2 : Int32), fX10_undoSales_L2 w n M X1 X2 = some r → Xw p l e (rmD 4) s m args below meth c 3 Y D σ np b0 0 0 (MQ below (QR Y D σ np b0 none r N) args s 0 0 (xA b0)) 2 [(0, .ref (σ w)), (1, .int X1), (2, .int X2)] [] M N := by
  intro n
  induction n with
  | zero =>
    intro M N X1 X2 hf
    cases hf
  | succ n ih =>
    intro M N X1 X2 hf
    rw [fX10_undoSales_L2.eq_2] at hf
    refine x_iload_n hE 2 dX10_undoSales_2 rfl rfl ?_
    refine x_bipush hE (nI 96) dX10_undoSales_3 (by decide) ?_
    refine x_icmp_ge hE 31 dX10_undoSales_5 (by decide) hf (fun hf => ?_) (fun hf => ?_)
    · replace hf := Option.some.inj hf
      subst hf
      exact x_vreturn hE hr dX10_undoSales_31
    · refine x_aload_n hE 0 dX10_undoSales_8 rfl rfl ?_
      refine x_getR hE cl_10 (hE.kd (kO_10 hw)) (by decide) 1 (w + 1) rfl (by decide) lk_X10_12 dX10_undoSales_9 ?_
      refine x_iload_n hE 2 dX10_undoSales_12 rfl rfl ?_
      refine x_iload_n hE 1 dX10_undoSales_13 rfl rfl ?_
      obtain ⟨v2, hc1, hf⟩ := bnd_some hf
      refine x_callV1 hE [.int X2, .int X1] (rest := []) (v := .int v2) (c1 := M) (d1 := N) rfl yokX4_isBoughtBy yvX4_isBoughtBy lk_X10_186 rfl cl_4 (hE.kd (kO_4 (hL_10_1 hw))) (by decide) rfl rfl ⟨Nat.le_of_ble_eq_true rfl, Nat.le_of_ble_eq_true rfl⟩ ⟨Nat.zero_le _, Nat.zero_le _⟩ rfl (Nat.le_of_ble_eq_true rfl) dX10_undoSales_14 (mX4_isBoughtBy l (hL_10_1 hw) hc1) ?_
      refine x_if_eq hE 25 dX10_undoSales_17 (by decide) hf (fun hf => ?_) (fun hf => ?_)
      · exact wX10_undoSales_J25 hE hr hw (fun _ _ _ _ hf => ih _ _ _ _ hf) hf
      · refine x_aload_n hE 0 dX10_undoSales_20 rfl rfl ?_
        refine x_iload_n hE 2 dX10_undoSales_21 rfl rfl ?_
        obtain ⟨M4, hc3, hf⟩ := bnd_some hf
        refine x_callV0 hE [.int X2] (rest := []) (c1 := M4) (d1 := N) rfl yokX10_takeBack yvX10_takeBack lk_X10_189 rfl cl_10 (hE.kd (kO_10 hw)) (by decide) rfl rfl ⟨Nat.le_of_ble_eq_true rfl, Nat.le_of_ble_eq_true rfl⟩ ⟨Nat.zero_le _, Nat.zero_le _⟩ rfl (Nat.le_of_ble_eq_true rfl) dX10_undoSales_22 (mX10_takeBack l hw hc3) ?_
        exact wX10_undoSales_J25 hE hr hw (fun _ _ _ _ hf => ih _ _ _ _ hf) hf
theorem mX10_undoSales (l : Launch) {Y : Nat → ClassId} {D : va_G} {σ : Nat → Nat} {np b0 : Nat} {M : Mc} {N : Md} {w : Nat} {p0 : Int32} {r : Mc} (hw : is10 w) (hf : fX10_undoSales M w p0 = some r) : Met l yX10_undoSales (.code yX10_undoSales cX10_undoSales 3 none :: lw_g) (rmD 4) (PR Y D σ np b0 [.ref (σ w), .int p0] M N) (QR Y D σ np b0 none r N) 0 0 (xA b0) := by
  refine x_met (by decide) (Nat.le_of_ble_eq_true rfl) (fun p e s m args below meth c hE hr => ?_)
  unfold fX10_undoSales at hf
  refine x_pick [0, 1] (L' := [(0, .ref (σ w)), (1, .int p0)]) rfl ?_
  refine x_iconst hE (0 : Int32) dX10_undoSales_0 (by decide) ?_
  refine x_istore_n hE (L' := [(2, .int 0), (0, .ref (σ w)), (1, .int p0)]) dX10_undoSales_1 rfl (by decide) rfl ?_
  refine x_pick [1, 2, 0] (L' := [(0, .ref (σ w)), (1, .int p0), (2, .int 0)]) rfl ?_
  exact wX10_undoSales_L2 hE hr hw FU _ _ _ _ hf
theorem yokX10_undoSales : YOK yX10_undoSales cX10_undoSales 3 1 none := ⟨mem_g 1696 (by decide +kernel) (by decide +kernel), mem_g 133 (by decide +kernel) (by decide +kernel), by decide +kernel, by decide +kernel, by decide +kernel⟩
theorem yvX10_undoSales : YV yX10_undoSales := ⟨mem_g 1695 (by decide +kernel) (by decide +kernel), mem_g 40 (by decide +kernel) (by decide +kernel)⟩
theorem lk_X10_176 : Cond.methodLink RX10 176 yX2_isDue ∈ lw_g := mem_g 1685 (by decide +kernel) (by decide +kernel)
theorem lk_X10_180 : Cond.methodLink RX10 180 yX2_hear ∈ lw_g := mem_g 1689 (by decide +kernel) (by decide +kernel)
theorem lk_X10_183 : Cond.methodLink RX10 183 yX10_undoSales ∈ lw_g := mem_g 1693 (by decide +kernel) (by decide +kernel)
theorem dX10_readLaws_0 : decode cX10_readLaws 0 = .ok (.iconst 0, 1) := by decide +kernel
theorem dX10_readLaws_1 : decode cX10_readLaws 1 = .ok (.istore_n 1, 1) := by decide +kernel
theorem dX10_readLaws_2 : decode cX10_readLaws 2 = .ok (.iload_n 1, 1) := by decide +kernel
theorem dX10_readLaws_3 : decode cX10_readLaws 3 = .ok (.bipush 12, 2) := by decide +kernel
theorem dX10_readLaws_5 : decode cX10_readLaws 5 = .ok (.if_icmp .ge 40, 3) := by decide +kernel
theorem dX10_readLaws_8 : decode cX10_readLaws 8 = .ok (.aload_n 0, 1) := by decide +kernel
theorem dX10_readLaws_9 : decode cX10_readLaws 9 = .ok (.getfield 64, 3) := by decide +kernel
theorem dX10_readLaws_12 : decode cX10_readLaws 12 = .ok (.iload_n 1, 1) := by decide +kernel
theorem dX10_readLaws_13 : decode cX10_readLaws 13 = .ok (.aload_n 0, 1) := by decide +kernel
theorem dX10_readLaws_14 : decode cX10_readLaws 14 = .ok (.getfield 84, 3) := by decide +kernel
theorem dX10_readLaws_17 : decode cX10_readLaws 17 = .ok (.invokevirtual 176, 3) := by decide +kernel
theorem dX10_readLaws_20 : decode cX10_readLaws 20 = .ok (.ifCond .eq 19, 3) := by decide +kernel
theorem dX10_readLaws_23 : decode cX10_readLaws 23 = .ok (.aload_n 0, 1) := by decide +kernel
theorem dX10_readLaws_24 : decode cX10_readLaws 24 = .ok (.getfield 64, 3) := by decide +kernel
theorem dX10_readLaws_27 : decode cX10_readLaws 27 = .ok (.iload_n 1, 1) := by decide +kernel
theorem dX10_readLaws_28 : decode cX10_readLaws 28 = .ok (.invokevirtual 180, 3) := by decide +kernel
theorem dX10_readLaws_31 : decode cX10_readLaws 31 = .ok (.ifCond .eq 8, 3) := by decide +kernel
theorem dX10_readLaws_34 : decode cX10_readLaws 34 = .ok (.aload_n 0, 1) := by decide +kernel
theorem dX10_readLaws_35 : decode cX10_readLaws 35 = .ok (.iload_n 1, 1) := by decide +kernel
theorem dX10_readLaws_36 : decode cX10_readLaws 36 = .ok (.invokevirtual 183, 3) := by decide +kernel
theorem dX10_readLaws_39 : decode cX10_readLaws 39 = .ok (.iinc 1 1, 3) := by decide +kernel
theorem dX10_readLaws_42 : decode cX10_readLaws 42 = .ok (.goto (-40), 3) := by decide +kernel
theorem dX10_readLaws_45 : decode cX10_readLaws 45 = .ok (.return_, 1) := by decide +kernel
theorem wX10_readLaws_J39 {p : Program} {l : Launch} {e : Env} {s : State} {m : MethodId} {args : Array Value} {below : List Frame} {meth : Method} {c : Code} {Y : Nat → ClassId} {D : va_G} {σ : Nat → Nat} {np b0 : Nat} {w : Nat} {r : Mc} {K2 : Mc → Int32 → Option (Mc)} {M : Mc} {N : Md} {X1 : Int32} (hE : EOK p s m args meth c cX10_readLaws 2 RX10 Y D σ np b0) (hr : meth.sig.returnType = none) (hw : is10 w) (hK2 : ∀ (M : Mc) (N : Md) (X1 : Int32), K2 M X1 = some r → Xw p l e (rmD 5) s m args below meth c 2 Y D σ np b0 0 0 (MQ below (QR Y D σ np b0 none r N) args s 0 0 (xA b0)) 2 [(0, .ref (σ w)), (1, .int X1)] [] M N) (hf : fX10_readLaws_J39 w K2 M X1 = some r) : Xw p l e (rmD 5) s m args below meth c 2 Y D σ np b0 0 0 (MQ below (QR Y D σ np b0 none r N) args s 0 0 (xA b0)) 39 [(0, .ref (σ w)), (1, .int X1)] [] M N := by
  unfold fX10_readLaws_J39 at hf
  refine x_iinc hE 1 (X1 + nI 1) (L' := [(1, .int (X1 + nI 1)), (0, .ref (σ w))]) dX10_readLaws_39 rfl rfl (by decide) rfl ?_
  refine x_pick [1, 0] (L' := [(0, .ref (σ w)), (1, .int (X1 + nI 1))]) rfl ?_
  refine x_goto hE 2 dX10_readLaws_42 (by decide) ?_
  exact hK2 _ _ _ hf
theorem wX10_readLaws_L2 {p : Program} {l : Launch} {e : Env} {s : State} {m : MethodId} {args : Array Value} {below : List Frame} {meth : Method} {c : Code} {Y : Nat → ClassId} {D : va_G} {σ : Nat → Nat} {np b0 : Nat} {w : Nat} {r : Mc} (hE : EOK p s m args meth c cX10_readLaws 2 RX10 Y D σ np b0) (hr : meth.sig.returnType = none) (hw : is10 w) : ∀ (n : Nat) (M : Mc) (N : Md) (X1 : Int32), fX10_readLaws_L2 w n M X1 = some r → Xw p l e (rmD 5) s m args below meth c 2 Y D σ np b0 0 0 (MQ below (QR Y D σ np b0 none r N) args s 0 0 (xA b0)) 2 [(0, .ref (σ w)), (1, .int X1)] [] M N := by
  intro n
  induction n with
  | zero =>
    intro M N X1 hf
    cases hf
  | succ n ih =>
    intro M N X1 hf
    rw [fX10_readLaws_L2.eq_2] at hf
    refine x_iload_n hE 1 dX10_readLaws_2 rfl rfl ?_
    refine x_bipush hE (nI 12) dX10_readLaws_3 (by decide) ?_
    refine x_icmp_ge hE 45 dX10_readLaws_5 (by decide) hf (fun hf => ?_) (fun hf => ?_)
    · replace hf := Option.some.inj hf
      subst hf
      exact x_vreturn hE hr dX10_readLaws_45
    · refine x_aload_n hE 0 dX10_readLaws_8 rfl rfl ?_
      refine x_getR hE cl_10 (hE.kd (kO_10 hw)) (by decide) 5 (w + 37) rfl (by decide) lk_X10_64 dX10_readLaws_9 ?_
      refine x_iload_n hE 1 dX10_readLaws_12 rfl rfl ?_
      refine x_aload_n hE 0 dX10_readLaws_13 rfl rfl ?_
      refine x_getI hE cl_10 (hE.kd (kO_10 hw)) (by decide) 6 rfl (by decide) lk_X10_84 dX10_readLaws_14 ?_
      obtain ⟨v2, hc1, hf⟩ := bnd_some hf
      refine x_callV1 hE [.int X1, .int (M w 6)] (rest := []) (v := .int v2) (c1 := M) (d1 := N) rfl yokX2_isDue yvX2_isDue lk_X10_176 rfl cl_2 (hE.kd (kO_2 (hL_10_5 hw))) (by decide) rfl rfl ⟨Nat.le_of_ble_eq_true rfl, Nat.le_of_ble_eq_true rfl⟩ ⟨Nat.zero_le _, Nat.zero_le _⟩ rfl (Nat.le_of_ble_eq_true rfl) dX10_readLaws_17 (mX2_isDue l (hL_10_5 hw) hc1) ?_
      refine x_if_eq hE 39 dX10_readLaws_20 (by decide) hf (fun hf => ?_) (fun hf => ?_)
      · exact wX10_readLaws_J39 hE hr hw (fun _ _ _ hf => ih _ _ _ hf) hf
      · refine x_aload_n hE 0 dX10_readLaws_23 rfl rfl ?_
        refine x_getR hE cl_10 (hE.kd (kO_10 hw)) (by decide) 5 (w + 37) rfl (by decide) lk_X10_64 dX10_readLaws_24 ?_
        refine x_iload_n hE 1 dX10_readLaws_27 rfl rfl ?_
        obtain ⟨⟨v4, M5⟩, hc3, hf⟩ := bn2_some hf
        refine x_callV1 hE [.int X1] (rest := []) (v := .int v4) (c1 := M5) (d1 := N) rfl yokX2_hear yvX2_hear lk_X10_180 rfl cl_2 (hE.kd (kO_2 (hL_10_5 hw))) (by decide) rfl rfl ⟨Nat.le_of_ble_eq_true rfl, Nat.le_of_ble_eq_true rfl⟩ ⟨Nat.zero_le _, Nat.zero_le _⟩ rfl (Nat.le_of_ble_eq_true rfl) dX10_readLaws_28 (mX2_hear l (hL_10_5 hw) hc3) ?_
        refine x_if_eq hE 39 dX10_readLaws_31 (by decide) hf (fun hf => ?_) (fun hf => ?_)
        · exact wX10_readLaws_J39 hE hr hw (fun _ _ _ hf => ih _ _ _ hf) hf
        · refine x_aload_n hE 0 dX10_readLaws_34 rfl rfl ?_
          refine x_iload_n hE 1 dX10_readLaws_35 rfl rfl ?_
          obtain ⟨M7, hc6, hf⟩ := bnd_some hf
          refine x_callV0 hE [.int X1] (rest := []) (c1 := M7) (d1 := N) rfl yokX10_undoSales yvX10_undoSales lk_X10_183 rfl cl_10 (hE.kd (kO_10 hw)) (by decide) rfl rfl ⟨Nat.le_of_ble_eq_true rfl, Nat.le_of_ble_eq_true rfl⟩ ⟨Nat.zero_le _, Nat.zero_le _⟩ rfl (Nat.le_of_ble_eq_true rfl) dX10_readLaws_36 (mX10_undoSales l hw hc6) ?_
          exact wX10_readLaws_J39 hE hr hw (fun _ _ _ hf => ih _ _ _ hf) hf
theorem mX10_readLaws (l : Launch) {Y : Nat → ClassId} {D : va_G} {σ : Nat → Nat} {np b0 : Nat} {M : Mc} {N : Md} {w : Nat} {r : Mc} (hw : is10 w) (hf : fX10_readLaws M w = some r) : Met l yX10_readLaws (.code yX10_readLaws cX10_readLaws 2 none :: lw_g) (rmD 5) (PR Y D σ np b0 [.ref (σ w)] M N) (QR Y D σ np b0 none r N) 0 0 (xA b0) := by
  refine x_met (by decide) (Nat.le_of_ble_eq_true rfl) (fun p e s m args below meth c hE hr => ?_)
  unfold fX10_readLaws at hf
  refine x_pick [0] (L' := [(0, .ref (σ w))]) rfl ?_
  refine x_iconst hE (0 : Int32) dX10_readLaws_0 (by decide) ?_
  refine x_istore_n hE (L' := [(1, .int 0), (0, .ref (σ w))]) dX10_readLaws_1 rfl (by decide) rfl ?_
  refine x_pick [1, 0] (L' := [(0, .ref (σ w)), (1, .int 0)]) rfl ?_
  exact wX10_readLaws_L2 hE hr hw FU _ _ _ hf
theorem yokX10_readLaws : YOK yX10_readLaws cX10_readLaws 2 0 none := ⟨mem_g 1684 (by decide +kernel) (by decide +kernel), mem_g 133 (by decide +kernel) (by decide +kernel), by decide +kernel, by decide +kernel, by decide +kernel⟩
theorem yvX10_readLaws : YV yX10_readLaws := ⟨mem_g 1683 (by decide +kernel) (by decide +kernel), mem_g 39 (by decide +kernel) (by decide +kernel)⟩
theorem lk_X10_244 : Cond.methodLink RX10 244 yX4_findBestLot ∈ lw_g := mem_g 1742 (by decide +kernel) (by decide +kernel)
theorem lk_X10_52 : Cond.fieldLink RX10 52 (TX10 14).1 (TX10 14).2.1 (TX10 14).2.2.1 ∈ lw_g := mem_g 435 (by decide +kernel) (by decide +kernel)
theorem lk_X10_219 : Cond.fieldLink RX10 219 (TX10 15).1 (TX10 15).2.1 (TX10 15).2.2.1 ∈ lw_g := mem_g 436 (by decide +kernel) (by decide +kernel)
theorem lk_X10_213 : Cond.fieldLink RX10 213 (TX10 16).1 (TX10 16).2.1 (TX10 16).2.2.1 ∈ lw_g := mem_g 437 (by decide +kernel) (by decide +kernel)
theorem lk_X10_235 : Cond.fieldLink RX10 235 (TX10 17).1 (TX10 17).2.1 (TX10 17).2.2.1 ∈ lw_g := mem_g 438 (by decide +kernel) (by decide +kernel)
theorem lk_X10_140 : Cond.fieldLink RX10 140 (TX10 13).1 (TX10 13).2.1 (TX10 13).2.2.1 ∈ lw_g := mem_g 434 (by decide +kernel) (by decide +kernel)
theorem dX10_lookAround_0 : decode cX10_lookAround 0 = .ok (.aload_n 0, 1) := by decide +kernel
theorem dX10_lookAround_1 : decode cX10_lookAround 1 = .ok (.getfield 64, 3) := by decide +kernel
theorem dX10_lookAround_4 : decode cX10_lookAround 4 = .ok (.getfield 93, 3) := by decide +kernel
theorem dX10_lookAround_7 : decode cX10_lookAround 7 = .ok (.istore_n 1, 1) := by decide +kernel
theorem dX10_lookAround_8 : decode cX10_lookAround 8 = .ok (.aload_n 0, 1) := by decide +kernel
theorem dX10_lookAround_9 : decode cX10_lookAround 9 = .ok (.aload_n 0, 1) := by decide +kernel
theorem dX10_lookAround_10 : decode cX10_lookAround 10 = .ok (.getfield 12, 3) := by decide +kernel
theorem dX10_lookAround_13 : decode cX10_lookAround 13 = .ok (.invokevirtual 244, 3) := by decide +kernel
theorem dX10_lookAround_16 : decode cX10_lookAround 16 = .ok (.putfield 52, 3) := by decide +kernel
theorem dX10_lookAround_19 : decode cX10_lookAround 19 = .ok (.aload_n 0, 1) := by decide +kernel
theorem dX10_lookAround_20 : decode cX10_lookAround 20 = .ok (.aload_n 0, 1) := by decide +kernel
theorem dX10_lookAround_21 : decode cX10_lookAround 21 = .ok (.getfield 90, 3) := by decide +kernel
theorem dX10_lookAround_24 : decode cX10_lookAround 24 = .ok (.putfield 219, 3) := by decide +kernel
theorem dX10_lookAround_27 : decode cX10_lookAround 27 = .ok (.aload_n 0, 1) := by decide +kernel
theorem dX10_lookAround_28 : decode cX10_lookAround 28 = .ok (.getfield 90, 3) := by decide +kernel
theorem dX10_lookAround_31 : decode cX10_lookAround 31 = .ok (.ifCond .ne 47, 3) := by decide +kernel
theorem dX10_lookAround_34 : decode cX10_lookAround 34 = .ok (.aload_n 0, 1) := by decide +kernel
theorem dX10_lookAround_35 : decode cX10_lookAround 35 = .ok (.getfield 12, 3) := by decide +kernel
theorem dX10_lookAround_38 : decode cX10_lookAround 38 = .ok (.aload_n 0, 1) := by decide +kernel
theorem dX10_lookAround_39 : decode cX10_lookAround 39 = .ok (.getfield 52, 3) := by decide +kernel
theorem dX10_lookAround_42 : decode cX10_lookAround 42 = .ok (.invokevirtual 106, 3) := by decide +kernel
theorem dX10_lookAround_45 : decode cX10_lookAround 45 = .ok (.istore_n 2, 1) := by decide +kernel
theorem dX10_lookAround_46 : decode cX10_lookAround 46 = .ok (.aload_n 0, 1) := by decide +kernel
theorem dX10_lookAround_47 : decode cX10_lookAround 47 = .ok (.aload_n 0, 1) := by decide +kernel
theorem dX10_lookAround_48 : decode cX10_lookAround 48 = .ok (.getfield 64, 3) := by decide +kernel
theorem dX10_lookAround_51 : decode cX10_lookAround 51 = .ok (.iload_n 1, 1) := by decide +kernel
theorem dX10_lookAround_52 : decode cX10_lookAround 52 = .ok (.iconst 0, 1) := by decide +kernel
theorem dX10_lookAround_53 : decode cX10_lookAround 53 = .ok (.aload_n 0, 1) := by decide +kernel
theorem dX10_lookAround_54 : decode cX10_lookAround 54 = .ok (.getfield 84, 3) := by decide +kernel
theorem dX10_lookAround_57 : decode cX10_lookAround 57 = .ok (.aload_n 0, 1) := by decide +kernel
theorem dX10_lookAround_58 : decode cX10_lookAround 58 = .ok (.getfield 12, 3) := by decide +kernel
theorem dX10_lookAround_61 : decode cX10_lookAround 61 = .ok (.getfield 96, 3) := by decide +kernel
theorem dX10_lookAround_64 : decode cX10_lookAround 64 = .ok (.aload_n 0, 1) := by decide +kernel
theorem dX10_lookAround_65 : decode cX10_lookAround 65 = .ok (.getfield 21, 3) := by decide +kernel
theorem dX10_lookAround_68 : decode cX10_lookAround 68 = .ok (.getfield 99, 3) := by decide +kernel
theorem dX10_lookAround_71 : decode cX10_lookAround 71 = .ok (.iload_n 2, 1) := by decide +kernel
theorem dX10_lookAround_72 : decode cX10_lookAround 72 = .ok (.invokevirtual 102, 3) := by decide +kernel
theorem dX10_lookAround_75 : decode cX10_lookAround 75 = .ok (.putfield 219, 3) := by decide +kernel
theorem dX10_lookAround_78 : decode cX10_lookAround 78 = .ok (.aload_n 0, 1) := by decide +kernel
theorem dX10_lookAround_79 : decode cX10_lookAround 79 = .ok (.aload_n 0, 1) := by decide +kernel
theorem dX10_lookAround_80 : decode cX10_lookAround 80 = .ok (.getfield 64, 3) := by decide +kernel
theorem dX10_lookAround_83 : decode cX10_lookAround 83 = .ok (.iload_n 1, 1) := by decide +kernel
theorem dX10_lookAround_84 : decode cX10_lookAround 84 = .ok (.iconst 2, 1) := by decide +kernel
theorem dX10_lookAround_85 : decode cX10_lookAround 85 = .ok (.aload_n 0, 1) := by decide +kernel
theorem dX10_lookAround_86 : decode cX10_lookAround 86 = .ok (.getfield 84, 3) := by decide +kernel
theorem dX10_lookAround_89 : decode cX10_lookAround 89 = .ok (.aload_n 0, 1) := by decide +kernel
theorem dX10_lookAround_90 : decode cX10_lookAround 90 = .ok (.getfield 12, 3) := by decide +kernel
theorem dX10_lookAround_93 : decode cX10_lookAround 93 = .ok (.getfield 96, 3) := by decide +kernel
theorem dX10_lookAround_96 : decode cX10_lookAround 96 = .ok (.aload_n 0, 1) := by decide +kernel
theorem dX10_lookAround_97 : decode cX10_lookAround 97 = .ok (.getfield 21, 3) := by decide +kernel
theorem dX10_lookAround_100 : decode cX10_lookAround 100 = .ok (.getfield 99, 3) := by decide +kernel
theorem dX10_lookAround_103 : decode cX10_lookAround 103 = .ok (.iconst 0, 1) := by decide +kernel
theorem dX10_lookAround_104 : decode cX10_lookAround 104 = .ok (.invokevirtual 102, 3) := by decide +kernel
theorem dX10_lookAround_107 : decode cX10_lookAround 107 = .ok (.putfield 213, 3) := by decide +kernel
theorem dX10_lookAround_110 : decode cX10_lookAround 110 = .ok (.aload_n 0, 1) := by decide +kernel
theorem dX10_lookAround_111 : decode cX10_lookAround 111 = .ok (.iconst 0, 1) := by decide +kernel
theorem dX10_lookAround_112 : decode cX10_lookAround 112 = .ok (.putfield 235, 3) := by decide +kernel
theorem dX10_lookAround_115 : decode cX10_lookAround 115 = .ok (.aload_n 0, 1) := by decide +kernel
theorem dX10_lookAround_116 : decode cX10_lookAround 116 = .ok (.iconst 0, 1) := by decide +kernel
theorem dX10_lookAround_117 : decode cX10_lookAround 117 = .ok (.putfield 140, 3) := by decide +kernel
theorem dX10_lookAround_120 : decode cX10_lookAround 120 = .ok (.return_, 1) := by decide +kernel
theorem wX10_lookAround_J78 {p : Program} {l : Launch} {e : Env} {s : State} {m : MethodId} {args : Array Value} {below : List Frame} {meth : Method} {c : Code} {Y : Nat → ClassId} {D : va_G} {σ : Nat → Nat} {np b0 : Nat} {w : Nat} {r : Mc} {M : Mc} {N : Md} {X1 : Int32} (hE : EOK p s m args meth c cX10_lookAround 3 RX10 Y D σ np b0) (hr : meth.sig.returnType = none) (hw : is10 w) (hf : fX10_lookAround_J78 w M X1 = some r) : Xw p l e (rmD 4) s m args below meth c 3 Y D σ np b0 0 0 (MQ below (QR Y D σ np b0 none r N) args s 0 0 (xA b0)) 78 [(0, .ref (σ w)), (1, .int X1)] [] M N := by
  unfold fX10_lookAround_J78 at hf
  refine x_aload_n hE 0 dX10_lookAround_78 rfl rfl ?_
  refine x_aload_n hE 0 dX10_lookAround_79 rfl rfl ?_
  refine x_getR hE cl_10 (hE.kd (kO_10 hw)) (by decide) 5 (w + 37) rfl (by decide) lk_X10_64 dX10_lookAround_80 ?_
  refine x_iload_n hE 1 dX10_lookAround_83 rfl rfl ?_
  refine x_iconst hE (nI 2) dX10_lookAround_84 (by decide) ?_
  refine x_aload_n hE 0 dX10_lookAround_85 rfl rfl ?_
  refine x_getI hE cl_10 (hE.kd (kO_10 hw)) (by decide) 6 rfl (by decide) lk_X10_84 dX10_lookAround_86 ?_
  refine x_aload_n hE 0 dX10_lookAround_89 rfl rfl ?_
  refine x_getR hE cl_10 (hE.kd (kO_10 hw)) (by decide) 1 (w + 1) rfl (by decide) lk_X10_12 dX10_lookAround_90 ?_
  refine x_getI hE cl_4 (hE.kd (kO_4 (hL_10_1 hw))) (by decide) 9 rfl (by decide) lk_X10_96 dX10_lookAround_93 ?_
  refine x_aload_n hE 0 dX10_lookAround_96 rfl rfl ?_
  refine x_getR hE cl_10 (hE.kd (kO_10 hw)) (by decide) 2 (w + 15) rfl (by decide) lk_X10_21 dX10_lookAround_97 ?_
  refine x_getI hE cl_3 (hE.kd (kO_3 (hL_10_2 hw))) (by decide) 1 rfl (by decide) lk_X10_99 dX10_lookAround_100 ?_
  refine x_iconst hE (0 : Int32) dX10_lookAround_103 (by decide) ?_
  obtain ⟨⟨v13, M14⟩, hc12, hf⟩ := bn2_some hf
  refine x_callV1 hE [.int X1, .int (nI 2), .int (M w 6), .int (M (w + 1) 9), .int (M (w + 15) 1), .int 0] (rest := [.ref (σ w)]) (v := .int v13) (c1 := M14) (d1 := N) rfl yokX2_meaning yvX2_meaning lk_X10_102 rfl cl_2 (hE.kd (kO_2 (hL_10_5 hw))) (by decide) rfl rfl ⟨Nat.le_of_ble_eq_true rfl, Nat.le_of_ble_eq_true rfl⟩ ⟨Nat.zero_le _, Nat.zero_le _⟩ rfl (Nat.le_of_ble_eq_true rfl) dX10_lookAround_104 (mX2_meaning l (hL_10_5 hw) hc12) ?_
  refine x_putI hE cl_10 (hE.kd (kO_10 hw)) (by decide) 16 rfl (by decide) lk_X10_213 rfl rfl rfl rfl dX10_lookAround_107 hf (fun M15 hf => ?_)
  refine x_aload_n hE 0 dX10_lookAround_110 rfl rfl ?_
  refine x_iconst hE (0 : Int32) dX10_lookAround_111 (by decide) ?_
  refine x_putI hE cl_10 (hE.kd (kO_10 hw)) (by decide) 17 rfl (by decide) lk_X10_235 rfl rfl rfl rfl dX10_lookAround_112 hf (fun M16 hf => ?_)
  refine x_aload_n hE 0 dX10_lookAround_115 rfl rfl ?_
  refine x_iconst hE (0 : Int32) dX10_lookAround_116 (by decide) ?_
  refine x_putI hE cl_10 (hE.kd (kO_10 hw)) (by decide) 13 rfl (by decide) lk_X10_140 rfl rfl rfl rfl dX10_lookAround_117 hf (fun M17 hf => ?_)
  replace hf := Option.some.inj hf
  subst hf
  exact x_vreturn hE hr dX10_lookAround_120
theorem mX10_lookAround (l : Launch) {Y : Nat → ClassId} {D : va_G} {σ : Nat → Nat} {np b0 : Nat} {M : Mc} {N : Md} {w : Nat} {r : Mc} (hw : is10 w) (hf : fX10_lookAround M w = some r) : Met l yX10_lookAround (.code yX10_lookAround cX10_lookAround 3 none :: lw_g) (rmD 4) (PR Y D σ np b0 [.ref (σ w)] M N) (QR Y D σ np b0 none r N) 0 0 (xA b0) := by
  refine x_met (by decide) (Nat.le_of_ble_eq_true rfl) (fun p e s m args below meth c hE hr => ?_)
  unfold fX10_lookAround at hf
  refine x_pick [0] (L' := [(0, .ref (σ w))]) rfl ?_
  refine x_aload_n hE 0 dX10_lookAround_0 rfl rfl ?_
  refine x_getR hE cl_10 (hE.kd (kO_10 hw)) (by decide) 5 (w + 37) rfl (by decide) lk_X10_64 dX10_lookAround_1 ?_
  refine x_getI hE cl_2 (hE.kd (kO_2 (hL_10_5 hw))) (by decide) 2 rfl (by decide) lk_X10_93 dX10_lookAround_4 ?_
  refine x_ltI hf (fun v1 hf => ?_)
  refine x_istore_n hE (L' := [(1, .int v1), (0, .ref (σ w))]) dX10_lookAround_7 rfl (by decide) rfl ?_
  refine x_pick [1, 0] (L' := [(0, .ref (σ w)), (1, .int v1)]) rfl ?_
  refine x_aload_n hE 0 dX10_lookAround_8 rfl rfl ?_
  refine x_aload_n hE 0 dX10_lookAround_9 rfl rfl ?_
  refine x_getR hE cl_10 (hE.kd (kO_10 hw)) (by decide) 1 (w + 1) rfl (by decide) lk_X10_12 dX10_lookAround_10 ?_
  obtain ⟨v3, hc2, hf⟩ := bnd_some hf
  refine x_callV1 hE [] (rest := [.ref (σ w)]) (v := .int v3) (c1 := M) (d1 := N) rfl yokX4_findBestLot yvX4_findBestLot lk_X10_244 rfl cl_4 (hE.kd (kO_4 (hL_10_1 hw))) (by decide) rfl rfl ⟨Nat.le_of_ble_eq_true rfl, Nat.le_of_ble_eq_true rfl⟩ ⟨Nat.zero_le _, Nat.zero_le _⟩ rfl (Nat.le_of_ble_eq_true rfl) dX10_lookAround_13 (mX4_findBestLot l (hL_10_1 hw) hc2) ?_
  refine x_putI hE cl_10 (hE.kd (kO_10 hw)) (by decide) 14 rfl (by decide) lk_X10_52 rfl rfl rfl rfl dX10_lookAround_16 hf (fun M4 hf => ?_)
  refine x_aload_n hE 0 dX10_lookAround_19 rfl rfl ?_
  refine x_aload_n hE 0 dX10_lookAround_20 rfl rfl ?_
  refine x_getI hE cl_10 (hE.kd (kO_10 hw)) (by decide) 10 rfl (by decide) lk_X10_90 dX10_lookAround_21 ?_
  refine x_putI hE cl_10 (hE.kd (kO_10 hw)) (by decide) 15 rfl (by decide) lk_X10_219 rfl rfl rfl rfl dX10_lookAround_24 hf (fun M5 hf => ?_)
  refine x_aload_n hE 0 dX10_lookAround_27 rfl rfl ?_
  refine x_getI hE cl_10 (hE.kd (kO_10 hw)) (by decide) 10 rfl (by decide) lk_X10_90 dX10_lookAround_28 ?_
  refine x_if_ne hE 78 dX10_lookAround_31 (by decide) hf (fun hf => ?_) (fun hf => ?_)
  · exact wX10_lookAround_J78 hE hr hw hf
  · refine x_aload_n hE 0 dX10_lookAround_34 rfl rfl ?_
    refine x_getR hE cl_10 (hE.kd (kO_10 hw)) (by decide) 1 (w + 1) rfl (by decide) lk_X10_12 dX10_lookAround_35 ?_
    refine x_aload_n hE 0 dX10_lookAround_38 rfl rfl ?_
    refine x_getI hE cl_10 (hE.kd (kO_10 hw)) (by decide) 14 rfl (by decide) lk_X10_52 dX10_lookAround_39 ?_
    obtain ⟨v7, hc6, hf⟩ := bnd_some hf
    refine x_callV1 hE [.int (M5 w 14)] (rest := []) (v := .int v7) (c1 := M5) (d1 := N) rfl yokX4_soilOf yvX4_soilOf lk_X10_106 rfl cl_4 (hE.kd (kO_4 (hL_10_1 hw))) (by decide) rfl rfl ⟨Nat.le_of_ble_eq_true rfl, Nat.le_of_ble_eq_true rfl⟩ ⟨Nat.zero_le _, Nat.zero_le _⟩ rfl (Nat.le_of_ble_eq_true rfl) dX10_lookAround_42 (mX4_soilOf l (hL_10_1 hw) hc6) ?_
    refine x_istore_n hE (L' := [(2, .int v7), (0, .ref (σ w)), (1, .int v1)]) dX10_lookAround_45 rfl (by decide) rfl ?_
    refine x_pick [1, 2, 0] (L' := [(0, .ref (σ w)), (1, .int v1), (2, .int v7)]) rfl ?_
    refine x_aload_n hE 0 dX10_lookAround_46 rfl rfl ?_
    refine x_aload_n hE 0 dX10_lookAround_47 rfl rfl ?_
    refine x_getR hE cl_10 (hE.kd (kO_10 hw)) (by decide) 5 (w + 37) rfl (by decide) lk_X10_64 dX10_lookAround_48 ?_
    refine x_iload_n hE 1 dX10_lookAround_51 rfl rfl ?_
    refine x_iconst hE (0 : Int32) dX10_lookAround_52 (by decide) ?_
    refine x_aload_n hE 0 dX10_lookAround_53 rfl rfl ?_
    refine x_getI hE cl_10 (hE.kd (kO_10 hw)) (by decide) 6 rfl (by decide) lk_X10_84 dX10_lookAround_54 ?_
    refine x_aload_n hE 0 dX10_lookAround_57 rfl rfl ?_
    refine x_getR hE cl_10 (hE.kd (kO_10 hw)) (by decide) 1 (w + 1) rfl (by decide) lk_X10_12 dX10_lookAround_58 ?_
    refine x_getI hE cl_4 (hE.kd (kO_4 (hL_10_1 hw))) (by decide) 9 rfl (by decide) lk_X10_96 dX10_lookAround_61 ?_
    refine x_aload_n hE 0 dX10_lookAround_64 rfl rfl ?_
    refine x_getR hE cl_10 (hE.kd (kO_10 hw)) (by decide) 2 (w + 15) rfl (by decide) lk_X10_21 dX10_lookAround_65 ?_
    refine x_getI hE cl_3 (hE.kd (kO_3 (hL_10_2 hw))) (by decide) 1 rfl (by decide) lk_X10_99 dX10_lookAround_68 ?_
    refine x_iload_n hE 2 dX10_lookAround_71 rfl rfl ?_
    obtain ⟨⟨v9, M10⟩, hc8, hf⟩ := bn2_some hf
    refine x_callV1 hE [.int v1, .int 0, .int (M5 w 6), .int (M5 (w + 1) 9), .int (M5 (w + 15) 1), .int v7] (rest := [.ref (σ w)]) (v := .int v9) (c1 := M10) (d1 := N) rfl yokX2_meaning yvX2_meaning lk_X10_102 rfl cl_2 (hE.kd (kO_2 (hL_10_5 hw))) (by decide) rfl rfl ⟨Nat.le_of_ble_eq_true rfl, Nat.le_of_ble_eq_true rfl⟩ ⟨Nat.zero_le _, Nat.zero_le _⟩ rfl (Nat.le_of_ble_eq_true rfl) dX10_lookAround_72 (mX2_meaning l (hL_10_5 hw) hc8) ?_
    refine x_putI hE cl_10 (hE.kd (kO_10 hw)) (by decide) 15 rfl (by decide) lk_X10_219 rfl rfl rfl rfl dX10_lookAround_75 hf (fun M11 hf => ?_)
    refine x_pick [0, 1] (L' := [(0, .ref (σ w)), (1, .int v1)]) rfl ?_
    exact wX10_lookAround_J78 hE hr hw hf
theorem yokX10_lookAround : YOK yX10_lookAround cX10_lookAround 3 0 none := ⟨mem_g 1741 (by decide +kernel) (by decide +kernel), mem_g 133 (by decide +kernel) (by decide +kernel), by decide +kernel, by decide +kernel, by decide +kernel⟩
theorem yvX10_lookAround : YV yX10_lookAround := ⟨mem_g 1740 (by decide +kernel) (by decide +kernel), mem_g 45 (by decide +kernel) (by decide +kernel)⟩
theorem lk_X10_238 : Cond.methodLink RX10 238 yX3_findBoss ∈ lw_g := mem_g 1761 (by decide +kernel) (by decide +kernel)
theorem lk_X10_241 : Cond.methodLink RX10 241 yX3_hireBy ∈ lw_g := mem_g 1765 (by decide +kernel) (by decide +kernel)
theorem dX10_seekWork_0 : decode cX10_seekWork 0 = .ok (.aload_n 0, 1) := by decide +kernel
theorem dX10_seekWork_1 : decode cX10_seekWork 1 = .ok (.getfield 235, 3) := by decide +kernel
theorem dX10_seekWork_4 : decode cX10_seekWork 4 = .ok (.ifCond .eq 7, 3) := by decide +kernel
theorem dX10_seekWork_7 : decode cX10_seekWork 7 = .ok (.iconst (-1), 1) := by decide +kernel
theorem dX10_seekWork_8 : decode cX10_seekWork 8 = .ok (.goto 14, 3) := by decide +kernel
theorem dX10_seekWork_11 : decode cX10_seekWork 11 = .ok (.aload_n 0, 1) := by decide +kernel
theorem dX10_seekWork_12 : decode cX10_seekWork 12 = .ok (.getfield 21, 3) := by decide +kernel
theorem dX10_seekWork_15 : decode cX10_seekWork 15 = .ok (.aload_n 0, 1) := by decide +kernel
theorem dX10_seekWork_16 : decode cX10_seekWork 16 = .ok (.getfield 213, 3) := by decide +kernel
theorem dX10_seekWork_19 : decode cX10_seekWork 19 = .ok (.invokevirtual 238, 3) := by decide +kernel
theorem dX10_seekWork_22 : decode cX10_seekWork 22 = .ok (.istore_n 2, 1) := by decide +kernel
theorem dX10_seekWork_23 : decode cX10_seekWork 23 = .ok (.aload_n 0, 1) := by decide +kernel
theorem dX10_seekWork_24 : decode cX10_seekWork 24 = .ok (.iload_n 2, 1) := by decide +kernel
theorem dX10_seekWork_25 : decode cX10_seekWork 25 = .ok (.iconst (-1), 1) := by decide +kernel
theorem dX10_seekWork_26 : decode cX10_seekWork 26 = .ok (.if_icmp .ne 7, 3) := by decide +kernel
theorem dX10_seekWork_29 : decode cX10_seekWork 29 = .ok (.iconst 1, 1) := by decide +kernel
theorem dX10_seekWork_30 : decode cX10_seekWork 30 = .ok (.goto 4, 3) := by decide +kernel
theorem dX10_seekWork_33 : decode cX10_seekWork 33 = .ok (.iconst 0, 1) := by decide +kernel
theorem dX10_seekWork_34 : decode cX10_seekWork 34 = .ok (.putfield 235, 3) := by decide +kernel
theorem dX10_seekWork_37 : decode cX10_seekWork 37 = .ok (.aload_n 0, 1) := by decide +kernel
theorem dX10_seekWork_38 : decode cX10_seekWork 38 = .ok (.getfield 21, 3) := by decide +kernel
theorem dX10_seekWork_41 : decode cX10_seekWork 41 = .ok (.iload_n 1, 1) := by decide +kernel
theorem dX10_seekWork_42 : decode cX10_seekWork 42 = .ok (.iload_n 2, 1) := by decide +kernel
theorem dX10_seekWork_43 : decode cX10_seekWork 43 = .ok (.invokevirtual 241, 3) := by decide +kernel
theorem dX10_seekWork_46 : decode cX10_seekWork 46 = .ok (.return_, 1) := by decide +kernel
theorem wX10_seekWork_J34 {p : Program} {l : Launch} {e : Env} {s : State} {m : MethodId} {args : Array Value} {below : List Frame} {meth : Method} {c : Code} {Y : Nat → ClassId} {D : va_G} {σ : Nat → Nat} {np b0 : Nat} {w : Nat} {r : Mc} {M : Mc} {N : Md} {X1 : Int32} {X2 : Int32} {Z0 : Int32} (hE : EOK p s m args meth c cX10_seekWork 3 RX10 Y D σ np b0) (hr : meth.sig.returnType = none) (hw : is10 w) (hf : fX10_seekWork_J34 w M X1 X2 Z0 = some r) : Xw p l e (rmD 3) s m args below meth c 3 Y D σ np b0 0 0 (MQ below (QR Y D σ np b0 none r N) args s 0 0 (xA b0)) 34 [(0, .ref (σ w)), (1, .int X1), (2, .int X2)] [.int Z0, .ref (σ w)] M N := by
  unfold fX10_seekWork_J34 at hf
  have hz := (chp_some hf).1
  replace hf := (chp_some hf).2
  refine x_putI hE cl_10 (hE.kd (kO_10 hw)) (by decide) 17 rfl (by decide) lk_X10_235 rfl rfl (nar_Z hz) (fit_Z hz) dX10_seekWork_34 hf (fun M3 hf => ?_)
  refine x_aload_n hE 0 dX10_seekWork_37 rfl rfl ?_
  refine x_getR hE cl_10 (hE.kd (kO_10 hw)) (by decide) 2 (w + 15) rfl (by decide) lk_X10_21 dX10_seekWork_38 ?_
  refine x_iload_n hE 1 dX10_seekWork_41 rfl rfl ?_
  refine x_iload_n hE 2 dX10_seekWork_42 rfl rfl ?_
  obtain ⟨M5, hc4, hf⟩ := bnd_some hf
  refine x_callV0 hE [.int X1, .int X2] (rest := []) (c1 := M5) (d1 := N) rfl yokX3_hireBy yvX3_hireBy lk_X10_241 rfl cl_3 (hE.kd (kO_3 (hL_10_2 hw))) (by decide) rfl rfl ⟨Nat.le_of_ble_eq_true rfl, Nat.le_of_ble_eq_true rfl⟩ ⟨Nat.zero_le _, Nat.zero_le _⟩ rfl (Nat.le_of_ble_eq_true rfl) dX10_seekWork_43 (mX3_hireBy l (hL_10_2 hw) hc4) ?_
  replace hf := Option.some.inj hf
  subst hf
  exact x_vreturn hE hr dX10_seekWork_46
theorem wX10_seekWork_J22 {p : Program} {l : Launch} {e : Env} {s : State} {m : MethodId} {args : Array Value} {below : List Frame} {meth : Method} {c : Code} {Y : Nat → ClassId} {D : va_G} {σ : Nat → Nat} {np b0 : Nat} {w : Nat} {r : Mc} {M : Mc} {N : Md} {X1 : Int32} {Z0 : Int32} (hE : EOK p s m args meth c cX10_seekWork 3 RX10 Y D σ np b0) (hr : meth.sig.returnType = none) (hw : is10 w) (hf : fX10_seekWork_J22 w M X1 Z0 = some r) : Xw p l e (rmD 3) s m args below meth c 3 Y D σ np b0 0 0 (MQ below (QR Y D σ np b0 none r N) args s 0 0 (xA b0)) 22 [(0, .ref (σ w)), (1, .int X1)] [.int Z0] M N := by
  unfold fX10_seekWork_J22 at hf
  refine x_istore_n hE (L' := [(2, .int Z0), (0, .ref (σ w)), (1, .int X1)]) dX10_seekWork_22 rfl (by decide) rfl ?_
  refine x_pick [1, 2, 0] (L' := [(0, .ref (σ w)), (1, .int X1), (2, .int Z0)]) rfl ?_
  refine x_aload_n hE 0 dX10_seekWork_23 rfl rfl ?_
  refine x_iload_n hE 2 dX10_seekWork_24 rfl rfl ?_
  refine x_iconst hE (-1) dX10_seekWork_25 (by decide) ?_
  refine x_icmp_ne hE 33 dX10_seekWork_26 (by decide) hf (fun hf => ?_) (fun hf => ?_)
  · refine x_iconst hE (0 : Int32) dX10_seekWork_33 (by decide) ?_
    exact wX10_seekWork_J34 hE hr hw hf
  · refine x_iconst hE (nI 1) dX10_seekWork_29 (by decide) ?_
    refine x_goto hE 34 dX10_seekWork_30 (by decide) ?_
    exact wX10_seekWork_J34 hE hr hw hf
theorem mX10_seekWork (l : Launch) {Y : Nat → ClassId} {D : va_G} {σ : Nat → Nat} {np b0 : Nat} {M : Mc} {N : Md} {w : Nat} {p0 : Int32} {r : Mc} (hw : is10 w) (hf : fX10_seekWork M w p0 = some r) : Met l yX10_seekWork (.code yX10_seekWork cX10_seekWork 3 none :: lw_g) (rmD 3) (PR Y D σ np b0 [.ref (σ w), .int p0] M N) (QR Y D σ np b0 none r N) 0 0 (xA b0) := by
  refine x_met (by decide) (Nat.le_of_ble_eq_true rfl) (fun p e s m args below meth c hE hr => ?_)
  unfold fX10_seekWork at hf
  refine x_pick [0, 1] (L' := [(0, .ref (σ w)), (1, .int p0)]) rfl ?_
  refine x_aload_n hE 0 dX10_seekWork_0 rfl rfl ?_
  refine x_getI hE cl_10 (hE.kd (kO_10 hw)) (by decide) 17 rfl (by decide) lk_X10_235 dX10_seekWork_1 ?_
  refine x_if_eq hE 11 dX10_seekWork_4 (by decide) hf (fun hf => ?_) (fun hf => ?_)
  · refine x_aload_n hE 0 dX10_seekWork_11 rfl rfl ?_
    refine x_getR hE cl_10 (hE.kd (kO_10 hw)) (by decide) 2 (w + 15) rfl (by decide) lk_X10_21 dX10_seekWork_12 ?_
    refine x_aload_n hE 0 dX10_seekWork_15 rfl rfl ?_
    refine x_getI hE cl_10 (hE.kd (kO_10 hw)) (by decide) 16 rfl (by decide) lk_X10_213 dX10_seekWork_16 ?_
    obtain ⟨v2, hc1, hf⟩ := bnd_some hf
    refine x_callV1 hE [.int (M w 16)] (rest := []) (v := .int v2) (c1 := M) (d1 := N) rfl yokX3_findBoss yvX3_findBoss lk_X10_238 rfl cl_3 (hE.kd (kO_3 (hL_10_2 hw))) (by decide) rfl rfl ⟨Nat.le_of_ble_eq_true rfl, Nat.le_of_ble_eq_true rfl⟩ ⟨Nat.zero_le _, Nat.zero_le _⟩ rfl (Nat.le_of_ble_eq_true rfl) dX10_seekWork_19 (mX3_findBoss l (hL_10_2 hw) hc1) ?_
    exact wX10_seekWork_J22 hE hr hw hf
  · refine x_iconst hE (-1) dX10_seekWork_7 (by decide) ?_
    refine x_goto hE 22 dX10_seekWork_8 (by decide) ?_
    exact wX10_seekWork_J22 hE hr hw hf
theorem yokX10_seekWork : YOK yX10_seekWork cX10_seekWork 3 1 none := ⟨mem_g 1760 (by decide +kernel) (by decide +kernel), mem_g 133 (by decide +kernel) (by decide +kernel), by decide +kernel, by decide +kernel, by decide +kernel⟩
theorem yvX10_seekWork : YV yX10_seekWork := ⟨mem_g 1759 (by decide +kernel) (by decide +kernel), mem_g 46 (by decide +kernel) (by decide +kernel)⟩
theorem lk_X10_207 : Cond.methodLink RX10 207 yX10_lookAround ∈ lw_g := mem_g 1738 (by decide +kernel) (by decide +kernel)
theorem lk_X10_210 : Cond.methodLink RX10 210 yX3_stateOf ∈ lw_g := mem_g 1747 (by decide +kernel) (by decide +kernel)
theorem lk_X10_216 : Cond.methodLink RX10 216 yX3_payWage ∈ lw_g := mem_g 1748 (by decide +kernel) (by decide +kernel)
theorem lk_X10_222 : Cond.methodLink RX10 222 yX3_canPay ∈ lw_g := mem_g 1755 (by decide +kernel) (by decide +kernel)
theorem lk_X10_225 : Cond.methodLink RX10 225 yX10_sell ∈ lw_g := mem_g 1756 (by decide +kernel) (by decide +kernel)
theorem lk_X10_229 : Cond.methodLink RX10 229 yX10_seekWork ∈ lw_g := mem_g 1757 (by decide +kernel) (by decide +kernel)
theorem lk_X10_232 : Cond.methodLink RX10 232 yX3_starve ∈ lw_g := mem_g 1769 (by decide +kernel) (by decide +kernel)
theorem dX10_act_0 : decode cX10_act 0 = .ok (.aload_n 0, 1) := by decide +kernel
theorem dX10_act_1 : decode cX10_act 1 = .ok (.getfield 140, 3) := by decide +kernel
theorem dX10_act_4 : decode cX10_act 4 = .ok (.ifCond .eq 7, 3) := by decide +kernel
theorem dX10_act_7 : decode cX10_act 7 = .ok (.aload_n 0, 1) := by decide +kernel
theorem dX10_act_8 : decode cX10_act 8 = .ok (.invokevirtual 207, 3) := by decide +kernel
theorem dX10_act_11 : decode cX10_act 11 = .ok (.aload_n 0, 1) := by decide +kernel
theorem dX10_act_12 : decode cX10_act 12 = .ok (.getfield 21, 3) := by decide +kernel
theorem dX10_act_15 : decode cX10_act 15 = .ok (.iload_n 1, 1) := by decide +kernel
theorem dX10_act_16 : decode cX10_act 16 = .ok (.invokevirtual 210, 3) := by decide +kernel
theorem dX10_act_19 : decode cX10_act 19 = .ok (.iconst 3, 1) := by decide +kernel
theorem dX10_act_20 : decode cX10_act 20 = .ok (.if_icmp .ne 15, 3) := by decide +kernel
theorem dX10_act_23 : decode cX10_act 23 = .ok (.aload_n 0, 1) := by decide +kernel
theorem dX10_act_24 : decode cX10_act 24 = .ok (.getfield 21, 3) := by decide +kernel
theorem dX10_act_27 : decode cX10_act 27 = .ok (.iload_n 1, 1) := by decide +kernel
theorem dX10_act_28 : decode cX10_act 28 = .ok (.aload_n 0, 1) := by decide +kernel
theorem dX10_act_29 : decode cX10_act 29 = .ok (.getfield 213, 3) := by decide +kernel
theorem dX10_act_32 : decode cX10_act 32 = .ok (.invokevirtual 216, 3) := by decide +kernel
theorem dX10_act_35 : decode cX10_act 35 = .ok (.aload_n 0, 1) := by decide +kernel
theorem dX10_act_36 : decode cX10_act 36 = .ok (.getfield 21, 3) := by decide +kernel
theorem dX10_act_39 : decode cX10_act 39 = .ok (.iload_n 1, 1) := by decide +kernel
theorem dX10_act_40 : decode cX10_act 40 = .ok (.invokevirtual 210, 3) := by decide +kernel
theorem dX10_act_43 : decode cX10_act 43 = .ok (.iconst 4, 1) := by decide +kernel
theorem dX10_act_44 : decode cX10_act 44 = .ok (.if_icmp .eq 47, 3) := by decide +kernel
theorem dX10_act_47 : decode cX10_act 47 = .ok (.aload_n 0, 1) := by decide +kernel
theorem dX10_act_48 : decode cX10_act 48 = .ok (.getfield 52, 3) := by decide +kernel
theorem dX10_act_51 : decode cX10_act 51 = .ok (.iconst (-1), 1) := by decide +kernel
theorem dX10_act_52 : decode cX10_act 52 = .ok (.if_icmp .eq 39, 3) := by decide +kernel
theorem dX10_act_55 : decode cX10_act 55 = .ok (.aload_n 0, 1) := by decide +kernel
theorem dX10_act_56 : decode cX10_act 56 = .ok (.getfield 21, 3) := by decide +kernel
theorem dX10_act_59 : decode cX10_act 59 = .ok (.iload_n 1, 1) := by decide +kernel
theorem dX10_act_60 : decode cX10_act 60 = .ok (.aload_n 0, 1) := by decide +kernel
theorem dX10_act_61 : decode cX10_act 61 = .ok (.getfield 219, 3) := by decide +kernel
theorem dX10_act_64 : decode cX10_act 64 = .ok (.bipush 10, 2) := by decide +kernel
theorem dX10_act_66 : decode cX10_act 66 = .ok (.iadd, 1) := by decide +kernel
theorem dX10_act_67 : decode cX10_act 67 = .ok (.invokevirtual 222, 3) := by decide +kernel
theorem dX10_act_70 : decode cX10_act 70 = .ok (.ifCond .eq 21, 3) := by decide +kernel
theorem dX10_act_73 : decode cX10_act 73 = .ok (.aload_n 0, 1) := by decide +kernel
theorem dX10_act_74 : decode cX10_act 74 = .ok (.iload_n 1, 1) := by decide +kernel
theorem dX10_act_75 : decode cX10_act 75 = .ok (.aload_n 0, 1) := by decide +kernel
theorem dX10_act_76 : decode cX10_act 76 = .ok (.getfield 52, 3) := by decide +kernel
theorem dX10_act_79 : decode cX10_act 79 = .ok (.aload_n 0, 1) := by decide +kernel
theorem dX10_act_80 : decode cX10_act 80 = .ok (.getfield 219, 3) := by decide +kernel
theorem dX10_act_83 : decode cX10_act 83 = .ok (.invokevirtual 225, 3) := by decide +kernel
theorem dX10_act_86 : decode cX10_act 86 = .ok (.aload_n 0, 1) := by decide +kernel
theorem dX10_act_87 : decode cX10_act 87 = .ok (.iconst 1, 1) := by decide +kernel
theorem dX10_act_88 : decode cX10_act 88 = .ok (.putfield 140, 3) := by decide +kernel
theorem dX10_act_91 : decode cX10_act 91 = .ok (.aload_n 0, 1) := by decide +kernel
theorem dX10_act_92 : decode cX10_act 92 = .ok (.getfield 21, 3) := by decide +kernel
theorem dX10_act_95 : decode cX10_act 95 = .ok (.iload_n 1, 1) := by decide +kernel
theorem dX10_act_96 : decode cX10_act 96 = .ok (.invokevirtual 210, 3) := by decide +kernel
theorem dX10_act_99 : decode cX10_act 99 = .ok (.iconst 2, 1) := by decide +kernel
theorem dX10_act_100 : decode cX10_act 100 = .ok (.if_icmp .ne 8, 3) := by decide +kernel
theorem dX10_act_103 : decode cX10_act 103 = .ok (.aload_n 0, 1) := by decide +kernel
theorem dX10_act_104 : decode cX10_act 104 = .ok (.iload_n 1, 1) := by decide +kernel
theorem dX10_act_105 : decode cX10_act 105 = .ok (.invokevirtual 229, 3) := by decide +kernel
theorem dX10_act_108 : decode cX10_act 108 = .ok (.aload_n 0, 1) := by decide +kernel
theorem dX10_act_109 : decode cX10_act 109 = .ok (.getfield 39, 3) := by decide +kernel
theorem dX10_act_112 : decode cX10_act 112 = .ok (.ifCond .le 16, 3) := by decide +kernel
theorem dX10_act_115 : decode cX10_act 115 = .ok (.aload_n 0, 1) := by decide +kernel
theorem dX10_act_116 : decode cX10_act 116 = .ok (.dup, 1) := by decide +kernel
theorem dX10_act_117 : decode cX10_act 117 = .ok (.getfield 39, 3) := by decide +kernel
theorem dX10_act_120 : decode cX10_act 120 = .ok (.iconst 1, 1) := by decide +kernel
theorem dX10_act_121 : decode cX10_act 121 = .ok (.isub, 1) := by decide +kernel
theorem dX10_act_122 : decode cX10_act 122 = .ok (.putfield 39, 3) := by decide +kernel
theorem dX10_act_125 : decode cX10_act 125 = .ok (.goto 11, 3) := by decide +kernel
theorem dX10_act_128 : decode cX10_act 128 = .ok (.aload_n 0, 1) := by decide +kernel
theorem dX10_act_129 : decode cX10_act 129 = .ok (.getfield 21, 3) := by decide +kernel
theorem dX10_act_132 : decode cX10_act 132 = .ok (.iload_n 1, 1) := by decide +kernel
theorem dX10_act_133 : decode cX10_act 133 = .ok (.invokevirtual 232, 3) := by decide +kernel
theorem dX10_act_136 : decode cX10_act 136 = .ok (.return_, 1) := by decide +kernel
theorem wX10_act_J108 {p : Program} {l : Launch} {e : Env} {s : State} {m : MethodId} {args : Array Value} {below : List Frame} {meth : Method} {c : Code} {Y : Nat → ClassId} {D : va_G} {σ : Nat → Nat} {np b0 : Nat} {w : Nat} {r : Mc} {M : Mc} {N : Md} {X1 : Int32} (hE : EOK p s m args meth c cX10_act 2 RX10 Y D σ np b0) (hr : meth.sig.returnType = none) (hw : is10 w) (hf : fX10_act_J108 w M X1 = some r) : Xw p l e (rmD 5) s m args below meth c 2 Y D σ np b0 0 0 (MQ below (QR Y D σ np b0 none r N) args s 0 0 (xA b0)) 108 [(0, .ref (σ w)), (1, .int X1)] [] M N := by
  unfold fX10_act_J108 at hf
  refine x_aload_n hE 0 dX10_act_108 rfl rfl ?_
  refine x_getI hE cl_10 (hE.kd (kO_10 hw)) (by decide) 7 rfl (by decide) lk_X10_39 dX10_act_109 ?_
  refine x_if_le hE 128 dX10_act_112 (by decide) hf (fun hf => ?_) (fun hf => ?_)
  · refine x_aload_n hE 0 dX10_act_128 rfl rfl ?_
    refine x_getR hE cl_10 (hE.kd (kO_10 hw)) (by decide) 2 (w + 15) rfl (by decide) lk_X10_21 dX10_act_129 ?_
    refine x_iload_n hE 1 dX10_act_132 rfl rfl ?_
    obtain ⟨M19, hc18, hf⟩ := bnd_some hf
    refine x_callV0 hE [.int X1] (rest := []) (c1 := M19) (d1 := N) rfl yokX3_starve yvX3_starve lk_X10_232 rfl cl_3 (hE.kd (kO_3 (hL_10_2 hw))) (by decide) rfl rfl ⟨Nat.le_of_ble_eq_true rfl, Nat.le_of_ble_eq_true rfl⟩ ⟨Nat.zero_le _, Nat.zero_le _⟩ rfl (Nat.le_of_ble_eq_true rfl) dX10_act_133 (mX3_starve l (hL_10_2 hw) hc18) ?_
    replace hf := Option.some.inj hf
    subst hf
    exact x_vreturn hE hr dX10_act_136
  · refine x_aload_n hE 0 dX10_act_115 rfl rfl ?_
    refine x_dup hE dX10_act_116 rfl ?_
    refine x_getI hE cl_10 (hE.kd (kO_10 hw)) (by decide) 7 rfl (by decide) lk_X10_39 dX10_act_117 ?_
    refine x_iconst hE (nI 1) dX10_act_120 (by decide) ?_
    refine x_isub hE dX10_act_121 ?_
    refine x_putI hE cl_10 (hE.kd (kO_10 hw)) (by decide) 7 rfl (by decide) lk_X10_39 rfl rfl rfl rfl dX10_act_122 hf (fun M20 hf => ?_)
    refine x_goto hE 136 dX10_act_125 (by decide) ?_
    replace hf := Option.some.inj hf
    subst hf
    exact x_vreturn hE hr dX10_act_136
theorem wX10_act_J91 {p : Program} {l : Launch} {e : Env} {s : State} {m : MethodId} {args : Array Value} {below : List Frame} {meth : Method} {c : Code} {Y : Nat → ClassId} {D : va_G} {σ : Nat → Nat} {np b0 : Nat} {w : Nat} {r : Mc} {M : Mc} {N : Md} {X1 : Int32} (hE : EOK p s m args meth c cX10_act 2 RX10 Y D σ np b0) (hr : meth.sig.returnType = none) (hw : is10 w) (hf : fX10_act_J91 w M X1 = some r) : Xw p l e (rmD 5) s m args below meth c 2 Y D σ np b0 0 0 (MQ below (QR Y D σ np b0 none r N) args s 0 0 (xA b0)) 91 [(0, .ref (σ w)), (1, .int X1)] [] M N := by
  unfold fX10_act_J91 at hf
  refine x_aload_n hE 0 dX10_act_91 rfl rfl ?_
  refine x_getR hE cl_10 (hE.kd (kO_10 hw)) (by decide) 2 (w + 15) rfl (by decide) lk_X10_21 dX10_act_92 ?_
  refine x_iload_n hE 1 dX10_act_95 rfl rfl ?_
  obtain ⟨v15, hc14, hf⟩ := bnd_some hf
  refine x_callV1 hE [.int X1] (rest := []) (v := .int v15) (c1 := M) (d1 := N) rfl yokX3_stateOf yvX3_stateOf lk_X10_210 rfl cl_3 (hE.kd (kO_3 (hL_10_2 hw))) (by decide) rfl rfl ⟨Nat.le_of_ble_eq_true rfl, Nat.le_of_ble_eq_true rfl⟩ ⟨Nat.zero_le _, Nat.zero_le _⟩ rfl (Nat.le_of_ble_eq_true rfl) dX10_act_96 (mX3_stateOf l (hL_10_2 hw) hc14) ?_
  refine x_iconst hE (nI 2) dX10_act_99 (by decide) ?_
  refine x_icmp_ne hE 108 dX10_act_100 (by decide) hf (fun hf => ?_) (fun hf => ?_)
  · exact wX10_act_J108 hE hr hw hf
  · refine x_aload_n hE 0 dX10_act_103 rfl rfl ?_
    refine x_iload_n hE 1 dX10_act_104 rfl rfl ?_
    obtain ⟨M17, hc16, hf⟩ := bnd_some hf
    refine x_callV0 hE [.int X1] (rest := []) (c1 := M17) (d1 := N) rfl yokX10_seekWork yvX10_seekWork lk_X10_229 rfl cl_10 (hE.kd (kO_10 hw)) (by decide) rfl rfl ⟨Nat.le_of_ble_eq_true rfl, Nat.le_of_ble_eq_true rfl⟩ ⟨Nat.zero_le _, Nat.zero_le _⟩ rfl (Nat.le_of_ble_eq_true rfl) dX10_act_105 (mX10_seekWork l hw hc16) ?_
    exact wX10_act_J108 hE hr hw hf
theorem wX10_act_J35 {p : Program} {l : Launch} {e : Env} {s : State} {m : MethodId} {args : Array Value} {below : List Frame} {meth : Method} {c : Code} {Y : Nat → ClassId} {D : va_G} {σ : Nat → Nat} {np b0 : Nat} {w : Nat} {r : Mc} {M : Mc} {N : Md} {X1 : Int32} (hE : EOK p s m args meth c cX10_act 2 RX10 Y D σ np b0) (hr : meth.sig.returnType = none) (hw : is10 w) (hf : fX10_act_J35 w M X1 = some r) : Xw p l e (rmD 5) s m args below meth c 2 Y D σ np b0 0 0 (MQ below (QR Y D σ np b0 none r N) args s 0 0 (xA b0)) 35 [(0, .ref (σ w)), (1, .int X1)] [] M N := by
  unfold fX10_act_J35 at hf
  refine x_aload_n hE 0 dX10_act_35 rfl rfl ?_
  refine x_getR hE cl_10 (hE.kd (kO_10 hw)) (by decide) 2 (w + 15) rfl (by decide) lk_X10_21 dX10_act_36 ?_
  refine x_iload_n hE 1 dX10_act_39 rfl rfl ?_
  obtain ⟨v8, hc7, hf⟩ := bnd_some hf
  refine x_callV1 hE [.int X1] (rest := []) (v := .int v8) (c1 := M) (d1 := N) rfl yokX3_stateOf yvX3_stateOf lk_X10_210 rfl cl_3 (hE.kd (kO_3 (hL_10_2 hw))) (by decide) rfl rfl ⟨Nat.le_of_ble_eq_true rfl, Nat.le_of_ble_eq_true rfl⟩ ⟨Nat.zero_le _, Nat.zero_le _⟩ rfl (Nat.le_of_ble_eq_true rfl) dX10_act_40 (mX3_stateOf l (hL_10_2 hw) hc7) ?_
  refine x_iconst hE (nI 4) dX10_act_43 (by decide) ?_
  refine x_icmp_eq hE 91 dX10_act_44 (by decide) hf (fun hf => ?_) (fun hf => ?_)
  · exact wX10_act_J91 hE hr hw hf
  · refine x_aload_n hE 0 dX10_act_47 rfl rfl ?_
    refine x_getI hE cl_10 (hE.kd (kO_10 hw)) (by decide) 14 rfl (by decide) lk_X10_52 dX10_act_48 ?_
    refine x_iconst hE (-1) dX10_act_51 (by decide) ?_
    refine x_icmp_eq hE 91 dX10_act_52 (by decide) hf (fun hf => ?_) (fun hf => ?_)
    · exact wX10_act_J91 hE hr hw hf
    · refine x_aload_n hE 0 dX10_act_55 rfl rfl ?_
      refine x_getR hE cl_10 (hE.kd (kO_10 hw)) (by decide) 2 (w + 15) rfl (by decide) lk_X10_21 dX10_act_56 ?_
      refine x_iload_n hE 1 dX10_act_59 rfl rfl ?_
      refine x_aload_n hE 0 dX10_act_60 rfl rfl ?_
      refine x_getI hE cl_10 (hE.kd (kO_10 hw)) (by decide) 15 rfl (by decide) lk_X10_219 dX10_act_61 ?_
      refine x_bipush hE (nI 10) dX10_act_64 (by decide) ?_
      refine x_iadd hE dX10_act_66 ?_
      obtain ⟨v10, hc9, hf⟩ := bnd_some hf
      refine x_callV1 hE [.int X1, .int ((M w 15) + (nI 10))] (rest := []) (v := .int v10) (c1 := M) (d1 := N) rfl yokX3_canPay yvX3_canPay lk_X10_222 rfl cl_3 (hE.kd (kO_3 (hL_10_2 hw))) (by decide) rfl rfl ⟨Nat.le_of_ble_eq_true rfl, Nat.le_of_ble_eq_true rfl⟩ ⟨Nat.zero_le _, Nat.zero_le _⟩ rfl (Nat.le_of_ble_eq_true rfl) dX10_act_67 (mX3_canPay l (hL_10_2 hw) hc9) ?_
      refine x_if_eq hE 91 dX10_act_70 (by decide) hf (fun hf => ?_) (fun hf => ?_)
      · exact wX10_act_J91 hE hr hw hf
      · refine x_aload_n hE 0 dX10_act_73 rfl rfl ?_
        refine x_iload_n hE 1 dX10_act_74 rfl rfl ?_
        refine x_aload_n hE 0 dX10_act_75 rfl rfl ?_
        refine x_getI hE cl_10 (hE.kd (kO_10 hw)) (by decide) 14 rfl (by decide) lk_X10_52 dX10_act_76 ?_
        refine x_aload_n hE 0 dX10_act_79 rfl rfl ?_
        refine x_getI hE cl_10 (hE.kd (kO_10 hw)) (by decide) 15 rfl (by decide) lk_X10_219 dX10_act_80 ?_
        obtain ⟨M12, hc11, hf⟩ := bnd_some hf
        refine x_callV0 hE [.int X1, .int (M w 14), .int (M w 15)] (rest := []) (c1 := M12) (d1 := N) rfl yokX10_sell yvX10_sell lk_X10_225 rfl cl_10 (hE.kd (kO_10 hw)) (by decide) rfl rfl ⟨Nat.le_of_ble_eq_true rfl, Nat.le_of_ble_eq_true rfl⟩ ⟨Nat.zero_le _, Nat.zero_le _⟩ rfl (Nat.le_of_ble_eq_true rfl) dX10_act_83 (mX10_sell l hw hc11) ?_
        refine x_aload_n hE 0 dX10_act_86 rfl rfl ?_
        refine x_iconst hE (nI 1) dX10_act_87 (by decide) ?_
        refine x_putI hE cl_10 (hE.kd (kO_10 hw)) (by decide) 13 rfl (by decide) lk_X10_140 rfl rfl rfl rfl dX10_act_88 hf (fun M13 hf => ?_)
        exact wX10_act_J91 hE hr hw hf
theorem wX10_act_J11 {p : Program} {l : Launch} {e : Env} {s : State} {m : MethodId} {args : Array Value} {below : List Frame} {meth : Method} {c : Code} {Y : Nat → ClassId} {D : va_G} {σ : Nat → Nat} {np b0 : Nat} {w : Nat} {r : Mc} {M : Mc} {N : Md} {X1 : Int32} (hE : EOK p s m args meth c cX10_act 2 RX10 Y D σ np b0) (hr : meth.sig.returnType = none) (hw : is10 w) (hf : fX10_act_J11 w M X1 = some r) : Xw p l e (rmD 5) s m args below meth c 2 Y D σ np b0 0 0 (MQ below (QR Y D σ np b0 none r N) args s 0 0 (xA b0)) 11 [(0, .ref (σ w)), (1, .int X1)] [] M N := by
  unfold fX10_act_J11 at hf
  refine x_aload_n hE 0 dX10_act_11 rfl rfl ?_
  refine x_getR hE cl_10 (hE.kd (kO_10 hw)) (by decide) 2 (w + 15) rfl (by decide) lk_X10_21 dX10_act_12 ?_
  refine x_iload_n hE 1 dX10_act_15 rfl rfl ?_
  obtain ⟨v4, hc3, hf⟩ := bnd_some hf
  refine x_callV1 hE [.int X1] (rest := []) (v := .int v4) (c1 := M) (d1 := N) rfl yokX3_stateOf yvX3_stateOf lk_X10_210 rfl cl_3 (hE.kd (kO_3 (hL_10_2 hw))) (by decide) rfl rfl ⟨Nat.le_of_ble_eq_true rfl, Nat.le_of_ble_eq_true rfl⟩ ⟨Nat.zero_le _, Nat.zero_le _⟩ rfl (Nat.le_of_ble_eq_true rfl) dX10_act_16 (mX3_stateOf l (hL_10_2 hw) hc3) ?_
  refine x_iconst hE (nI 3) dX10_act_19 (by decide) ?_
  refine x_icmp_ne hE 35 dX10_act_20 (by decide) hf (fun hf => ?_) (fun hf => ?_)
  · exact wX10_act_J35 hE hr hw hf
  · refine x_aload_n hE 0 dX10_act_23 rfl rfl ?_
    refine x_getR hE cl_10 (hE.kd (kO_10 hw)) (by decide) 2 (w + 15) rfl (by decide) lk_X10_21 dX10_act_24 ?_
    refine x_iload_n hE 1 dX10_act_27 rfl rfl ?_
    refine x_aload_n hE 0 dX10_act_28 rfl rfl ?_
    refine x_getI hE cl_10 (hE.kd (kO_10 hw)) (by decide) 16 rfl (by decide) lk_X10_213 dX10_act_29 ?_
    obtain ⟨M6, hc5, hf⟩ := bnd_some hf
    refine x_callV0 hE [.int X1, .int (M w 16)] (rest := []) (c1 := M6) (d1 := N) rfl yokX3_payWage yvX3_payWage lk_X10_216 rfl cl_3 (hE.kd (kO_3 (hL_10_2 hw))) (by decide) rfl rfl ⟨Nat.le_of_ble_eq_true rfl, Nat.le_of_ble_eq_true rfl⟩ ⟨Nat.zero_le _, Nat.zero_le _⟩ rfl (Nat.le_of_ble_eq_true rfl) dX10_act_32 (mX3_payWage l (hL_10_2 hw) hc5) ?_
    exact wX10_act_J35 hE hr hw hf
theorem mX10_act (l : Launch) {Y : Nat → ClassId} {D : va_G} {σ : Nat → Nat} {np b0 : Nat} {M : Mc} {N : Md} {w : Nat} {p0 : Int32} {r : Mc} (hw : is10 w) (hf : fX10_act M w p0 = some r) : Met l yX10_act (.code yX10_act cX10_act 2 none :: lw_g) (rmD 5) (PR Y D σ np b0 [.ref (σ w), .int p0] M N) (QR Y D σ np b0 none r N) 0 0 (xA b0) := by
  refine x_met (by decide) (Nat.le_of_ble_eq_true rfl) (fun p e s m args below meth c hE hr => ?_)
  unfold fX10_act at hf
  refine x_pick [0, 1] (L' := [(0, .ref (σ w)), (1, .int p0)]) rfl ?_
  refine x_aload_n hE 0 dX10_act_0 rfl rfl ?_
  refine x_getI hE cl_10 (hE.kd (kO_10 hw)) (by decide) 13 rfl (by decide) lk_X10_140 dX10_act_1 ?_
  refine x_if_eq hE 11 dX10_act_4 (by decide) hf (fun hf => ?_) (fun hf => ?_)
  · exact wX10_act_J11 hE hr hw hf
  · refine x_aload_n hE 0 dX10_act_7 rfl rfl ?_
    obtain ⟨M2, hc1, hf⟩ := bnd_some hf
    refine x_callV0 hE [] (rest := []) (c1 := M2) (d1 := N) rfl yokX10_lookAround yvX10_lookAround lk_X10_207 rfl cl_10 (hE.kd (kO_10 hw)) (by decide) rfl rfl ⟨Nat.le_of_ble_eq_true rfl, Nat.le_of_ble_eq_true rfl⟩ ⟨Nat.zero_le _, Nat.zero_le _⟩ rfl (Nat.le_of_ble_eq_true rfl) dX10_act_8 (mX10_lookAround l hw hc1) ?_
    exact wX10_act_J11 hE hr hw hf
theorem yokX10_act : YOK yX10_act cX10_act 2 1 none := ⟨mem_g 1737 (by decide +kernel) (by decide +kernel), mem_g 133 (by decide +kernel) (by decide +kernel), by decide +kernel, by decide +kernel, by decide +kernel⟩
theorem yvX10_act : YV yX10_act := ⟨mem_g 1736 (by decide +kernel) (by decide +kernel), mem_g 44 (by decide +kernel) (by decide +kernel)⟩
theorem lk_X10_55 : Cond.fieldLink RX10 55 (TX10 0).1 (TX10 0).2.1 (TX10 0).2.2.1 ∈ lw_g := mem_g 403 (by decide +kernel) (by decide +kernel)
theorem lk_X10_248 : Cond.methodLink RX10 248 yX0_rainAt ∈ lw_g := mem_g 1777 (by decide +kernel) (by decide +kernel)
theorem lk_X10_253 : Cond.methodLink RX10 253 yX4_wet ∈ lw_g := mem_g 1778 (by decide +kernel) (by decide +kernel)
theorem dX10_rainFalls_0 : decode cX10_rainFalls 0 = .ok (.iconst 0, 1) := by decide +kernel
theorem dX10_rainFalls_1 : decode cX10_rainFalls 1 = .ok (.istore_n 1, 1) := by decide +kernel
theorem dX10_rainFalls_2 : decode cX10_rainFalls 2 = .ok (.iload_n 1, 1) := by decide +kernel
theorem dX10_rainFalls_3 : decode cX10_rainFalls 3 = .ok (.iconst 4, 1) := by decide +kernel
theorem dX10_rainFalls_4 : decode cX10_rainFalls 4 = .ok (.if_icmp .ge 44, 3) := by decide +kernel
theorem dX10_rainFalls_7 : decode cX10_rainFalls 7 = .ok (.aload_n 0, 1) := by decide +kernel
theorem dX10_rainFalls_8 : decode cX10_rainFalls 8 = .ok (.getfield 12, 3) := by decide +kernel
theorem dX10_rainFalls_11 : decode cX10_rainFalls 11 = .ok (.iload_n 1, 1) := by decide +kernel
theorem dX10_rainFalls_12 : decode cX10_rainFalls 12 = .ok (.aload_n 0, 1) := by decide +kernel
theorem dX10_rainFalls_13 : decode cX10_rainFalls 13 = .ok (.getfield 49, 3) := by decide +kernel
theorem dX10_rainFalls_16 : decode cX10_rainFalls 16 = .ok (.iconst (-1), 1) := by decide +kernel
theorem dX10_rainFalls_17 : decode cX10_rainFalls 17 = .ok (.if_icmp .eq 10, 3) := by decide +kernel
theorem dX10_rainFalls_20 : decode cX10_rainFalls 20 = .ok (.aload_n 0, 1) := by decide +kernel
theorem dX10_rainFalls_21 : decode cX10_rainFalls 21 = .ok (.getfield 49, 3) := by decide +kernel
theorem dX10_rainFalls_24 : decode cX10_rainFalls 24 = .ok (.goto 15, 3) := by decide +kernel
theorem dX10_rainFalls_27 : decode cX10_rainFalls 27 = .ok (.aload_n 0, 1) := by decide +kernel
theorem dX10_rainFalls_28 : decode cX10_rainFalls 28 = .ok (.getfield 55, 3) := by decide +kernel
theorem dX10_rainFalls_31 : decode cX10_rainFalls 31 = .ok (.iload_n 1, 1) := by decide +kernel
theorem dX10_rainFalls_32 : decode cX10_rainFalls 32 = .ok (.aload_n 0, 1) := by decide +kernel
theorem dX10_rainFalls_33 : decode cX10_rainFalls 33 = .ok (.getfield 84, 3) := by decide +kernel
theorem dX10_rainFalls_36 : decode cX10_rainFalls 36 = .ok (.invokevirtual 248, 3) := by decide +kernel
theorem dX10_rainFalls_39 : decode cX10_rainFalls 39 = .ok (.invokevirtual 253, 3) := by decide +kernel
theorem dX10_rainFalls_42 : decode cX10_rainFalls 42 = .ok (.iinc 1 1, 3) := by decide +kernel
theorem dX10_rainFalls_45 : decode cX10_rainFalls 45 = .ok (.goto (-43), 3) := by decide +kernel
theorem dX10_rainFalls_48 : decode cX10_rainFalls 48 = .ok (.return_, 1) := by decide +kernel
theorem wX10_rainFalls_J39 {p : Program} {l : Launch} {e : Env} {s : State} {m : MethodId} {args : Array Value} {below : List Frame} {meth : Method} {c : Code} {Y : Nat → ClassId} {D : va_G} {σ : Nat → Nat} {np b0 : Nat} {w : Nat} {r : Mc} {K2 : Mc → Int32 → Option (Mc)} {M : Mc} {N : Md} {X1 : Int32} {Z0 : Int32} {Z1 : Int32} (hE : EOK p s m args meth c cX10_rainFalls 2 RX10 Y D σ np b0) (hr : meth.sig.returnType = none) (hw : is10 w) (hK2 : ∀ (M : Mc) (N : Md) (X1 : Int32), K2 M X1 = some r → Xw p l e (rmD 5) s m args below meth c 2 Y D σ np b0 0 0 (MQ below (QR Y D σ np b0 none r N) args s 0 0 (xA b0)) 2 [(0, .ref (σ w)), (1, .int X1)] [] M N) (hf : fX10_rainFalls_J39 w K2 M X1 Z0 Z1 = some r) : Xw p l e (rmD 5) s m args below meth c 2 Y D σ np b0 0 0 (MQ below (QR Y D σ np b0 none r N) args s 0 0 (xA b0)) 39 [(0, .ref (σ w)), (1, .int X1)] [.int Z0, .int Z1, .ref (σ (w + 1))] M N := by
  unfold fX10_rainFalls_J39 at hf
  obtain ⟨M4, hc3, hf⟩ := bnd_some hf
  refine x_callV0 hE [.int Z1, .int Z0] (rest := []) (c1 := M4) (d1 := N) rfl yokX4_wet yvX4_wet lk_X10_253 rfl cl_4 (hE.kd (kO_4 (hL_10_1 hw))) (by decide) rfl rfl ⟨Nat.le_of_ble_eq_true rfl, Nat.le_of_ble_eq_true rfl⟩ ⟨Nat.zero_le _, Nat.zero_le _⟩ rfl (Nat.le_of_ble_eq_true rfl) dX10_rainFalls_39 (mX4_wet l (hL_10_1 hw) hc3) ?_
  refine x_iinc hE 1 (X1 + nI 1) (L' := [(1, .int (X1 + nI 1)), (0, .ref (σ w))]) dX10_rainFalls_42 rfl rfl (by decide) rfl ?_
  refine x_pick [1, 0] (L' := [(0, .ref (σ w)), (1, .int (X1 + nI 1))]) rfl ?_
  refine x_goto hE 2 dX10_rainFalls_45 (by decide) ?_
  exact hK2 _ _ _ hf
theorem wX10_rainFalls_L2 {p : Program} {l : Launch} {e : Env} {s : State} {m : MethodId} {args : Array Value} {below : List Frame} {meth : Method} {c : Code} {Y : Nat → ClassId} {D : va_G} {σ : Nat → Nat} {np b0 : Nat} {w : Nat} {r : Mc} (hE : EOK p s m args meth c cX10_rainFalls 2 RX10 Y D σ np b0) (hr : meth.sig.returnType = none) (hw : is10 w) : ∀ (n : Nat) (M : Mc) (N : Md) (X1 : Int32), fX10_rainFalls_L2 w n M X1 = some r → Xw p l e (rmD 5) s m args below meth c 2 Y D σ np b0 0 0 (MQ below (QR Y D σ np b0 none r N) args s 0 0 (xA b0)) 2 [(0, .ref (σ w)), (1, .int X1)] [] M N := by
  intro n
  induction n with
  | zero =>
    intro M N X1 hf
    cases hf
  | succ n ih =>
    intro M N X1 hf
    rw [fX10_rainFalls_L2.eq_2] at hf
    refine x_iload_n hE 1 dX10_rainFalls_2 rfl rfl ?_
    refine x_iconst hE (nI 4) dX10_rainFalls_3 (by decide) ?_
    refine x_icmp_ge hE 48 dX10_rainFalls_4 (by decide) hf (fun hf => ?_) (fun hf => ?_)
    · replace hf := Option.some.inj hf
      subst hf
      exact x_vreturn hE hr dX10_rainFalls_48
    · refine x_aload_n hE 0 dX10_rainFalls_7 rfl rfl ?_
      refine x_getR hE cl_10 (hE.kd (kO_10 hw)) (by decide) 1 (w + 1) rfl (by decide) lk_X10_12 dX10_rainFalls_8 ?_
      refine x_iload_n hE 1 dX10_rainFalls_11 rfl rfl ?_
      refine x_aload_n hE 0 dX10_rainFalls_12 rfl rfl ?_
      refine x_getI hE cl_10 (hE.kd (kO_10 hw)) (by decide) 12 rfl (by decide) lk_X10_49 dX10_rainFalls_13 ?_
      refine x_iconst hE (-1) dX10_rainFalls_16 (by decide) ?_
      refine x_icmp_eq hE 27 dX10_rainFalls_17 (by decide) hf (fun hf => ?_) (fun hf => ?_)
      · refine x_aload_n hE 0 dX10_rainFalls_27 rfl rfl ?_
        refine x_getR hE cl_10 (hE.kd (kO_10 hw)) (by decide) 0 (1) rfl (by decide) lk_X10_55 dX10_rainFalls_28 ?_
        refine x_iload_n hE 1 dX10_rainFalls_31 rfl rfl ?_
        refine x_aload_n hE 0 dX10_rainFalls_32 rfl rfl ?_
        refine x_getI hE cl_10 (hE.kd (kO_10 hw)) (by decide) 6 rfl (by decide) lk_X10_84 dX10_rainFalls_33 ?_
        obtain ⟨v2, hc1, hf⟩ := bnd_some hf
        refine x_callV1 hE [.int X1, .int (M w 6)] (rest := [.int X1, .ref (σ (w + 1))]) (v := .int v2) (c1 := M) (d1 := N) rfl yokX0_rainAt yvX0_rainAt lk_X10_248 rfl cl_0 (hE.kd kO_0) (by decide) rfl rfl ⟨Nat.le_of_ble_eq_true rfl, Nat.le_of_ble_eq_true rfl⟩ ⟨Nat.zero_le _, Nat.zero_le _⟩ rfl (Nat.le_of_ble_eq_true rfl) dX10_rainFalls_36 (mX0_rainAt l hc1) ?_
        exact wX10_rainFalls_J39 hE hr hw (fun _ _ _ hf => ih _ _ _ hf) hf
      · refine x_aload_n hE 0 dX10_rainFalls_20 rfl rfl ?_
        refine x_getI hE cl_10 (hE.kd (kO_10 hw)) (by decide) 12 rfl (by decide) lk_X10_49 dX10_rainFalls_21 ?_
        refine x_goto hE 39 dX10_rainFalls_24 (by decide) ?_
        exact wX10_rainFalls_J39 hE hr hw (fun _ _ _ hf => ih _ _ _ hf) hf
theorem mX10_rainFalls (l : Launch) {Y : Nat → ClassId} {D : va_G} {σ : Nat → Nat} {np b0 : Nat} {M : Mc} {N : Md} {w : Nat} {r : Mc} (hw : is10 w) (hf : fX10_rainFalls M w = some r) : Met l yX10_rainFalls (.code yX10_rainFalls cX10_rainFalls 2 none :: lw_g) (rmD 5) (PR Y D σ np b0 [.ref (σ w)] M N) (QR Y D σ np b0 none r N) 0 0 (xA b0) := by
  refine x_met (by decide) (Nat.le_of_ble_eq_true rfl) (fun p e s m args below meth c hE hr => ?_)
  unfold fX10_rainFalls at hf
  refine x_pick [0] (L' := [(0, .ref (σ w))]) rfl ?_
  refine x_iconst hE (0 : Int32) dX10_rainFalls_0 (by decide) ?_
  refine x_istore_n hE (L' := [(1, .int 0), (0, .ref (σ w))]) dX10_rainFalls_1 rfl (by decide) rfl ?_
  refine x_pick [1, 0] (L' := [(0, .ref (σ w)), (1, .int 0)]) rfl ?_
  exact wX10_rainFalls_L2 hE hr hw FU _ _ _ hf
theorem yokX10_rainFalls : YOK yX10_rainFalls cX10_rainFalls 2 0 none := ⟨mem_g 1776 (by decide +kernel) (by decide +kernel), mem_g 133 (by decide +kernel) (by decide +kernel), by decide +kernel, by decide +kernel, by decide +kernel⟩
theorem yvX10_rainFalls : YV yX10_rainFalls := ⟨mem_g 1775 (by decide +kernel) (by decide +kernel), mem_g 47 (by decide +kernel) (by decide +kernel)⟩
theorem lk_X10_256 : Cond.methodLink RX10 256 yX4_stockOf ∈ lw_g := mem_g 1790 (by decide +kernel) (by decide +kernel)
theorem lk_X10_259 : Cond.methodLink RX10 259 yX4_strangersFarmBeside ∈ lw_g := mem_g 1791 (by decide +kernel) (by decide +kernel)
theorem lk_X10_265 : Cond.methodLink RX10 265 yX3_coinsOf ∈ lw_g := mem_g 1800 (by decide +kernel) (by decide +kernel)
theorem lk_X10_268 : Cond.methodLink RX10 268 Lib.Math.min.name ∈ lw_g := mem_g 1801 (by decide +kernel) (by decide +kernel)
theorem lk_X10_262 : Cond.methodLink RX10 262 yX4_addStock ∈ lw_g := mem_g 1799 (by decide +kernel) (by decide +kernel)
theorem dX10_stray_0 : decode cX10_stray 0 = .ok (.aload_n 0, 1) := by decide +kernel
theorem dX10_stray_1 : decode cX10_stray 1 = .ok (.getfield 12, 3) := by decide +kernel
theorem dX10_stray_4 : decode cX10_stray 4 = .ok (.iload_n 1, 1) := by decide +kernel
theorem dX10_stray_5 : decode cX10_stray 5 = .ok (.invokevirtual 256, 3) := by decide +kernel
theorem dX10_stray_8 : decode cX10_stray 8 = .ok (.bipush 8, 2) := by decide +kernel
theorem dX10_stray_10 : decode cX10_stray 10 = .ok (.idiv, 1) := by decide +kernel
theorem dX10_stray_11 : decode cX10_stray 11 = .ok (.istore_n 2, 1) := by decide +kernel
theorem dX10_stray_12 : decode cX10_stray 12 = .ok (.aload_n 0, 1) := by decide +kernel
theorem dX10_stray_13 : decode cX10_stray 13 = .ok (.getfield 12, 3) := by decide +kernel
theorem dX10_stray_16 : decode cX10_stray 16 = .ok (.iload_n 1, 1) := by decide +kernel
theorem dX10_stray_17 : decode cX10_stray 17 = .ok (.invokevirtual 259, 3) := by decide +kernel
theorem dX10_stray_20 : decode cX10_stray 20 = .ok (.istore_n 3, 1) := by decide +kernel
theorem dX10_stray_21 : decode cX10_stray 21 = .ok (.iload_n 3, 1) := by decide +kernel
theorem dX10_stray_22 : decode cX10_stray 22 = .ok (.iconst (-1), 1) := by decide +kernel
theorem dX10_stray_23 : decode cX10_stray 23 = .ok (.if_icmp .ne 15, 3) := by decide +kernel
theorem dX10_stray_26 : decode cX10_stray 26 = .ok (.aload_n 0, 1) := by decide +kernel
theorem dX10_stray_27 : decode cX10_stray 27 = .ok (.getfield 12, 3) := by decide +kernel
theorem dX10_stray_30 : decode cX10_stray 30 = .ok (.iload_n 1, 1) := by decide +kernel
theorem dX10_stray_31 : decode cX10_stray 31 = .ok (.iload_n 2, 1) := by decide +kernel
theorem dX10_stray_32 : decode cX10_stray 32 = .ok (.ineg, 1) := by decide +kernel
theorem dX10_stray_33 : decode cX10_stray 33 = .ok (.invokevirtual 262, 3) := by decide +kernel
theorem dX10_stray_36 : decode cX10_stray 36 = .ok (.pop, 1) := by decide +kernel
theorem dX10_stray_37 : decode cX10_stray 37 = .ok (.return_, 1) := by decide +kernel
theorem dX10_stray_38 : decode cX10_stray 38 = .ok (.aload_n 0, 1) := by decide +kernel
theorem dX10_stray_39 : decode cX10_stray 39 = .ok (.getfield 12, 3) := by decide +kernel
theorem dX10_stray_42 : decode cX10_stray 42 = .ok (.iload_n 1, 1) := by decide +kernel
theorem dX10_stray_43 : decode cX10_stray 43 = .ok (.invokevirtual 192, 3) := by decide +kernel
theorem dX10_stray_46 : decode cX10_stray 46 = .ok (.istore 4, 2) := by decide +kernel
theorem dX10_stray_48 : decode cX10_stray 48 = .ok (.aload_n 0, 1) := by decide +kernel
theorem dX10_stray_49 : decode cX10_stray 49 = .ok (.getfield 21, 3) := by decide +kernel
theorem dX10_stray_52 : decode cX10_stray 52 = .ok (.iload 4, 2) := by decide +kernel
theorem dX10_stray_54 : decode cX10_stray 54 = .ok (.invokevirtual 265, 3) := by decide +kernel
theorem dX10_stray_57 : decode cX10_stray 57 = .ok (.iload_n 2, 1) := by decide +kernel
theorem dX10_stray_58 : decode cX10_stray 58 = .ok (.aload_n 0, 1) := by decide +kernel
theorem dX10_stray_59 : decode cX10_stray 59 = .ok (.iconst 4, 1) := by decide +kernel
theorem dX10_stray_60 : decode cX10_stray 60 = .ok (.iconst 0, 1) := by decide +kernel
theorem dX10_stray_61 : decode cX10_stray 61 = .ok (.invokevirtual 110, 3) := by decide +kernel
theorem dX10_stray_64 : decode cX10_stray 64 = .ok (.imul, 1) := by decide +kernel
theorem dX10_stray_65 : decode cX10_stray 65 = .ok (.invokestatic 268, 3) := by decide +kernel
theorem dX10_stray_68 : decode cX10_stray 68 = .ok (.istore 5, 2) := by decide +kernel
theorem dX10_stray_70 : decode cX10_stray 70 = .ok (.aload_n 0, 1) := by decide +kernel
theorem dX10_stray_71 : decode cX10_stray 71 = .ok (.getfield 21, 3) := by decide +kernel
theorem dX10_stray_74 : decode cX10_stray 74 = .ok (.iload 4, 2) := by decide +kernel
theorem dX10_stray_76 : decode cX10_stray 76 = .ok (.iload 5, 2) := by decide +kernel
theorem dX10_stray_78 : decode cX10_stray 78 = .ok (.invokevirtual 116, 3) := by decide +kernel
theorem dX10_stray_81 : decode cX10_stray 81 = .ok (.aload_n 0, 1) := by decide +kernel
theorem dX10_stray_82 : decode cX10_stray 82 = .ok (.getfield 21, 3) := by decide +kernel
theorem dX10_stray_85 : decode cX10_stray 85 = .ok (.aload_n 0, 1) := by decide +kernel
theorem dX10_stray_86 : decode cX10_stray 86 = .ok (.getfield 12, 3) := by decide +kernel
theorem dX10_stray_89 : decode cX10_stray 89 = .ok (.iload_n 3, 1) := by decide +kernel
theorem dX10_stray_90 : decode cX10_stray 90 = .ok (.invokevirtual 192, 3) := by decide +kernel
theorem dX10_stray_93 : decode cX10_stray 93 = .ok (.iload 5, 2) := by decide +kernel
theorem dX10_stray_95 : decode cX10_stray 95 = .ok (.invokevirtual 201, 3) := by decide +kernel
theorem dX10_stray_98 : decode cX10_stray 98 = .ok (.return_, 1) := by decide +kernel
theorem mX10_stray (l : Launch) {Y : Nat → ClassId} {D : va_G} {σ : Nat → Nat} {np b0 : Nat} {M : Mc} {N : Md} {w : Nat} {p0 : Int32} {r : Mc} (hw : is10 w) (hf : fX10_stray M w p0 = some r) : Met l yX10_stray (.code yX10_stray cX10_stray 6 none :: lw_g) (rmD 5) (PR Y D σ np b0 [.ref (σ w), .int p0] M N) (QR Y D σ np b0 none r N) 0 0 (xA b0) := by
  refine x_met (by decide) (Nat.le_of_ble_eq_true rfl) (fun p e s m args below meth c hE hr => ?_)
  unfold fX10_stray at hf
  refine x_pick [0, 1] (L' := [(0, .ref (σ w)), (1, .int p0)]) rfl ?_
  refine x_aload_n hE 0 dX10_stray_0 rfl rfl ?_
  refine x_getR hE cl_10 (hE.kd (kO_10 hw)) (by decide) 1 (w + 1) rfl (by decide) lk_X10_12 dX10_stray_1 ?_
  refine x_iload_n hE 1 dX10_stray_4 rfl rfl ?_
  obtain ⟨v2, hc1, hf⟩ := bnd_some hf
  refine x_callV1 hE [.int p0] (rest := []) (v := .int v2) (c1 := M) (d1 := N) rfl yokX4_stockOf yvX4_stockOf lk_X10_256 rfl cl_4 (hE.kd (kO_4 (hL_10_1 hw))) (by decide) rfl rfl ⟨Nat.le_of_ble_eq_true rfl, Nat.le_of_ble_eq_true rfl⟩ ⟨Nat.zero_le _, Nat.zero_le _⟩ rfl (Nat.le_of_ble_eq_true rfl) dX10_stray_5 (mX4_stockOf l (hL_10_1 hw) hc1) ?_
  refine x_bipush hE (nI 8) dX10_stray_8 (by decide) ?_
  refine x_idivC hE dX10_stray_10 (by decide) ?_
  refine x_ltI hf (fun v3 hf => ?_)
  refine x_istore_n hE (L' := [(2, .int v3), (0, .ref (σ w)), (1, .int p0)]) dX10_stray_11 rfl (by decide) rfl ?_
  refine x_pick [1, 2, 0] (L' := [(0, .ref (σ w)), (1, .int p0), (2, .int v3)]) rfl ?_
  refine x_aload_n hE 0 dX10_stray_12 rfl rfl ?_
  refine x_getR hE cl_10 (hE.kd (kO_10 hw)) (by decide) 1 (w + 1) rfl (by decide) lk_X10_12 dX10_stray_13 ?_
  refine x_iload_n hE 1 dX10_stray_16 rfl rfl ?_
  obtain ⟨v5, hc4, hf⟩ := bnd_some hf
  refine x_callV1 hE [.int p0] (rest := []) (v := .int v5) (c1 := M) (d1 := N) rfl yokX4_strangersFarmBeside yvX4_strangersFarmBeside lk_X10_259 rfl cl_4 (hE.kd (kO_4 (hL_10_1 hw))) (by decide) rfl rfl ⟨Nat.le_of_ble_eq_true rfl, Nat.le_of_ble_eq_true rfl⟩ ⟨Nat.zero_le _, Nat.zero_le _⟩ rfl (Nat.le_of_ble_eq_true rfl) dX10_stray_17 (mX4_strangersFarmBeside l (hL_10_1 hw) hc4) ?_
  refine x_istore_n hE (L' := [(3, .int v5), (0, .ref (σ w)), (1, .int p0), (2, .int v3)]) dX10_stray_20 rfl (by decide) rfl ?_
  refine x_pick [1, 2, 3, 0] (L' := [(0, .ref (σ w)), (1, .int p0), (2, .int v3), (3, .int v5)]) rfl ?_
  refine x_iload_n hE 3 dX10_stray_21 rfl rfl ?_
  refine x_iconst hE (-1) dX10_stray_22 (by decide) ?_
  refine x_icmp_ne hE 38 dX10_stray_23 (by decide) hf (fun hf => ?_) (fun hf => ?_)
  · refine x_aload_n hE 0 dX10_stray_38 rfl rfl ?_
    refine x_getR hE cl_10 (hE.kd (kO_10 hw)) (by decide) 1 (w + 1) rfl (by decide) lk_X10_12 dX10_stray_39 ?_
    refine x_iload_n hE 1 dX10_stray_42 rfl rfl ?_
    obtain ⟨v7, hc6, hf⟩ := bnd_some hf
    refine x_callV1 hE [.int p0] (rest := []) (v := .int v7) (c1 := M) (d1 := N) rfl yokX4_ownerOf yvX4_ownerOf lk_X10_192 rfl cl_4 (hE.kd (kO_4 (hL_10_1 hw))) (by decide) rfl rfl ⟨Nat.le_of_ble_eq_true rfl, Nat.le_of_ble_eq_true rfl⟩ ⟨Nat.zero_le _, Nat.zero_le _⟩ rfl (Nat.le_of_ble_eq_true rfl) dX10_stray_43 (mX4_ownerOf l (hL_10_1 hw) hc6) ?_
    refine x_istore hE (L' := [(4, .int v7), (0, .ref (σ w)), (1, .int p0), (2, .int v3), (3, .int v5)]) dX10_stray_46 (by decide) rfl ?_
    refine x_pick [1, 2, 3, 4, 0] (L' := [(0, .ref (σ w)), (1, .int p0), (2, .int v3), (3, .int v5), (4, .int v7)]) rfl ?_
    refine x_aload_n hE 0 dX10_stray_48 rfl rfl ?_
    refine x_getR hE cl_10 (hE.kd (kO_10 hw)) (by decide) 2 (w + 15) rfl (by decide) lk_X10_21 dX10_stray_49 ?_
    refine x_iload hE 4 dX10_stray_52 rfl ?_
    obtain ⟨v9, hc8, hf⟩ := bnd_some hf
    refine x_callV1 hE [.int v7] (rest := []) (v := .int v9) (c1 := M) (d1 := N) rfl yokX3_coinsOf yvX3_coinsOf lk_X10_265 rfl cl_3 (hE.kd (kO_3 (hL_10_2 hw))) (by decide) rfl rfl ⟨Nat.le_of_ble_eq_true rfl, Nat.le_of_ble_eq_true rfl⟩ ⟨Nat.zero_le _, Nat.zero_le _⟩ rfl (Nat.le_of_ble_eq_true rfl) dX10_stray_54 (mX3_coinsOf l (hL_10_2 hw) hc8) ?_
    refine x_iload_n hE 2 dX10_stray_57 rfl rfl ?_
    refine x_aload_n hE 0 dX10_stray_58 rfl rfl ?_
    refine x_iconst hE (nI 4) dX10_stray_59 (by decide) ?_
    refine x_iconst hE (0 : Int32) dX10_stray_60 (by decide) ?_
    obtain ⟨⟨v11, M12⟩, hc10, hf⟩ := bn2_some hf
    refine x_callV1 hE [.int (nI 4), .int 0] (rest := [.int v3, .int v9]) (v := .int v11) (c1 := M12) (d1 := N) rfl yokX10_meaning yvX10_meaning lk_X10_110 rfl cl_10 (hE.kd (kO_10 hw)) (by decide) rfl rfl ⟨Nat.le_of_ble_eq_true rfl, Nat.le_of_ble_eq_true rfl⟩ ⟨Nat.zero_le _, Nat.zero_le _⟩ rfl (Nat.le_of_ble_eq_true rfl) dX10_stray_61 (mX10_meaning l hw hc10) ?_
    refine x_imul hE dX10_stray_64 ?_
    refine x_mmin hE lk_X10_268 (Nat.le_of_ble_eq_true rfl) dX10_stray_65 ?_
    refine x_ltI hf (fun v13 hf => ?_)
    refine x_istore hE (L' := [(5, .int v13), (0, .ref (σ w)), (1, .int p0), (2, .int v3), (3, .int v5), (4, .int v7)]) dX10_stray_68 (by decide) rfl ?_
    refine x_pick [1, 2, 3, 4, 5, 0] (L' := [(0, .ref (σ w)), (1, .int p0), (2, .int v3), (3, .int v5), (4, .int v7), (5, .int v13)]) rfl ?_
    refine x_aload_n hE 0 dX10_stray_70 rfl rfl ?_
    refine x_getR hE cl_10 (hE.kd (kO_10 hw)) (by decide) 2 (w + 15) rfl (by decide) lk_X10_21 dX10_stray_71 ?_
    refine x_iload hE 4 dX10_stray_74 rfl ?_
    refine x_iload hE 5 dX10_stray_76 rfl ?_
    obtain ⟨M15, hc14, hf⟩ := bnd_some hf
    refine x_callV0 hE [.int v7, .int v13] (rest := []) (c1 := M15) (d1 := N) rfl yokX3_spend yvX3_spend lk_X10_116 rfl cl_3 (hE.kd (kO_3 (hL_10_2 hw))) (by decide) rfl rfl ⟨Nat.le_of_ble_eq_true rfl, Nat.le_of_ble_eq_true rfl⟩ ⟨Nat.zero_le _, Nat.zero_le _⟩ rfl (Nat.le_of_ble_eq_true rfl) dX10_stray_78 (mX3_spend l (hL_10_2 hw) hc14) ?_
    refine x_aload_n hE 0 dX10_stray_81 rfl rfl ?_
    refine x_getR hE cl_10 (hE.kd (kO_10 hw)) (by decide) 2 (w + 15) rfl (by decide) lk_X10_21 dX10_stray_82 ?_
    refine x_aload_n hE 0 dX10_stray_85 rfl rfl ?_
    refine x_getR hE cl_10 (hE.kd (kO_10 hw)) (by decide) 1 (w + 1) rfl (by decide) lk_X10_12 dX10_stray_86 ?_
    refine x_iload_n hE 3 dX10_stray_89 rfl rfl ?_
    obtain ⟨v17, hc16, hf⟩ := bnd_some hf
    refine x_callV1 hE [.int v5] (rest := [.ref (σ (w + 15))]) (v := .int v17) (c1 := M15) (d1 := N) rfl yokX4_ownerOf yvX4_ownerOf lk_X10_192 rfl cl_4 (hE.kd (kO_4 (hL_10_1 hw))) (by decide) rfl rfl ⟨Nat.le_of_ble_eq_true rfl, Nat.le_of_ble_eq_true rfl⟩ ⟨Nat.zero_le _, Nat.zero_le _⟩ rfl (Nat.le_of_ble_eq_true rfl) dX10_stray_90 (mX4_ownerOf l (hL_10_1 hw) hc16) ?_
    refine x_iload hE 5 dX10_stray_93 rfl ?_
    obtain ⟨M19, hc18, hf⟩ := bnd_some hf
    refine x_callV0 hE [.int v17, .int v13] (rest := []) (c1 := M19) (d1 := N) rfl yokX3_earn yvX3_earn lk_X10_201 rfl cl_3 (hE.kd (kO_3 (hL_10_2 hw))) (by decide) rfl rfl ⟨Nat.le_of_ble_eq_true rfl, Nat.le_of_ble_eq_true rfl⟩ ⟨Nat.zero_le _, Nat.zero_le _⟩ rfl (Nat.le_of_ble_eq_true rfl) dX10_stray_95 (mX3_earn l (hL_10_2 hw) hc18) ?_
    replace hf := Option.some.inj hf
    subst hf
    exact x_vreturn hE hr dX10_stray_98
  · refine x_aload_n hE 0 dX10_stray_26 rfl rfl ?_
    refine x_getR hE cl_10 (hE.kd (kO_10 hw)) (by decide) 1 (w + 1) rfl (by decide) lk_X10_12 dX10_stray_27 ?_
    refine x_iload_n hE 1 dX10_stray_30 rfl rfl ?_
    refine x_iload_n hE 2 dX10_stray_31 rfl rfl ?_
    refine x_ineg hE dX10_stray_32 ?_
    obtain ⟨⟨v21, M22⟩, hc20, hf⟩ := bn2_some hf
    refine x_callV1 hE [.int p0, .int (-v3)] (rest := []) (v := .int v21) (c1 := M22) (d1 := N) rfl yokX4_addStock yvX4_addStock lk_X10_262 rfl cl_4 (hE.kd (kO_4 (hL_10_1 hw))) (by decide) rfl rfl ⟨Nat.le_of_ble_eq_true rfl, Nat.le_of_ble_eq_true rfl⟩ ⟨Nat.zero_le _, Nat.zero_le _⟩ rfl (Nat.le_of_ble_eq_true rfl) dX10_stray_33 (mX4_addStock l (hL_10_1 hw) hc20) ?_
    refine x_pop hE dX10_stray_36 rfl ?_
    replace hf := Option.some.inj hf
    subst hf
    exact x_vreturn hE hr dX10_stray_37
theorem yokX10_stray : YOK yX10_stray cX10_stray 6 1 none := ⟨mem_g 1789 (by decide +kernel) (by decide +kernel), mem_g 133 (by decide +kernel) (by decide +kernel), by decide +kernel, by decide +kernel, by decide +kernel⟩
theorem yvX10_stray : YV yX10_stray := ⟨mem_g 1788 (by decide +kernel) (by decide +kernel), mem_g 48 (by decide +kernel) (by decide +kernel)⟩
theorem lk_X10_288 : Cond.methodLinkNest RX10 288 yX11_zoneOf "SettlerColony" ∈ lw_nw := mem_n 1823 (by decide +kernel) rfl
theorem lk_X10_291 : Cond.methodLink RX10 291 yX4_band ∈ lw_g := mem_g 1824 (by decide +kernel) (by decide +kernel)
theorem lk_X10_294 : Cond.methodLink RX10 294 yX3_handsOf ∈ lw_g := mem_g 1828 (by decide +kernel) (by decide +kernel)
theorem dX10_reap_0 : decode cX10_reap 0 = .ok (.aload_n 0, 1) := by decide +kernel
theorem dX10_reap_1 : decode cX10_reap 1 = .ok (.getfield 12, 3) := by decide +kernel
theorem dX10_reap_4 : decode cX10_reap 4 = .ok (.iload_n 1, 1) := by decide +kernel
theorem dX10_reap_5 : decode cX10_reap 5 = .ok (.invokevirtual 192, 3) := by decide +kernel
theorem dX10_reap_8 : decode cX10_reap 8 = .ok (.istore_n 2, 1) := by decide +kernel
theorem dX10_reap_9 : decode cX10_reap 9 = .ok (.aload_n 0, 1) := by decide +kernel
theorem dX10_reap_10 : decode cX10_reap 10 = .ok (.getfield 21, 3) := by decide +kernel
theorem dX10_reap_13 : decode cX10_reap 13 = .ok (.iload_n 2, 1) := by decide +kernel
theorem dX10_reap_14 : decode cX10_reap 14 = .ok (.invokevirtual 210, 3) := by decide +kernel
theorem dX10_reap_17 : decode cX10_reap 17 = .ok (.iconst 4, 1) := by decide +kernel
theorem dX10_reap_18 : decode cX10_reap 18 = .ok (.if_icmp .eq 4, 3) := by decide +kernel
theorem dX10_reap_21 : decode cX10_reap 21 = .ok (.return_, 1) := by decide +kernel
theorem dX10_reap_22 : decode cX10_reap 22 = .ok (.aload_n 0, 1) := by decide +kernel
theorem dX10_reap_23 : decode cX10_reap 23 = .ok (.getfield 12, 3) := by decide +kernel
theorem dX10_reap_26 : decode cX10_reap 26 = .ok (.iload_n 1, 1) := by decide +kernel
theorem dX10_reap_27 : decode cX10_reap 27 = .ok (.invokevirtual 106, 3) := by decide +kernel
theorem dX10_reap_30 : decode cX10_reap 30 = .ok (.aload_n 0, 1) := by decide +kernel
theorem dX10_reap_31 : decode cX10_reap 31 = .ok (.getfield 12, 3) := by decide +kernel
theorem dX10_reap_34 : decode cX10_reap 34 = .ok (.iload_n 1, 1) := by decide +kernel
theorem dX10_reap_35 : decode cX10_reap 35 = .ok (.invokestatic 288, 3) := by decide +kernel
theorem dX10_reap_38 : decode cX10_reap 38 = .ok (.invokevirtual 291, 3) := by decide +kernel
theorem dX10_reap_41 : decode cX10_reap 41 = .ok (.imul, 1) := by decide +kernel
theorem dX10_reap_42 : decode cX10_reap 42 = .ok (.iconst 1, 1) := by decide +kernel
theorem dX10_reap_43 : decode cX10_reap 43 = .ok (.aload_n 0, 1) := by decide +kernel
theorem dX10_reap_44 : decode cX10_reap 44 = .ok (.getfield 21, 3) := by decide +kernel
theorem dX10_reap_47 : decode cX10_reap 47 = .ok (.iload_n 2, 1) := by decide +kernel
theorem dX10_reap_48 : decode cX10_reap 48 = .ok (.invokevirtual 294, 3) := by decide +kernel
theorem dX10_reap_51 : decode cX10_reap 51 = .ok (.iadd, 1) := by decide +kernel
theorem dX10_reap_52 : decode cX10_reap 52 = .ok (.imul, 1) := by decide +kernel
theorem dX10_reap_53 : decode cX10_reap 53 = .ok (.istore_n 3, 1) := by decide +kernel
theorem dX10_reap_54 : decode cX10_reap 54 = .ok (.aload_n 0, 1) := by decide +kernel
theorem dX10_reap_55 : decode cX10_reap 55 = .ok (.dup, 1) := by decide +kernel
theorem dX10_reap_56 : decode cX10_reap 56 = .ok (.getfield 39, 3) := by decide +kernel
theorem dX10_reap_59 : decode cX10_reap 59 = .ok (.iload_n 3, 1) := by decide +kernel
theorem dX10_reap_60 : decode cX10_reap 60 = .ok (.iadd, 1) := by decide +kernel
theorem dX10_reap_61 : decode cX10_reap 61 = .ok (.putfield 39, 3) := by decide +kernel
theorem dX10_reap_64 : decode cX10_reap 64 = .ok (.aload_n 0, 1) := by decide +kernel
theorem dX10_reap_65 : decode cX10_reap 65 = .ok (.getfield 21, 3) := by decide +kernel
theorem dX10_reap_68 : decode cX10_reap 68 = .ok (.iload_n 2, 1) := by decide +kernel
theorem dX10_reap_69 : decode cX10_reap 69 = .ok (.iload_n 3, 1) := by decide +kernel
theorem dX10_reap_70 : decode cX10_reap 70 = .ok (.iconst 2, 1) := by decide +kernel
theorem dX10_reap_71 : decode cX10_reap 71 = .ok (.idiv, 1) := by decide +kernel
theorem dX10_reap_72 : decode cX10_reap 72 = .ok (.invokevirtual 201, 3) := by decide +kernel
theorem dX10_reap_75 : decode cX10_reap 75 = .ok (.return_, 1) := by decide +kernel
theorem mX10_reap (l : Launch) {Y : Nat → ClassId} {D : va_G} {σ : Nat → Nat} {np b0 : Nat} {M : Mc} {N : Md} {w : Nat} {p0 : Int32} {r : Mc} (hw : is10 w) (hf : fX10_reap M w p0 = some r) : Met l yX10_reap (.code yX10_reap cX10_reap 4 none :: lw_g) (rmD 3) (PR Y D σ np b0 [.ref (σ w), .int p0] M N) (QR Y D σ np b0 none r N) 0 0 (xA b0) := by
  refine x_met (by decide) (Nat.le_of_ble_eq_true rfl) (fun p e s m args below meth c hE hr => ?_)
  unfold fX10_reap at hf
  refine x_pick [0, 1] (L' := [(0, .ref (σ w)), (1, .int p0)]) rfl ?_
  refine x_aload_n hE 0 dX10_reap_0 rfl rfl ?_
  refine x_getR hE cl_10 (hE.kd (kO_10 hw)) (by decide) 1 (w + 1) rfl (by decide) lk_X10_12 dX10_reap_1 ?_
  refine x_iload_n hE 1 dX10_reap_4 rfl rfl ?_
  obtain ⟨v2, hc1, hf⟩ := bnd_some hf
  refine x_callV1 hE [.int p0] (rest := []) (v := .int v2) (c1 := M) (d1 := N) rfl yokX4_ownerOf yvX4_ownerOf lk_X10_192 rfl cl_4 (hE.kd (kO_4 (hL_10_1 hw))) (by decide) rfl rfl ⟨Nat.le_of_ble_eq_true rfl, Nat.le_of_ble_eq_true rfl⟩ ⟨Nat.zero_le _, Nat.zero_le _⟩ rfl (Nat.le_of_ble_eq_true rfl) dX10_reap_5 (mX4_ownerOf l (hL_10_1 hw) hc1) ?_
  refine x_istore_n hE (L' := [(2, .int v2), (0, .ref (σ w)), (1, .int p0)]) dX10_reap_8 rfl (by decide) rfl ?_
  refine x_pick [1, 2, 0] (L' := [(0, .ref (σ w)), (1, .int p0), (2, .int v2)]) rfl ?_
  refine x_aload_n hE 0 dX10_reap_9 rfl rfl ?_
  refine x_getR hE cl_10 (hE.kd (kO_10 hw)) (by decide) 2 (w + 15) rfl (by decide) lk_X10_21 dX10_reap_10 ?_
  refine x_iload_n hE 2 dX10_reap_13 rfl rfl ?_
  obtain ⟨v4, hc3, hf⟩ := bnd_some hf
  refine x_callV1 hE [.int v2] (rest := []) (v := .int v4) (c1 := M) (d1 := N) rfl yokX3_stateOf yvX3_stateOf lk_X10_210 rfl cl_3 (hE.kd (kO_3 (hL_10_2 hw))) (by decide) rfl rfl ⟨Nat.le_of_ble_eq_true rfl, Nat.le_of_ble_eq_true rfl⟩ ⟨Nat.zero_le _, Nat.zero_le _⟩ rfl (Nat.le_of_ble_eq_true rfl) dX10_reap_14 (mX3_stateOf l (hL_10_2 hw) hc3) ?_
  refine x_iconst hE (nI 4) dX10_reap_17 (by decide) ?_
  refine x_icmp_eq hE 22 dX10_reap_18 (by decide) hf (fun hf => ?_) (fun hf => ?_)
  · refine x_aload_n hE 0 dX10_reap_22 rfl rfl ?_
    refine x_getR hE cl_10 (hE.kd (kO_10 hw)) (by decide) 1 (w + 1) rfl (by decide) lk_X10_12 dX10_reap_23 ?_
    refine x_iload_n hE 1 dX10_reap_26 rfl rfl ?_
    obtain ⟨v6, hc5, hf⟩ := bnd_some hf
    refine x_callV1 hE [.int p0] (rest := []) (v := .int v6) (c1 := M) (d1 := N) rfl yokX4_soilOf yvX4_soilOf lk_X10_106 rfl cl_4 (hE.kd (kO_4 (hL_10_1 hw))) (by decide) rfl rfl ⟨Nat.le_of_ble_eq_true rfl, Nat.le_of_ble_eq_true rfl⟩ ⟨Nat.zero_le _, Nat.zero_le _⟩ rfl (Nat.le_of_ble_eq_true rfl) dX10_reap_27 (mX4_soilOf l (hL_10_1 hw) hc5) ?_
    refine x_aload_n hE 0 dX10_reap_30 rfl rfl ?_
    refine x_getR hE cl_10 (hE.kd (kO_10 hw)) (by decide) 1 (w + 1) rfl (by decide) lk_X10_12 dX10_reap_31 ?_
    refine x_iload_n hE 1 dX10_reap_34 rfl rfl ?_
    obtain ⟨v8, hc7, hf⟩ := bnd_some hf
    refine x_callSN1 hE [.int p0] (rest := [.ref (σ (w + 1)), .int v6]) (v := .int v8) (c1 := M) (d1 := N) rfl yokX11_zoneOf ysX11_zoneOf lk_X10_288 rfl rfl ⟨Nat.le_of_ble_eq_true rfl, Nat.le_of_ble_eq_true rfl⟩ ⟨Nat.zero_le _, Nat.zero_le _⟩ rfl (Nat.le_of_ble_eq_true rfl) dX10_reap_35 (mX11_zoneOf l hc7) ?_
    obtain ⟨v10, hc9, hf⟩ := bnd_some hf
    refine x_callV1 hE [.int v8] (rest := [.int v6]) (v := .int v10) (c1 := M) (d1 := N) rfl yokX4_band yvX4_band lk_X10_291 rfl cl_4 (hE.kd (kO_4 (hL_10_1 hw))) (by decide) rfl rfl ⟨Nat.le_of_ble_eq_true rfl, Nat.le_of_ble_eq_true rfl⟩ ⟨Nat.zero_le _, Nat.zero_le _⟩ rfl (Nat.le_of_ble_eq_true rfl) dX10_reap_38 (mX4_band l (hL_10_1 hw) hc9) ?_
    refine x_imul hE dX10_reap_41 ?_
    refine x_iconst hE (nI 1) dX10_reap_42 (by decide) ?_
    refine x_aload_n hE 0 dX10_reap_43 rfl rfl ?_
    refine x_getR hE cl_10 (hE.kd (kO_10 hw)) (by decide) 2 (w + 15) rfl (by decide) lk_X10_21 dX10_reap_44 ?_
    refine x_iload_n hE 2 dX10_reap_47 rfl rfl ?_
    obtain ⟨v12, hc11, hf⟩ := bnd_some hf
    refine x_callV1 hE [.int v2] (rest := [.int (nI 1), .int (v6 * v10)]) (v := .int v12) (c1 := M) (d1 := N) rfl yokX3_handsOf yvX3_handsOf lk_X10_294 rfl cl_3 (hE.kd (kO_3 (hL_10_2 hw))) (by decide) rfl rfl ⟨Nat.le_of_ble_eq_true rfl, Nat.le_of_ble_eq_true rfl⟩ ⟨Nat.zero_le _, Nat.zero_le _⟩ rfl (Nat.le_of_ble_eq_true rfl) dX10_reap_48 (mX3_handsOf l (hL_10_2 hw) hc11) ?_
    refine x_iadd hE dX10_reap_51 ?_
    refine x_imul hE dX10_reap_52 ?_
    refine x_ltI hf (fun v13 hf => ?_)
    refine x_istore_n hE (L' := [(3, .int v13), (0, .ref (σ w)), (1, .int p0), (2, .int v2)]) dX10_reap_53 rfl (by decide) rfl ?_
    refine x_pick [1, 2, 3, 0] (L' := [(0, .ref (σ w)), (1, .int p0), (2, .int v2), (3, .int v13)]) rfl ?_
    refine x_aload_n hE 0 dX10_reap_54 rfl rfl ?_
    refine x_dup hE dX10_reap_55 rfl ?_
    refine x_getI hE cl_10 (hE.kd (kO_10 hw)) (by decide) 7 rfl (by decide) lk_X10_39 dX10_reap_56 ?_
    refine x_iload_n hE 3 dX10_reap_59 rfl rfl ?_
    refine x_iadd hE dX10_reap_60 ?_
    refine x_putI hE cl_10 (hE.kd (kO_10 hw)) (by decide) 7 rfl (by decide) lk_X10_39 rfl rfl rfl rfl dX10_reap_61 hf (fun M14 hf => ?_)
    refine x_aload_n hE 0 dX10_reap_64 rfl rfl ?_
    refine x_getR hE cl_10 (hE.kd (kO_10 hw)) (by decide) 2 (w + 15) rfl (by decide) lk_X10_21 dX10_reap_65 ?_
    refine x_iload_n hE 2 dX10_reap_68 rfl rfl ?_
    refine x_iload_n hE 3 dX10_reap_69 rfl rfl ?_
    refine x_iconst hE (nI 2) dX10_reap_70 (by decide) ?_
    refine x_idivC hE dX10_reap_71 (by decide) ?_
    obtain ⟨M16, hc15, hf⟩ := bnd_some hf
    refine x_callV0 hE [.int v2, .int (v13 / (nI 2))] (rest := []) (c1 := M16) (d1 := N) rfl yokX3_earn yvX3_earn lk_X10_201 rfl cl_3 (hE.kd (kO_3 (hL_10_2 hw))) (by decide) rfl rfl ⟨Nat.le_of_ble_eq_true rfl, Nat.le_of_ble_eq_true rfl⟩ ⟨Nat.zero_le _, Nat.zero_le _⟩ rfl (Nat.le_of_ble_eq_true rfl) dX10_reap_72 (mX3_earn l (hL_10_2 hw) hc15) ?_
    replace hf := Option.some.inj hf
    subst hf
    exact x_vreturn hE hr dX10_reap_75
  · replace hf := Option.some.inj hf
    subst hf
    exact x_vreturn hE hr dX10_reap_21
theorem yokX10_reap : YOK yX10_reap cX10_reap 4 1 none := ⟨mem_g 1822 (by decide +kernel) (by decide +kernel), mem_g 133 (by decide +kernel) (by decide +kernel), by decide +kernel, by decide +kernel, by decide +kernel⟩
theorem yvX10_reap : YV yX10_reap := ⟨mem_g 1821 (by decide +kernel) (by decide +kernel), mem_g 52 (by decide +kernel) (by decide +kernel)⟩
theorem lk_X10_273 : Cond.methodLink RX10 273 yX4_seeZones ∈ lw_g := mem_g 1810 (by decide +kernel) (by decide +kernel)
theorem lk_X10_282 : Cond.methodLink RX10 282 yX4_breed ∈ lw_g := mem_g 1832 (by decide +kernel) (by decide +kernel)
theorem lk_X10_285 : Cond.methodLink RX10 285 yX4_newYear ∈ lw_g := mem_g 1837 (by decide +kernel) (by decide +kernel)
theorem lk_X10_276 : Cond.methodLink RX10 276 yX4_isFarm ∈ lw_g := mem_g 1818 (by decide +kernel) (by decide +kernel)
theorem lk_X10_279 : Cond.methodLink RX10 279 yX10_reap ∈ lw_g := mem_g 1819 (by decide +kernel) (by decide +kernel)
theorem dX10_endYear_0 : decode cX10_endYear 0 = .ok (.aload_n 0, 1) := by decide +kernel
theorem dX10_endYear_1 : decode cX10_endYear 1 = .ok (.getfield 12, 3) := by decide +kernel
theorem dX10_endYear_4 : decode cX10_endYear 4 = .ok (.invokevirtual 273, 3) := by decide +kernel
theorem dX10_endYear_7 : decode cX10_endYear 7 = .ok (.iconst 0, 1) := by decide +kernel
theorem dX10_endYear_8 : decode cX10_endYear 8 = .ok (.istore_n 1, 1) := by decide +kernel
theorem dX10_endYear_9 : decode cX10_endYear 9 = .ok (.iload_n 1, 1) := by decide +kernel
theorem dX10_endYear_10 : decode cX10_endYear 10 = .ok (.bipush 96, 2) := by decide +kernel
theorem dX10_endYear_12 : decode cX10_endYear 12 = .ok (.if_icmp .ge 25, 3) := by decide +kernel
theorem dX10_endYear_15 : decode cX10_endYear 15 = .ok (.aload_n 0, 1) := by decide +kernel
theorem dX10_endYear_16 : decode cX10_endYear 16 = .ok (.getfield 12, 3) := by decide +kernel
theorem dX10_endYear_19 : decode cX10_endYear 19 = .ok (.iload_n 1, 1) := by decide +kernel
theorem dX10_endYear_20 : decode cX10_endYear 20 = .ok (.invokevirtual 276, 3) := by decide +kernel
theorem dX10_endYear_23 : decode cX10_endYear 23 = .ok (.ifCond .eq 8, 3) := by decide +kernel
theorem dX10_endYear_26 : decode cX10_endYear 26 = .ok (.aload_n 0, 1) := by decide +kernel
theorem dX10_endYear_27 : decode cX10_endYear 27 = .ok (.iload_n 1, 1) := by decide +kernel
theorem dX10_endYear_28 : decode cX10_endYear 28 = .ok (.invokevirtual 279, 3) := by decide +kernel
theorem dX10_endYear_31 : decode cX10_endYear 31 = .ok (.iinc 1 1, 3) := by decide +kernel
theorem dX10_endYear_34 : decode cX10_endYear 34 = .ok (.goto (-25), 3) := by decide +kernel
theorem dX10_endYear_37 : decode cX10_endYear 37 = .ok (.aload_n 0, 1) := by decide +kernel
theorem dX10_endYear_38 : decode cX10_endYear 38 = .ok (.getfield 12, 3) := by decide +kernel
theorem dX10_endYear_41 : decode cX10_endYear 41 = .ok (.invokevirtual 282, 3) := by decide +kernel
theorem dX10_endYear_44 : decode cX10_endYear 44 = .ok (.aload_n 0, 1) := by decide +kernel
theorem dX10_endYear_45 : decode cX10_endYear 45 = .ok (.getfield 12, 3) := by decide +kernel
theorem dX10_endYear_48 : decode cX10_endYear 48 = .ok (.invokevirtual 285, 3) := by decide +kernel
theorem dX10_endYear_51 : decode cX10_endYear 51 = .ok (.return_, 1) := by decide +kernel
theorem wX10_endYear_J31 {p : Program} {l : Launch} {e : Env} {s : State} {m : MethodId} {args : Array Value} {below : List Frame} {meth : Method} {c : Code} {Y : Nat → ClassId} {D : va_G} {σ : Nat → Nat} {np b0 : Nat} {w : Nat} {r : Mc} {K9 : Mc → Int32 → Option (Mc)} {M : Mc} {N : Md} {X1 : Int32} (hE : EOK p s m args meth c cX10_endYear 2 RX10 Y D σ np b0) (hr : meth.sig.returnType = none) (hw : is10 w) (hK9 : ∀ (M : Mc) (N : Md) (X1 : Int32), K9 M X1 = some r → Xw p l e (rmD 4) s m args below meth c 2 Y D σ np b0 0 0 (MQ below (QR Y D σ np b0 none r N) args s 0 0 (xA b0)) 9 [(0, .ref (σ w)), (1, .int X1)] [] M N) (hf : fX10_endYear_J31 w K9 M X1 = some r) : Xw p l e (rmD 4) s m args below meth c 2 Y D σ np b0 0 0 (MQ below (QR Y D σ np b0 none r N) args s 0 0 (xA b0)) 31 [(0, .ref (σ w)), (1, .int X1)] [] M N := by
  unfold fX10_endYear_J31 at hf
  refine x_iinc hE 1 (X1 + nI 1) (L' := [(1, .int (X1 + nI 1)), (0, .ref (σ w))]) dX10_endYear_31 rfl rfl (by decide) rfl ?_
  refine x_pick [1, 0] (L' := [(0, .ref (σ w)), (1, .int (X1 + nI 1))]) rfl ?_
  refine x_goto hE 9 dX10_endYear_34 (by decide) ?_
  exact hK9 _ _ _ hf
theorem wX10_endYear_L9 {p : Program} {l : Launch} {e : Env} {s : State} {m : MethodId} {args : Array Value} {below : List Frame} {meth : Method} {c : Code} {Y : Nat → ClassId} {D : va_G} {σ : Nat → Nat} {np b0 : Nat} {w : Nat} {r : Mc} (hE : EOK p s m args meth c cX10_endYear 2 RX10 Y D σ np b0) (hr : meth.sig.returnType = none) (hw : is10 w) : ∀ (n : Nat) (M : Mc) (N : Md) (X1 : Int32), fX10_endYear_L9 w n M X1 = some r → Xw p l e (rmD 4) s m args below meth c 2 Y D σ np b0 0 0 (MQ below (QR Y D σ np b0 none r N) args s 0 0 (xA b0)) 9 [(0, .ref (σ w)), (1, .int X1)] [] M N := by
  intro n
  induction n with
  | zero =>
    intro M N X1 hf
    cases hf
  | succ n ih =>
    intro M N X1 hf
    rw [fX10_endYear_L9.eq_2] at hf
    refine x_iload_n hE 1 dX10_endYear_9 rfl rfl ?_
    refine x_bipush hE (nI 96) dX10_endYear_10 (by decide) ?_
    refine x_icmp_ge hE 37 dX10_endYear_12 (by decide) hf (fun hf => ?_) (fun hf => ?_)
    · refine x_aload_n hE 0 dX10_endYear_37 rfl rfl ?_
      refine x_getR hE cl_10 (hE.kd (kO_10 hw)) (by decide) 1 (w + 1) rfl (by decide) lk_X10_12 dX10_endYear_38 ?_
      obtain ⟨M4, hc3, hf⟩ := bnd_some hf
      refine x_callV0 hE [] (rest := []) (c1 := M4) (d1 := N) rfl yokX4_breed yvX4_breed lk_X10_282 rfl cl_4 (hE.kd (kO_4 (hL_10_1 hw))) (by decide) rfl rfl ⟨Nat.le_of_ble_eq_true rfl, Nat.le_of_ble_eq_true rfl⟩ ⟨Nat.zero_le _, Nat.zero_le _⟩ rfl (Nat.le_of_ble_eq_true rfl) dX10_endYear_41 (mX4_breed l (hL_10_1 hw) hc3) ?_
      refine x_aload_n hE 0 dX10_endYear_44 rfl rfl ?_
      refine x_getR hE cl_10 (hE.kd (kO_10 hw)) (by decide) 1 (w + 1) rfl (by decide) lk_X10_12 dX10_endYear_45 ?_
      obtain ⟨M6, hc5, hf⟩ := bnd_some hf
      refine x_callV0 hE [] (rest := []) (c1 := M6) (d1 := N) rfl yokX4_newYear yvX4_newYear lk_X10_285 rfl cl_4 (hE.kd (kO_4 (hL_10_1 hw))) (by decide) rfl rfl ⟨Nat.le_of_ble_eq_true rfl, Nat.le_of_ble_eq_true rfl⟩ ⟨Nat.zero_le _, Nat.zero_le _⟩ rfl (Nat.le_of_ble_eq_true rfl) dX10_endYear_48 (mX4_newYear l (hL_10_1 hw) hc5) ?_
      replace hf := Option.some.inj hf
      subst hf
      exact x_vreturn hE hr dX10_endYear_51
    · refine x_aload_n hE 0 dX10_endYear_15 rfl rfl ?_
      refine x_getR hE cl_10 (hE.kd (kO_10 hw)) (by decide) 1 (w + 1) rfl (by decide) lk_X10_12 dX10_endYear_16 ?_
      refine x_iload_n hE 1 dX10_endYear_19 rfl rfl ?_
      obtain ⟨v8, hc7, hf⟩ := bnd_some hf
      refine x_callV1 hE [.int X1] (rest := []) (v := .int v8) (c1 := M) (d1 := N) rfl yokX4_isFarm yvX4_isFarm lk_X10_276 rfl cl_4 (hE.kd (kO_4 (hL_10_1 hw))) (by decide) rfl rfl ⟨Nat.le_of_ble_eq_true rfl, Nat.le_of_ble_eq_true rfl⟩ ⟨Nat.zero_le _, Nat.zero_le _⟩ rfl (Nat.le_of_ble_eq_true rfl) dX10_endYear_20 (mX4_isFarm l (hL_10_1 hw) hc7) ?_
      refine x_if_eq hE 31 dX10_endYear_23 (by decide) hf (fun hf => ?_) (fun hf => ?_)
      · exact wX10_endYear_J31 hE hr hw (fun _ _ _ hf => ih _ _ _ hf) hf
      · refine x_aload_n hE 0 dX10_endYear_26 rfl rfl ?_
        refine x_iload_n hE 1 dX10_endYear_27 rfl rfl ?_
        obtain ⟨M10, hc9, hf⟩ := bnd_some hf
        refine x_callV0 hE [.int X1] (rest := []) (c1 := M10) (d1 := N) rfl yokX10_reap yvX10_reap lk_X10_279 rfl cl_10 (hE.kd (kO_10 hw)) (by decide) rfl rfl ⟨Nat.le_of_ble_eq_true rfl, Nat.le_of_ble_eq_true rfl⟩ ⟨Nat.zero_le _, Nat.zero_le _⟩ rfl (Nat.le_of_ble_eq_true rfl) dX10_endYear_28 (mX10_reap l hw hc9) ?_
        exact wX10_endYear_J31 hE hr hw (fun _ _ _ hf => ih _ _ _ hf) hf
theorem mX10_endYear (l : Launch) {Y : Nat → ClassId} {D : va_G} {σ : Nat → Nat} {np b0 : Nat} {M : Mc} {N : Md} {w : Nat} {r : Mc} (hw : is10 w) (hf : fX10_endYear M w = some r) : Met l yX10_endYear (.code yX10_endYear cX10_endYear 2 none :: lw_g) (rmD 4) (PR Y D σ np b0 [.ref (σ w)] M N) (QR Y D σ np b0 none r N) 0 0 (xA b0) := by
  refine x_met (by decide) (Nat.le_of_ble_eq_true rfl) (fun p e s m args below meth c hE hr => ?_)
  unfold fX10_endYear at hf
  refine x_pick [0] (L' := [(0, .ref (σ w))]) rfl ?_
  refine x_aload_n hE 0 dX10_endYear_0 rfl rfl ?_
  refine x_getR hE cl_10 (hE.kd (kO_10 hw)) (by decide) 1 (w + 1) rfl (by decide) lk_X10_12 dX10_endYear_1 ?_
  obtain ⟨M2, hc1, hf⟩ := bnd_some hf
  refine x_callV0 hE [] (rest := []) (c1 := M2) (d1 := N) rfl yokX4_seeZones yvX4_seeZones lk_X10_273 rfl cl_4 (hE.kd (kO_4 (hL_10_1 hw))) (by decide) rfl rfl ⟨Nat.le_of_ble_eq_true rfl, Nat.le_of_ble_eq_true rfl⟩ ⟨Nat.zero_le _, Nat.zero_le _⟩ rfl (Nat.le_of_ble_eq_true rfl) dX10_endYear_4 (mX4_seeZones l (hL_10_1 hw) hc1) ?_
  refine x_iconst hE (0 : Int32) dX10_endYear_7 (by decide) ?_
  refine x_istore_n hE (L' := [(1, .int 0), (0, .ref (σ w))]) dX10_endYear_8 rfl (by decide) rfl ?_
  refine x_pick [1, 0] (L' := [(0, .ref (σ w)), (1, .int 0)]) rfl ?_
  exact wX10_endYear_L9 hE hr hw FU _ _ _ hf
theorem yokX10_endYear : YOK yX10_endYear cX10_endYear 2 0 none := ⟨mem_g 1809 (by decide +kernel) (by decide +kernel), mem_g 133 (by decide +kernel) (by decide +kernel), by decide +kernel, by decide +kernel, by decide +kernel⟩
theorem yvX10_endYear : YV yX10_endYear := ⟨mem_g 1808 (by decide +kernel) (by decide +kernel), mem_g 50 (by decide +kernel) (by decide +kernel)⟩
theorem lk_X10_128 : Cond.methodLink RX10 128 yX3_disembark ∈ lw_g := mem_g 1677 (by decide +kernel) (by decide +kernel)
theorem lk_X10_131 : Cond.methodLink RX10 131 yX10_readLaws ∈ lw_g := mem_g 1681 (by decide +kernel) (by decide +kernel)
theorem lk_X10_134 : Cond.methodLink RX10 134 yX1_readDue ∈ lw_g := mem_g 1721 (by decide +kernel) (by decide +kernel)
theorem lk_X10_137 : Cond.methodLink RX10 137 yX5_goOut ∈ lw_g := mem_g 1073 (by decide +kernel) (by decide +kernel)
theorem lk_X10_144 : Cond.fieldLink RX10 144 (TX3 0).1 (TX3 0).2.1 (TX3 0).2.2.1 ∈ lw_g := mem_g 253 (by decide +kernel) (by decide +kernel)
theorem lk_X10_154 : Cond.methodLink RX10 154 yX10_rainFalls ∈ lw_g := mem_g 1773 (by decide +kernel) (by decide +kernel)
theorem lk_X10_147 : Cond.methodLink RX10 147 yX3_isHere ∈ lw_g := mem_g 1733 (by decide +kernel) (by decide +kernel)
theorem lk_X10_151 : Cond.methodLink RX10 151 yX10_act ∈ lw_g := mem_g 1734 (by decide +kernel) (by decide +kernel)
theorem lk_X10_163 : Cond.methodLink RX10 163 yX4_endRuns ∈ lw_g := mem_g 1802 (by decide +kernel) (by decide +kernel)
theorem lk_X10_166 : Cond.methodLink RX10 166 yX10_endYear ∈ lw_g := mem_g 1806 (by decide +kernel) (by decide +kernel)
theorem lk_X10_157 : Cond.methodLink RX10 157 yX4_isStraying ∈ lw_g := mem_g 1782 (by decide +kernel) (by decide +kernel)
theorem lk_X10_160 : Cond.methodLink RX10 160 yX10_stray ∈ lw_g := mem_g 1786 (by decide +kernel) (by decide +kernel)
theorem dX10_goOn_0 : decode cX10_goOn 0 = .ok (.aload_n 0, 1) := by decide +kernel
theorem dX10_goOn_1 : decode cX10_goOn 1 = .ok (.getfield 21, 3) := by decide +kernel
theorem dX10_goOn_4 : decode cX10_goOn 4 = .ok (.aload_n 0, 1) := by decide +kernel
theorem dX10_goOn_5 : decode cX10_goOn 5 = .ok (.getfield 84, 3) := by decide +kernel
theorem dX10_goOn_8 : decode cX10_goOn 8 = .ok (.invokevirtual 128, 3) := by decide +kernel
theorem dX10_goOn_11 : decode cX10_goOn 11 = .ok (.aload_n 0, 1) := by decide +kernel
theorem dX10_goOn_12 : decode cX10_goOn 12 = .ok (.invokevirtual 131, 3) := by decide +kernel
theorem dX10_goOn_15 : decode cX10_goOn 15 = .ok (.aload_n 0, 1) := by decide +kernel
theorem dX10_goOn_16 : decode cX10_goOn 16 = .ok (.dup, 1) := by decide +kernel
theorem dX10_goOn_17 : decode cX10_goOn 17 = .ok (.getfield 43, 3) := by decide +kernel
theorem dX10_goOn_20 : decode cX10_goOn 20 = .ok (.aload_n 0, 1) := by decide +kernel
theorem dX10_goOn_21 : decode cX10_goOn 21 = .ok (.getfield 35, 3) := by decide +kernel
theorem dX10_goOn_24 : decode cX10_goOn 24 = .ok (.aload_n 0, 1) := by decide +kernel
theorem dX10_goOn_25 : decode cX10_goOn 25 = .ok (.getfield 84, 3) := by decide +kernel
theorem dX10_goOn_28 : decode cX10_goOn 28 = .ok (.invokevirtual 134, 3) := by decide +kernel
theorem dX10_goOn_31 : decode cX10_goOn 31 = .ok (.isub, 1) := by decide +kernel
theorem dX10_goOn_32 : decode cX10_goOn 32 = .ok (.putfield 43, 3) := by decide +kernel
theorem dX10_goOn_35 : decode cX10_goOn 35 = .ok (.aload_n 0, 1) := by decide +kernel
theorem dX10_goOn_36 : decode cX10_goOn 36 = .ok (.getfield 28, 3) := by decide +kernel
theorem dX10_goOn_39 : decode cX10_goOn 39 = .ok (.aload_n 0, 1) := by decide +kernel
theorem dX10_goOn_40 : decode cX10_goOn 40 = .ok (.getfield 12, 3) := by decide +kernel
theorem dX10_goOn_43 : decode cX10_goOn 43 = .ok (.invokevirtual 137, 3) := by decide +kernel
theorem dX10_goOn_46 : decode cX10_goOn 46 = .ok (.aload_n 0, 1) := by decide +kernel
theorem dX10_goOn_47 : decode cX10_goOn 47 = .ok (.iconst 1, 1) := by decide +kernel
theorem dX10_goOn_48 : decode cX10_goOn 48 = .ok (.putfield 140, 3) := by decide +kernel
theorem dX10_goOn_51 : decode cX10_goOn 51 = .ok (.iconst 0, 1) := by decide +kernel
theorem dX10_goOn_52 : decode cX10_goOn 52 = .ok (.istore_n 1, 1) := by decide +kernel
theorem dX10_goOn_53 : decode cX10_goOn 53 = .ok (.iload_n 1, 1) := by decide +kernel
theorem dX10_goOn_54 : decode cX10_goOn 54 = .ok (.aload_n 0, 1) := by decide +kernel
theorem dX10_goOn_55 : decode cX10_goOn 55 = .ok (.getfield 21, 3) := by decide +kernel
theorem dX10_goOn_58 : decode cX10_goOn 58 = .ok (.getfield 144, 3) := by decide +kernel
theorem dX10_goOn_61 : decode cX10_goOn 61 = .ok (.if_icmp .ge 25, 3) := by decide +kernel
theorem dX10_goOn_64 : decode cX10_goOn 64 = .ok (.aload_n 0, 1) := by decide +kernel
theorem dX10_goOn_65 : decode cX10_goOn 65 = .ok (.getfield 21, 3) := by decide +kernel
theorem dX10_goOn_68 : decode cX10_goOn 68 = .ok (.iload_n 1, 1) := by decide +kernel
theorem dX10_goOn_69 : decode cX10_goOn 69 = .ok (.invokevirtual 147, 3) := by decide +kernel
theorem dX10_goOn_72 : decode cX10_goOn 72 = .ok (.ifCond .eq 8, 3) := by decide +kernel
theorem dX10_goOn_75 : decode cX10_goOn 75 = .ok (.aload_n 0, 1) := by decide +kernel
theorem dX10_goOn_76 : decode cX10_goOn 76 = .ok (.iload_n 1, 1) := by decide +kernel
theorem dX10_goOn_77 : decode cX10_goOn 77 = .ok (.invokevirtual 151, 3) := by decide +kernel
theorem dX10_goOn_80 : decode cX10_goOn 80 = .ok (.iinc 1 1, 3) := by decide +kernel
theorem dX10_goOn_83 : decode cX10_goOn 83 = .ok (.goto (-30), 3) := by decide +kernel
theorem dX10_goOn_86 : decode cX10_goOn 86 = .ok (.aload_n 0, 1) := by decide +kernel
theorem dX10_goOn_87 : decode cX10_goOn 87 = .ok (.invokevirtual 154, 3) := by decide +kernel
theorem dX10_goOn_90 : decode cX10_goOn 90 = .ok (.iconst 0, 1) := by decide +kernel
theorem dX10_goOn_91 : decode cX10_goOn 91 = .ok (.istore_n 1, 1) := by decide +kernel
theorem dX10_goOn_92 : decode cX10_goOn 92 = .ok (.iload_n 1, 1) := by decide +kernel
theorem dX10_goOn_93 : decode cX10_goOn 93 = .ok (.bipush 96, 2) := by decide +kernel
theorem dX10_goOn_95 : decode cX10_goOn 95 = .ok (.if_icmp .ge 25, 3) := by decide +kernel
theorem dX10_goOn_98 : decode cX10_goOn 98 = .ok (.aload_n 0, 1) := by decide +kernel
theorem dX10_goOn_99 : decode cX10_goOn 99 = .ok (.getfield 12, 3) := by decide +kernel
theorem dX10_goOn_102 : decode cX10_goOn 102 = .ok (.iload_n 1, 1) := by decide +kernel
theorem dX10_goOn_103 : decode cX10_goOn 103 = .ok (.invokevirtual 157, 3) := by decide +kernel
theorem dX10_goOn_106 : decode cX10_goOn 106 = .ok (.ifCond .eq 8, 3) := by decide +kernel
theorem dX10_goOn_109 : decode cX10_goOn 109 = .ok (.aload_n 0, 1) := by decide +kernel
theorem dX10_goOn_110 : decode cX10_goOn 110 = .ok (.iload_n 1, 1) := by decide +kernel
theorem dX10_goOn_111 : decode cX10_goOn 111 = .ok (.invokevirtual 160, 3) := by decide +kernel
theorem dX10_goOn_114 : decode cX10_goOn 114 = .ok (.iinc 1 1, 3) := by decide +kernel
theorem dX10_goOn_117 : decode cX10_goOn 117 = .ok (.goto (-25), 3) := by decide +kernel
theorem dX10_goOn_120 : decode cX10_goOn 120 = .ok (.aload_n 0, 1) := by decide +kernel
theorem dX10_goOn_121 : decode cX10_goOn 121 = .ok (.getfield 12, 3) := by decide +kernel
theorem dX10_goOn_124 : decode cX10_goOn 124 = .ok (.aload_n 0, 1) := by decide +kernel
theorem dX10_goOn_125 : decode cX10_goOn 125 = .ok (.getfield 84, 3) := by decide +kernel
theorem dX10_goOn_128 : decode cX10_goOn 128 = .ok (.invokevirtual 163, 3) := by decide +kernel
theorem dX10_goOn_131 : decode cX10_goOn 131 = .ok (.aload_n 0, 1) := by decide +kernel
theorem dX10_goOn_132 : decode cX10_goOn 132 = .ok (.getfield 84, 3) := by decide +kernel
theorem dX10_goOn_135 : decode cX10_goOn 135 = .ok (.bipush 52, 2) := by decide +kernel
theorem dX10_goOn_137 : decode cX10_goOn 137 = .ok (.irem, 1) := by decide +kernel
theorem dX10_goOn_138 : decode cX10_goOn 138 = .ok (.bipush 51, 2) := by decide +kernel
theorem dX10_goOn_140 : decode cX10_goOn 140 = .ok (.if_icmp .ne 7, 3) := by decide +kernel
theorem dX10_goOn_143 : decode cX10_goOn 143 = .ok (.aload_n 0, 1) := by decide +kernel
theorem dX10_goOn_144 : decode cX10_goOn 144 = .ok (.invokevirtual 166, 3) := by decide +kernel
theorem dX10_goOn_147 : decode cX10_goOn 147 = .ok (.aload_n 0, 1) := by decide +kernel
theorem dX10_goOn_148 : decode cX10_goOn 148 = .ok (.dup, 1) := by decide +kernel
theorem dX10_goOn_149 : decode cX10_goOn 149 = .ok (.getfield 84, 3) := by decide +kernel
theorem dX10_goOn_152 : decode cX10_goOn 152 = .ok (.iconst 1, 1) := by decide +kernel
theorem dX10_goOn_153 : decode cX10_goOn 153 = .ok (.iadd, 1) := by decide +kernel
theorem dX10_goOn_154 : decode cX10_goOn 154 = .ok (.putfield 84, 3) := by decide +kernel
theorem dX10_goOn_157 : decode cX10_goOn 157 = .ok (.return_, 1) := by decide +kernel
theorem wX10_goOn_J80 {p : Program} {l : Launch} {e : Env} {s : State} {m : MethodId} {args : Array Value} {below : List Frame} {meth : Method} {c : Code} {Y : Nat → ClassId} {D : va_G} {σ : Nat → Nat} {np b0 : Nat} {w : Nat} {r : Mc} {K53 : Mc → Int32 → Option (Mc)} {M : Mc} {N : Md} {X1 : Int32} (hE : EOK p s m args meth c cX10_goOn 2 RX10 Y D σ np b0) (hr : meth.sig.returnType = none) (hw : is10 w) (hK53 : ∀ (M : Mc) (N : Md) (X1 : Int32), K53 M X1 = some r → Xw p l e (rmD 6) s m args below meth c 2 Y D σ np b0 0 0 (MQ below (QR Y D σ np b0 none r N) args s 0 0 (xA b0)) 53 [(0, .ref (σ w)), (1, .int X1)] [] M N) (hf : fX10_goOn_J80 w K53 M X1 = some r) : Xw p l e (rmD 6) s m args below meth c 2 Y D σ np b0 0 0 (MQ below (QR Y D σ np b0 none r N) args s 0 0 (xA b0)) 80 [(0, .ref (σ w)), (1, .int X1)] [] M N := by
  unfold fX10_goOn_J80 at hf
  refine x_iinc hE 1 (X1 + nI 1) (L' := [(1, .int (X1 + nI 1)), (0, .ref (σ w))]) dX10_goOn_80 rfl rfl (by decide) rfl ?_
  refine x_pick [1, 0] (L' := [(0, .ref (σ w)), (1, .int (X1 + nI 1))]) rfl ?_
  refine x_goto hE 53 dX10_goOn_83 (by decide) ?_
  exact hK53 _ _ _ hf
theorem wX10_goOn_J147 {p : Program} {l : Launch} {e : Env} {s : State} {m : MethodId} {args : Array Value} {below : List Frame} {meth : Method} {c : Code} {Y : Nat → ClassId} {D : va_G} {σ : Nat → Nat} {np b0 : Nat} {w : Nat} {r : Mc} {M : Mc} {N : Md} (hE : EOK p s m args meth c cX10_goOn 2 RX10 Y D σ np b0) (hr : meth.sig.returnType = none) (hw : is10 w) (hf : fX10_goOn_J147 w M = some r) : Xw p l e (rmD 6) s m args below meth c 2 Y D σ np b0 0 0 (MQ below (QR Y D σ np b0 none r N) args s 0 0 (xA b0)) 147 [(0, .ref (σ w))] [] M N := by
  unfold fX10_goOn_J147 at hf
  refine x_aload_n hE 0 dX10_goOn_147 rfl rfl ?_
  refine x_dup hE dX10_goOn_148 rfl ?_
  refine x_getI hE cl_10 (hE.kd (kO_10 hw)) (by decide) 6 rfl (by decide) lk_X10_84 dX10_goOn_149 ?_
  refine x_iconst hE (nI 1) dX10_goOn_152 (by decide) ?_
  refine x_iadd hE dX10_goOn_153 ?_
  refine x_putI hE cl_10 (hE.kd (kO_10 hw)) (by decide) 6 rfl (by decide) lk_X10_84 rfl rfl rfl rfl dX10_goOn_154 hf (fun M26 hf => ?_)
  replace hf := Option.some.inj hf
  subst hf
  exact x_vreturn hE hr dX10_goOn_157
theorem wX10_goOn_J114 {p : Program} {l : Launch} {e : Env} {s : State} {m : MethodId} {args : Array Value} {below : List Frame} {meth : Method} {c : Code} {Y : Nat → ClassId} {D : va_G} {σ : Nat → Nat} {np b0 : Nat} {w : Nat} {r : Mc} {K92 : Mc → Int32 → Option (Mc)} {M : Mc} {N : Md} {X1 : Int32} (hE : EOK p s m args meth c cX10_goOn 2 RX10 Y D σ np b0) (hr : meth.sig.returnType = none) (hw : is10 w) (hK92 : ∀ (M : Mc) (N : Md) (X1 : Int32), K92 M X1 = some r → Xw p l e (rmD 6) s m args below meth c 2 Y D σ np b0 0 0 (MQ below (QR Y D σ np b0 none r N) args s 0 0 (xA b0)) 92 [(0, .ref (σ w)), (1, .int X1)] [] M N) (hf : fX10_goOn_J114 w K92 M X1 = some r) : Xw p l e (rmD 6) s m args below meth c 2 Y D σ np b0 0 0 (MQ below (QR Y D σ np b0 none r N) args s 0 0 (xA b0)) 114 [(0, .ref (σ w)), (1, .int X1)] [] M N := by
  unfold fX10_goOn_J114 at hf
  refine x_iinc hE 1 (X1 + nI 1) (L' := [(1, .int (X1 + nI 1)), (0, .ref (σ w))]) dX10_goOn_114 rfl rfl (by decide) rfl ?_
  refine x_pick [1, 0] (L' := [(0, .ref (σ w)), (1, .int (X1 + nI 1))]) rfl ?_
  refine x_goto hE 92 dX10_goOn_117 (by decide) ?_
  exact hK92 _ _ _ hf
theorem wX10_goOn_L92 {p : Program} {l : Launch} {e : Env} {s : State} {m : MethodId} {args : Array Value} {below : List Frame} {meth : Method} {c : Code} {Y : Nat → ClassId} {D : va_G} {σ : Nat → Nat} {np b0 : Nat} {w : Nat} {r : Mc} (hE : EOK p s m args meth c cX10_goOn 2 RX10 Y D σ np b0) (hr : meth.sig.returnType = none) (hw : is10 w) : ∀ (n : Nat) (M : Mc) (N : Md) (X1 : Int32), fX10_goOn_L92 w n M X1 = some r → Xw p l e (rmD 6) s m args below meth c 2 Y D σ np b0 0 0 (MQ below (QR Y D σ np b0 none r N) args s 0 0 (xA b0)) 92 [(0, .ref (σ w)), (1, .int X1)] [] M N := by
  intro n
  induction n with
  | zero =>
    intro M N X1 hf
    cases hf
  | succ n ih =>
    intro M N X1 hf
    rw [fX10_goOn_L92.eq_2] at hf
    refine x_iload_n hE 1 dX10_goOn_92 rfl rfl ?_
    refine x_bipush hE (nI 96) dX10_goOn_93 (by decide) ?_
    refine x_icmp_ge hE 120 dX10_goOn_95 (by decide) hf (fun hf => ?_) (fun hf => ?_)
    · refine x_aload_n hE 0 dX10_goOn_120 rfl rfl ?_
      refine x_getR hE cl_10 (hE.kd (kO_10 hw)) (by decide) 1 (w + 1) rfl (by decide) lk_X10_12 dX10_goOn_121 ?_
      refine x_aload_n hE 0 dX10_goOn_124 rfl rfl ?_
      refine x_getI hE cl_10 (hE.kd (kO_10 hw)) (by decide) 6 rfl (by decide) lk_X10_84 dX10_goOn_125 ?_
      obtain ⟨M19, hc18, hf⟩ := bnd_some hf
      refine x_callV0 hE [.int (M w 6)] (rest := []) (c1 := M19) (d1 := N) rfl yokX4_endRuns yvX4_endRuns lk_X10_163 rfl cl_4 (hE.kd (kO_4 (hL_10_1 hw))) (by decide) rfl rfl ⟨Nat.le_of_ble_eq_true rfl, Nat.le_of_ble_eq_true rfl⟩ ⟨Nat.zero_le _, Nat.zero_le _⟩ rfl (Nat.le_of_ble_eq_true rfl) dX10_goOn_128 (mX4_endRuns l (hL_10_1 hw) hc18) ?_
      refine x_aload_n hE 0 dX10_goOn_131 rfl rfl ?_
      refine x_getI hE cl_10 (hE.kd (kO_10 hw)) (by decide) 6 rfl (by decide) lk_X10_84 dX10_goOn_132 ?_
      refine x_bipush hE (nI 52) dX10_goOn_135 (by decide) ?_
      refine x_iremC hE dX10_goOn_137 (by decide) ?_
      refine x_bipush hE (nI 51) dX10_goOn_138 (by decide) ?_
      refine x_icmp_ne hE 147 dX10_goOn_140 (by decide) hf (fun hf => ?_) (fun hf => ?_)
      · refine x_pick [0] (L' := [(0, .ref (σ w))]) rfl ?_
        exact wX10_goOn_J147 hE hr hw hf
      · refine x_aload_n hE 0 dX10_goOn_143 rfl rfl ?_
        obtain ⟨M21, hc20, hf⟩ := bnd_some hf
        refine x_callV0 hE [] (rest := []) (c1 := M21) (d1 := N) rfl yokX10_endYear yvX10_endYear lk_X10_166 rfl cl_10 (hE.kd (kO_10 hw)) (by decide) rfl rfl ⟨Nat.le_of_ble_eq_true rfl, Nat.le_of_ble_eq_true rfl⟩ ⟨Nat.zero_le _, Nat.zero_le _⟩ rfl (Nat.le_of_ble_eq_true rfl) dX10_goOn_144 (mX10_endYear l hw hc20) ?_
        refine x_pick [0] (L' := [(0, .ref (σ w))]) rfl ?_
        exact wX10_goOn_J147 hE hr hw hf
    · refine x_aload_n hE 0 dX10_goOn_98 rfl rfl ?_
      refine x_getR hE cl_10 (hE.kd (kO_10 hw)) (by decide) 1 (w + 1) rfl (by decide) lk_X10_12 dX10_goOn_99 ?_
      refine x_iload_n hE 1 dX10_goOn_102 rfl rfl ?_
      obtain ⟨v23, hc22, hf⟩ := bnd_some hf
      refine x_callV1 hE [.int X1] (rest := []) (v := .int v23) (c1 := M) (d1 := N) rfl yokX4_isStraying yvX4_isStraying lk_X10_157 rfl cl_4 (hE.kd (kO_4 (hL_10_1 hw))) (by decide) rfl rfl ⟨Nat.le_of_ble_eq_true rfl, Nat.le_of_ble_eq_true rfl⟩ ⟨Nat.zero_le _, Nat.zero_le _⟩ rfl (Nat.le_of_ble_eq_true rfl) dX10_goOn_103 (mX4_isStraying l (hL_10_1 hw) hc22) ?_
      refine x_if_eq hE 114 dX10_goOn_106 (by decide) hf (fun hf => ?_) (fun hf => ?_)
      · exact wX10_goOn_J114 hE hr hw (fun _ _ _ hf => ih _ _ _ hf) hf
      · refine x_aload_n hE 0 dX10_goOn_109 rfl rfl ?_
        refine x_iload_n hE 1 dX10_goOn_110 rfl rfl ?_
        obtain ⟨M25, hc24, hf⟩ := bnd_some hf
        refine x_callV0 hE [.int X1] (rest := []) (c1 := M25) (d1 := N) rfl yokX10_stray yvX10_stray lk_X10_160 rfl cl_10 (hE.kd (kO_10 hw)) (by decide) rfl rfl ⟨Nat.le_of_ble_eq_true rfl, Nat.le_of_ble_eq_true rfl⟩ ⟨Nat.zero_le _, Nat.zero_le _⟩ rfl (Nat.le_of_ble_eq_true rfl) dX10_goOn_111 (mX10_stray l hw hc24) ?_
        exact wX10_goOn_J114 hE hr hw (fun _ _ _ hf => ih _ _ _ hf) hf
theorem wX10_goOn_L53 {p : Program} {l : Launch} {e : Env} {s : State} {m : MethodId} {args : Array Value} {below : List Frame} {meth : Method} {c : Code} {Y : Nat → ClassId} {D : va_G} {σ : Nat → Nat} {np b0 : Nat} {w : Nat} {r : Mc} (hE : EOK p s m args meth c cX10_goOn 2 RX10 Y D σ np b0) (hr : meth.sig.returnType = none) (hw : is10 w) : ∀ (n : Nat) (M : Mc) (N : Md) (X1 : Int32), fX10_goOn_L53 w n M X1 = some r → Xw p l e (rmD 6) s m args below meth c 2 Y D σ np b0 0 0 (MQ below (QR Y D σ np b0 none r N) args s 0 0 (xA b0)) 53 [(0, .ref (σ w)), (1, .int X1)] [] M N := by
  intro n
  induction n with
  | zero =>
    intro M N X1 hf
    cases hf
  | succ n ih =>
    intro M N X1 hf
    rw [fX10_goOn_L53.eq_2] at hf
    refine x_iload_n hE 1 dX10_goOn_53 rfl rfl ?_
    refine x_aload_n hE 0 dX10_goOn_54 rfl rfl ?_
    refine x_getR hE cl_10 (hE.kd (kO_10 hw)) (by decide) 2 (w + 15) rfl (by decide) lk_X10_21 dX10_goOn_55 ?_
    refine x_getI hE cl_3 (hE.kd (kO_3 (hL_10_2 hw))) (by decide) 0 rfl (by decide) lk_X10_144 dX10_goOn_58 ?_
    refine x_icmp_ge hE 86 dX10_goOn_61 (by decide) hf (fun hf => ?_) (fun hf => ?_)
    · refine x_aload_n hE 0 dX10_goOn_86 rfl rfl ?_
      obtain ⟨M13, hc12, hf⟩ := bnd_some hf
      refine x_callV0 hE [] (rest := []) (c1 := M13) (d1 := N) rfl yokX10_rainFalls yvX10_rainFalls lk_X10_154 rfl cl_10 (hE.kd (kO_10 hw)) (by decide) rfl rfl ⟨Nat.le_of_ble_eq_true rfl, Nat.le_of_ble_eq_true rfl⟩ ⟨Nat.zero_le _, Nat.zero_le _⟩ rfl (Nat.le_of_ble_eq_true rfl) dX10_goOn_87 (mX10_rainFalls l hw hc12) ?_
      refine x_iconst hE (0 : Int32) dX10_goOn_90 (by decide) ?_
      refine x_istore_n hE (L' := [(1, .int 0), (0, .ref (σ w))]) dX10_goOn_91 rfl (by decide) rfl ?_
      refine x_pick [1, 0] (L' := [(0, .ref (σ w)), (1, .int 0)]) rfl ?_
      exact wX10_goOn_L92 hE hr hw FU _ _ _ hf
    · refine x_aload_n hE 0 dX10_goOn_64 rfl rfl ?_
      refine x_getR hE cl_10 (hE.kd (kO_10 hw)) (by decide) 2 (w + 15) rfl (by decide) lk_X10_21 dX10_goOn_65 ?_
      refine x_iload_n hE 1 dX10_goOn_68 rfl rfl ?_
      obtain ⟨v15, hc14, hf⟩ := bnd_some hf
      refine x_callV1 hE [.int X1] (rest := []) (v := .int v15) (c1 := M) (d1 := N) rfl yokX3_isHere yvX3_isHere lk_X10_147 rfl cl_3 (hE.kd (kO_3 (hL_10_2 hw))) (by decide) rfl rfl ⟨Nat.le_of_ble_eq_true rfl, Nat.le_of_ble_eq_true rfl⟩ ⟨Nat.zero_le _, Nat.zero_le _⟩ rfl (Nat.le_of_ble_eq_true rfl) dX10_goOn_69 (mX3_isHere l (hL_10_2 hw) hc14) ?_
      refine x_if_eq hE 80 dX10_goOn_72 (by decide) hf (fun hf => ?_) (fun hf => ?_)
      · exact wX10_goOn_J80 hE hr hw (fun _ _ _ hf => ih _ _ _ hf) hf
      · refine x_aload_n hE 0 dX10_goOn_75 rfl rfl ?_
        refine x_iload_n hE 1 dX10_goOn_76 rfl rfl ?_
        obtain ⟨M17, hc16, hf⟩ := bnd_some hf
        refine x_callV0 hE [.int X1] (rest := []) (c1 := M17) (d1 := N) rfl yokX10_act yvX10_act lk_X10_151 rfl cl_10 (hE.kd (kO_10 hw)) (by decide) rfl rfl ⟨Nat.le_of_ble_eq_true rfl, Nat.le_of_ble_eq_true rfl⟩ ⟨Nat.zero_le _, Nat.zero_le _⟩ rfl (Nat.le_of_ble_eq_true rfl) dX10_goOn_77 (mX10_act l hw hc16) ?_
        exact wX10_goOn_J80 hE hr hw (fun _ _ _ hf => ih _ _ _ hf) hf
theorem mX10_goOn (l : Launch) {Y : Nat → ClassId} {D : va_G} {σ : Nat → Nat} {np b0 : Nat} {M : Mc} {N : Md} {w : Nat} {r : Mc} (hw : is10 w) (hf : fX10_goOn M w = some r) : Met l yX10_goOn (.code yX10_goOn cX10_goOn 2 none :: lw_g) (rmD 6) (PR Y D σ np b0 [.ref (σ w)] M N) (QR Y D σ np b0 none r N) 0 0 (xA b0) := by
  refine x_met (by decide) (Nat.le_of_ble_eq_true rfl) (fun p e s m args below meth c hE hr => ?_)
  unfold fX10_goOn at hf
  refine x_pick [0] (L' := [(0, .ref (σ w))]) rfl ?_
  refine x_aload_n hE 0 dX10_goOn_0 rfl rfl ?_
  refine x_getR hE cl_10 (hE.kd (kO_10 hw)) (by decide) 2 (w + 15) rfl (by decide) lk_X10_21 dX10_goOn_1 ?_
  refine x_aload_n hE 0 dX10_goOn_4 rfl rfl ?_
  refine x_getI hE cl_10 (hE.kd (kO_10 hw)) (by decide) 6 rfl (by decide) lk_X10_84 dX10_goOn_5 ?_
  obtain ⟨M2, hc1, hf⟩ := bnd_some hf
  refine x_callV0 hE [.int (M w 6)] (rest := []) (c1 := M2) (d1 := N) rfl yokX3_disembark yvX3_disembark lk_X10_128 rfl cl_3 (hE.kd (kO_3 (hL_10_2 hw))) (by decide) rfl rfl ⟨Nat.le_of_ble_eq_true rfl, Nat.le_of_ble_eq_true rfl⟩ ⟨Nat.zero_le _, Nat.zero_le _⟩ rfl (Nat.le_of_ble_eq_true rfl) dX10_goOn_8 (mX3_disembark l (hL_10_2 hw) hc1) ?_
  refine x_aload_n hE 0 dX10_goOn_11 rfl rfl ?_
  obtain ⟨M4, hc3, hf⟩ := bnd_some hf
  refine x_callV0 hE [] (rest := []) (c1 := M4) (d1 := N) rfl yokX10_readLaws yvX10_readLaws lk_X10_131 rfl cl_10 (hE.kd (kO_10 hw)) (by decide) rfl rfl ⟨Nat.le_of_ble_eq_true rfl, Nat.le_of_ble_eq_true rfl⟩ ⟨Nat.zero_le _, Nat.zero_le _⟩ rfl (Nat.le_of_ble_eq_true rfl) dX10_goOn_12 (mX10_readLaws l hw hc3) ?_
  refine x_aload_n hE 0 dX10_goOn_15 rfl rfl ?_
  refine x_dup hE dX10_goOn_16 rfl ?_
  refine x_getI hE cl_10 (hE.kd (kO_10 hw)) (by decide) 8 rfl (by decide) lk_X10_43 dX10_goOn_17 ?_
  refine x_aload_n hE 0 dX10_goOn_20 rfl rfl ?_
  refine x_getR hE cl_10 (hE.kd (kO_10 hw)) (by decide) 4 (w + 32) rfl (by decide) lk_X10_35 dX10_goOn_21 ?_
  refine x_aload_n hE 0 dX10_goOn_24 rfl rfl ?_
  refine x_getI hE cl_10 (hE.kd (kO_10 hw)) (by decide) 6 rfl (by decide) lk_X10_84 dX10_goOn_25 ?_
  obtain ⟨⟨v6, M7⟩, hc5, hf⟩ := bn2_some hf
  refine x_callV1 hE [.int (M4 w 6)] (rest := [.int (M4 w 8), .ref (σ w)]) (v := .int v6) (c1 := M7) (d1 := N) rfl yokX1_readDue yvX1_readDue lk_X10_134 rfl cl_1 (hE.kd (kO_1 (hL_10_4 hw))) (by decide) rfl rfl ⟨Nat.le_of_ble_eq_true rfl, Nat.le_of_ble_eq_true rfl⟩ ⟨Nat.zero_le _, Nat.zero_le _⟩ rfl (Nat.le_of_ble_eq_true rfl) dX10_goOn_28 (mX1_readDue l (hL_10_4 hw) hc5) ?_
  refine x_isub hE dX10_goOn_31 ?_
  refine x_putI hE cl_10 (hE.kd (kO_10 hw)) (by decide) 8 rfl (by decide) lk_X10_43 rfl rfl rfl rfl dX10_goOn_32 hf (fun M8 hf => ?_)
  refine x_aload_n hE 0 dX10_goOn_35 rfl rfl ?_
  refine x_getR hE cl_10 (hE.kd (kO_10 hw)) (by decide) 3 (w + 27) rfl (by decide) lk_X10_28 dX10_goOn_36 ?_
  refine x_aload_n hE 0 dX10_goOn_39 rfl rfl ?_
  refine x_getR hE cl_10 (hE.kd (kO_10 hw)) (by decide) 1 (w + 1) rfl (by decide) lk_X10_12 dX10_goOn_40 ?_
  obtain ⟨M10, hc9, hf⟩ := bnd_some hf
  refine x_callV0 hE [.ref (σ (w + 1))] (rest := []) (c1 := M10) (d1 := N) rfl yokX5_goOut yvX5_goOut lk_X10_137 rfl cl_5 (hE.kd (kO_5 (hL_10_3 hw))) (by decide) rfl rfl ⟨Nat.le_of_ble_eq_true rfl, Nat.le_of_ble_eq_true rfl⟩ ⟨Nat.zero_le _, Nat.zero_le _⟩ rfl (Nat.le_of_ble_eq_true rfl) dX10_goOn_43 (mX5_goOut l (hL_10_3 hw) (hL_10_1 hw) hc9) ?_
  refine x_aload_n hE 0 dX10_goOn_46 rfl rfl ?_
  refine x_iconst hE (nI 1) dX10_goOn_47 (by decide) ?_
  refine x_putI hE cl_10 (hE.kd (kO_10 hw)) (by decide) 13 rfl (by decide) lk_X10_140 rfl rfl rfl rfl dX10_goOn_48 hf (fun M11 hf => ?_)
  refine x_iconst hE (0 : Int32) dX10_goOn_51 (by decide) ?_
  refine x_istore_n hE (L' := [(1, .int 0), (0, .ref (σ w))]) dX10_goOn_52 rfl (by decide) rfl ?_
  refine x_pick [1, 0] (L' := [(0, .ref (σ w)), (1, .int 0)]) rfl ?_
  exact wX10_goOn_L53 hE hr hw FU _ _ _ hf
theorem yokX10_goOn : YOK yX10_goOn cX10_goOn 2 0 none := ⟨mem_g 1676 (by decide +kernel) (by decide +kernel), mem_g 133 (by decide +kernel) (by decide +kernel), by decide +kernel, by decide +kernel, by decide +kernel⟩
theorem yvX10_goOn : YV yX10_goOn := ⟨mem_g 1674 (by decide +kernel) (by decide +kernel), mem_g 1675 (by decide +kernel) (by decide +kernel)⟩
theorem lk_X10_169 : Cond.methodLink RX10 169 yX4_isWild ∈ lw_g := mem_g 1068 (by decide +kernel) (by decide +kernel)
theorem lk_X10_172 : Cond.methodLink RX10 172 yX5_idle ∈ lw_g := mem_g 1069 (by decide +kernel) (by decide +kernel)
theorem dX10_weeksTillLot_0 : decode cX10_weeksTillLot 0 = .ok (.aload_n 0, 1) := by decide +kernel
theorem dX10_weeksTillLot_1 : decode cX10_weeksTillLot 1 = .ok (.getfield 12, 3) := by decide +kernel
theorem dX10_weeksTillLot_4 : decode cX10_weeksTillLot 4 = .ok (.iload_n 1, 1) := by decide +kernel
theorem dX10_weeksTillLot_5 : decode cX10_weeksTillLot 5 = .ok (.invokevirtual 169, 3) := by decide +kernel
theorem dX10_weeksTillLot_8 : decode cX10_weeksTillLot 8 = .ok (.ifCond .ne 5, 3) := by decide +kernel
theorem dX10_weeksTillLot_11 : decode cX10_weeksTillLot 11 = .ok (.iconst 0, 1) := by decide +kernel
theorem dX10_weeksTillLot_12 : decode cX10_weeksTillLot 12 = .ok (.ireturn, 1) := by decide +kernel
theorem dX10_weeksTillLot_13 : decode cX10_weeksTillLot 13 = .ok (.iconst 1, 1) := by decide +kernel
theorem dX10_weeksTillLot_14 : decode cX10_weeksTillLot 14 = .ok (.istore_n 2, 1) := by decide +kernel
theorem dX10_weeksTillLot_15 : decode cX10_weeksTillLot 15 = .ok (.iload_n 2, 1) := by decide +kernel
theorem dX10_weeksTillLot_16 : decode cX10_weeksTillLot 16 = .ok (.sipush 1000, 3) := by decide +kernel
theorem dX10_weeksTillLot_19 : decode cX10_weeksTillLot 19 = .ok (.if_icmp .gt 43, 3) := by decide +kernel
theorem dX10_weeksTillLot_22 : decode cX10_weeksTillLot 22 = .ok (.aload_n 0, 1) := by decide +kernel
theorem dX10_weeksTillLot_23 : decode cX10_weeksTillLot 23 = .ok (.getfield 28, 3) := by decide +kernel
theorem dX10_weeksTillLot_26 : decode cX10_weeksTillLot 26 = .ok (.invokevirtual 172, 3) := by decide +kernel
theorem dX10_weeksTillLot_29 : decode cX10_weeksTillLot 29 = .ok (.ifCond .ne 33, 3) := by decide +kernel
theorem dX10_weeksTillLot_32 : decode cX10_weeksTillLot 32 = .ok (.aload_n 0, 1) := by decide +kernel
theorem dX10_weeksTillLot_33 : decode cX10_weeksTillLot 33 = .ok (.getfield 28, 3) := by decide +kernel
theorem dX10_weeksTillLot_36 : decode cX10_weeksTillLot 36 = .ok (.aload_n 0, 1) := by decide +kernel
theorem dX10_weeksTillLot_37 : decode cX10_weeksTillLot 37 = .ok (.getfield 12, 3) := by decide +kernel
theorem dX10_weeksTillLot_40 : decode cX10_weeksTillLot 40 = .ok (.invokevirtual 137, 3) := by decide +kernel
theorem dX10_weeksTillLot_43 : decode cX10_weeksTillLot 43 = .ok (.aload_n 0, 1) := by decide +kernel
theorem dX10_weeksTillLot_44 : decode cX10_weeksTillLot 44 = .ok (.getfield 12, 3) := by decide +kernel
theorem dX10_weeksTillLot_47 : decode cX10_weeksTillLot 47 = .ok (.iload_n 1, 1) := by decide +kernel
theorem dX10_weeksTillLot_48 : decode cX10_weeksTillLot 48 = .ok (.invokevirtual 169, 3) := by decide +kernel
theorem dX10_weeksTillLot_51 : decode cX10_weeksTillLot 51 = .ok (.ifCond .ne 5, 3) := by decide +kernel
theorem dX10_weeksTillLot_54 : decode cX10_weeksTillLot 54 = .ok (.iload_n 2, 1) := by decide +kernel
theorem dX10_weeksTillLot_55 : decode cX10_weeksTillLot 55 = .ok (.ireturn, 1) := by decide +kernel
theorem dX10_weeksTillLot_56 : decode cX10_weeksTillLot 56 = .ok (.iinc 2 1, 3) := by decide +kernel
theorem dX10_weeksTillLot_59 : decode cX10_weeksTillLot 59 = .ok (.goto (-44), 3) := by decide +kernel
theorem dX10_weeksTillLot_62 : decode cX10_weeksTillLot 62 = .ok (.iconst (-1), 1) := by decide +kernel
theorem dX10_weeksTillLot_63 : decode cX10_weeksTillLot 63 = .ok (.ireturn, 1) := by decide +kernel
theorem wX10_weeksTillLot_L15 {p : Program} {l : Launch} {e : Env} {s : State} {m : MethodId} {args : Array Value} {below : List Frame} {meth : Method} {c : Code} {Y : Nat → ClassId} {D : va_G} {σ : Nat → Nat} {np b0 : Nat} {w : Nat} {r : Int32 × Mc} (hE : EOK p s m args meth c cX10_weeksTillLot 3 RX10 Y D σ np b0) (hr : meth.sig.returnType = (some .int)) (hw : is10 w) : ∀ (n : Nat) (M : Mc) (N : Md) (X1 : Int32) (X2 : Int32), fX10_weeksTillLot_L15 w n M X1 X2 = some r → Xw p l e (rmD 6) s m args below meth c 3 Y D σ np b0 0 0 (MQ below (QR Y D σ np b0 (some (.int r.1)) r.2 N) args s 0 0 (xA b0)) 15 [(0, .ref (σ w)), (1, .int X1), (2, .int X2)] [] M N := by
  intro n
  induction n with
  | zero =>
    intro M N X1 X2 hf
    cases hf
  | succ n ih =>
    intro M N X1 X2 hf
    rw [fX10_weeksTillLot_L15.eq_2] at hf
    refine x_iload_n hE 2 dX10_weeksTillLot_15 rfl rfl ?_
    refine x_sipush hE (nI 1000) dX10_weeksTillLot_16 (by decide) ?_
    refine x_icmp_gt hE 62 dX10_weeksTillLot_19 (by decide) hf (fun hf => ?_) (fun hf => ?_)
    · refine x_iconst hE (-1) dX10_weeksTillLot_62 (by decide) ?_
      replace hf := Option.some.inj hf
      subst hf
      exact x_ireturn hE (v := (-1)) hr rfl dX10_weeksTillLot_63
    · refine x_aload_n hE 0 dX10_weeksTillLot_22 rfl rfl ?_
      refine x_getR hE cl_10 (hE.kd (kO_10 hw)) (by decide) 3 (w + 27) rfl (by decide) lk_X10_28 dX10_weeksTillLot_23 ?_
      obtain ⟨v4, hc3, hf⟩ := bnd_some hf
      refine x_callV1 hE [] (rest := []) (v := .int v4) (c1 := M) (d1 := N) rfl yokX5_idle yvX5_idle lk_X10_172 rfl cl_5 (hE.kd (kO_5 (hL_10_3 hw))) (by decide) rfl rfl ⟨Nat.le_of_ble_eq_true rfl, Nat.le_of_ble_eq_true rfl⟩ ⟨Nat.zero_le _, Nat.zero_le _⟩ rfl (Nat.le_of_ble_eq_true rfl) dX10_weeksTillLot_26 (mX5_idle l (hL_10_3 hw) hc3) ?_
      refine x_if_ne hE 62 dX10_weeksTillLot_29 (by decide) hf (fun hf => ?_) (fun hf => ?_)
      · refine x_iconst hE (-1) dX10_weeksTillLot_62 (by decide) ?_
        replace hf := Option.some.inj hf
        subst hf
        exact x_ireturn hE (v := (-1)) hr rfl dX10_weeksTillLot_63
      · refine x_aload_n hE 0 dX10_weeksTillLot_32 rfl rfl ?_
        refine x_getR hE cl_10 (hE.kd (kO_10 hw)) (by decide) 3 (w + 27) rfl (by decide) lk_X10_28 dX10_weeksTillLot_33 ?_
        refine x_aload_n hE 0 dX10_weeksTillLot_36 rfl rfl ?_
        refine x_getR hE cl_10 (hE.kd (kO_10 hw)) (by decide) 1 (w + 1) rfl (by decide) lk_X10_12 dX10_weeksTillLot_37 ?_
        obtain ⟨M6, hc5, hf⟩ := bnd_some hf
        refine x_callV0 hE [.ref (σ (w + 1))] (rest := []) (c1 := M6) (d1 := N) rfl yokX5_goOut yvX5_goOut lk_X10_137 rfl cl_5 (hE.kd (kO_5 (hL_10_3 hw))) (by decide) rfl rfl ⟨Nat.le_of_ble_eq_true rfl, Nat.le_of_ble_eq_true rfl⟩ ⟨Nat.zero_le _, Nat.zero_le _⟩ rfl (Nat.le_of_ble_eq_true rfl) dX10_weeksTillLot_40 (mX5_goOut l (hL_10_3 hw) (hL_10_1 hw) hc5) ?_
        refine x_aload_n hE 0 dX10_weeksTillLot_43 rfl rfl ?_
        refine x_getR hE cl_10 (hE.kd (kO_10 hw)) (by decide) 1 (w + 1) rfl (by decide) lk_X10_12 dX10_weeksTillLot_44 ?_
        refine x_iload_n hE 1 dX10_weeksTillLot_47 rfl rfl ?_
        obtain ⟨v8, hc7, hf⟩ := bnd_some hf
        refine x_callV1 hE [.int X1] (rest := []) (v := .int v8) (c1 := M6) (d1 := N) rfl yokX4_isWild yvX4_isWild lk_X10_169 rfl cl_4 (hE.kd (kO_4 (hL_10_1 hw))) (by decide) rfl rfl ⟨Nat.le_of_ble_eq_true rfl, Nat.le_of_ble_eq_true rfl⟩ ⟨Nat.zero_le _, Nat.zero_le _⟩ rfl (Nat.le_of_ble_eq_true rfl) dX10_weeksTillLot_48 (mX4_isWild l (hL_10_1 hw) hc7) ?_
        refine x_if_ne hE 56 dX10_weeksTillLot_51 (by decide) hf (fun hf => ?_) (fun hf => ?_)
        · refine x_iinc hE 2 (X2 + nI 1) (L' := [(2, .int (X2 + nI 1)), (0, .ref (σ w)), (1, .int X1)]) dX10_weeksTillLot_56 rfl rfl (by decide) rfl ?_
          refine x_pick [1, 2, 0] (L' := [(0, .ref (σ w)), (1, .int X1), (2, .int (X2 + nI 1))]) rfl ?_
          refine x_goto hE 15 dX10_weeksTillLot_59 (by decide) ?_
          exact ih _ _ _ _ hf
        · refine x_iload_n hE 2 dX10_weeksTillLot_54 rfl rfl ?_
          replace hf := Option.some.inj hf
          subst hf
          exact x_ireturn hE (v := X2) hr rfl dX10_weeksTillLot_55
theorem mX10_weeksTillLot (l : Launch) {Y : Nat → ClassId} {D : va_G} {σ : Nat → Nat} {np b0 : Nat} {M : Mc} {N : Md} {w : Nat} {p0 : Int32} {r : Int32 × Mc} (hw : is10 w) (hf : fX10_weeksTillLot M w p0 = some r) : Met l yX10_weeksTillLot (.code yX10_weeksTillLot cX10_weeksTillLot 3 (some .int) :: lw_g) (rmD 6) (PR Y D σ np b0 [.ref (σ w), .int p0] M N) (QR Y D σ np b0 (some (.int r.1)) r.2 N) 0 0 (xA b0) := by
  refine x_met (by decide) (Nat.le_of_ble_eq_true rfl) (fun p e s m args below meth c hE hr => ?_)
  unfold fX10_weeksTillLot at hf
  refine x_pick [0, 1] (L' := [(0, .ref (σ w)), (1, .int p0)]) rfl ?_
  refine x_aload_n hE 0 dX10_weeksTillLot_0 rfl rfl ?_
  refine x_getR hE cl_10 (hE.kd (kO_10 hw)) (by decide) 1 (w + 1) rfl (by decide) lk_X10_12 dX10_weeksTillLot_1 ?_
  refine x_iload_n hE 1 dX10_weeksTillLot_4 rfl rfl ?_
  obtain ⟨v2, hc1, hf⟩ := bnd_some hf
  refine x_callV1 hE [.int p0] (rest := []) (v := .int v2) (c1 := M) (d1 := N) rfl yokX4_isWild yvX4_isWild lk_X10_169 rfl cl_4 (hE.kd (kO_4 (hL_10_1 hw))) (by decide) rfl rfl ⟨Nat.le_of_ble_eq_true rfl, Nat.le_of_ble_eq_true rfl⟩ ⟨Nat.zero_le _, Nat.zero_le _⟩ rfl (Nat.le_of_ble_eq_true rfl) dX10_weeksTillLot_5 (mX4_isWild l (hL_10_1 hw) hc1) ?_
  refine x_if_ne hE 13 dX10_weeksTillLot_8 (by decide) hf (fun hf => ?_) (fun hf => ?_)
  · refine x_iconst hE (nI 1) dX10_weeksTillLot_13 (by decide) ?_
    refine x_istore_n hE (L' := [(2, .int (nI 1)), (0, .ref (σ w)), (1, .int p0)]) dX10_weeksTillLot_14 rfl (by decide) rfl ?_
    refine x_pick [1, 2, 0] (L' := [(0, .ref (σ w)), (1, .int p0), (2, .int (nI 1))]) rfl ?_
    exact wX10_weeksTillLot_L15 hE hr hw FU _ _ _ _ hf
  · refine x_iconst hE (0 : Int32) dX10_weeksTillLot_11 (by decide) ?_
    replace hf := Option.some.inj hf
    subst hf
    exact x_ireturn hE (v := 0) hr rfl dX10_weeksTillLot_12
theorem yokX10_weeksTillLot : YOK yX10_weeksTillLot cX10_weeksTillLot 3 1 (some .int) := ⟨mem_g 1067 (by decide +kernel) (by decide +kernel), mem_g 133 (by decide +kernel) (by decide +kernel), by decide +kernel, by decide +kernel, by decide +kernel⟩
theorem yvX10_weeksTillLot : YV yX10_weeksTillLot := ⟨mem_g 1065 (by decide +kernel) (by decide +kernel), mem_g 1066 (by decide +kernel) (by decide +kernel)⟩
