theorem lk_X8_15 : Cond.fieldLink RX8 15 (TX8 1).1 (TX8 1).2.1 (TX8 1).2.2.1 ∈ lw_g := mem_g 1497 (by decide +kernel) (by decide +kernel)
theorem lk_X8_18 : Cond.fieldLink RX8 18 (TX8 2).1 (TX8 2).2.1 (TX8 2).2.2.1 ∈ lw_g := mem_g 1498 (by decide +kernel) (by decide +kernel)
theorem dX8_tells_0 : decode cX8_tells 0 = .ok (.iload_n 1, 1) := by decide +kernel
theorem dX8_tells_1 : decode cX8_tells 1 = .ok (.ifCond .lt 35, 3) := by decide +kernel
theorem dX8_tells_4 : decode cX8_tells 4 = .ok (.iload_n 1, 1) := by decide +kernel
theorem dX8_tells_5 : decode cX8_tells 5 = .ok (.aload_n 0, 1) := by decide +kernel
theorem dX8_tells_6 : decode cX8_tells 6 = .ok (.getfield 15, 3) := by decide +kernel
theorem dX8_tells_9 : decode cX8_tells 9 = .ok (.arraylength, 1) := by decide +kernel
theorem dX8_tells_10 : decode cX8_tells 10 = .ok (.if_icmp .ge 26, 3) := by decide +kernel
theorem dX8_tells_13 : decode cX8_tells 13 = .ok (.iload_n 1, 1) := by decide +kernel
theorem dX8_tells_14 : decode cX8_tells 14 = .ok (.aload_n 0, 1) := by decide +kernel
theorem dX8_tells_15 : decode cX8_tells 15 = .ok (.getfield 18, 3) := by decide +kernel
theorem dX8_tells_18 : decode cX8_tells 18 = .ok (.arraylength, 1) := by decide +kernel
theorem dX8_tells_19 : decode cX8_tells 19 = .ok (.if_icmp .ge 17, 3) := by decide +kernel
theorem dX8_tells_22 : decode cX8_tells 22 = .ok (.aload_n 0, 1) := by decide +kernel
theorem dX8_tells_23 : decode cX8_tells 23 = .ok (.getfield 15, 3) := by decide +kernel
theorem dX8_tells_26 : decode cX8_tells 26 = .ok (.iload_n 1, 1) := by decide +kernel
theorem dX8_tells_27 : decode cX8_tells 27 = .ok (.iaload, 1) := by decide +kernel
theorem dX8_tells_28 : decode cX8_tells 28 = .ok (.iconst (-1), 1) := by decide +kernel
theorem dX8_tells_29 : decode cX8_tells 29 = .ok (.if_icmp .eq 7, 3) := by decide +kernel
theorem dX8_tells_32 : decode cX8_tells 32 = .ok (.iconst 1, 1) := by decide +kernel
theorem dX8_tells_33 : decode cX8_tells 33 = .ok (.goto 4, 3) := by decide +kernel
theorem dX8_tells_36 : decode cX8_tells 36 = .ok (.iconst 0, 1) := by decide +kernel
theorem dX8_tells_37 : decode cX8_tells 37 = .ok (.ireturn, 1) := by decide +kernel
theorem mX8_tells (l : Launch) {Y : Nat → ClassId} {D : va_G} {σ : Nat → Nat} {np b0 : Nat} {M : Mc} {N : Md} {z : Nat} {p0 : Int32} {r : Int32} (hz : isStat np z) (hf : fX8_tells M z p0 = some r) : Met l yX8_tells (.code yX8_tells cX8_tells 2 (some .boolean) :: lw_g) (rmD 1) (PR Y D σ np b0 [.ref (σ z), .int p0] M N) (QR Y D σ np b0 (some (.int r)) M N) 0 0 (xA b0) := by
  refine x_met (by decide) (Nat.le_of_ble_eq_true rfl) (fun p e s m args below meth c hE hr => ?_)
  unfold fX8_tells at hf
  refine x_pick [0, 1] (L' := [(0, .ref (σ z)), (1, .int p0)]) rfl ?_
  refine x_iload_n hE 1 dX8_tells_0 rfl rfl ?_
  refine x_if_lt hE 36 dX8_tells_1 (by decide) hf (fun hf => ?_) (fun hf => ?_)
  · refine x_iconst hE (0 : Int32) dX8_tells_36 (by decide) ?_
    replace hf := Option.some.inj hf
    subst hf
    exact x_ireturn hE (v := 0) hr rfl dX8_tells_37
  · refine x_iload_n hE 1 dX8_tells_4 rfl rfl ?_
    refine x_aload_n hE 0 dX8_tells_5 rfl rfl ?_
    refine x_getR hE cl_8 (kO_8 hz) (by decide) 1 (z + 2) rfl (by decide) lk_X8_15 dX8_tells_6 ?_
    refine x_alen hE (nI 8) (kB_8_1 hz) (Or.inl rfl) rfl dX8_tells_9 ?_
    refine x_icmp_ge hE 36 dX8_tells_10 (by decide) hf (fun hf => ?_) (fun hf => ?_)
    · refine x_iconst hE (0 : Int32) dX8_tells_36 (by decide) ?_
      replace hf := Option.some.inj hf
      subst hf
      exact x_ireturn hE (v := 0) hr rfl dX8_tells_37
    · refine x_iload_n hE 1 dX8_tells_13 rfl rfl ?_
      refine x_aload_n hE 0 dX8_tells_14 rfl rfl ?_
      refine x_getR hE cl_8 (kO_8 hz) (by decide) 2 (z + 3) rfl (by decide) lk_X8_18 dX8_tells_15 ?_
      refine x_alen hE (nI 8) (kB_8_2 hz) (Or.inl rfl) rfl dX8_tells_18 ?_
      refine x_icmp_ge hE 36 dX8_tells_19 (by decide) hf (fun hf => ?_) (fun hf => ?_)
      · refine x_iconst hE (0 : Int32) dX8_tells_36 (by decide) ?_
        replace hf := Option.some.inj hf
        subst hf
        exact x_ireturn hE (v := 0) hr rfl dX8_tells_37
      · refine x_aload_n hE 0 dX8_tells_22 rfl rfl ?_
        refine x_getR hE cl_8 (kO_8 hz) (by decide) 1 (z + 2) rfl (by decide) lk_X8_15 dX8_tells_23 ?_
        refine x_iload_n hE 1 dX8_tells_26 rfl rfl ?_
        refine x_iald hE (kB_8_1 hz) dX8_tells_27 hf (fun hf => ?_)
        refine x_iconst hE (-1) dX8_tells_28 (by decide) ?_
        refine x_icmp_eq hE 36 dX8_tells_29 (by decide) hf (fun hf => ?_) (fun hf => ?_)
        · refine x_iconst hE (0 : Int32) dX8_tells_36 (by decide) ?_
          replace hf := Option.some.inj hf
          subst hf
          exact x_ireturn hE (v := 0) hr rfl dX8_tells_37
        · refine x_iconst hE (nI 1) dX8_tells_32 (by decide) ?_
          refine x_goto hE 37 dX8_tells_33 (by decide) ?_
          replace hf := Option.some.inj hf
          subst hf
          exact x_ireturn hE (v := nI 1) hr rfl dX8_tells_37
theorem yokX8_tells : YOK yX8_tells cX8_tells 2 1 (some .boolean) := ⟨mem_g 655 (by decide +kernel) (by decide +kernel), mem_g 150 (by decide +kernel) (by decide +kernel), by decide +kernel, by decide +kernel, by decide +kernel⟩
theorem yvX8_tells : YV yX8_tells := ⟨mem_g 653 (by decide +kernel) (by decide +kernel), mem_g 654 (by decide +kernel) (by decide +kernel)⟩
theorem dX8_join_0 : decode cX8_join 0 = .ok (.iload_n 0, 1) := by decide +kernel
theorem dX8_join_1 : decode cX8_join 1 = .ok (.tableswitch 164 (-16) (-6) #[150, 139, 128, 117, 106, 95, 83, 71, 67, 63, 59], 59) := by decide +kernel
theorem dX8_join_60 : decode cX8_join 60 = .ok (.iload_n 1, 1) := by decide +kernel
theorem dX8_join_61 : decode cX8_join 61 = .ok (.iload_n 2, 1) := by decide +kernel
theorem dX8_join_62 : decode cX8_join 62 = .ok (.iadd, 1) := by decide +kernel
theorem dX8_join_63 : decode cX8_join 63 = .ok (.ireturn, 1) := by decide +kernel
theorem dX8_join_64 : decode cX8_join 64 = .ok (.iload_n 1, 1) := by decide +kernel
theorem dX8_join_65 : decode cX8_join 65 = .ok (.iload_n 2, 1) := by decide +kernel
theorem dX8_join_66 : decode cX8_join 66 = .ok (.isub, 1) := by decide +kernel
theorem dX8_join_67 : decode cX8_join 67 = .ok (.ireturn, 1) := by decide +kernel
theorem dX8_join_68 : decode cX8_join 68 = .ok (.iload_n 1, 1) := by decide +kernel
theorem dX8_join_69 : decode cX8_join 69 = .ok (.iload_n 2, 1) := by decide +kernel
theorem dX8_join_70 : decode cX8_join 70 = .ok (.imul, 1) := by decide +kernel
theorem dX8_join_71 : decode cX8_join 71 = .ok (.ireturn, 1) := by decide +kernel
theorem dX8_join_72 : decode cX8_join 72 = .ok (.iload_n 2, 1) := by decide +kernel
theorem dX8_join_73 : decode cX8_join 73 = .ok (.ifCond .ne 7, 3) := by decide +kernel
theorem dX8_join_76 : decode cX8_join 76 = .ok (.iconst 0, 1) := by decide +kernel
theorem dX8_join_77 : decode cX8_join 77 = .ok (.goto 6, 3) := by decide +kernel
theorem dX8_join_80 : decode cX8_join 80 = .ok (.iload_n 1, 1) := by decide +kernel
theorem dX8_join_81 : decode cX8_join 81 = .ok (.iload_n 2, 1) := by decide +kernel
theorem dX8_join_82 : decode cX8_join 82 = .ok (.idiv, 1) := by decide +kernel
theorem dX8_join_83 : decode cX8_join 83 = .ok (.ireturn, 1) := by decide +kernel
theorem dX8_join_84 : decode cX8_join 84 = .ok (.iload_n 2, 1) := by decide +kernel
theorem dX8_join_85 : decode cX8_join 85 = .ok (.ifCond .ne 7, 3) := by decide +kernel
theorem dX8_join_88 : decode cX8_join 88 = .ok (.iconst 0, 1) := by decide +kernel
theorem dX8_join_89 : decode cX8_join 89 = .ok (.goto 6, 3) := by decide +kernel
theorem dX8_join_92 : decode cX8_join 92 = .ok (.iload_n 1, 1) := by decide +kernel
theorem dX8_join_93 : decode cX8_join 93 = .ok (.iload_n 2, 1) := by decide +kernel
theorem dX8_join_94 : decode cX8_join 94 = .ok (.irem, 1) := by decide +kernel
theorem dX8_join_95 : decode cX8_join 95 = .ok (.ireturn, 1) := by decide +kernel
theorem dX8_join_96 : decode cX8_join 96 = .ok (.iload_n 1, 1) := by decide +kernel
theorem dX8_join_97 : decode cX8_join 97 = .ok (.iload_n 2, 1) := by decide +kernel
theorem dX8_join_98 : decode cX8_join 98 = .ok (.if_icmp .ge 7, 3) := by decide +kernel
theorem dX8_join_101 : decode cX8_join 101 = .ok (.iload_n 1, 1) := by decide +kernel
theorem dX8_join_102 : decode cX8_join 102 = .ok (.goto 4, 3) := by decide +kernel
theorem dX8_join_105 : decode cX8_join 105 = .ok (.iload_n 2, 1) := by decide +kernel
theorem dX8_join_106 : decode cX8_join 106 = .ok (.ireturn, 1) := by decide +kernel
theorem dX8_join_107 : decode cX8_join 107 = .ok (.iload_n 1, 1) := by decide +kernel
theorem dX8_join_108 : decode cX8_join 108 = .ok (.iload_n 2, 1) := by decide +kernel
theorem dX8_join_109 : decode cX8_join 109 = .ok (.if_icmp .le 7, 3) := by decide +kernel
theorem dX8_join_112 : decode cX8_join 112 = .ok (.iload_n 1, 1) := by decide +kernel
theorem dX8_join_113 : decode cX8_join 113 = .ok (.goto 4, 3) := by decide +kernel
theorem dX8_join_116 : decode cX8_join 116 = .ok (.iload_n 2, 1) := by decide +kernel
theorem dX8_join_117 : decode cX8_join 117 = .ok (.ireturn, 1) := by decide +kernel
theorem dX8_join_118 : decode cX8_join 118 = .ok (.iload_n 1, 1) := by decide +kernel
theorem dX8_join_119 : decode cX8_join 119 = .ok (.iload_n 2, 1) := by decide +kernel
theorem dX8_join_120 : decode cX8_join 120 = .ok (.if_icmp .ge 7, 3) := by decide +kernel
theorem dX8_join_123 : decode cX8_join 123 = .ok (.iconst 1, 1) := by decide +kernel
theorem dX8_join_124 : decode cX8_join 124 = .ok (.goto 4, 3) := by decide +kernel
theorem dX8_join_127 : decode cX8_join 127 = .ok (.iconst 0, 1) := by decide +kernel
theorem dX8_join_128 : decode cX8_join 128 = .ok (.ireturn, 1) := by decide +kernel
theorem dX8_join_129 : decode cX8_join 129 = .ok (.iload_n 1, 1) := by decide +kernel
theorem dX8_join_130 : decode cX8_join 130 = .ok (.iload_n 2, 1) := by decide +kernel
theorem dX8_join_131 : decode cX8_join 131 = .ok (.if_icmp .le 7, 3) := by decide +kernel
theorem dX8_join_134 : decode cX8_join 134 = .ok (.iconst 1, 1) := by decide +kernel
theorem dX8_join_135 : decode cX8_join 135 = .ok (.goto 4, 3) := by decide +kernel
theorem dX8_join_138 : decode cX8_join 138 = .ok (.iconst 0, 1) := by decide +kernel
theorem dX8_join_139 : decode cX8_join 139 = .ok (.ireturn, 1) := by decide +kernel
theorem dX8_join_140 : decode cX8_join 140 = .ok (.iload_n 1, 1) := by decide +kernel
theorem dX8_join_141 : decode cX8_join 141 = .ok (.iload_n 2, 1) := by decide +kernel
theorem dX8_join_142 : decode cX8_join 142 = .ok (.if_icmp .ne 7, 3) := by decide +kernel
theorem dX8_join_145 : decode cX8_join 145 = .ok (.iconst 1, 1) := by decide +kernel
theorem dX8_join_146 : decode cX8_join 146 = .ok (.goto 4, 3) := by decide +kernel
theorem dX8_join_149 : decode cX8_join 149 = .ok (.iconst 0, 1) := by decide +kernel
theorem dX8_join_150 : decode cX8_join 150 = .ok (.ireturn, 1) := by decide +kernel
theorem dX8_join_151 : decode cX8_join 151 = .ok (.iload_n 1, 1) := by decide +kernel
theorem dX8_join_152 : decode cX8_join 152 = .ok (.ifCond .eq 11, 3) := by decide +kernel
theorem dX8_join_155 : decode cX8_join 155 = .ok (.iload_n 2, 1) := by decide +kernel
theorem dX8_join_156 : decode cX8_join 156 = .ok (.ifCond .eq 7, 3) := by decide +kernel
theorem dX8_join_159 : decode cX8_join 159 = .ok (.iconst 1, 1) := by decide +kernel
theorem dX8_join_160 : decode cX8_join 160 = .ok (.goto 4, 3) := by decide +kernel
theorem dX8_join_163 : decode cX8_join 163 = .ok (.iconst 0, 1) := by decide +kernel
theorem dX8_join_164 : decode cX8_join 164 = .ok (.ireturn, 1) := by decide +kernel
theorem dX8_join_165 : decode cX8_join 165 = .ok (.iload_n 1, 1) := by decide +kernel
theorem dX8_join_166 : decode cX8_join 166 = .ok (.ifCond .ne 7, 3) := by decide +kernel
theorem dX8_join_169 : decode cX8_join 169 = .ok (.iload_n 2, 1) := by decide +kernel
theorem dX8_join_170 : decode cX8_join 170 = .ok (.ifCond .eq 7, 3) := by decide +kernel
theorem dX8_join_173 : decode cX8_join 173 = .ok (.iconst 1, 1) := by decide +kernel
theorem dX8_join_174 : decode cX8_join 174 = .ok (.goto 4, 3) := by decide +kernel
theorem dX8_join_177 : decode cX8_join 177 = .ok (.iconst 0, 1) := by decide +kernel
theorem dX8_join_178 : decode cX8_join 178 = .ok (.ireturn, 1) := by decide +kernel
theorem mX8_join (l : Launch) {Y : Nat → ClassId} {D : va_G} {σ : Nat → Nat} {np b0 : Nat} {M : Mc} {N : Md} {p0 : Int32} {p1 : Int32} {p2 : Int32} {r : Int32} (hf : fX8_join p0 p1 p2 = some r) : Met l yX8_join (.code yX8_join cX8_join 3 (some .int) :: lw_g) (rmD 1) (PR Y D σ np b0 [.int p0, .int p1, .int p2] M N) (QR Y D σ np b0 (some (.int r)) M N) 0 0 (xA b0) := by
  refine x_met (by decide) (Nat.le_of_ble_eq_true rfl) (fun p e s m args below meth c hE hr => ?_)
  unfold fX8_join at hf
  refine x_pick [0, 1, 2] (L' := [(0, .int p0), (1, .int p1), (2, .int p2)]) rfl ?_
  refine x_iload_n hE 0 dX8_join_0 rfl rfl ?_
  refine x_swi ((-16)) hf (fun hsw hf => ?_) (fun hsw0 hf => ?_)
  · refine x_tabI hE 151 dX8_join_1 hsw (by decide) (by decide) rfl (by decide) ?_
    refine x_iload_n hE 1 dX8_join_151 rfl rfl ?_
    refine x_if_eq hE 163 dX8_join_152 (by decide) hf (fun hf => ?_) (fun hf => ?_)
    · refine x_iconst hE (0 : Int32) dX8_join_163 (by decide) ?_
      replace hf := Option.some.inj hf
      subst hf
      exact x_ireturn hE (v := 0) hr rfl dX8_join_164
    · refine x_iload_n hE 2 dX8_join_155 rfl rfl ?_
      refine x_if_eq hE 163 dX8_join_156 (by decide) hf (fun hf => ?_) (fun hf => ?_)
      · refine x_iconst hE (0 : Int32) dX8_join_163 (by decide) ?_
        replace hf := Option.some.inj hf
        subst hf
        exact x_ireturn hE (v := 0) hr rfl dX8_join_164
      · refine x_iconst hE (nI 1) dX8_join_159 (by decide) ?_
        refine x_goto hE 164 dX8_join_160 (by decide) ?_
        replace hf := Option.some.inj hf
        subst hf
        exact x_ireturn hE (v := nI 1) hr rfl dX8_join_164
  refine x_swi ((-15)) hf (fun hsw hf => ?_) (fun hsw1 hf => ?_)
  · refine x_tabI hE 140 dX8_join_1 hsw (by decide) (by decide) rfl (by decide) ?_
    refine x_iload_n hE 1 dX8_join_140 rfl rfl ?_
    refine x_iload_n hE 2 dX8_join_141 rfl rfl ?_
    refine x_icmp_ne hE 149 dX8_join_142 (by decide) hf (fun hf => ?_) (fun hf => ?_)
    · refine x_iconst hE (0 : Int32) dX8_join_149 (by decide) ?_
      replace hf := Option.some.inj hf
      subst hf
      exact x_ireturn hE (v := 0) hr rfl dX8_join_150
    · refine x_iconst hE (nI 1) dX8_join_145 (by decide) ?_
      refine x_goto hE 150 dX8_join_146 (by decide) ?_
      replace hf := Option.some.inj hf
      subst hf
      exact x_ireturn hE (v := nI 1) hr rfl dX8_join_150
  refine x_swi ((-14)) hf (fun hsw hf => ?_) (fun hsw2 hf => ?_)
  · refine x_tabI hE 129 dX8_join_1 hsw (by decide) (by decide) rfl (by decide) ?_
    refine x_iload_n hE 1 dX8_join_129 rfl rfl ?_
    refine x_iload_n hE 2 dX8_join_130 rfl rfl ?_
    refine x_icmp_le hE 138 dX8_join_131 (by decide) hf (fun hf => ?_) (fun hf => ?_)
    · refine x_iconst hE (0 : Int32) dX8_join_138 (by decide) ?_
      replace hf := Option.some.inj hf
      subst hf
      exact x_ireturn hE (v := 0) hr rfl dX8_join_139
    · refine x_iconst hE (nI 1) dX8_join_134 (by decide) ?_
      refine x_goto hE 139 dX8_join_135 (by decide) ?_
      replace hf := Option.some.inj hf
      subst hf
      exact x_ireturn hE (v := nI 1) hr rfl dX8_join_139
  refine x_swi ((-13)) hf (fun hsw hf => ?_) (fun hsw3 hf => ?_)
  · refine x_tabI hE 118 dX8_join_1 hsw (by decide) (by decide) rfl (by decide) ?_
    refine x_iload_n hE 1 dX8_join_118 rfl rfl ?_
    refine x_iload_n hE 2 dX8_join_119 rfl rfl ?_
    refine x_icmp_ge hE 127 dX8_join_120 (by decide) hf (fun hf => ?_) (fun hf => ?_)
    · refine x_iconst hE (0 : Int32) dX8_join_127 (by decide) ?_
      replace hf := Option.some.inj hf
      subst hf
      exact x_ireturn hE (v := 0) hr rfl dX8_join_128
    · refine x_iconst hE (nI 1) dX8_join_123 (by decide) ?_
      refine x_goto hE 128 dX8_join_124 (by decide) ?_
      replace hf := Option.some.inj hf
      subst hf
      exact x_ireturn hE (v := nI 1) hr rfl dX8_join_128
  refine x_swi ((-12)) hf (fun hsw hf => ?_) (fun hsw4 hf => ?_)
  · refine x_tabI hE 107 dX8_join_1 hsw (by decide) (by decide) rfl (by decide) ?_
    refine x_iload_n hE 1 dX8_join_107 rfl rfl ?_
    refine x_iload_n hE 2 dX8_join_108 rfl rfl ?_
    refine x_icmp_le hE 116 dX8_join_109 (by decide) hf (fun hf => ?_) (fun hf => ?_)
    · refine x_iload_n hE 2 dX8_join_116 rfl rfl ?_
      replace hf := Option.some.inj hf
      subst hf
      exact x_ireturn hE (v := p2) hr rfl dX8_join_117
    · refine x_iload_n hE 1 dX8_join_112 rfl rfl ?_
      refine x_goto hE 117 dX8_join_113 (by decide) ?_
      replace hf := Option.some.inj hf
      subst hf
      exact x_ireturn hE (v := p1) hr rfl dX8_join_117
  refine x_swi ((-11)) hf (fun hsw hf => ?_) (fun hsw5 hf => ?_)
  · refine x_tabI hE 96 dX8_join_1 hsw (by decide) (by decide) rfl (by decide) ?_
    refine x_iload_n hE 1 dX8_join_96 rfl rfl ?_
    refine x_iload_n hE 2 dX8_join_97 rfl rfl ?_
    refine x_icmp_ge hE 105 dX8_join_98 (by decide) hf (fun hf => ?_) (fun hf => ?_)
    · refine x_iload_n hE 2 dX8_join_105 rfl rfl ?_
      replace hf := Option.some.inj hf
      subst hf
      exact x_ireturn hE (v := p2) hr rfl dX8_join_106
    · refine x_iload_n hE 1 dX8_join_101 rfl rfl ?_
      refine x_goto hE 106 dX8_join_102 (by decide) ?_
      replace hf := Option.some.inj hf
      subst hf
      exact x_ireturn hE (v := p1) hr rfl dX8_join_106
  refine x_swi ((-10)) hf (fun hsw hf => ?_) (fun hsw6 hf => ?_)
  · refine x_tabI hE 84 dX8_join_1 hsw (by decide) (by decide) rfl (by decide) ?_
    refine x_iload_n hE 2 dX8_join_84 rfl rfl ?_
    refine x_if_ne hE 92 dX8_join_85 (by decide) hf (fun hf => ?_) (fun hf => ?_)
    · refine x_iload_n hE 1 dX8_join_92 rfl rfl ?_
      refine x_iload_n hE 2 dX8_join_93 rfl rfl ?_
      refine x_irem hE dX8_join_94 hf (fun hf => ?_)
      replace hf := Option.some.inj hf
      subst hf
      exact x_ireturn hE (v := irm p1 p2) hr rfl dX8_join_95
    · refine x_iconst hE (0 : Int32) dX8_join_88 (by decide) ?_
      refine x_goto hE 95 dX8_join_89 (by decide) ?_
      replace hf := Option.some.inj hf
      subst hf
      exact x_ireturn hE (v := 0) hr rfl dX8_join_95
  refine x_swi ((-9)) hf (fun hsw hf => ?_) (fun hsw7 hf => ?_)
  · refine x_tabI hE 72 dX8_join_1 hsw (by decide) (by decide) rfl (by decide) ?_
    refine x_iload_n hE 2 dX8_join_72 rfl rfl ?_
    refine x_if_ne hE 80 dX8_join_73 (by decide) hf (fun hf => ?_) (fun hf => ?_)
    · refine x_iload_n hE 1 dX8_join_80 rfl rfl ?_
      refine x_iload_n hE 2 dX8_join_81 rfl rfl ?_
      refine x_idiv hE dX8_join_82 hf (fun hf => ?_)
      replace hf := Option.some.inj hf
      subst hf
      exact x_ireturn hE (v := p1 / p2) hr rfl dX8_join_83
    · refine x_iconst hE (0 : Int32) dX8_join_76 (by decide) ?_
      refine x_goto hE 83 dX8_join_77 (by decide) ?_
      replace hf := Option.some.inj hf
      subst hf
      exact x_ireturn hE (v := 0) hr rfl dX8_join_83
  refine x_swi ((-8)) hf (fun hsw hf => ?_) (fun hsw8 hf => ?_)
  · refine x_tabI hE 68 dX8_join_1 hsw (by decide) (by decide) rfl (by decide) ?_
    refine x_iload_n hE 1 dX8_join_68 rfl rfl ?_
    refine x_iload_n hE 2 dX8_join_69 rfl rfl ?_
    refine x_imul hE dX8_join_70 ?_
    replace hf := Option.some.inj hf
    subst hf
    exact x_ireturn hE (v := p1 * p2) hr rfl dX8_join_71
  refine x_swi ((-7)) hf (fun hsw hf => ?_) (fun hsw9 hf => ?_)
  · refine x_tabI hE 64 dX8_join_1 hsw (by decide) (by decide) rfl (by decide) ?_
    refine x_iload_n hE 1 dX8_join_64 rfl rfl ?_
    refine x_iload_n hE 2 dX8_join_65 rfl rfl ?_
    refine x_isub hE dX8_join_66 ?_
    replace hf := Option.some.inj hf
    subst hf
    exact x_ireturn hE (v := p1 - p2) hr rfl dX8_join_67
  refine x_swi ((-6)) hf (fun hsw hf => ?_) (fun hsw10 hf => ?_)
  · refine x_tabI hE 60 dX8_join_1 hsw (by decide) (by decide) rfl (by decide) ?_
    refine x_iload_n hE 1 dX8_join_60 rfl rfl ?_
    refine x_iload_n hE 2 dX8_join_61 rfl rfl ?_
    refine x_iadd hE dX8_join_62 ?_
    replace hf := Option.some.inj hf
    subst hf
    exact x_ireturn hE (v := p1 + p2) hr rfl dX8_join_63
  refine x_tabO hE 165 dX8_join_1 (x_out 11 rfl (fun k hk => match k, hk with | 0, _ => x_ne hsw0 (by decide) | 1, _ => x_ne hsw1 (by decide) | 2, _ => x_ne hsw2 (by decide) | 3, _ => x_ne hsw3 (by decide) | 4, _ => x_ne hsw4 (by decide) | 5, _ => x_ne hsw5 (by decide) | 6, _ => x_ne hsw6 (by decide) | 7, _ => x_ne hsw7 (by decide) | 8, _ => x_ne hsw8 (by decide) | 9, _ => x_ne hsw9 (by decide) | 10, _ => x_ne hsw10 (by decide) | k + 11, hk => absurd hk (by omega))) (by decide) ?_
  refine x_iload_n hE 1 dX8_join_165 rfl rfl ?_
  refine x_if_ne hE 173 dX8_join_166 (by decide) hf (fun hf => ?_) (fun hf => ?_)
  · refine x_iconst hE (nI 1) dX8_join_173 (by decide) ?_
    refine x_goto hE 178 dX8_join_174 (by decide) ?_
    replace hf := Option.some.inj hf
    subst hf
    exact x_ireturn hE (v := nI 1) hr rfl dX8_join_178
  · refine x_iload_n hE 2 dX8_join_169 rfl rfl ?_
    refine x_if_eq hE 177 dX8_join_170 (by decide) hf (fun hf => ?_) (fun hf => ?_)
    · refine x_iconst hE (0 : Int32) dX8_join_177 (by decide) ?_
      replace hf := Option.some.inj hf
      subst hf
      exact x_ireturn hE (v := 0) hr rfl dX8_join_178
    · refine x_iconst hE (nI 1) dX8_join_173 (by decide) ?_
      refine x_goto hE 178 dX8_join_174 (by decide) ?_
      replace hf := Option.some.inj hf
      subst hf
      exact x_ireturn hE (v := nI 1) hr rfl dX8_join_178
theorem yokX8_join : YOK yX8_join cX8_join 3 3 (some .int) := ⟨mem_g 663 (by decide +kernel) (by decide +kernel), mem_g 150 (by decide +kernel) (by decide +kernel), by decide +kernel, by decide +kernel, by decide +kernel⟩
theorem ysX8_join : Cond.static yX8_join ∈ lw_g := mem_g 662 (by decide +kernel) (by decide +kernel)
theorem lk_X8_9 : Cond.fieldLink RX8 9 (TX8 0).1 (TX8 0).2.1 (TX8 0).2.2.1 ∈ lw_g := mem_g 1496 (by decide +kernel) (by decide +kernel)
theorem lk_X8_25 : Cond.methodLink RX8 25 yX8_join ∈ lw_g := mem_g 661 (by decide +kernel) (by decide +kernel)
theorem dX8_value_0 : decode cX8_value 0 = .ok (.aload_n 2, 1) := by decide +kernel
theorem dX8_value_1 : decode cX8_value 1 = .ok (.ifnull 12, 3) := by decide +kernel
theorem dX8_value_4 : decode cX8_value 4 = .ok (.aload_n 3, 1) := by decide +kernel
theorem dX8_value_5 : decode cX8_value 5 = .ok (.ifnull 8, 3) := by decide +kernel
theorem dX8_value_8 : decode cX8_value 8 = .ok (.aload_n 3, 1) := by decide +kernel
theorem dX8_value_9 : decode cX8_value 9 = .ok (.arraylength, 1) := by decide +kernel
theorem dX8_value_10 : decode cX8_value 10 = .ok (.ifCond .ne 5, 3) := by decide +kernel
theorem dX8_value_13 : decode cX8_value 13 = .ok (.iconst 0, 1) := by decide +kernel
theorem dX8_value_14 : decode cX8_value 14 = .ok (.ireturn, 1) := by decide +kernel
theorem dX8_value_15 : decode cX8_value 15 = .ok (.iload_n 1, 1) := by decide +kernel
theorem dX8_value_16 : decode cX8_value 16 = .ok (.ifCond .lt 21, 3) := by decide +kernel
theorem dX8_value_19 : decode cX8_value 19 = .ok (.iload_n 1, 1) := by decide +kernel
theorem dX8_value_20 : decode cX8_value 20 = .ok (.aload_n 0, 1) := by decide +kernel
theorem dX8_value_21 : decode cX8_value 21 = .ok (.getfield 15, 3) := by decide +kernel
theorem dX8_value_24 : decode cX8_value 24 = .ok (.arraylength, 1) := by decide +kernel
theorem dX8_value_25 : decode cX8_value 25 = .ok (.if_icmp .ge 12, 3) := by decide +kernel
theorem dX8_value_28 : decode cX8_value 28 = .ok (.iload_n 1, 1) := by decide +kernel
theorem dX8_value_29 : decode cX8_value 29 = .ok (.aload_n 0, 1) := by decide +kernel
theorem dX8_value_30 : decode cX8_value 30 = .ok (.getfield 18, 3) := by decide +kernel
theorem dX8_value_33 : decode cX8_value 33 = .ok (.arraylength, 1) := by decide +kernel
theorem dX8_value_34 : decode cX8_value 34 = .ok (.if_icmp .lt 5, 3) := by decide +kernel
theorem dX8_value_37 : decode cX8_value 37 = .ok (.iconst 0, 1) := by decide +kernel
theorem dX8_value_38 : decode cX8_value 38 = .ok (.ireturn, 1) := by decide +kernel
theorem dX8_value_39 : decode cX8_value 39 = .ok (.iconst 0, 1) := by decide +kernel
theorem dX8_value_40 : decode cX8_value 40 = .ok (.istore 4, 2) := by decide +kernel
theorem dX8_value_42 : decode cX8_value 42 = .ok (.aload_n 0, 1) := by decide +kernel
theorem dX8_value_43 : decode cX8_value 43 = .ok (.getfield 15, 3) := by decide +kernel
theorem dX8_value_46 : decode cX8_value 46 = .ok (.iload_n 1, 1) := by decide +kernel
theorem dX8_value_47 : decode cX8_value 47 = .ok (.iaload, 1) := by decide +kernel
theorem dX8_value_48 : decode cX8_value 48 = .ok (.istore 5, 2) := by decide +kernel
theorem dX8_value_50 : decode cX8_value 50 = .ok (.iload 5, 2) := by decide +kernel
theorem dX8_value_52 : decode cX8_value 52 = .ok (.aload_n 0, 1) := by decide +kernel
theorem dX8_value_53 : decode cX8_value 53 = .ok (.getfield 18, 3) := by decide +kernel
theorem dX8_value_56 : decode cX8_value 56 = .ok (.iload_n 1, 1) := by decide +kernel
theorem dX8_value_57 : decode cX8_value 57 = .ok (.iaload, 1) := by decide +kernel
theorem dX8_value_58 : decode cX8_value 58 = .ok (.if_icmp .ge 229, 3) := by decide +kernel
theorem dX8_value_61 : decode cX8_value 61 = .ok (.iload 5, 2) := by decide +kernel
theorem dX8_value_63 : decode cX8_value 63 = .ok (.ifCond .lt 13, 3) := by decide +kernel
theorem dX8_value_66 : decode cX8_value 66 = .ok (.iload 5, 2) := by decide +kernel
theorem dX8_value_68 : decode cX8_value 68 = .ok (.aload_n 0, 1) := by decide +kernel
theorem dX8_value_69 : decode cX8_value 69 = .ok (.getfield 9, 3) := by decide +kernel
theorem dX8_value_72 : decode cX8_value 72 = .ok (.arraylength, 1) := by decide +kernel
theorem dX8_value_73 : decode cX8_value 73 = .ok (.if_icmp .lt 5, 3) := by decide +kernel
theorem dX8_value_76 : decode cX8_value 76 = .ok (.iconst 0, 1) := by decide +kernel
theorem dX8_value_77 : decode cX8_value 77 = .ok (.ireturn, 1) := by decide +kernel
theorem dX8_value_78 : decode cX8_value 78 = .ok (.aload_n 0, 1) := by decide +kernel
theorem dX8_value_79 : decode cX8_value 79 = .ok (.getfield 9, 3) := by decide +kernel
theorem dX8_value_82 : decode cX8_value 82 = .ok (.iload 5, 2) := by decide +kernel
theorem dX8_value_84 : decode cX8_value 84 = .ok (.iaload, 1) := by decide +kernel
theorem dX8_value_85 : decode cX8_value 85 = .ok (.istore 6, 2) := by decide +kernel
theorem dX8_value_87 : decode cX8_value 87 = .ok (.iload 6, 2) := by decide +kernel
theorem dX8_value_89 : decode cX8_value 89 = .ok (.bipush (-5), 2) := by decide +kernel
theorem dX8_value_91 : decode cX8_value 91 = .ok (.if_icmp .lt 7, 3) := by decide +kernel
theorem dX8_value_94 : decode cX8_value 94 = .ok (.iconst 0, 1) := by decide +kernel
theorem dX8_value_95 : decode cX8_value 95 = .ok (.goto 26, 3) := by decide +kernel
theorem dX8_value_98 : decode cX8_value 98 = .ok (.iload 6, 2) := by decide +kernel
theorem dX8_value_100 : decode cX8_value 100 = .ok (.bipush (-18), 2) := by decide +kernel
theorem dX8_value_102 : decode cX8_value 102 = .ok (.if_icmp .ne 7, 3) := by decide +kernel
theorem dX8_value_105 : decode cX8_value 105 = .ok (.iconst 1, 1) := by decide +kernel
theorem dX8_value_106 : decode cX8_value 106 = .ok (.goto 15, 3) := by decide +kernel
theorem dX8_value_109 : decode cX8_value 109 = .ok (.iload 6, 2) := by decide +kernel
theorem dX8_value_111 : decode cX8_value 111 = .ok (.bipush (-19), 2) := by decide +kernel
theorem dX8_value_113 : decode cX8_value 113 = .ok (.if_icmp .ne 7, 3) := by decide +kernel
theorem dX8_value_116 : decode cX8_value 116 = .ok (.iconst 3, 1) := by decide +kernel
theorem dX8_value_117 : decode cX8_value 117 = .ok (.goto 4, 3) := by decide +kernel
theorem dX8_value_120 : decode cX8_value 120 = .ok (.iconst 2, 1) := by decide +kernel
theorem dX8_value_121 : decode cX8_value 121 = .ok (.istore 7, 2) := by decide +kernel
theorem dX8_value_123 : decode cX8_value 123 = .ok (.iload 4, 2) := by decide +kernel
theorem dX8_value_125 : decode cX8_value 125 = .ok (.iload 7, 2) := by decide +kernel
theorem dX8_value_127 : decode cX8_value 127 = .ok (.isub, 1) := by decide +kernel
theorem dX8_value_128 : decode cX8_value 128 = .ok (.istore 8, 2) := by decide +kernel
theorem dX8_value_130 : decode cX8_value 130 = .ok (.iload 8, 2) := by decide +kernel
theorem dX8_value_132 : decode cX8_value 132 = .ok (.ifCond .lt 17, 3) := by decide +kernel
theorem dX8_value_135 : decode cX8_value 135 = .ok (.iload 8, 2) := by decide +kernel
theorem dX8_value_137 : decode cX8_value 137 = .ok (.aload_n 3, 1) := by decide +kernel
theorem dX8_value_138 : decode cX8_value 138 = .ok (.arraylength, 1) := by decide +kernel
theorem dX8_value_139 : decode cX8_value 139 = .ok (.if_icmp .ge 10, 3) := by decide +kernel
theorem dX8_value_142 : decode cX8_value 142 = .ok (.iload 4, 2) := by decide +kernel
theorem dX8_value_144 : decode cX8_value 144 = .ok (.aload_n 3, 1) := by decide +kernel
theorem dX8_value_145 : decode cX8_value 145 = .ok (.arraylength, 1) := by decide +kernel
theorem dX8_value_146 : decode cX8_value 146 = .ok (.if_icmp .le 5, 3) := by decide +kernel
theorem dX8_value_149 : decode cX8_value 149 = .ok (.iconst 0, 1) := by decide +kernel
theorem dX8_value_150 : decode cX8_value 150 = .ok (.ireturn, 1) := by decide +kernel
theorem dX8_value_151 : decode cX8_value 151 = .ok (.iload 6, 2) := by decide +kernel
theorem dX8_value_153 : decode cX8_value 153 = .ok (.ifCond .lt 12, 3) := by decide +kernel
theorem dX8_value_156 : decode cX8_value 156 = .ok (.aload_n 3, 1) := by decide +kernel
theorem dX8_value_157 : decode cX8_value 157 = .ok (.iload 8, 2) := by decide +kernel
theorem dX8_value_159 : decode cX8_value 159 = .ok (.iload 6, 2) := by decide +kernel
theorem dX8_value_161 : decode cX8_value 161 = .ok (.iastore, 1) := by decide +kernel
theorem dX8_value_162 : decode cX8_value 162 = .ok (.goto 113, 3) := by decide +kernel
theorem dX8_value_165 : decode cX8_value 165 = .ok (.iload 7, 2) := by decide +kernel
theorem dX8_value_167 : decode cX8_value 167 = .ok (.ifCond .ne 29, 3) := by decide +kernel
theorem dX8_value_170 : decode cX8_value 170 = .ok (.aload_n 3, 1) := by decide +kernel
theorem dX8_value_171 : decode cX8_value 171 = .ok (.iload 8, 2) := by decide +kernel
theorem dX8_value_173 : decode cX8_value 173 = .ok (.iconst (-1), 1) := by decide +kernel
theorem dX8_value_174 : decode cX8_value 174 = .ok (.iload 6, 2) := by decide +kernel
theorem dX8_value_176 : decode cX8_value 176 = .ok (.isub, 1) := by decide +kernel
theorem dX8_value_177 : decode cX8_value 177 = .ok (.aload_n 2, 1) := by decide +kernel
theorem dX8_value_178 : decode cX8_value 178 = .ok (.arraylength, 1) := by decide +kernel
theorem dX8_value_179 : decode cX8_value 179 = .ok (.if_icmp .ge 12, 3) := by decide +kernel
theorem dX8_value_182 : decode cX8_value 182 = .ok (.aload_n 2, 1) := by decide +kernel
theorem dX8_value_183 : decode cX8_value 183 = .ok (.iconst (-1), 1) := by decide +kernel
theorem dX8_value_184 : decode cX8_value 184 = .ok (.iload 6, 2) := by decide +kernel
theorem dX8_value_186 : decode cX8_value 186 = .ok (.isub, 1) := by decide +kernel
theorem dX8_value_187 : decode cX8_value 187 = .ok (.iaload, 1) := by decide +kernel
theorem dX8_value_188 : decode cX8_value 188 = .ok (.goto 4, 3) := by decide +kernel
theorem dX8_value_191 : decode cX8_value 191 = .ok (.iconst 0, 1) := by decide +kernel
theorem dX8_value_192 : decode cX8_value 192 = .ok (.iastore, 1) := by decide +kernel
theorem dX8_value_193 : decode cX8_value 193 = .ok (.goto 82, 3) := by decide +kernel
theorem dX8_value_196 : decode cX8_value 196 = .ok (.iload 7, 2) := by decide +kernel
theorem dX8_value_198 : decode cX8_value 198 = .ok (.iconst 1, 1) := by decide +kernel
theorem dX8_value_199 : decode cX8_value 199 = .ok (.if_icmp .ne 22, 3) := by decide +kernel
theorem dX8_value_202 : decode cX8_value 202 = .ok (.aload_n 3, 1) := by decide +kernel
theorem dX8_value_203 : decode cX8_value 203 = .ok (.iload 8, 2) := by decide +kernel
theorem dX8_value_205 : decode cX8_value 205 = .ok (.aload_n 3, 1) := by decide +kernel
theorem dX8_value_206 : decode cX8_value 206 = .ok (.iload 8, 2) := by decide +kernel
theorem dX8_value_208 : decode cX8_value 208 = .ok (.iaload, 1) := by decide +kernel
theorem dX8_value_209 : decode cX8_value 209 = .ok (.ifCond .ne 7, 3) := by decide +kernel
theorem dX8_value_212 : decode cX8_value 212 = .ok (.iconst 1, 1) := by decide +kernel
theorem dX8_value_213 : decode cX8_value 213 = .ok (.goto 4, 3) := by decide +kernel
theorem dX8_value_216 : decode cX8_value 216 = .ok (.iconst 0, 1) := by decide +kernel
theorem dX8_value_217 : decode cX8_value 217 = .ok (.iastore, 1) := by decide +kernel
theorem dX8_value_218 : decode cX8_value 218 = .ok (.goto 57, 3) := by decide +kernel
theorem dX8_value_221 : decode cX8_value 221 = .ok (.iload 7, 2) := by decide +kernel
theorem dX8_value_223 : decode cX8_value 223 = .ok (.iconst 3, 1) := by decide +kernel
theorem dX8_value_224 : decode cX8_value 224 = .ok (.if_icmp .ne 32, 3) := by decide +kernel
theorem dX8_value_227 : decode cX8_value 227 = .ok (.aload_n 3, 1) := by decide +kernel
theorem dX8_value_228 : decode cX8_value 228 = .ok (.iload 8, 2) := by decide +kernel
theorem dX8_value_230 : decode cX8_value 230 = .ok (.aload_n 3, 1) := by decide +kernel
theorem dX8_value_231 : decode cX8_value 231 = .ok (.iload 8, 2) := by decide +kernel
theorem dX8_value_233 : decode cX8_value 233 = .ok (.iaload, 1) := by decide +kernel
theorem dX8_value_234 : decode cX8_value 234 = .ok (.ifCond .eq 12, 3) := by decide +kernel
theorem dX8_value_237 : decode cX8_value 237 = .ok (.aload_n 3, 1) := by decide +kernel
theorem dX8_value_238 : decode cX8_value 238 = .ok (.iload 8, 2) := by decide +kernel
theorem dX8_value_240 : decode cX8_value 240 = .ok (.iconst 1, 1) := by decide +kernel
theorem dX8_value_241 : decode cX8_value 241 = .ok (.iadd, 1) := by decide +kernel
theorem dX8_value_242 : decode cX8_value 242 = .ok (.iaload, 1) := by decide +kernel
theorem dX8_value_243 : decode cX8_value 243 = .ok (.goto 9, 3) := by decide +kernel
theorem dX8_value_246 : decode cX8_value 246 = .ok (.aload_n 3, 1) := by decide +kernel
theorem dX8_value_247 : decode cX8_value 247 = .ok (.iload 8, 2) := by decide +kernel
theorem dX8_value_249 : decode cX8_value 249 = .ok (.iconst 2, 1) := by decide +kernel
theorem dX8_value_250 : decode cX8_value 250 = .ok (.iadd, 1) := by decide +kernel
theorem dX8_value_251 : decode cX8_value 251 = .ok (.iaload, 1) := by decide +kernel
theorem dX8_value_252 : decode cX8_value 252 = .ok (.iastore, 1) := by decide +kernel
theorem dX8_value_253 : decode cX8_value 253 = .ok (.goto 22, 3) := by decide +kernel
theorem dX8_value_256 : decode cX8_value 256 = .ok (.aload_n 3, 1) := by decide +kernel
theorem dX8_value_257 : decode cX8_value 257 = .ok (.iload 8, 2) := by decide +kernel
theorem dX8_value_259 : decode cX8_value 259 = .ok (.iload 6, 2) := by decide +kernel
theorem dX8_value_261 : decode cX8_value 261 = .ok (.aload_n 3, 1) := by decide +kernel
theorem dX8_value_262 : decode cX8_value 262 = .ok (.iload 8, 2) := by decide +kernel
theorem dX8_value_264 : decode cX8_value 264 = .ok (.iaload, 1) := by decide +kernel
theorem dX8_value_265 : decode cX8_value 265 = .ok (.aload_n 3, 1) := by decide +kernel
theorem dX8_value_266 : decode cX8_value 266 = .ok (.iload 8, 2) := by decide +kernel
theorem dX8_value_268 : decode cX8_value 268 = .ok (.iconst 1, 1) := by decide +kernel
theorem dX8_value_269 : decode cX8_value 269 = .ok (.iadd, 1) := by decide +kernel
theorem dX8_value_270 : decode cX8_value 270 = .ok (.iaload, 1) := by decide +kernel
theorem dX8_value_271 : decode cX8_value 271 = .ok (.invokestatic 25, 3) := by decide +kernel
theorem dX8_value_274 : decode cX8_value 274 = .ok (.iastore, 1) := by decide +kernel
theorem dX8_value_275 : decode cX8_value 275 = .ok (.iload 8, 2) := by decide +kernel
theorem dX8_value_277 : decode cX8_value 277 = .ok (.iconst 1, 1) := by decide +kernel
theorem dX8_value_278 : decode cX8_value 278 = .ok (.iadd, 1) := by decide +kernel
theorem dX8_value_279 : decode cX8_value 279 = .ok (.istore 4, 2) := by decide +kernel
theorem dX8_value_281 : decode cX8_value 281 = .ok (.iinc 5 1, 3) := by decide +kernel
theorem dX8_value_284 : decode cX8_value 284 = .ok (.goto (-234), 3) := by decide +kernel
theorem dX8_value_287 : decode cX8_value 287 = .ok (.iload 4, 2) := by decide +kernel
theorem dX8_value_289 : decode cX8_value 289 = .ok (.iconst 1, 1) := by decide +kernel
theorem dX8_value_290 : decode cX8_value 290 = .ok (.if_icmp .ne 9, 3) := by decide +kernel
theorem dX8_value_293 : decode cX8_value 293 = .ok (.aload_n 3, 1) := by decide +kernel
theorem dX8_value_294 : decode cX8_value 294 = .ok (.iconst 0, 1) := by decide +kernel
theorem dX8_value_295 : decode cX8_value 295 = .ok (.iaload, 1) := by decide +kernel
theorem dX8_value_296 : decode cX8_value 296 = .ok (.goto 4, 3) := by decide +kernel
theorem dX8_value_299 : decode cX8_value 299 = .ok (.iconst 0, 1) := by decide +kernel
theorem dX8_value_300 : decode cX8_value 300 = .ok (.ireturn, 1) := by decide +kernel
theorem wX8_value_J275 {p : Program} {l : Launch} {e : Env} {s : State} {m : MethodId} {args : Array Value} {below : List Frame} {meth : Method} {c : Code} {Y : Nat → ClassId} {D : va_G} {σ : Nat → Nat} {np b0 : Nat} {z : Nat} {k0 : Nat} {k1 : Nat} {r : Int32 × Mc} {K50 : Mc → Int32 → Int32 → Int32 → Option (Int32 × Mc)} {M : Mc} {N : Md} {X1 : Int32} {X5 : Int32} {X8 : Int32} (hE : EOK p s m args meth c cX8_value 9 RX8 Y D σ np b0) (hr : meth.sig.returnType = (some .int)) (hz : isStat np z) (hk0 : k0 < 146 ∧ kd k0 = (100, 5, [])) (hk1 : k1 < 146 ∧ kd k1 = (100, 300, [])) (hK50 : ∀ (M : Mc) (N : Md) (X1 : Int32) (X4 : Int32) (X5 : Int32), K50 M X1 X4 X5 = some r → Xw p l e (rmD 2) s m args below meth c 9 Y D σ np b0 0 0 (MQ below (QR Y D σ np b0 (some (.int r.1)) r.2 N) args s 0 0 (xA b0)) 50 [(0, .ref (σ z)), (1, .int X1), (2, .ref (σ k0)), (3, .ref (σ k1)), (4, .int X4), (5, .int X5)] [] M N) (hf : fX8_value_J275 z k0 k1 K50 M X1 X5 X8 = some r) : Xw p l e (rmD 2) s m args below meth c 9 Y D σ np b0 0 0 (MQ below (QR Y D σ np b0 (some (.int r.1)) r.2 N) args s 0 0 (xA b0)) 275 [(0, .ref (σ z)), (1, .int X1), (2, .ref (σ k0)), (3, .ref (σ k1)), (5, .int X5), (8, .int X8)] [] M N := by
  unfold fX8_value_J275 at hf
  refine x_iload hE 5 dX8_value_275 rfl ?_
  refine x_iconst hE (nI 1) dX8_value_277 (by decide) ?_
  refine x_iadd hE dX8_value_278 ?_
  refine x_ltI hf (fun v8 hf => ?_)
  refine x_istore hE (L' := [(4, .int v8), (0, .ref (σ z)), (1, .int X1), (2, .ref (σ k0)), (3, .ref (σ k1)), (5, .int X5), (8, .int X8)]) dX8_value_279 (by decide) rfl ?_
  refine x_pick [1, 2, 3, 4, 0, 5, 6] (L' := [(0, .ref (σ z)), (1, .int X1), (2, .ref (σ k0)), (3, .ref (σ k1)), (4, .int v8), (5, .int X5), (8, .int X8)]) rfl ?_
  refine x_iinc hE 5 (X5 + nI 1) (L' := [(5, .int (X5 + nI 1)), (0, .ref (σ z)), (1, .int X1), (2, .ref (σ k0)), (3, .ref (σ k1)), (4, .int v8), (8, .int X8)]) dX8_value_281 rfl rfl (by decide) rfl ?_
  refine x_pick [1, 2, 3, 4, 5, 0, 6] (L' := [(0, .ref (σ z)), (1, .int X1), (2, .ref (σ k0)), (3, .ref (σ k1)), (4, .int v8), (5, .int (X5 + nI 1)), (8, .int X8)]) rfl ?_
  refine x_goto hE 50 dX8_value_284 (by decide) ?_
  refine x_pick [0, 1, 2, 3, 4, 5] (L' := [(0, .ref (σ z)), (1, .int X1), (2, .ref (σ k0)), (3, .ref (σ k1)), (4, .int v8), (5, .int (X5 + nI 1))]) rfl ?_
  exact hK50 _ _ _ _ _ hf
theorem wX8_value_J252 {p : Program} {l : Launch} {e : Env} {s : State} {m : MethodId} {args : Array Value} {below : List Frame} {meth : Method} {c : Code} {Y : Nat → ClassId} {D : va_G} {σ : Nat → Nat} {np b0 : Nat} {z : Nat} {k0 : Nat} {k1 : Nat} {r : Int32 × Mc} {K50 : Mc → Int32 → Int32 → Int32 → Option (Int32 × Mc)} {M : Mc} {N : Md} {X1 : Int32} {X5 : Int32} {X8 : Int32} {Z0 : Int32} {Z1 : Int32} (hE : EOK p s m args meth c cX8_value 9 RX8 Y D σ np b0) (hr : meth.sig.returnType = (some .int)) (hz : isStat np z) (hk0 : k0 < 146 ∧ kd k0 = (100, 5, [])) (hk1 : k1 < 146 ∧ kd k1 = (100, 300, [])) (hK50 : ∀ (M : Mc) (N : Md) (X1 : Int32) (X4 : Int32) (X5 : Int32), K50 M X1 X4 X5 = some r → Xw p l e (rmD 2) s m args below meth c 9 Y D σ np b0 0 0 (MQ below (QR Y D σ np b0 (some (.int r.1)) r.2 N) args s 0 0 (xA b0)) 50 [(0, .ref (σ z)), (1, .int X1), (2, .ref (σ k0)), (3, .ref (σ k1)), (4, .int X4), (5, .int X5)] [] M N) (hf : fX8_value_J252 z k0 k1 K50 M X1 X5 X8 Z0 Z1 = some r) : Xw p l e (rmD 2) s m args below meth c 9 Y D σ np b0 0 0 (MQ below (QR Y D σ np b0 (some (.int r.1)) r.2 N) args s 0 0 (xA b0)) 252 [(0, .ref (σ z)), (1, .int X1), (2, .ref (σ k0)), (3, .ref (σ k1)), (5, .int X5), (8, .int X8)] [.int Z0, .int Z1, .ref (σ k1)] M N := by
  unfold fX8_value_J252 at hf
  refine x_iast hE (hE.kd hk1) dX8_value_252 hf (fun M9 hf => ?_)
  refine x_goto hE 275 dX8_value_253 (by decide) ?_
  exact wX8_value_J275 hE hr hz hk0 hk1 hK50 hf
theorem wX8_value_J217 {p : Program} {l : Launch} {e : Env} {s : State} {m : MethodId} {args : Array Value} {below : List Frame} {meth : Method} {c : Code} {Y : Nat → ClassId} {D : va_G} {σ : Nat → Nat} {np b0 : Nat} {z : Nat} {k0 : Nat} {k1 : Nat} {r : Int32 × Mc} {K50 : Mc → Int32 → Int32 → Int32 → Option (Int32 × Mc)} {M : Mc} {N : Md} {X1 : Int32} {X5 : Int32} {X8 : Int32} {Z0 : Int32} {Z1 : Int32} (hE : EOK p s m args meth c cX8_value 9 RX8 Y D σ np b0) (hr : meth.sig.returnType = (some .int)) (hz : isStat np z) (hk0 : k0 < 146 ∧ kd k0 = (100, 5, [])) (hk1 : k1 < 146 ∧ kd k1 = (100, 300, [])) (hK50 : ∀ (M : Mc) (N : Md) (X1 : Int32) (X4 : Int32) (X5 : Int32), K50 M X1 X4 X5 = some r → Xw p l e (rmD 2) s m args below meth c 9 Y D σ np b0 0 0 (MQ below (QR Y D σ np b0 (some (.int r.1)) r.2 N) args s 0 0 (xA b0)) 50 [(0, .ref (σ z)), (1, .int X1), (2, .ref (σ k0)), (3, .ref (σ k1)), (4, .int X4), (5, .int X5)] [] M N) (hf : fX8_value_J217 z k0 k1 K50 M X1 X5 X8 Z0 Z1 = some r) : Xw p l e (rmD 2) s m args below meth c 9 Y D σ np b0 0 0 (MQ below (QR Y D σ np b0 (some (.int r.1)) r.2 N) args s 0 0 (xA b0)) 217 [(0, .ref (σ z)), (1, .int X1), (2, .ref (σ k0)), (3, .ref (σ k1)), (5, .int X5), (8, .int X8)] [.int Z0, .int Z1, .ref (σ k1)] M N := by
  unfold fX8_value_J217 at hf
  refine x_iast hE (hE.kd hk1) dX8_value_217 hf (fun M10 hf => ?_)
  refine x_goto hE 275 dX8_value_218 (by decide) ?_
  exact wX8_value_J275 hE hr hz hk0 hk1 hK50 hf
theorem wX8_value_J192 {p : Program} {l : Launch} {e : Env} {s : State} {m : MethodId} {args : Array Value} {below : List Frame} {meth : Method} {c : Code} {Y : Nat → ClassId} {D : va_G} {σ : Nat → Nat} {np b0 : Nat} {z : Nat} {k0 : Nat} {k1 : Nat} {r : Int32 × Mc} {K50 : Mc → Int32 → Int32 → Int32 → Option (Int32 × Mc)} {M : Mc} {N : Md} {X1 : Int32} {X5 : Int32} {X8 : Int32} {Z0 : Int32} {Z1 : Int32} (hE : EOK p s m args meth c cX8_value 9 RX8 Y D σ np b0) (hr : meth.sig.returnType = (some .int)) (hz : isStat np z) (hk0 : k0 < 146 ∧ kd k0 = (100, 5, [])) (hk1 : k1 < 146 ∧ kd k1 = (100, 300, [])) (hK50 : ∀ (M : Mc) (N : Md) (X1 : Int32) (X4 : Int32) (X5 : Int32), K50 M X1 X4 X5 = some r → Xw p l e (rmD 2) s m args below meth c 9 Y D σ np b0 0 0 (MQ below (QR Y D σ np b0 (some (.int r.1)) r.2 N) args s 0 0 (xA b0)) 50 [(0, .ref (σ z)), (1, .int X1), (2, .ref (σ k0)), (3, .ref (σ k1)), (4, .int X4), (5, .int X5)] [] M N) (hf : fX8_value_J192 z k0 k1 K50 M X1 X5 X8 Z0 Z1 = some r) : Xw p l e (rmD 2) s m args below meth c 9 Y D σ np b0 0 0 (MQ below (QR Y D σ np b0 (some (.int r.1)) r.2 N) args s 0 0 (xA b0)) 192 [(0, .ref (σ z)), (1, .int X1), (2, .ref (σ k0)), (3, .ref (σ k1)), (5, .int X5), (8, .int X8)] [.int Z0, .int Z1, .ref (σ k1)] M N := by
  unfold fX8_value_J192 at hf
  refine x_iast hE (hE.kd hk1) dX8_value_192 hf (fun M11 hf => ?_)
  refine x_goto hE 275 dX8_value_193 (by decide) ?_
  exact wX8_value_J275 hE hr hz hk0 hk1 hK50 hf
theorem wX8_value_J121 {p : Program} {l : Launch} {e : Env} {s : State} {m : MethodId} {args : Array Value} {below : List Frame} {meth : Method} {c : Code} {Y : Nat → ClassId} {D : va_G} {σ : Nat → Nat} {np b0 : Nat} {z : Nat} {k0 : Nat} {k1 : Nat} {r : Int32 × Mc} {K50 : Mc → Int32 → Int32 → Int32 → Option (Int32 × Mc)} {M : Mc} {N : Md} {X1 : Int32} {X4 : Int32} {X5 : Int32} {X6 : Int32} {Z0 : Int32} (hE : EOK p s m args meth c cX8_value 9 RX8 Y D σ np b0) (hr : meth.sig.returnType = (some .int)) (hz : isStat np z) (hk0 : k0 < 146 ∧ kd k0 = (100, 5, [])) (hk1 : k1 < 146 ∧ kd k1 = (100, 300, [])) (hK50 : ∀ (M : Mc) (N : Md) (X1 : Int32) (X4 : Int32) (X5 : Int32), K50 M X1 X4 X5 = some r → Xw p l e (rmD 2) s m args below meth c 9 Y D σ np b0 0 0 (MQ below (QR Y D σ np b0 (some (.int r.1)) r.2 N) args s 0 0 (xA b0)) 50 [(0, .ref (σ z)), (1, .int X1), (2, .ref (σ k0)), (3, .ref (σ k1)), (4, .int X4), (5, .int X5)] [] M N) (hf : fX8_value_J121 z k0 k1 K50 M X1 X4 X5 X6 Z0 = some r) : Xw p l e (rmD 2) s m args below meth c 9 Y D σ np b0 0 0 (MQ below (QR Y D σ np b0 (some (.int r.1)) r.2 N) args s 0 0 (xA b0)) 121 [(0, .ref (σ z)), (1, .int X1), (2, .ref (σ k0)), (3, .ref (σ k1)), (4, .int X4), (5, .int X5), (6, .int X6)] [.int Z0] M N := by
  unfold fX8_value_J121 at hf
  refine x_istore hE (L' := [(7, .int Z0), (0, .ref (σ z)), (1, .int X1), (2, .ref (σ k0)), (3, .ref (σ k1)), (4, .int X4), (5, .int X5), (6, .int X6)]) dX8_value_121 (by decide) rfl ?_
  refine x_pick [1, 2, 3, 4, 5, 6, 7, 0] (L' := [(0, .ref (σ z)), (1, .int X1), (2, .ref (σ k0)), (3, .ref (σ k1)), (4, .int X4), (5, .int X5), (6, .int X6), (7, .int Z0)]) rfl ?_
  refine x_iload hE 4 dX8_value_123 rfl ?_
  refine x_iload hE 7 dX8_value_125 rfl ?_
  refine x_isub hE dX8_value_127 ?_
  refine x_ltI hf (fun v3 hf => ?_)
  refine x_istore hE (L' := [(8, .int v3), (0, .ref (σ z)), (1, .int X1), (2, .ref (σ k0)), (3, .ref (σ k1)), (4, .int X4), (5, .int X5), (6, .int X6), (7, .int Z0)]) dX8_value_128 (by decide) rfl ?_
  refine x_pick [1, 2, 3, 4, 5, 6, 7, 8, 0] (L' := [(0, .ref (σ z)), (1, .int X1), (2, .ref (σ k0)), (3, .ref (σ k1)), (4, .int X4), (5, .int X5), (6, .int X6), (7, .int Z0), (8, .int v3)]) rfl ?_
  refine x_iload hE 8 dX8_value_130 rfl ?_
  refine x_if_lt hE 149 dX8_value_132 (by decide) hf (fun hf => ?_) (fun hf => ?_)
  · refine x_iconst hE (0 : Int32) dX8_value_149 (by decide) ?_
    replace hf := Option.some.inj hf
    subst hf
    exact x_ireturn hE (v := 0) hr rfl dX8_value_150
  · refine x_iload hE 8 dX8_value_135 rfl ?_
    refine x_aload_n hE 3 dX8_value_137 rfl rfl ?_
    refine x_alen hE (nI 300) (hE.kd hk1) (Or.inl rfl) rfl dX8_value_138 ?_
    refine x_icmp_ge hE 149 dX8_value_139 (by decide) hf (fun hf => ?_) (fun hf => ?_)
    · refine x_iconst hE (0 : Int32) dX8_value_149 (by decide) ?_
      replace hf := Option.some.inj hf
      subst hf
      exact x_ireturn hE (v := 0) hr rfl dX8_value_150
    · refine x_iload hE 4 dX8_value_142 rfl ?_
      refine x_aload_n hE 3 dX8_value_144 rfl rfl ?_
      refine x_alen hE (nI 300) (hE.kd hk1) (Or.inl rfl) rfl dX8_value_145 ?_
      refine x_icmp_le hE 151 dX8_value_146 (by decide) hf (fun hf => ?_) (fun hf => ?_)
      · refine x_iload hE 6 dX8_value_151 rfl ?_
        refine x_if_lt hE 165 dX8_value_153 (by decide) hf (fun hf => ?_) (fun hf => ?_)
        · refine x_iload hE 7 dX8_value_165 rfl ?_
          refine x_if_ne hE 196 dX8_value_167 (by decide) hf (fun hf => ?_) (fun hf => ?_)
          · refine x_iload hE 7 dX8_value_196 rfl ?_
            refine x_iconst hE (nI 1) dX8_value_198 (by decide) ?_
            refine x_icmp_ne hE 221 dX8_value_199 (by decide) hf (fun hf => ?_) (fun hf => ?_)
            · refine x_iload hE 7 dX8_value_221 rfl ?_
              refine x_iconst hE (nI 3) dX8_value_223 (by decide) ?_
              refine x_icmp_ne hE 256 dX8_value_224 (by decide) hf (fun hf => ?_) (fun hf => ?_)
              · refine x_aload_n hE 3 dX8_value_256 rfl rfl ?_
                refine x_iload hE 8 dX8_value_257 rfl ?_
                refine x_iload hE 6 dX8_value_259 rfl ?_
                refine x_aload_n hE 3 dX8_value_261 rfl rfl ?_
                refine x_iload hE 8 dX8_value_262 rfl ?_
                refine x_iald hE (hE.kd hk1) dX8_value_264 hf (fun hf => ?_)
                refine x_aload_n hE 3 dX8_value_265 rfl rfl ?_
                refine x_iload hE 8 dX8_value_266 rfl ?_
                refine x_iconst hE (nI 1) dX8_value_268 (by decide) ?_
                refine x_iadd hE dX8_value_269 ?_
                refine x_iald hE (hE.kd hk1) dX8_value_270 hf (fun hf => ?_)
                obtain ⟨v5, hc4, hf⟩ := bnd_some hf
                refine x_callS1 hE [.int X6, .int (M k1 v3.toNatClampNeg), .int (M k1 (v3 + (nI 1)).toNatClampNeg)] (rest := [.int v3, .ref (σ k1)]) (v := .int v5) (c1 := M) (d1 := N) rfl yokX8_join ysX8_join lk_X8_25 rfl rfl ⟨Nat.le_of_ble_eq_true rfl, Nat.le_of_ble_eq_true rfl⟩ ⟨Nat.zero_le _, Nat.zero_le _⟩ rfl (Nat.le_of_ble_eq_true rfl) dX8_value_271 (mX8_join l hc4) ?_
                refine x_iast hE (hE.kd hk1) dX8_value_274 hf (fun M6 hf => ?_)
                refine x_pick [0, 1, 2, 3, 5, 8] (L' := [(0, .ref (σ z)), (1, .int X1), (2, .ref (σ k0)), (3, .ref (σ k1)), (5, .int X5), (8, .int v3)]) rfl ?_
                exact wX8_value_J275 hE hr hz hk0 hk1 hK50 hf
              · refine x_aload_n hE 3 dX8_value_227 rfl rfl ?_
                refine x_iload hE 8 dX8_value_228 rfl ?_
                refine x_aload_n hE 3 dX8_value_230 rfl rfl ?_
                refine x_iload hE 8 dX8_value_231 rfl ?_
                refine x_iald hE (hE.kd hk1) dX8_value_233 hf (fun hf => ?_)
                refine x_if_eq hE 246 dX8_value_234 (by decide) hf (fun hf => ?_) (fun hf => ?_)
                · refine x_aload_n hE 3 dX8_value_246 rfl rfl ?_
                  refine x_iload hE 8 dX8_value_247 rfl ?_
                  refine x_iconst hE (nI 2) dX8_value_249 (by decide) ?_
                  refine x_iadd hE dX8_value_250 ?_
                  refine x_iald hE (hE.kd hk1) dX8_value_251 hf (fun hf => ?_)
                  refine x_pick [0, 1, 2, 3, 5, 8] (L' := [(0, .ref (σ z)), (1, .int X1), (2, .ref (σ k0)), (3, .ref (σ k1)), (5, .int X5), (8, .int v3)]) rfl ?_
                  exact wX8_value_J252 hE hr hz hk0 hk1 hK50 hf
                · refine x_aload_n hE 3 dX8_value_237 rfl rfl ?_
                  refine x_iload hE 8 dX8_value_238 rfl ?_
                  refine x_iconst hE (nI 1) dX8_value_240 (by decide) ?_
                  refine x_iadd hE dX8_value_241 ?_
                  refine x_iald hE (hE.kd hk1) dX8_value_242 hf (fun hf => ?_)
                  refine x_goto hE 252 dX8_value_243 (by decide) ?_
                  refine x_pick [0, 1, 2, 3, 5, 8] (L' := [(0, .ref (σ z)), (1, .int X1), (2, .ref (σ k0)), (3, .ref (σ k1)), (5, .int X5), (8, .int v3)]) rfl ?_
                  exact wX8_value_J252 hE hr hz hk0 hk1 hK50 hf
            · refine x_aload_n hE 3 dX8_value_202 rfl rfl ?_
              refine x_iload hE 8 dX8_value_203 rfl ?_
              refine x_aload_n hE 3 dX8_value_205 rfl rfl ?_
              refine x_iload hE 8 dX8_value_206 rfl ?_
              refine x_iald hE (hE.kd hk1) dX8_value_208 hf (fun hf => ?_)
              refine x_if_ne hE 216 dX8_value_209 (by decide) hf (fun hf => ?_) (fun hf => ?_)
              · refine x_iconst hE (0 : Int32) dX8_value_216 (by decide) ?_
                refine x_pick [0, 1, 2, 3, 5, 8] (L' := [(0, .ref (σ z)), (1, .int X1), (2, .ref (σ k0)), (3, .ref (σ k1)), (5, .int X5), (8, .int v3)]) rfl ?_
                exact wX8_value_J217 hE hr hz hk0 hk1 hK50 hf
              · refine x_iconst hE (nI 1) dX8_value_212 (by decide) ?_
                refine x_goto hE 217 dX8_value_213 (by decide) ?_
                refine x_pick [0, 1, 2, 3, 5, 8] (L' := [(0, .ref (σ z)), (1, .int X1), (2, .ref (σ k0)), (3, .ref (σ k1)), (5, .int X5), (8, .int v3)]) rfl ?_
                exact wX8_value_J217 hE hr hz hk0 hk1 hK50 hf
          · refine x_aload_n hE 3 dX8_value_170 rfl rfl ?_
            refine x_iload hE 8 dX8_value_171 rfl ?_
            refine x_iconst hE (-1) dX8_value_173 (by decide) ?_
            refine x_iload hE 6 dX8_value_174 rfl ?_
            refine x_isub hE dX8_value_176 ?_
            refine x_aload_n hE 2 dX8_value_177 rfl rfl ?_
            refine x_alen hE (nI 5) (hE.kd hk0) (Or.inl rfl) rfl dX8_value_178 ?_
            refine x_icmp_ge hE 191 dX8_value_179 (by decide) hf (fun hf => ?_) (fun hf => ?_)
            · refine x_iconst hE (0 : Int32) dX8_value_191 (by decide) ?_
              refine x_pick [0, 1, 2, 3, 5, 8] (L' := [(0, .ref (σ z)), (1, .int X1), (2, .ref (σ k0)), (3, .ref (σ k1)), (5, .int X5), (8, .int v3)]) rfl ?_
              exact wX8_value_J192 hE hr hz hk0 hk1 hK50 hf
            · refine x_aload_n hE 2 dX8_value_182 rfl rfl ?_
              refine x_iconst hE (-1) dX8_value_183 (by decide) ?_
              refine x_iload hE 6 dX8_value_184 rfl ?_
              refine x_isub hE dX8_value_186 ?_
              refine x_iald hE (hE.kd hk0) dX8_value_187 hf (fun hf => ?_)
              refine x_goto hE 192 dX8_value_188 (by decide) ?_
              refine x_pick [0, 1, 2, 3, 5, 8] (L' := [(0, .ref (σ z)), (1, .int X1), (2, .ref (σ k0)), (3, .ref (σ k1)), (5, .int X5), (8, .int v3)]) rfl ?_
              exact wX8_value_J192 hE hr hz hk0 hk1 hK50 hf
        · refine x_aload_n hE 3 dX8_value_156 rfl rfl ?_
          refine x_iload hE 8 dX8_value_157 rfl ?_
          refine x_iload hE 6 dX8_value_159 rfl ?_
          refine x_iast hE (hE.kd hk1) dX8_value_161 hf (fun M7 hf => ?_)
          refine x_goto hE 275 dX8_value_162 (by decide) ?_
          refine x_pick [0, 1, 2, 3, 5, 8] (L' := [(0, .ref (σ z)), (1, .int X1), (2, .ref (σ k0)), (3, .ref (σ k1)), (5, .int X5), (8, .int v3)]) rfl ?_
          exact wX8_value_J275 hE hr hz hk0 hk1 hK50 hf
      · refine x_iconst hE (0 : Int32) dX8_value_149 (by decide) ?_
        replace hf := Option.some.inj hf
        subst hf
        exact x_ireturn hE (v := 0) hr rfl dX8_value_150
theorem wX8_value_L50 {p : Program} {l : Launch} {e : Env} {s : State} {m : MethodId} {args : Array Value} {below : List Frame} {meth : Method} {c : Code} {Y : Nat → ClassId} {D : va_G} {σ : Nat → Nat} {np b0 : Nat} {z : Nat} {k0 : Nat} {k1 : Nat} {r : Int32 × Mc} (hE : EOK p s m args meth c cX8_value 9 RX8 Y D σ np b0) (hr : meth.sig.returnType = (some .int)) (hz : isStat np z) (hk0 : k0 < 146 ∧ kd k0 = (100, 5, [])) (hk1 : k1 < 146 ∧ kd k1 = (100, 300, [])) : ∀ (n : Nat) (M : Mc) (N : Md) (X1 : Int32) (X4 : Int32) (X5 : Int32), fX8_value_L50 z k0 k1 n M X1 X4 X5 = some r → Xw p l e (rmD 2) s m args below meth c 9 Y D σ np b0 0 0 (MQ below (QR Y D σ np b0 (some (.int r.1)) r.2 N) args s 0 0 (xA b0)) 50 [(0, .ref (σ z)), (1, .int X1), (2, .ref (σ k0)), (3, .ref (σ k1)), (4, .int X4), (5, .int X5)] [] M N := by
  intro n
  induction n with
  | zero =>
    intro M N X1 X4 X5 hf
    cases hf
  | succ n ih =>
    intro M N X1 X4 X5 hf
    rw [fX8_value_L50.eq_2] at hf
    refine x_iload hE 5 dX8_value_50 rfl ?_
    refine x_aload_n hE 0 dX8_value_52 rfl rfl ?_
    refine x_getR hE cl_8 (kO_8 hz) (by decide) 2 (z + 3) rfl (by decide) lk_X8_18 dX8_value_53 ?_
    refine x_iload_n hE 1 dX8_value_56 rfl rfl ?_
    refine x_iald hE (kB_8_2 hz) dX8_value_57 hf (fun hf => ?_)
    refine x_icmp_ge hE 287 dX8_value_58 (by decide) hf (fun hf => ?_) (fun hf => ?_)
    · refine x_iload hE 4 dX8_value_287 rfl ?_
      refine x_iconst hE (nI 1) dX8_value_289 (by decide) ?_
      refine x_icmp_ne hE 299 dX8_value_290 (by decide) hf (fun hf => ?_) (fun hf => ?_)
      · refine x_iconst hE (0 : Int32) dX8_value_299 (by decide) ?_
        replace hf := Option.some.inj hf
        subst hf
        exact x_ireturn hE (v := 0) hr rfl dX8_value_300
      · refine x_aload_n hE 3 dX8_value_293 rfl rfl ?_
        refine x_iconst hE (0 : Int32) dX8_value_294 (by decide) ?_
        refine x_iald hE (hE.kd hk1) dX8_value_295 hf (fun hf => ?_)
        refine x_goto hE 300 dX8_value_296 (by decide) ?_
        replace hf := Option.some.inj hf
        subst hf
        exact x_ireturn hE (v := M k1 (0 : Int32).toNatClampNeg) hr rfl dX8_value_300
    · refine x_iload hE 5 dX8_value_61 rfl ?_
      refine x_if_lt hE 76 dX8_value_63 (by decide) hf (fun hf => ?_) (fun hf => ?_)
      · refine x_iconst hE (0 : Int32) dX8_value_76 (by decide) ?_
        replace hf := Option.some.inj hf
        subst hf
        exact x_ireturn hE (v := 0) hr rfl dX8_value_77
      · refine x_iload hE 5 dX8_value_66 rfl ?_
        refine x_aload_n hE 0 dX8_value_68 rfl rfl ?_
        refine x_getR hE cl_8 (kO_8 hz) (by decide) 0 (z + 1) rfl (by decide) lk_X8_9 dX8_value_69 ?_
        refine x_alenS hE (kB_8_0 hz) dX8_value_72 ?_
        refine x_icmp_lt hE 78 dX8_value_73 (by decide) hf (fun hf => ?_) (fun hf => ?_)
        · refine x_aload_n hE 0 dX8_value_78 rfl rfl ?_
          refine x_getR hE cl_8 (kO_8 hz) (by decide) 0 (z + 1) rfl (by decide) lk_X8_9 dX8_value_79 ?_
          refine x_iload hE 5 dX8_value_82 rfl ?_
          refine x_ialdS hE (kB_8_0 hz) dX8_value_84 hf (fun hf => ?_)
          refine x_ltI hf (fun v2 hf => ?_)
          refine x_istore hE (L' := [(6, .int v2), (0, .ref (σ z)), (1, .int X1), (2, .ref (σ k0)), (3, .ref (σ k1)), (4, .int X4), (5, .int X5)]) dX8_value_85 (by decide) rfl ?_
          refine x_pick [1, 2, 3, 4, 5, 6, 0] (L' := [(0, .ref (σ z)), (1, .int X1), (2, .ref (σ k0)), (3, .ref (σ k1)), (4, .int X4), (5, .int X5), (6, .int v2)]) rfl ?_
          refine x_iload hE 6 dX8_value_87 rfl ?_
          refine x_bipush hE (-5) dX8_value_89 (by decide) ?_
          refine x_icmp_lt hE 98 dX8_value_91 (by decide) hf (fun hf => ?_) (fun hf => ?_)
          · refine x_iload hE 6 dX8_value_98 rfl ?_
            refine x_bipush hE (-18) dX8_value_100 (by decide) ?_
            refine x_icmp_ne hE 109 dX8_value_102 (by decide) hf (fun hf => ?_) (fun hf => ?_)
            · refine x_iload hE 6 dX8_value_109 rfl ?_
              refine x_bipush hE (-19) dX8_value_111 (by decide) ?_
              refine x_icmp_ne hE 120 dX8_value_113 (by decide) hf (fun hf => ?_) (fun hf => ?_)
              · refine x_iconst hE (nI 2) dX8_value_120 (by decide) ?_
                exact wX8_value_J121 hE hr hz hk0 hk1 (fun _ _ _ _ _ hf => ih _ _ _ _ _ hf) hf
              · refine x_iconst hE (nI 3) dX8_value_116 (by decide) ?_
                refine x_goto hE 121 dX8_value_117 (by decide) ?_
                exact wX8_value_J121 hE hr hz hk0 hk1 (fun _ _ _ _ _ hf => ih _ _ _ _ _ hf) hf
            · refine x_iconst hE (nI 1) dX8_value_105 (by decide) ?_
              refine x_goto hE 121 dX8_value_106 (by decide) ?_
              exact wX8_value_J121 hE hr hz hk0 hk1 (fun _ _ _ _ _ hf => ih _ _ _ _ _ hf) hf
          · refine x_iconst hE (0 : Int32) dX8_value_94 (by decide) ?_
            refine x_goto hE 121 dX8_value_95 (by decide) ?_
            exact wX8_value_J121 hE hr hz hk0 hk1 (fun _ _ _ _ _ hf => ih _ _ _ _ _ hf) hf
        · refine x_iconst hE (0 : Int32) dX8_value_76 (by decide) ?_
          replace hf := Option.some.inj hf
          subst hf
          exact x_ireturn hE (v := 0) hr rfl dX8_value_77
theorem mX8_value (l : Launch) {Y : Nat → ClassId} {D : va_G} {σ : Nat → Nat} {np b0 : Nat} {M : Mc} {N : Md} {z : Nat} {k0 : Nat} {k1 : Nat} {p0 : Int32} {r : Int32 × Mc} (hz : isStat np z) (hk0 : k0 < 146 ∧ kd k0 = (100, 5, [])) (hk1 : k1 < 146 ∧ kd k1 = (100, 300, [])) (hf : fX8_value M z k0 k1 p0 = some r) : Met l yX8_value (.code yX8_value cX8_value 9 (some .int) :: lw_g) (rmD 2) (PR Y D σ np b0 [.ref (σ z), .int p0, .ref (σ k0), .ref (σ k1)] M N) (QR Y D σ np b0 (some (.int r.1)) r.2 N) 0 0 (xA b0) := by
  refine x_met (by decide) (Nat.le_of_ble_eq_true rfl) (fun p e s m args below meth c hE hr => ?_)
  unfold fX8_value at hf
  refine x_pick [0, 1, 2, 3] (L' := [(0, .ref (σ z)), (1, .int p0), (2, .ref (σ k0)), (3, .ref (σ k1))]) rfl ?_
  refine x_aload_n hE 2 dX8_value_0 rfl rfl ?_
  refine x_ifnull hE dX8_value_1 ?_
  refine x_aload_n hE 3 dX8_value_4 rfl rfl ?_
  refine x_ifnull hE dX8_value_5 ?_
  refine x_aload_n hE 3 dX8_value_8 rfl rfl ?_
  refine x_alen hE (nI 300) (hE.kd hk1) (Or.inl rfl) rfl dX8_value_9 ?_
  refine x_if_ne hE 15 dX8_value_10 (by decide) hf (fun hf => ?_) (fun hf => ?_)
  · refine x_iload_n hE 1 dX8_value_15 rfl rfl ?_
    refine x_if_lt hE 37 dX8_value_16 (by decide) hf (fun hf => ?_) (fun hf => ?_)
    · refine x_iconst hE (0 : Int32) dX8_value_37 (by decide) ?_
      replace hf := Option.some.inj hf
      subst hf
      exact x_ireturn hE (v := 0) hr rfl dX8_value_38
    · refine x_iload_n hE 1 dX8_value_19 rfl rfl ?_
      refine x_aload_n hE 0 dX8_value_20 rfl rfl ?_
      refine x_getR hE cl_8 (kO_8 hz) (by decide) 1 (z + 2) rfl (by decide) lk_X8_15 dX8_value_21 ?_
      refine x_alen hE (nI 8) (kB_8_1 hz) (Or.inl rfl) rfl dX8_value_24 ?_
      refine x_icmp_ge hE 37 dX8_value_25 (by decide) hf (fun hf => ?_) (fun hf => ?_)
      · refine x_iconst hE (0 : Int32) dX8_value_37 (by decide) ?_
        replace hf := Option.some.inj hf
        subst hf
        exact x_ireturn hE (v := 0) hr rfl dX8_value_38
      · refine x_iload_n hE 1 dX8_value_28 rfl rfl ?_
        refine x_aload_n hE 0 dX8_value_29 rfl rfl ?_
        refine x_getR hE cl_8 (kO_8 hz) (by decide) 2 (z + 3) rfl (by decide) lk_X8_18 dX8_value_30 ?_
        refine x_alen hE (nI 8) (kB_8_2 hz) (Or.inl rfl) rfl dX8_value_33 ?_
        refine x_icmp_lt hE 39 dX8_value_34 (by decide) hf (fun hf => ?_) (fun hf => ?_)
        · refine x_iconst hE (0 : Int32) dX8_value_39 (by decide) ?_
          refine x_istore hE (L' := [(4, .int 0), (0, .ref (σ z)), (1, .int p0), (2, .ref (σ k0)), (3, .ref (σ k1))]) dX8_value_40 (by decide) rfl ?_
          refine x_pick [1, 2, 3, 4, 0] (L' := [(0, .ref (σ z)), (1, .int p0), (2, .ref (σ k0)), (3, .ref (σ k1)), (4, .int 0)]) rfl ?_
          refine x_aload_n hE 0 dX8_value_42 rfl rfl ?_
          refine x_getR hE cl_8 (kO_8 hz) (by decide) 1 (z + 2) rfl (by decide) lk_X8_15 dX8_value_43 ?_
          refine x_iload_n hE 1 dX8_value_46 rfl rfl ?_
          refine x_iald hE (kB_8_1 hz) dX8_value_47 hf (fun hf => ?_)
          refine x_ltI hf (fun v1 hf => ?_)
          refine x_istore hE (L' := [(5, .int v1), (0, .ref (σ z)), (1, .int p0), (2, .ref (σ k0)), (3, .ref (σ k1)), (4, .int 0)]) dX8_value_48 (by decide) rfl ?_
          refine x_pick [1, 2, 3, 4, 5, 0] (L' := [(0, .ref (σ z)), (1, .int p0), (2, .ref (σ k0)), (3, .ref (σ k1)), (4, .int 0), (5, .int v1)]) rfl ?_
          exact wX8_value_L50 hE hr hz hk0 hk1 FU _ _ _ _ _ hf
        · refine x_iconst hE (0 : Int32) dX8_value_37 (by decide) ?_
          replace hf := Option.some.inj hf
          subst hf
          exact x_ireturn hE (v := 0) hr rfl dX8_value_38
  · refine x_iconst hE (0 : Int32) dX8_value_13 (by decide) ?_
    replace hf := Option.some.inj hf
    subst hf
    exact x_ireturn hE (v := 0) hr rfl dX8_value_14
theorem yokX8_value : YOK yX8_value cX8_value 9 3 (some .int) := ⟨mem_g 660 (by decide +kernel) (by decide +kernel), mem_g 150 (by decide +kernel) (by decide +kernel), by decide +kernel, by decide +kernel, by decide +kernel⟩
theorem yvX8_value : YV yX8_value := ⟨mem_g 658 (by decide +kernel) (by decide +kernel), mem_g 659 (by decide +kernel) (by decide +kernel)⟩
